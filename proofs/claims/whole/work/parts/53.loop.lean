/-! ===== the law's loop, over a relation that every call keeps ===== -/
theorem lg_cmp_self (x : Int64) : lg_cmp x x = 0 := by
  unfold lg_cmp
  rw [if_neg (fun c => absurd (Int64.lt_iff_toInt_lt.mp c) (by omega)), if_pos rfl]
theorem nI_sub6 {L i : Nat} (hL : L ≤ 3072) (hi : i ≤ 4000) : nI L - nI 6 < nI i ↔ L < i + 6 := by
  rw [Int32.lt_iff_toInt_lt, Int32.toInt_sub, nI_toInt (by omega), nI_toInt (by omega), nI_toInt (by omega), Int.bmod_eq_of_le (by omega) (by omega)]
  omega
/-- promise of feed: from hearts that agree both answer alike, and agree again -/
def ST_feed (R : MH → Prop) : Prop := ∀ (y1 : Int32) (y2 : Int32) (y3 : Int32) (y4 : Int32) (y5 : Int32) (h : MH), R h → ∀ P : Int32 → MH → Prop, (∀ (r : Int32) (h1 : MH), hS h1 223 = (1, 10) → (∀ P2 : Int32 → MH → Prop, (∀ h2 : MH, R h2 → P2 r h2) → wX10_feed 223 y1 y2 y3 y4 y5 h1 P2) → P r h1) → wX9_feed 128 y1 y2 y3 y4 y5 h P
/-- promise of net: from hearts that agree both answer alike, and agree again -/
def ST_net (R : MH → Prop) : Prop := ∀ (y1 : Int32) (h : MH), R h → ∀ P : Int32 → MH → Prop, (∀ (r : Int32) (h1 : MH), hS h1 223 = (1, 10) → (∀ P2 : Int32 → MH → Prop, (∀ h2 : MH, R h2 → P2 r h2) → wX10_net 223 y1 h1 P2) → P r h1) → wX9_net 16 1125 128 y1 h P
/-- promise of fault: from hearts that agree both answer alike, and agree again -/
def ST_fault (R : MH → Prop) : Prop := ∀ (y1 : Int32) (h : MH), R h → ∀ P : Int32 → MH → Prop, (∀ (r : Int32) (h1 : MH), hS h1 223 = (1, 10) → (∀ P2 : Int32 → MH → Prop, (∀ h2 : MH, R h2 → P2 r h2) → wX10_fault 223 y1 h1 P2) → P r h1) → wX9_fault 128 y1 h P
/-- promise of link: from hearts that agree both answer alike, and agree again -/
def ST_link (R : MH → Prop) : Prop := ∀ (y1 : Int32) (y2 : Int32) (h : MH), R h → ∀ P : Int32 → MH → Prop, (∀ (r : Int32) (h1 : MH), hS h1 223 = (1, 10) → (∀ P2 : Int32 → MH → Prop, (∀ h2 : MH, R h2 → P2 r h2) → wX10_link 223 y1 y2 h1 P2) → P r h1) → wX9_link 128 y1 y2 h P
/-- promise of ring: from hearts that agree both answer alike, and agree again -/
def ST_ring (R : MH → Prop) : Prop := ∀ (y1 : Int32) (y2 : Int32) (h : MH), R h → ∀ P : Int32 → MH → Prop, (∀ (r : Int32) (h1 : MH), hS h1 223 = (1, 10) → (∀ P2 : Int32 → MH → Prop, (∀ h2 : MH, R h2 → P2 r h2) → wX10_ring 223 y1 y2 h1 P2) → P r h1) → wX9_ring 128 y1 y2 h P
/-- promise of ringOf: from hearts that agree both answer alike, and agree again -/
def ST_ringOf (R : MH → Prop) : Prop := ∀ (y1 : Int32) (h : MH), R h → ∀ P : Int32 → MH → Prop, (∀ (r : Int32) (h1 : MH), hS h1 223 = (1, 10) → (∀ P2 : Int32 → MH → Prop, (∀ h2 : MH, R h2 → P2 r h2) → wX10_ringOf 223 y1 h1 P2) → P r h1) → wX9_ringOf 128 y1 h P
/-- promise of use: from hearts that agree both answer alike, and agree again -/
def ST_use (R : MH → Prop) : Prop := ∀ (y1 : Int32) (y2 : Int32) (h : MH), R h → ∀ P : Int32 → MH → Prop, (∀ (r : Int32) (h1 : MH), hS h1 223 = (1, 10) → (∀ P2 : Int32 → MH → Prop, (∀ h2 : MH, R h2 → P2 r h2) → wX10_use 223 y1 y2 h1 P2) → P r h1) → wX9_use 128 y1 y2 h P
/-- promise of path: from hearts that agree both answer alike, and agree again -/
def ST_path (R : MH → Prop) : Prop := ∀ (y1 : Int32) (y2 : Int32) (y3 : Int32) (h : MH), R h → ∀ P : Int32 → MH → Prop, (∀ (r : Int32) (h1 : MH), hS h1 223 = (1, 10) → (∀ P2 : Int32 → MH → Prop, (∀ h2 : MH, R h2 → P2 r h2) → wX10_path 223 y1 y2 y3 h1 P2) → P r h1) → wX9_path 128 y1 y2 y3 h P
/-- promise of lay: from hearts that agree both answer alike, and agree again -/
def ST_lay (R : MH → Prop) : Prop := ∀ (y1 : Int32) (h : MH), R h → ∀ P : Int32 → MH → Prop, (∀ (r : Int32) (h1 : MH), hS h1 223 = (1, 10) → (∀ P2 : Int32 → MH → Prop, (∀ h2 : MH, R h2 → P2 r h2) → wX10_lay 223 y1 h1 P2) → P r h1) → wX9_lay 128 y1 h P
/-- promise of take: from hearts that agree both answer alike, and agree again -/
def ST_take (R : MH → Prop) : Prop := ∀ (y1 : Int32) (h : MH), R h → ∀ P : Int32 → MH → Prop, (∀ (r : Int32) (h1 : MH), hS h1 223 = (1, 10) → (∀ P2 : Int32 → MH → Prop, (∀ h2 : MH, R h2 → P2 r h2) → wX10_take 223 y1 h1 P2) → P r h1) → wX9_take 128 y1 h P
/-- promise of fail: from hearts that agree both answer alike, and agree again -/
def ST_fail (R : MH → Prop) : Prop := ∀ (y1 : Int32) (h : MH), R h → ∀ P : Int32 → MH → Prop, (∀ (r : Int32) (h1 : MH), hS h1 223 = (1, 10) → (∀ P2 : Int32 → MH → Prop, (∀ h2 : MH, R h2 → P2 r h2) → wX10_fail 223 y1 h1 P2) → P r h1) → wX9_fail 128 y1 h P
/-- promise of mend: from hearts that agree both answer alike, and agree again -/
def ST_mend (R : MH → Prop) : Prop := ∀ (y1 : Int32) (h : MH), R h → ∀ P : Int32 → MH → Prop, (∀ (r : Int32) (h1 : MH), hS h1 223 = (1, 10) → (∀ P2 : Int32 → MH → Prop, (∀ h2 : MH, R h2 → P2 r h2) → wX10_mend 223 y1 h1 P2) → P r h1) → wX9_mend 128 y1 h P
/-- promise of rate: from hearts that agree both answer alike, and agree again -/
def ST_rate (R : MH → Prop) : Prop := ∀ (y1 : Int32) (h : MH), R h → ∀ P : Int32 → MH → Prop, (∀ (r : Int32) (h1 : MH), hS h1 223 = (1, 10) → (∀ P2 : Int32 → MH → Prop, (∀ h2 : MH, R h2 → P2 r h2) → wX10_rate 223 y1 h1 P2) → P r h1) → wX9_rate 128 y1 h P
/-- promise of undo: from hearts that agree both answer alike, and agree again -/
def ST_undo (R : MH → Prop) : Prop := ∀ (y1 : Int32) (h : MH), R h → ∀ P : Int32 → MH → Prop, (∀ (r : Int32) (h1 : MH), hS h1 223 = (1, 10) → (∀ P2 : Int32 → MH → Prop, (∀ h2 : MH, R h2 → P2 r h2) → wX10_undo 223 y1 h1 P2) → P r h1) → wX9_undo 128 y1 h P
/-- promise of judge: from hearts that agree both answer alike, and agree again -/
def ST_judge (R : MH → Prop) : Prop := ∀ (y1 : Int32) (y2 : Int32) (h : MH), R h → ∀ P : Int32 → MH → Prop, (∀ (r : Int32) (h1 : MH), hS h1 223 = (1, 10) → (∀ P2 : Int32 → MH → Prop, (∀ h2 : MH, R h2 → P2 r h2) → wX10_judge 223 y1 y2 h1 P2) → P r h1) → wX9_judge 128 y1 y2 h P
/-- promise of perform: from hearts that agree both answer alike, and agree again -/
def ST_perform (R : MH → Prop) : Prop := ∀ (y1 : Int32) (h : MH), R h → ∀ P : Int32 → MH → Prop, (∀ (r : Int32) (h1 : MH), hS h1 223 = (1, 10) → (∀ P2 : Int32 → MH → Prop, (∀ h2 : MH, R h2 → P2 r h2) → wX10_perform 223 y1 h1 P2) → P r h1) → wX9_perform 128 y1 h P
/-- promise of year: from hearts that agree both answer alike, and agree again -/
def ST_year (R : MH → Prop) : Prop := ∀ (y1 : Int32) (y2 : Int32) (h : MH), R h → ∀ P : Int32 → MH → Prop, (∀ (r : Int32) (h1 : MH), hS h1 223 = (1, 10) → (∀ P2 : Int32 → MH → Prop, (∀ h2 : MH, R h2 → P2 r h2) → wX10_year 223 y1 y2 h1 P2) → P r h1) → wX9_year 128 y1 y2 h P
/-- promise of isCover: from hearts that agree both answer alike, and agree again -/
def ST_isCover (R : MH → Prop) : Prop := ∀ (h : MH), R h → ∀ P : Int32 → MH → Prop, (∀ (r : Int32) (h1 : MH), hS h1 223 = (1, 10) → (∀ P2 : Int32 → MH → Prop, (∀ h2 : MH, R h2 → P2 r h2) → wX10_isCover 223 h1 P2) → P r h1) → wX9_isCover 128 h P
/-- promise of cost: from hearts that agree both answer alike, and agree again -/
def ST_cost (R : MH → Prop) : Prop := ∀ (h : MH), R h → ∀ P : Int32 → MH → Prop, (∀ (r : Int32) (h1 : MH), hS h1 223 = (1, 10) → (∀ P2 : Int32 → MH → Prop, (∀ h2 : MH, R h2 → P2 r h2) → wX10_cost 223 h1 P2) → P r h1) → wX9_cost 128 h P
/-- promise of yet: from hearts that agree both answer alike, and agree again -/
def ST_yet (R : MH → Prop) : Prop := ∀ (y1 : Int32) (y2 : Int32) (h : MH), R h → ∀ P : Int32 → MH → Prop, (∀ (r : Int32) (h1 : MH), hS h1 223 = (1, 10) → (∀ P2 : Int32 → MH → Prop, (∀ h2 : MH, R h2 → P2 r h2) → wX10_yet 223 y1 y2 h1 P2) → P r h1) → wX9_yet 1 2048 128 y1 y2 h P
/-- promise of among: from hearts that agree both answer alike, and agree again -/
def ST_among (R : MH → Prop) : Prop := ∀ (y1 : Int32) (y2 : Int32) (h : MH), R h → ∀ P : Int32 → MH → Prop, (∀ (r : Int32) (h1 : MH), hS h1 223 = (1, 10) → (∀ P2 : Int32 → MH → Prop, (∀ h2 : MH, R h2 → P2 r h2) → wX10_among 223 y1 y2 h1 P2) → P r h1) → wX9_among 1 2048 128 y1 y2 h P
/-- promise of bound: from hearts that agree both answer alike, and agree again -/
def ST_bound (R : MH → Prop) : Prop := ∀ (y1 : Int32) (h : MH), R h → ∀ P : Int64 → MH → Prop, (∀ (r : Int64) (h1 : MH), hS h1 223 = (1, 10) → (∀ P2 : Int64 → MH → Prop, (∀ h2 : MH, R h2 → P2 r h2) → wX10_bound 223 y1 h1 P2) → P r h1) → wX9_bound 128 y1 h P
/-- promise of covers: from hearts that agree both answer alike, and agree again -/
def ST_covers (R : MH → Prop) : Prop := ∀ (y1 : Int32) (h : MH), R h → ∀ P : Int32 → MH → Prop, (∀ (r : Int32) (h1 : MH), hS h1 223 = (1, 10) → (∀ P2 : Int32 → MH → Prop, (∀ h2 : MH, R h2 → P2 r h2) → wX10_covers 223 y1 h1 P2) → P r h1) → wX9_covers 128 y1 h P
/-- promise of best: from hearts that agree both answer alike, and agree again -/
def ST_best (R : MH → Prop) : Prop := ∀ (h : MH), R h → ∀ P : Int32 → MH → Prop, (∀ (r : Int32) (h1 : MH), hS h1 223 = (1, 10) → (∀ P2 : Int32 → MH → Prop, (∀ h2 : MH, R h2 → P2 r h2) → wX10_best 223 h1 P2) → P r h1) → wX9_best 128 h P
/-- promise of spare: from hearts that agree both answer alike, and agree again -/
def ST_spare (R : MH → Prop) : Prop := ∀ (h : MH), R h → ∀ P : Int32 → MH → Prop, (∀ (r : Int32) (h1 : MH), hS h1 223 = (1, 10) → (∀ P2 : Int32 → MH → Prop, (∀ h2 : MH, R h2 → P2 r h2) → wX10_spare 223 h1 P2) → P r h1) → wX9_spare 128 h P
/-- promise of runs: from hearts that agree both answer alike, and agree again -/
def ST_runs (R : MH → Prop) : Prop := ∀ (y1 : Int32) (y2 : Int32) (y3 : Int32) (h : MH), R h → ∀ P : Int32 → MH → Prop, (∀ (r : Int32) (h1 : MH), hS h1 223 = (1, 10) → (∀ P2 : Int32 → MH → Prop, (∀ h2 : MH, R h2 → P2 r h2) → wX10_runs 223 y1 y2 y3 h1 P2) → P r h1) → wX9_runs 128 y1 y2 y3 h P
/-- promise of lost: from hearts that agree both answer alike, and agree again -/
def ST_lost (R : MH → Prop) : Prop := ∀ (h : MH), R h → ∀ P : Int32 → MH → Prop, (∀ (r : Int32) (h1 : MH), hS h1 223 = (1, 10) → (∀ P2 : Int32 → MH → Prop, (∀ h2 : MH, R h2 → P2 r h2) → wX10_lost 223 h1 P2) → P r h1) → wX9_lost 128 h P
/-- promise of ifFails: from hearts that agree both answer alike, and agree again -/
def ST_ifFails (R : MH → Prop) : Prop := ∀ (y1 : Int32) (h : MH), R h → ∀ P : Int32 → MH → Prop, (∀ (r : Int32) (h1 : MH), hS h1 223 = (1, 10) → (∀ P2 : Int32 → MH → Prop, (∀ h2 : MH, R h2 → P2 r h2) → wX10_ifFails 223 y1 h1 P2) → P r h1) → wX9_ifFails 128 y1 h P
/-- promise of worst: from hearts that agree both answer alike, and agree again -/
def ST_worst (R : MH → Prop) : Prop := ∀ (h : MH), R h → ∀ P : Int32 → MH → Prop, (∀ (r : Int32) (h1 : MH), hS h1 223 = (1, 10) → (∀ P2 : Int32 → MH → Prop, (∀ h2 : MH, R h2 → P2 r h2) → wX10_worst 223 h1 P2) → P r h1) → wX9_worst 128 h P
/-- promise of two: from hearts that agree both answer alike, and agree again -/
def ST_two (R : MH → Prop) : Prop := ∀ (y1 : Int32) (y2 : Int32) (h : MH), R h → ∀ P : Int32 → MH → Prop, (∀ (r : Int32) (h1 : MH), hS h1 223 = (1, 10) → (∀ P2 : Int32 → MH → Prop, (∀ h2 : MH, R h2 → P2 r h2) → wX10_two 223 y1 y2 h1 P2) → P r h1) → wX9_two 128 y1 y2 h P
/-- promise of twos: from hearts that agree both answer alike, and agree again -/
def ST_twos (R : MH → Prop) : Prop := ∀ (y1 : Int32) (h : MH), R h → ∀ P : Int32 → MH → Prop, (∀ (r : Int32) (h1 : MH), hS h1 223 = (1, 10) → (∀ P2 : Int32 → MH → Prop, (∀ h2 : MH, R h2 → P2 r h2) → wX10_twos 223 y1 h1 P2) → P r h1) → wX9_twos 128 y1 h P
/-- promise of stands: from hearts that agree both answer alike, and agree again -/
def ST_stands (R : MH → Prop) : Prop := ∀ (h : MH), R h → ∀ P : Int32 → MH → Prop, (∀ (r : Int32) (h1 : MH), hS h1 223 = (1, 10) → (∀ P2 : Int32 → MH → Prop, (∀ h2 : MH, R h2 → P2 r h2) → wX10_stands 223 h1 P2) → P r h1) → wX9_stands 128 h P
/-- promise of rings: from hearts that agree both answer alike, and agree again -/
def ST_rings (R : MH → Prop) : Prop := ∀ (h : MH), R h → ∀ P : Int32 → MH → Prop, (∀ (r : Int32) (h1 : MH), hS h1 223 = (1, 10) → (∀ P2 : Int32 → MH → Prop, (∀ h2 : MH, R h2 → P2 r h2) → wX10_rings 223 h1 P2) → P r h1) → wX9_rings 128 h P
/-- promise of bare: from hearts that agree both answer alike, and agree again -/
def ST_bare (R : MH → Prop) : Prop := ∀ (h : MH), R h → ∀ P : Int32 → MH → Prop, (∀ (r : Int32) (h1 : MH), hS h1 223 = (1, 10) → (∀ P2 : Int32 → MH → Prop, (∀ h2 : MH, R h2 → P2 r h2) → wX10_bare 223 h1 P2) → P r h1) → wX9_bare 128 h P
/-- promise of bridges: from hearts that agree both answer alike, and agree again -/
def ST_bridges (R : MH → Prop) : Prop := ∀ (h : MH), R h → ∀ P : Int32 → MH → Prop, (∀ (r : Int32) (h1 : MH), hS h1 223 = (1, 10) → (∀ P2 : Int32 → MH → Prop, (∀ h2 : MH, R h2 → P2 r h2) → wX10_bridges 223 h1 P2) → P r h1) → wX9_bridges 128 h P
/-- promise of cut: from hearts that agree both answer alike, and agree again -/
def ST_cut (R : MH → Prop) : Prop := ∀ (y1 : Int32) (y2 : Int32) (y3 : Int32) (h : MH), R h → ∀ P : Int32 → MH → Prop, (∀ (r : Int32) (h1 : MH), hS h1 223 = (1, 10) → (∀ P2 : Int32 → MH → Prop, (∀ h2 : MH, R h2 → P2 r h2) → wX10_cut 223 y1 y2 y3 h1 P2) → P r h1) → wX9_cut 128 y1 y2 y3 h P
/-- promise of rates: from hearts that agree both answer alike, and agree again -/
def ST_rates (R : MH → Prop) : Prop := ∀ (y1 : Int32) (h : MH), R h → ∀ P : Int32 → MH → Prop, (∀ (r : Int32) (h1 : MH), hS h1 223 = (1, 10) → (∀ P2 : Int32 → MH → Prop, (∀ h2 : MH, R h2 → P2 r h2) → wX10_rates 223 y1 h1 P2) → P r h1) → wX9_rates 128 y1 h P
/-- promise of ask: from hearts that agree both answer alike, and agree again -/
def ST_ask (R : MH → Prop) : Prop := ∀ (y1 : Int32) (h : MH), R h → ∀ P : Int32 → MH → Prop, (∀ (r : Int32) (h1 : MH), hS h1 223 = (1, 10) → (∀ P2 : Int32 → MH → Prop, (∀ h2 : MH, R h2 → P2 r h2) → wX10_ask 223 y1 h1 P2) → P r h1) → wX9_ask 128 y1 h P
/-- promise of chance: from hearts that agree both answer alike, and agree again -/
def ST_chance (R : MH → Prop) : Prop := ∀ (y1 : Int32) (y2 : Int32) (h : MH), R h → ∀ P : Int32 → MH → Prop, (∀ (r : Int32) (h1 : MH), hS h1 223 = (1, 10) → (∀ P2 : Int32 → MH → Prop, (∀ h2 : MH, R h2 → P2 r h2) → wX10_chance 223 y1 y2 h1 P2) → P r h1) → wX9_chance 128 y1 y2 h P
/-- promise of mean: from hearts that agree both answer alike, and agree again -/
def ST_mean (R : MH → Prop) : Prop := ∀ (y1 : Int32) (y2 : Int32) (h : MH), R h → ∀ P : Int32 → MH → Prop, (∀ (r : Int32) (h1 : MH), hS h1 223 = (1, 10) → (∀ P2 : Int32 → MH → Prop, (∀ h2 : MH, R h2 → P2 r h2) → wX10_mean 223 y1 y2 h1 P2) → P r h1) → wX9_mean 128 y1 y2 h P
/-- promise of numbers: from hearts that agree both answer alike, and agree again -/
def ST_numbers (R : MH → Prop) : Prop := ∀ (y1 : Int32) (y2 : Int32) (y3 : Int32) (h : MH), R h → ∀ P : Int32 → MH → Prop, (∀ (r : Int32) (h1 : MH), hS h1 223 = (1, 10) → (∀ P2 : Int32 → MH → Prop, (∀ h2 : MH, R h2 → P2 r h2) → wX10_numbers 223 y1 y2 y3 h1 P2) → P r h1) → wX9_numbers 128 y1 y2 y3 h P
/-- promise of write: from hearts that agree both answer alike, and agree again -/
def ST_write (R : MH → Prop) : Prop := ∀ (y1 y2 : Int32) (y3 : Int64) (h : MH), R h → ∀ P : Int64 → MH → Prop, (∀ (r : Int64) (h1 : MH), hS h1 223 = (1, 10) → (∀ P2 : Int64 → MH → Prop, (∀ h2 : MH, R h2 → P2 r h2) → wX10_write 223 y1 y2 y3 h1 P2) → P r h1) → wX9_write 128 y1 y2 y3 h P
/-- promise of lists: from hearts that agree both answer alike, and agree again -/
def ST_lists (R : MH → Prop) : Prop := ∀ (y1 : Int32) (y2 : Int32) (h : MH), R h → ∀ P : Int32 → MH → Prop, (∀ (r : Int32) (h1 : MH), hS h1 223 = (1, 10) → (∀ P2 : Int32 → MH → Prop, (∀ h2 : MH, R h2 → P2 r h2) → wX10_lists 223 y1 y2 h1 P2) → P r h1) → wX9_lists 1 2048 128 y1 y2 h P
/-- promise of image: from hearts that agree both answer alike, and agree again -/
def ST_image (R : MH → Prop) : Prop := ∀ (y1 : Int32) (h : MH), R h → ∀ P : Int32 → MH → Prop, (∀ (r : Int32) (h1 : MH), hS h1 223 = (1, 10) → (∀ P2 : Int32 → MH → Prop, (∀ h2 : MH, R h2 → P2 r h2) → wX10_image 223 y1 h1 P2) → P r h1) → wX9_image 128 y1 h P
/-- promise of restore: from hearts that agree both answer alike, and agree again -/
def ST_restore (R : MH → Prop) : Prop := ∀ (y1 : Int32) (h : MH), R h → ∀ P : Int32 → MH → Prop, (∀ (r : Int32) (h1 : MH), hS h1 223 = (1, 10) → (∀ P2 : Int32 → MH → Prop, (∀ h2 : MH, R h2 → P2 r h2) → wX10_restore 223 y1 h1 P2) → P r h1) → wX9_restore 128 y1 h P
/-- promise of count: from hearts that agree both answer alike, and agree again -/
def ST_count (R : MH → Prop) : Prop := ∀ (y1 : Int32) (h : MH), R h → ∀ P : Int32 → MH → Prop, (∀ (r : Int32) (h1 : MH), hS h1 223 = (1, 10) → (∀ P2 : Int32 → MH → Prop, (∀ h2 : MH, R h2 → P2 r h2) → wX10_count 223 y1 h1 P2) → P r h1) → wX9_count 128 y1 h P
set_option maxHeartbeats 4000000 in
set_option maxRecDepth 100000 in
theorem u_loop {R : MH → Prop} {L : Nat} {xs : Nat → Int32} {Q : Int32 → MH → Prop} (hL : L ≤ 3072) (hQ : ∀ h, Q (nI 1) h) (r9 : ∀ h, R h → hS h 128 = (1, 9)) (k0 : ST_feed R) (k1 : ST_net R) (k2 : ST_fault R) (k3 : ST_link R) (k4 : ST_ring R) (k5 : ST_ringOf R) (k6 : ST_use R) (k7 : ST_path R) (k8 : ST_lay R) (k9 : ST_take R) (k10 : ST_fail R) (k11 : ST_mend R) (k12 : ST_rate R) (k13 : ST_undo R) (k14 : ST_judge R) (k15 : ST_perform R) (k16 : ST_year R) (k17 : ST_isCover R) (k18 : ST_cost R) (k19 : ST_yet R) (k20 : ST_among R) (k21 : ST_bound R) (k22 : ST_covers R) (k23 : ST_best R) (k24 : ST_spare R) (k25 : ST_runs R) (k26 : ST_lost R) (k27 : ST_ifFails R) (k28 : ST_worst R) (k29 : ST_two R) (k30 : ST_twos R) (k31 : ST_stands R) (k32 : ST_rings R) (k33 : ST_bare R) (k34 : ST_bridges R) (k35 : ST_cut R) (k36 : ST_rates R) (k37 : ST_ask R) (k38 : ST_chance R) (k39 : ST_mean R) (k40 : ST_numbers R) (k41 : ST_write R) (k42 : ST_lists R) (k43 : ST_image R) (k44 : ST_restore R) (k45 : ST_count R) : ∀ (n i b t : Nat) (h : MH), R h → i ≤ 3077 → L < i + 6 * (n + 1) → 16 * n ≤ b → 2048 * n ≤ t → wL_law_18 Q L xs (n + 1) b t 128 223 (nI i) h := by
  intro n
  induction n with
  | zero =>
    intro i b t h hr hi hn hb ht
    unfold wL_law_18
    exact ⟨fun _ => hQ h, fun c => absurd ((nI_sub6 hL (by omega)).mpr (by omega)) c⟩
  | succ n ih =>
    intro i b t h hr hi hn hb ht
    unfold wL_law_18
    refine ⟨fun _ => hQ h, fun c => ?_⟩
    replace c : ¬ L < i + 6 := fun q => c ((nI_sub6 hL (by omega)).mpr q)
    have ih' : ∀ (b t : Nat) (h : MH), R h → 16 * n ≤ b → 2048 * n ≤ t → wL_law_18 Q L xs (n + 1) b t 128 223 (nI i + nI 6) h := by
      intro b t h hr hb ht
      rw [nI_add]
      exact ih (i + 6) b t h hr (by omega) (by omega) hb ht
    have v1 : vp_in (nI i + nI 1) L := by rw [nI_add]; exact vp_in_nI (by omega) (by omega)
    have v2 : vp_in (nI i + nI 2) L := by rw [nI_add]; exact vp_in_nI (by omega) (by omega)
    have v3 : vp_in (nI i + nI 3) L := by rw [nI_add]; exact vp_in_nI (by omega) (by omega)
    have v4 : vp_in (nI i + nI 4) L := by rw [nI_add]; exact vp_in_nI (by omega) (by omega)
    have v5 : vp_in (nI i + nI 5) L := by rw [nI_add]; exact vp_in_nI (by omega) (by omega)
    refine ⟨vp_in_nI (by omega) (by omega), fun _ => ih' b t h hr (by omega) (by omega), ?_, ?_, ?_, ?_, ?_, ?_, ?_, ?_, ?_, ?_, ?_, ?_, ?_, ?_, ?_, ?_, ?_, ?_, ?_, ?_, ?_, ?_, ?_, ?_, ?_, ?_, ?_, ?_, ?_, ?_, ?_, ?_, ?_, ?_, ?_, ?_, ?_, ?_, ?_, ?_, ?_, ?_, ?_, ?_, ?_, ?_⟩
    · exact fun _ => ⟨v1, v2, v3, v4, v5, r9 h hr, k0 _ _ _ _ _ h hr _ (fun r h1 s w => ⟨v1, v2, v3, v4, v5, s, w _ (fun h2 hr2 => ⟨fun _ => ih' _ _ h2 hr2 (by omega) (by omega), (fun c => absurd rfl c)⟩)⟩)⟩
    · exact fun _ => ⟨v1, r9 h hr, (by omega), (by omega), k1 _ h hr _ (fun r h1 s w => ⟨v1, s, w _ (fun h2 hr2 => ⟨fun _ => ih' _ _ h2 hr2 (by omega) (by omega), (fun c => absurd rfl c)⟩)⟩)⟩
    · exact fun _ => ⟨v1, r9 h hr, k2 _ h hr _ (fun r h1 s w => ⟨v1, s, w _ (fun h2 hr2 => ⟨fun _ => ih' _ _ h2 hr2 (by omega) (by omega), (fun c => absurd rfl c)⟩)⟩)⟩
    · exact fun _ => ⟨v1, v2, r9 h hr, k3 _ _ h hr _ (fun r h1 s w => ⟨v1, v2, s, w _ (fun h2 hr2 => ⟨fun _ => ih' _ _ h2 hr2 (by omega) (by omega), (fun c => absurd rfl c)⟩)⟩)⟩
    · exact fun _ => ⟨v1, v2, r9 h hr, k4 _ _ h hr _ (fun r h1 s w => ⟨v1, v2, s, w _ (fun h2 hr2 => ⟨fun _ => ih' _ _ h2 hr2 (by omega) (by omega), (fun c => absurd rfl c)⟩)⟩)⟩
    · exact fun _ => ⟨v1, r9 h hr, k5 _ h hr _ (fun r h1 s w => ⟨v1, s, w _ (fun h2 hr2 => ⟨fun _ => ih' _ _ h2 hr2 (by omega) (by omega), (fun c => absurd rfl c)⟩)⟩)⟩
    · exact fun _ => ⟨v1, v2, r9 h hr, k6 _ _ h hr _ (fun r h1 s w => ⟨v1, v2, s, w _ (fun h2 hr2 => ⟨fun _ => ih' _ _ h2 hr2 (by omega) (by omega), (fun c => absurd rfl c)⟩)⟩)⟩
    · exact fun _ => ⟨v1, v2, v3, r9 h hr, k7 _ _ _ h hr _ (fun r h1 s w => ⟨v1, v2, v3, s, w _ (fun h2 hr2 => ⟨fun _ => ih' _ _ h2 hr2 (by omega) (by omega), (fun c => absurd rfl c)⟩)⟩)⟩
    · exact fun _ => ⟨v1, r9 h hr, k8 _ h hr _ (fun r h1 s w => ⟨v1, s, w _ (fun h2 hr2 => ⟨fun _ => ih' _ _ h2 hr2 (by omega) (by omega), (fun c => absurd rfl c)⟩)⟩)⟩
    · exact fun _ => ⟨v1, r9 h hr, k9 _ h hr _ (fun r h1 s w => ⟨v1, s, w _ (fun h2 hr2 => ⟨fun _ => ih' _ _ h2 hr2 (by omega) (by omega), (fun c => absurd rfl c)⟩)⟩)⟩
    · exact fun _ => ⟨v1, r9 h hr, k10 _ h hr _ (fun r h1 s w => ⟨v1, s, w _ (fun h2 hr2 => ⟨fun _ => ih' _ _ h2 hr2 (by omega) (by omega), (fun c => absurd rfl c)⟩)⟩)⟩
    · exact fun _ => ⟨v1, r9 h hr, k11 _ h hr _ (fun r h1 s w => ⟨v1, s, w _ (fun h2 hr2 => ⟨fun _ => ih' _ _ h2 hr2 (by omega) (by omega), (fun c => absurd rfl c)⟩)⟩)⟩
    · exact fun _ => ⟨v1, r9 h hr, k12 _ h hr _ (fun r h1 s w => ⟨v1, s, w _ (fun h2 hr2 => ⟨fun _ => ih' _ _ h2 hr2 (by omega) (by omega), (fun c => absurd rfl c)⟩)⟩)⟩
    · exact fun _ => ⟨v1, r9 h hr, k13 _ h hr _ (fun r h1 s w => ⟨v1, s, w _ (fun h2 hr2 => ⟨fun _ => ih' _ _ h2 hr2 (by omega) (by omega), (fun c => absurd rfl c)⟩)⟩)⟩
    · exact fun _ => ⟨v1, v2, r9 h hr, k14 _ _ h hr _ (fun r h1 s w => ⟨v1, v2, s, w _ (fun h2 hr2 => ⟨fun _ => ih' _ _ h2 hr2 (by omega) (by omega), (fun c => absurd rfl c)⟩)⟩)⟩
    · exact fun _ => ⟨v1, r9 h hr, k15 _ h hr _ (fun r h1 s w => ⟨v1, s, w _ (fun h2 hr2 => ⟨fun _ => ih' _ _ h2 hr2 (by omega) (by omega), (fun c => absurd rfl c)⟩)⟩)⟩
    · exact fun _ => ⟨v1, v2, r9 h hr, k16 _ _ h hr _ (fun r h1 s w => ⟨v1, v2, s, w _ (fun h2 hr2 => ⟨fun _ => ih' _ _ h2 hr2 (by omega) (by omega), (fun c => absurd rfl c)⟩)⟩)⟩
    · exact fun _ => ⟨r9 h hr, k17 h hr _ (fun r h1 s w => ⟨s, w _ (fun h2 hr2 => ⟨fun _ => ih' _ _ h2 hr2 (by omega) (by omega), (fun c => absurd rfl c)⟩)⟩)⟩
    · exact fun _ => ⟨r9 h hr, k18 h hr _ (fun r h1 s w => ⟨s, w _ (fun h2 hr2 => ⟨fun _ => ih' _ _ h2 hr2 (by omega) (by omega), (fun c => absurd rfl c)⟩)⟩)⟩
    · exact fun _ => ⟨v1, v2, r9 h hr, (by omega), (by omega), k19 _ _ h hr _ (fun r h1 s w => ⟨v1, v2, s, w _ (fun h2 hr2 => ⟨fun _ => ih' _ _ h2 hr2 (by omega) (by omega), (fun c => absurd rfl c)⟩)⟩)⟩
    · exact fun _ => ⟨v1, v2, r9 h hr, (by omega), (by omega), k20 _ _ h hr _ (fun r h1 s w => ⟨v1, v2, s, w _ (fun h2 hr2 => ⟨fun _ => ih' _ _ h2 hr2 (by omega) (by omega), (fun c => absurd rfl c)⟩)⟩)⟩
    · exact fun _ => ⟨v1, r9 h hr, k21 _ h hr _ (fun r h1 s w => ⟨v1, s, w _ (fun h2 hr2 => ⟨fun _ => ih' _ _ h2 hr2 (by omega) (by omega), (fun c => absurd (lg_cmp_self _) c)⟩)⟩)⟩
    · exact fun _ => ⟨v1, r9 h hr, k22 _ h hr _ (fun r h1 s w => ⟨v1, s, w _ (fun h2 hr2 => ⟨fun _ => ih' _ _ h2 hr2 (by omega) (by omega), (fun c => absurd rfl c)⟩)⟩)⟩
    · exact fun _ => ⟨r9 h hr, k23 h hr _ (fun r h1 s w => ⟨s, w _ (fun h2 hr2 => ⟨fun _ => ih' _ _ h2 hr2 (by omega) (by omega), (fun c => absurd rfl c)⟩)⟩)⟩
    · exact fun _ => ⟨r9 h hr, k24 h hr _ (fun r h1 s w => ⟨s, w _ (fun h2 hr2 => ⟨fun _ => ih' _ _ h2 hr2 (by omega) (by omega), (fun c => absurd rfl c)⟩)⟩)⟩
    · exact fun _ => ⟨v1, v2, v3, r9 h hr, k25 _ _ _ h hr _ (fun r h1 s w => ⟨v1, v2, v3, s, w _ (fun h2 hr2 => ⟨fun _ => ih' _ _ h2 hr2 (by omega) (by omega), (fun c => absurd rfl c)⟩)⟩)⟩
    · exact fun _ => ⟨r9 h hr, k26 h hr _ (fun r h1 s w => ⟨s, w _ (fun h2 hr2 => ⟨fun _ => ih' _ _ h2 hr2 (by omega) (by omega), (fun c => absurd rfl c)⟩)⟩)⟩
    · exact fun _ => ⟨v1, r9 h hr, k27 _ h hr _ (fun r h1 s w => ⟨v1, s, w _ (fun h2 hr2 => ⟨fun _ => ih' _ _ h2 hr2 (by omega) (by omega), (fun c => absurd rfl c)⟩)⟩)⟩
    · exact fun _ => ⟨r9 h hr, k28 h hr _ (fun r h1 s w => ⟨s, w _ (fun h2 hr2 => ⟨fun _ => ih' _ _ h2 hr2 (by omega) (by omega), (fun c => absurd rfl c)⟩)⟩)⟩
    · exact fun _ => ⟨v1, v2, r9 h hr, k29 _ _ h hr _ (fun r h1 s w => ⟨v1, v2, s, w _ (fun h2 hr2 => ⟨fun _ => ih' _ _ h2 hr2 (by omega) (by omega), (fun c => absurd rfl c)⟩)⟩)⟩
    · exact fun _ => ⟨v1, r9 h hr, k30 _ h hr _ (fun r h1 s w => ⟨v1, s, w _ (fun h2 hr2 => ⟨fun _ => ih' _ _ h2 hr2 (by omega) (by omega), (fun c => absurd rfl c)⟩)⟩)⟩
    · exact fun _ => ⟨r9 h hr, k31 h hr _ (fun r h1 s w => ⟨s, w _ (fun h2 hr2 => ⟨fun _ => ih' _ _ h2 hr2 (by omega) (by omega), (fun c => absurd rfl c)⟩)⟩)⟩
    · exact fun _ => ⟨r9 h hr, k32 h hr _ (fun r h1 s w => ⟨s, w _ (fun h2 hr2 => ⟨fun _ => ih' _ _ h2 hr2 (by omega) (by omega), (fun c => absurd rfl c)⟩)⟩)⟩
    · exact fun _ => ⟨r9 h hr, k33 h hr _ (fun r h1 s w => ⟨s, w _ (fun h2 hr2 => ⟨fun _ => ih' _ _ h2 hr2 (by omega) (by omega), (fun c => absurd rfl c)⟩)⟩)⟩
    · exact fun _ => ⟨r9 h hr, k34 h hr _ (fun r h1 s w => ⟨s, w _ (fun h2 hr2 => ⟨fun _ => ih' _ _ h2 hr2 (by omega) (by omega), (fun c => absurd rfl c)⟩)⟩)⟩
    · exact fun _ => ⟨v1, v2, v3, r9 h hr, k35 _ _ _ h hr _ (fun r h1 s w => ⟨v1, v2, v3, s, w _ (fun h2 hr2 => ⟨fun _ => ih' _ _ h2 hr2 (by omega) (by omega), (fun c => absurd rfl c)⟩)⟩)⟩
    · exact fun _ => ⟨v1, r9 h hr, k36 _ h hr _ (fun r h1 s w => ⟨v1, s, w _ (fun h2 hr2 => ⟨fun _ => ih' _ _ h2 hr2 (by omega) (by omega), (fun c => absurd rfl c)⟩)⟩)⟩
    · exact fun _ => ⟨v1, r9 h hr, k37 _ h hr _ (fun r h1 s w => ⟨v1, s, w _ (fun h2 hr2 => ⟨fun _ => ih' _ _ h2 hr2 (by omega) (by omega), (fun c => absurd rfl c)⟩)⟩)⟩
    · exact fun _ => ⟨v1, v2, r9 h hr, k38 _ _ h hr _ (fun r h1 s w => ⟨v1, v2, s, w _ (fun h2 hr2 => ⟨fun _ => ih' _ _ h2 hr2 (by omega) (by omega), (fun c => absurd rfl c)⟩)⟩)⟩
    · exact fun _ => ⟨v1, v2, r9 h hr, k39 _ _ h hr _ (fun r h1 s w => ⟨v1, v2, s, w _ (fun h2 hr2 => ⟨fun _ => ih' _ _ h2 hr2 (by omega) (by omega), (fun c => absurd rfl c)⟩)⟩)⟩
    · exact fun _ => ⟨v1, v2, v3, r9 h hr, k40 _ _ _ h hr _ (fun r h1 s w => ⟨v1, v2, v3, s, w _ (fun h2 hr2 => ⟨fun _ => ih' _ _ h2 hr2 (by omega) (by omega), (fun c => absurd rfl c)⟩)⟩)⟩
    · exact fun _ => ⟨v1, v2, v3, v4, r9 h hr, k41 _ _ _ h hr _ (fun r h1 s w => ⟨v1, v2, v3, v4, s, w _ (fun h2 hr2 => ⟨fun _ => ih' _ _ h2 hr2 (by omega) (by omega), (fun c => absurd (lg_cmp_self _) c)⟩)⟩)⟩
    · exact fun _ => ⟨v1, v2, r9 h hr, (by omega), (by omega), k42 _ _ h hr _ (fun r h1 s w => ⟨v1, v2, s, w _ (fun h2 hr2 => ⟨fun _ => ih' _ _ h2 hr2 (by omega) (by omega), (fun c => absurd rfl c)⟩)⟩)⟩
    · exact fun _ => ⟨v1, r9 h hr, k43 _ h hr _ (fun r h1 s w => ⟨v1, s, w _ (fun h2 hr2 => ⟨fun _ => ih' _ _ h2 hr2 (by omega) (by omega), (fun c => absurd rfl c)⟩)⟩)⟩
    · exact fun _ => ⟨v1, r9 h hr, k44 _ h hr _ (fun r h1 s w => ⟨v1, s, w _ (fun h2 hr2 => ⟨fun _ => ih' _ _ h2 hr2 (by omega) (by omega), (fun c => absurd rfl c)⟩)⟩)⟩
    · exact fun _ => ⟨v1, r9 h hr, k45 _ h hr _ (fun r h1 s w => ⟨v1, s, w _ (fun h2 hr2 => ⟨fun _ => ih' _ _ h2 hr2 (by omega) (by omega), (fun c => absurd rfl c)⟩)⟩)⟩
/-- the law out of a relation that the first heap has and every call keeps -/
theorem u_law {R : MH → Prop} {L : Nat} {xs : Nat → Int32} {Q : Int32 → MH → Prop} (hL : L ≤ 3072) (hQ : ∀ h, Q (nI 1) h) (r0 : R gm1) (r9 : ∀ h, R h → hS h 128 = (1, 9)) (k0 : ST_feed R) (k1 : ST_net R) (k2 : ST_fault R) (k3 : ST_link R) (k4 : ST_ring R) (k5 : ST_ringOf R) (k6 : ST_use R) (k7 : ST_path R) (k8 : ST_lay R) (k9 : ST_take R) (k10 : ST_fail R) (k11 : ST_mend R) (k12 : ST_rate R) (k13 : ST_undo R) (k14 : ST_judge R) (k15 : ST_perform R) (k16 : ST_year R) (k17 : ST_isCover R) (k18 : ST_cost R) (k19 : ST_yet R) (k20 : ST_among R) (k21 : ST_bound R) (k22 : ST_covers R) (k23 : ST_best R) (k24 : ST_spare R) (k25 : ST_runs R) (k26 : ST_lost R) (k27 : ST_ifFails R) (k28 : ST_worst R) (k29 : ST_two R) (k30 : ST_twos R) (k31 : ST_stands R) (k32 : ST_rings R) (k33 : ST_bare R) (k34 : ST_bridges R) (k35 : ST_cut R) (k36 : ST_rates R) (k37 : ST_ask R) (k38 : ST_chance R) (k39 : ST_mean R) (k40 : ST_numbers R) (k41 : ST_write R) (k42 : ST_lists R) (k43 : ST_image R) (k44 : ST_restore R) (k45 : ST_count R) : wL_law L xs 600000 7302250 h00 Q :=
  u_law0 ⟨513, u_loop hL hQ r9 k0 k1 k2 k3 k4 k5 k6 k7 k8 k9 k10 k11 k12 k13 k14 k15 k16 k17 k18 k19 k20 k21 k22 k23 k24 k25 k26 k27 k28 k29 k30 k31 k32 k33 k34 k35 k36 k37 k38 k39 k40 k41 k42 k43 k44 k45 512 0 _ _ gm1 r0 (by omega) (by omega) (by omega) (by omega)⟩
