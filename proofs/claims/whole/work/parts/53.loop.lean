/-! ===== the promises of the calls, one by one, over a relation ===== -/
theorem lg_cmp_self (x : Int64) : lg_cmp x x = 0 := by
  unfold lg_cmp
  rw [if_neg (fun c => absurd (Int64.lt_iff_toInt_lt.mp c) (by omega)), if_pos rfl]
theorem nI_sub6 {L i : Nat} (hL : L ≤ 3072) (hi : i ≤ 4000) : nI L - nI 6 < nI i ↔ L < i + 6 := by
  rw [Int32.lt_iff_toInt_lt, Int32.toInt_sub, nI_toInt (by omega), nI_toInt (by omega), nI_toInt (by omega), Int.bmod_eq_of_le (by omega) (by omega)]
  omega
/-- promise of feed: from hearts that agree both answer alike, and agree again -/
def ST_feed (R : MH → Prop) : Prop := ∀ (y1 : Int32) (y2 : Int32) (y3 : Int32) (y4 : Int32) (y5 : Int32) (h : MH), R h → ∀ P : Int32 → MH → Prop, (∀ (r : Int32) (h1 : MH), hS h1 223 = (1, 10) → (∀ P2 : Int32 → MH → Prop, (∀ h2 : MH, R h2 → P2 r h2) → wX10_feed 223 y1 y2 y3 y4 y5 h1 P2) → P r h1) → wX9_feed 128 y1 y2 y3 y4 y5 h P
/-- promise of net: from hearts that agree both answer alike, and agree again -/
def ST_net (R : MH → Prop) : Prop := ∀ (y1 : Int32) (h : MH), R h → ∀ P : Int32 → MH → Prop, (∀ (r : Int32) (h1 : MH), hS h1 223 = (1, 10) → (∀ P2 : Int32 → MH → Prop, (∀ h2 : MH, R h2 → P2 r h2) → wX10_net 223 y1 h1 P2) → P r h1) → wX9_net 16 1125 128 y1 h P
/-- promise of fault: from hearts that agree both answer alike, and agree again -/
def ST_fault (R : MH → Prop) : Prop := ∀ (y1 : Int32) (h : MH), R h → ∀ P : Int32 → MH → Prop, (∀ (r : Int32) (h1 : MH), hS h1 223 = (1, 10) → (∀ P2 : Int32 → MH → Prop, (∀ h2 : MH, R h2 → P2 r h2) → wX10_fault 223 y1 h1 P2) → P r h1) → wX9_fault 128 y1 h P
/-- promise of link: from hearts that agree both answer alike, and agree again -/
def ST_link (R : MH → Prop) : Prop := ∀ (y1 : Int32) (y2 : Int32) (h : MH), R h → ∀ P : Int32 → MH → Prop, (∀ (r : Int32) (h1 : MH), hS h1 223 = (1, 10) → (∀ P2 : Int32 → MH → Prop, (∀ h2 : MH, R h2 → P2 r h2) → wX10_link 223 y1 y2 h1 P2) → P r h1) → wX9_link 128 y1 y2 h P
/-- promise of ring: from hearts that agree both answer alike, and agree again -/
def ST_ring (R : MH → Prop) : Prop := ∀ (y1 : Int32) (y2 : Int32) (h : MH), R h → ∀ P : Int32 → MH → Prop, (∀ (r : Int32) (h1 : MH), hS h1 223 = (1, 10) → (∀ P2 : Int32 → MH → Prop, (∀ h2 : MH, R h2 → P2 r h2) → wX10_ring 223 y1 y2 h1 P2) → P r h1) → wX9_ring 128 y1 y2 h P
/-- promise of ringOf: from hearts that agree both answer alike, and agree again -/
def ST_ringOf (R : MH → Prop) : Prop := ∀ (y1 : Int32) (h : MH), R h → ∀ P : Int32 → MH → Prop, (∀ (r : Int32) (h1 : MH), hS h1 223 = (1, 10) → (∀ P2 : Int32 → MH → Prop, (∀ h2 : MH, R h2 → P2 r h2) → wX10_ringOf 223 y1 h1 P2) → P r h1) → wX9_ringOf 128 y1 h P
/-- promise of use: from hearts that agree both answer alike, and agree again -/
def ST_use (R : MH → Prop) : Prop := ∀ (y1 : Int32) (y2 : Int32) (h : MH), R h → ∀ P : Int32 → MH → Prop, (∀ (r : Int32) (h1 : MH), hS h1 223 = (1, 10) → (∀ P2 : Int32 → MH → Prop, (∀ h2 : MH, R h2 → P2 r h2) → wX10_use 223 y1 y2 h1 P2) → P r h1) → wX9_use 128 y1 y2 h P
/-- promise of path: from hearts that agree both answer alike, and agree again -/
def ST_path (R : MH → Prop) : Prop := ∀ (y1 : Int32) (y2 : Int32) (y3 : Int32) (h : MH), R h → ∀ P : Int32 → MH → Prop, (∀ (r : Int32) (h1 : MH), hS h1 223 = (1, 10) → (∀ P2 : Int32 → MH → Prop, (∀ h2 : MH, R h2 → P2 r h2) → wX10_path 223 y1 y2 y3 h1 P2) → P r h1) → wX9_path 128 y1 y2 y3 h P
/-- promise of lay: from hearts that agree both answer alike, and agree again -/
def ST_lay (R : MH → Prop) : Prop := ∀ (y1 : Int32) (h : MH), R h → ∀ P : Int32 → MH → Prop, (∀ (r : Int32) (h1 : MH), hS h1 223 = (1, 10) → (∀ P2 : Int32 → MH → Prop, (∀ h2 : MH, R h2 → P2 r h2) → wX10_lay 223 y1 h1 P2) → P r h1) → wX9_lay 128 y1 h P
/-- promise of take: from hearts that agree both answer alike, and agree again -/
def ST_take (R : MH → Prop) : Prop := ∀ (y1 : Int32) (h : MH), R h → ∀ P : Int32 → MH → Prop, (∀ (r : Int32) (h1 : MH), hS h1 223 = (1, 10) → (∀ P2 : Int32 → MH → Prop, (∀ h2 : MH, R h2 → P2 r h2) → wX10_take 223 y1 h1 P2) → P r h1) → wX9_take 128 y1 h P
/-- promise of fail: from hearts that agree both answer alike, and agree again -/
def ST_fail (R : MH → Prop) : Prop := ∀ (y1 : Int32) (h : MH), R h → ∀ P : Int32 → MH → Prop, (∀ (r : Int32) (h1 : MH), hS h1 223 = (1, 10) → (∀ P2 : Int32 → MH → Prop, (∀ h2 : MH, R h2 → P2 r h2) → wX10_fail 223 y1 h1 P2) → P r h1) → wX9_fail 128 y1 h P
/-- promise of mend: from hearts that agree both answer alike, and agree again -/
def ST_mend (R : MH → Prop) : Prop := ∀ (y1 : Int32) (h : MH), R h → ∀ P : Int32 → MH → Prop, (∀ (r : Int32) (h1 : MH), hS h1 223 = (1, 10) → (∀ P2 : Int32 → MH → Prop, (∀ h2 : MH, R h2 → P2 r h2) → wX10_mend 223 y1 h1 P2) → P r h1) → wX9_mend 128 y1 h P
/-- promise of rate: from hearts that agree both answer alike, and agree again -/
def ST_rate (R : MH → Prop) : Prop := ∀ (y1 : Int32) (h : MH), R h → ∀ P : Int32 → MH → Prop, (∀ (r : Int32) (h1 : MH), hS h1 223 = (1, 10) → (∀ P2 : Int32 → MH → Prop, (∀ h2 : MH, R h2 → P2 r h2) → wX10_rate 223 y1 h1 P2) → P r h1) → wX9_rate 128 y1 h P
/-- promise of undo: from hearts that agree both answer alike, and agree again -/
def ST_undo (R : MH → Prop) : Prop := ∀ (y1 : Int32) (h : MH), R h → ∀ P : Int32 → MH → Prop, (∀ (r : Int32) (h1 : MH), hS h1 223 = (1, 10) → (∀ P2 : Int32 → MH → Prop, (∀ h2 : MH, R h2 → P2 r h2) → wX10_undo 223 y1 h1 P2) → P r h1) → wX9_undo 128 y1 h P
/-- promise of judge: from hearts that agree both answer alike, and agree again -/
def ST_judge (R : MH → Prop) : Prop := ∀ (y1 : Int32) (y2 : Int32) (h : MH), R h → ∀ P : Int32 → MH → Prop, (∀ (r : Int32) (h1 : MH), hS h1 223 = (1, 10) → (∀ P2 : Int32 → MH → Prop, (∀ h2 : MH, R h2 → P2 r h2) → wX10_judge 223 y1 y2 h1 P2) → P r h1) → wX9_judge 128 y1 y2 h P
/-- promise of perform: from hearts that agree both answer alike, and agree again -/
def ST_perform (R : MH → Prop) : Prop := ∀ (y1 : Int32) (h : MH), R h → ∀ P : Int32 → MH → Prop, (∀ (r : Int32) (h1 : MH), hS h1 223 = (1, 10) → (∀ P2 : Int32 → MH → Prop, (∀ h2 : MH, R h2 → P2 r h2) → wX10_perform 223 y1 h1 P2) → P r h1) → wX9_perform 128 y1 h P
/-- promise of year: from hearts that agree both answer alike, and agree again -/
def ST_year (R : MH → Prop) : Prop := ∀ (y1 : Int32) (y2 : Int32) (h : MH), R h → ∀ P : Int32 → MH → Prop, (∀ (r : Int32) (h1 : MH), hS h1 223 = (1, 10) → (∀ P2 : Int32 → MH → Prop, (∀ h2 : MH, R h2 → P2 r h2) → wX10_year 223 y1 y2 h1 P2) → P r h1) → wX9_year 128 y1 y2 h P
/-- promise of isCover: from hearts that agree both answer alike, and agree again -/
def ST_isCover (R : MH → Prop) : Prop := ∀ (h : MH), R h → ∀ P : Int32 → MH → Prop, (∀ (r : Int32) (h1 : MH), hS h1 223 = (1, 10) → (∀ P2 : Int32 → MH → Prop, (∀ h2 : MH, R h2 → P2 r h2) → wX10_isCover 223 h1 P2) → P r h1) → wX9_isCover 128 h P
/-- promise of cost: from hearts that agree both answer alike, and agree again -/
def ST_cost (R : MH → Prop) : Prop := ∀ (h : MH), R h → ∀ P : Int32 → MH → Prop, (∀ (r : Int32) (h1 : MH), hS h1 223 = (1, 10) → (∀ P2 : Int32 → MH → Prop, (∀ h2 : MH, R h2 → P2 r h2) → wX10_cost 223 h1 P2) → P r h1) → wX9_cost 128 h P
/-- promise of yet: from hearts that agree both answer alike, and agree again -/
def ST_yet (R : MH → Prop) : Prop := ∀ (y1 : Int32) (y2 : Int32) (h : MH), R h → ∀ P : Int32 → MH → Prop, (∀ (r : Int32) (h1 : MH), hS h1 223 = (1, 10) → (∀ P2 : Int32 → MH → Prop, (∀ h2 : MH, R h2 → P2 r h2) → wX10_yet 223 y1 y2 h1 P2) → P r h1) → wX9_yet 1 2048 128 y1 y2 h P
/-- promise of among: from hearts that agree both answer alike, and agree again -/
def ST_among (R : MH → Prop) : Prop := ∀ (y1 : Int32) (y2 : Int32) (h : MH), R h → ∀ P : Int32 → MH → Prop, (∀ (r : Int32) (h1 : MH), hS h1 223 = (1, 10) → (∀ P2 : Int32 → MH → Prop, (∀ h2 : MH, R h2 → P2 r h2) → wX10_among 223 y1 y2 h1 P2) → P r h1) → wX9_among 1 2048 128 y1 y2 h P
/-- promise of bound: from hearts that agree both answer alike, and agree again -/
def ST_bound (R : MH → Prop) : Prop := ∀ (y1 : Int32) (h : MH), R h → ∀ P : Int64 → MH → Prop, (∀ (r : Int64) (h1 : MH), hS h1 223 = (1, 10) → (∀ P2 : Int64 → MH → Prop, (∀ h2 : MH, R h2 → P2 r h2) → wX10_bound 223 y1 h1 P2) → P r h1) → wX9_bound 128 y1 h P
/-- promise of covers: from hearts that agree both answer alike, and agree again -/
def ST_covers (R : MH → Prop) : Prop := ∀ (y1 : Int32) (h : MH), R h → ∀ P : Int32 → MH → Prop, (∀ (r : Int32) (h1 : MH), hS h1 223 = (1, 10) → (∀ P2 : Int32 → MH → Prop, (∀ h2 : MH, R h2 → P2 r h2) → wX10_covers 223 y1 h1 P2) → P r h1) → wX9_covers 128 y1 h P
/-- promise of best: from hearts that agree both answer alike, and agree again -/
def ST_best (R : MH → Prop) : Prop := ∀ (h : MH), R h → ∀ P : Int32 → MH → Prop, (∀ (r : Int32) (h1 : MH), hS h1 223 = (1, 10) → (∀ P2 : Int32 → MH → Prop, (∀ h2 : MH, R h2 → P2 r h2) → wX10_best 223 h1 P2) → P r h1) → wX9_best 128 h P
/-- promise of spare: from hearts that agree both answer alike, and agree again -/
def ST_spare (R : MH → Prop) : Prop := ∀ (h : MH), R h → ∀ P : Int32 → MH → Prop, (∀ (r : Int32) (h1 : MH), hS h1 223 = (1, 10) → (∀ P2 : Int32 → MH → Prop, (∀ h2 : MH, R h2 → P2 r h2) → wX10_spare 223 h1 P2) → P r h1) → wX9_spare 128 h P
/-- promise of runs: from hearts that agree both answer alike, and agree again -/
def ST_runs (R : MH → Prop) : Prop := ∀ (y1 : Int32) (y2 : Int32) (y3 : Int32) (h : MH), R h → ∀ P : Int32 → MH → Prop, (∀ (r : Int32) (h1 : MH), hS h1 223 = (1, 10) → (∀ P2 : Int32 → MH → Prop, (∀ h2 : MH, R h2 → P2 r h2) → wX10_runs 223 y1 y2 y3 h1 P2) → P r h1) → wX9_runs 128 y1 y2 y3 h P
/-- promise of lost: from hearts that agree both answer alike, and agree again -/
def ST_lost (R : MH → Prop) : Prop := ∀ (h : MH), R h → ∀ P : Int32 → MH → Prop, (∀ (r : Int32) (h1 : MH), hS h1 223 = (1, 10) → (∀ P2 : Int32 → MH → Prop, (∀ h2 : MH, R h2 → P2 r h2) → wX10_lost 223 h1 P2) → P r h1) → wX9_lost 128 h P
/-- promise of ifFails: from hearts that agree both answer alike, and agree again -/
def ST_ifFails (R : MH → Prop) : Prop := ∀ (y1 : Int32) (h : MH), R h → ∀ P : Int32 → MH → Prop, (∀ (r : Int32) (h1 : MH), hS h1 223 = (1, 10) → (∀ P2 : Int32 → MH → Prop, (∀ h2 : MH, R h2 → P2 r h2) → wX10_ifFails 223 y1 h1 P2) → P r h1) → wX9_ifFails 128 y1 h P
/-- promise of worst: from hearts that agree both answer alike, and agree again -/
def ST_worst (R : MH → Prop) : Prop := ∀ (h : MH), R h → ∀ P : Int32 → MH → Prop, (∀ (r : Int32) (h1 : MH), hS h1 223 = (1, 10) → (∀ P2 : Int32 → MH → Prop, (∀ h2 : MH, R h2 → P2 r h2) → wX10_worst 223 h1 P2) → P r h1) → wX9_worst 128 h P
/-- promise of two: from hearts that agree both answer alike, and agree again -/
def ST_two (R : MH → Prop) : Prop := ∀ (y1 : Int32) (y2 : Int32) (h : MH), R h → ∀ P : Int32 → MH → Prop, (∀ (r : Int32) (h1 : MH), hS h1 223 = (1, 10) → (∀ P2 : Int32 → MH → Prop, (∀ h2 : MH, R h2 → P2 r h2) → wX10_two 223 y1 y2 h1 P2) → P r h1) → wX9_two 128 y1 y2 h P
/-- promise of twos: from hearts that agree both answer alike, and agree again -/
def ST_twos (R : MH → Prop) : Prop := ∀ (y1 : Int32) (h : MH), R h → ∀ P : Int32 → MH → Prop, (∀ (r : Int32) (h1 : MH), hS h1 223 = (1, 10) → (∀ P2 : Int32 → MH → Prop, (∀ h2 : MH, R h2 → P2 r h2) → wX10_twos 223 y1 h1 P2) → P r h1) → wX9_twos 128 y1 h P
/-- promise of stands: from hearts that agree both answer alike, and agree again -/
def ST_stands (R : MH → Prop) : Prop := ∀ (h : MH), R h → ∀ P : Int32 → MH → Prop, (∀ (r : Int32) (h1 : MH), hS h1 223 = (1, 10) → (∀ P2 : Int32 → MH → Prop, (∀ h2 : MH, R h2 → P2 r h2) → wX10_stands 223 h1 P2) → P r h1) → wX9_stands 128 h P
/-- promise of rings: from hearts that agree both answer alike, and agree again -/
def ST_rings (R : MH → Prop) : Prop := ∀ (h : MH), R h → ∀ P : Int32 → MH → Prop, (∀ (r : Int32) (h1 : MH), hS h1 223 = (1, 10) → (∀ P2 : Int32 → MH → Prop, (∀ h2 : MH, R h2 → P2 r h2) → wX10_rings 223 h1 P2) → P r h1) → wX9_rings 128 h P
/-- promise of bare: from hearts that agree both answer alike, and agree again -/
def ST_bare (R : MH → Prop) : Prop := ∀ (h : MH), R h → ∀ P : Int32 → MH → Prop, (∀ (r : Int32) (h1 : MH), hS h1 223 = (1, 10) → (∀ P2 : Int32 → MH → Prop, (∀ h2 : MH, R h2 → P2 r h2) → wX10_bare 223 h1 P2) → P r h1) → wX9_bare 128 h P
/-- promise of bridges: from hearts that agree both answer alike, and agree again -/
def ST_bridges (R : MH → Prop) : Prop := ∀ (h : MH), R h → ∀ P : Int32 → MH → Prop, (∀ (r : Int32) (h1 : MH), hS h1 223 = (1, 10) → (∀ P2 : Int32 → MH → Prop, (∀ h2 : MH, R h2 → P2 r h2) → wX10_bridges 223 h1 P2) → P r h1) → wX9_bridges 128 h P
/-- promise of cut: from hearts that agree both answer alike, and agree again -/
def ST_cut (R : MH → Prop) : Prop := ∀ (y1 : Int32) (y2 : Int32) (y3 : Int32) (h : MH), R h → ∀ P : Int32 → MH → Prop, (∀ (r : Int32) (h1 : MH), hS h1 223 = (1, 10) → (∀ P2 : Int32 → MH → Prop, (∀ h2 : MH, R h2 → P2 r h2) → wX10_cut 223 y1 y2 y3 h1 P2) → P r h1) → wX9_cut 128 y1 y2 y3 h P
/-- promise of rates: from hearts that agree both answer alike, and agree again -/
def ST_rates (R : MH → Prop) : Prop := ∀ (y1 : Int32) (h : MH), R h → ∀ P : Int32 → MH → Prop, (∀ (r : Int32) (h1 : MH), hS h1 223 = (1, 10) → (∀ P2 : Int32 → MH → Prop, (∀ h2 : MH, R h2 → P2 r h2) → wX10_rates 223 y1 h1 P2) → P r h1) → wX9_rates 128 y1 h P
/-- promise of ask: from hearts that agree both answer alike, and agree again -/
def ST_ask (R : MH → Prop) : Prop := ∀ (y1 : Int32) (h : MH), R h → ∀ P : Int32 → MH → Prop, (∀ (r : Int32) (h1 : MH), hS h1 223 = (1, 10) → (∀ P2 : Int32 → MH → Prop, (∀ h2 : MH, R h2 → P2 r h2) → wX10_ask 223 y1 h1 P2) → P r h1) → wX9_ask 128 y1 h P
/-- promise of chance: from hearts that agree both answer alike, and agree again -/
def ST_chance (R : MH → Prop) : Prop := ∀ (y1 : Int32) (y2 : Int32) (h : MH), R h → ∀ P : Int32 → MH → Prop, (∀ (r : Int32) (h1 : MH), hS h1 223 = (1, 10) → (∀ P2 : Int32 → MH → Prop, (∀ h2 : MH, R h2 → P2 r h2) → wX10_chance 223 y1 y2 h1 P2) → P r h1) → wX9_chance 128 y1 y2 h P
/-- promise of mean: from hearts that agree both answer alike, and agree again -/
def ST_mean (R : MH → Prop) : Prop := ∀ (y1 : Int32) (y2 : Int32) (h : MH), R h → ∀ P : Int32 → MH → Prop, (∀ (r : Int32) (h1 : MH), hS h1 223 = (1, 10) → (∀ P2 : Int32 → MH → Prop, (∀ h2 : MH, R h2 → P2 r h2) → wX10_mean 223 y1 y2 h1 P2) → P r h1) → wX9_mean 128 y1 y2 h P
/-- promise of numbers: from hearts that agree both answer alike, and agree again -/
def ST_numbers (R : MH → Prop) : Prop := ∀ (y1 : Int32) (y2 : Int32) (y3 : Int32) (h : MH), R h → ∀ P : Int32 → MH → Prop, (∀ (r : Int32) (h1 : MH), hS h1 223 = (1, 10) → (∀ P2 : Int32 → MH → Prop, (∀ h2 : MH, R h2 → P2 r h2) → wX10_numbers 223 y1 y2 y3 h1 P2) → P r h1) → wX9_numbers 128 y1 y2 y3 h P
/-- promise of write: from hearts that agree both answer alike, and agree again -/
def ST_write (R : MH → Prop) : Prop := ∀ (y1 y2 : Int32) (y3 : Int64) (h : MH), R h → ∀ P : Int64 → MH → Prop, (∀ (r : Int64) (h1 : MH), hS h1 223 = (1, 10) → (∀ P2 : Int64 → MH → Prop, (∀ h2 : MH, R h2 → P2 r h2) → wX10_write 223 y1 y2 y3 h1 P2) → P r h1) → wX9_write 128 y1 y2 y3 h P
/-- promise of lists: from hearts that agree both answer alike, and agree again -/
def ST_lists (R : MH → Prop) : Prop := ∀ (y1 : Int32) (y2 : Int32) (h : MH), R h → ∀ P : Int32 → MH → Prop, (∀ (r : Int32) (h1 : MH), hS h1 223 = (1, 10) → (∀ P2 : Int32 → MH → Prop, (∀ h2 : MH, R h2 → P2 r h2) → wX10_lists 223 y1 y2 h1 P2) → P r h1) → wX9_lists 1 2048 128 y1 y2 h P
/-- promise of image: from hearts that agree both answer alike, and agree again -/
def ST_image (R : MH → Prop) : Prop := ∀ (y1 : Int32) (h : MH), R h → ∀ P : Int32 → MH → Prop, (∀ (r : Int32) (h1 : MH), hS h1 223 = (1, 10) → (∀ P2 : Int32 → MH → Prop, (∀ h2 : MH, R h2 → P2 r h2) → wX10_image 223 y1 h1 P2) → P r h1) → wX9_image 128 y1 h P
/-- promise of restore: from hearts that agree both answer alike, and agree again -/
def ST_restore (R : MH → Prop) : Prop := ∀ (y1 : Int32) (h : MH), R h → ∀ P : Int32 → MH → Prop, (∀ (r : Int32) (h1 : MH), hS h1 223 = (1, 10) → (∀ P2 : Int32 → MH → Prop, (∀ h2 : MH, R h2 → P2 r h2) → wX10_restore 223 y1 h1 P2) → P r h1) → wX9_restore 128 y1 h P
/-- promise of count: from hearts that agree both answer alike, and agree again -/
def ST_count (R : MH → Prop) : Prop := ∀ (y1 : Int32) (h : MH), R h → ∀ P : Int32 → MH → Prop, (∀ (r : Int32) (h1 : MH), hS h1 223 = (1, 10) → (∀ P2 : Int32 → MH → Prop, (∀ h2 : MH, R h2 → P2 r h2) → wX10_count 223 y1 h1 P2) → P r h1) → wX9_count 128 y1 h P
