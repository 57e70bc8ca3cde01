/-! calls: what both are asked, and how the answers are held against one another -/
/-- a call that may throw: the law's code u and the reference's are the same, and without a throw the answers -/
def OPI (c : Nat) (W R : Mem → Option (Int32 × Mem)) : Prop := ∀ M, Inv c M → ∃ u N v K, W M = some (u, N) ∧ R N = some (v, K) ∧ K.1 37 0 = u ∧ (u = 0 → K.2 55 0 = v.toInt64) ∧ Inv (c + 1) K
/-- a call that may throw and answers yes or no -/
def OPB (c : Nat) (W R : Mem → Option (Int32 × Mem)) : Prop := ∀ M, Inv c M → ∃ u N v K, W M = some (u, N) ∧ R N = some (v, K) ∧ K.1 37 0 = u ∧ (u = 0 → (v = 0 → K.2 55 0 = 0) ∧ (v ≠ 0 → K.2 55 0 = 1)) ∧ Inv (c + 1) K
/-- a call that never throws -/
def OPE (c : Nat) (W R : Mem → Option (Int32 × Mem)) : Prop := ∀ M, Inv c M → ∃ u N K, W M = some (u, N) ∧ R N = some (u, K) ∧ Inv (c + 1) K
section WR
variable {F : Nat} {M : Mem}
theorem w_sheet_ok {a1 a2 u : Int32} {N : Mem} (h : tX8_sheet F a1 a2 M = none) (hf : fX8_sheet F a1 a2 M = some (u, N)) : wL_sheet F a1 a2 M = some (0, pL N 55 0 u.toInt64) := by
  unfold wL_sheet
  rw [h]
  show fL_sheet F a1 a2 M = _
  unfold fL_sheet
  rw [hf]
  rfl
theorem w_size_ok {a1 u : Int32} {N : Mem} (h : tX8_size F a1 M = none) (hf : fX8_size F a1 M = some (u, N)) : wL_size F a1 M = some (0, pL N 55 0 u.toInt64) := by
  unfold wL_size
  rw [h]
  show fL_size F a1 M = _
  unfold fL_size
  rw [hf]
  rfl
theorem w_at_ok {a1 a2 u : Int32} {N : Mem} (h : tX8_at F a1 a2 M = none) (hf : fX8_at F a1 a2 M = some (u, N)) : wL_at F a1 a2 M = some (0, pL N 55 0 u.toInt64) := by
  unfold wL_at
  rw [h]
  show fL_at F a1 a2 M = _
  unfold fL_at
  rw [hf]
  rfl
theorem w_clash_ok {a1 u : Int32} {N : Mem} (h : tX8_clash F a1 M = none) (hf : fX8_clash F a1 M = some (u, N)) : wL_clash F a1 M = some (0, pL N 55 0 u.toInt64) := by
  unfold wL_clash
  rw [h]
  show fL_clash F a1 M = _
  unfold fL_clash
  rw [hf]
  rfl
theorem w_witness_ok {a1 u : Int32} {N : Mem} (h : tX8_witness F a1 M = none) (hf : fX8_witness F a1 M = some (u, N)) : wL_witness F a1 M = some (0, pL N 55 0 u.toInt64) := by
  unfold wL_witness
  rw [h]
  show fL_witness F a1 M = _
  unfold fL_witness
  rw [hf]
  rfl
theorem w_room_ok {a1 u : Int32} {N : Mem} (h : tX8_room F a1 M = none) (hf : fX8_room F a1 M = some (u, N)) : wL_room F a1 M = some (0, pL N 55 0 u.toInt64) := by
  unfold wL_room
  rw [h]
  show fL_room F a1 M = _
  unfold fL_room
  rw [hf]
  rfl
theorem w_greatest_ok {a1 a2 u : Int32} {N : Mem} (h : tX8_greatest F a1 a2 M = none) (hf : fX8_greatest F a1 a2 M = some (u, N)) : wL_greatest F a1 a2 M = some (0, pL N 55 0 u.toInt64) := by
  unfold wL_greatest
  rw [h]
  show fL_greatest F a1 a2 M = _
  unfold fL_greatest
  rw [hf]
  rfl
theorem w_list_ok {a1 u : Int32} {N : Mem} (h : tX8_list F a1 M = none) (hf : fX8_list F a1 M = some (u, N)) : wL_list F a1 M = some (0, pL N 55 0 u.toInt64) := by
  unfold wL_list
  rw [h]
  show fL_list F a1 M = _
  unfold fL_list
  rw [hf]
  rfl
theorem w_listed_ok {a1 a2 u : Int32} {N : Mem} (h : tX8_listed F a1 a2 M = none) (hf : fX8_listed F a1 a2 M = some (u, N)) : wL_listed F a1 a2 M = some (0, pL N 55 0 u.toInt64) := by
  unfold wL_listed
  rw [h]
  show fL_listed F a1 a2 M = _
  unfold fL_listed
  rw [hf]
  rfl
theorem w_kinds_ok {a1 u : Int32} {N : Mem} (h : tX8_kinds F a1 M = none) (hf : fX8_kinds F a1 M = some (u, N)) : wL_kinds F a1 M = some (0, pL N 55 0 u.toInt64) := by
  unfold wL_kinds
  rw [h]
  show fL_kinds F a1 M = _
  unfold fL_kinds
  rw [hf]
  rfl
theorem w_kind_ok {a1 a2 a3 u : Int32} {N : Mem} (h : tX8_kind F a1 a2 a3 M = none) (hf : fX8_kind F a1 a2 a3 M = some (u, N)) : wL_kind F a1 a2 a3 M = some (0, pL N 55 0 u.toInt64) := by
  unfold wL_kind
  rw [h]
  show fL_kind F a1 a2 a3 M = _
  unfold fL_kind
  rw [hf]
  rfl
theorem w_count_ok {a1 u : Int32} {N : Mem} (h : tX8_count F a1 M = none) (hf : fX8_count F a1 M = some (u, N)) : wL_count F a1 M = some (0, pL N 55 0 u.toInt64) := by
  unfold wL_count
  rw [h]
  show fL_count F a1 M = _
  unfold fL_count
  rw [hf]
  rfl
theorem w_colours_ok {a1 a2 u : Int32} {N : Mem} (h : tX8_colours F a1 a2 M = none) (hf : fX8_colours F a1 a2 M = some (u, N)) : wL_colours F a1 a2 M = some (0, pL N 55 0 u.toInt64) := by
  unfold wL_colours
  rw [h]
  show fL_colours F a1 a2 M = _
  unfold fL_colours
  rw [hf]
  rfl
theorem w_forced_ok {a1 a2 u : Int32} {N : Mem} (h : tX8_forced F a1 a2 M = none) (hf : fX8_forced F a1 a2 M = some (u, N)) : wL_forced F a1 a2 M = some (0, pL N 55 0 u.toInt64) := by
  unfold wL_forced
  rw [h]
  show fL_forced F a1 a2 M = _
  unfold fL_forced
  rw [hf]
  rfl
theorem w_sums_ok {a1 a2 a3 a4 u : Int32} {N : Mem} (h : tX8_sums F a1 a2 a3 a4 M = none) (hf : fX8_sums F a1 a2 a3 a4 M = some (u, N)) : wL_sums F a1 a2 a3 a4 M = some (0, pL N 55 0 u.toInt64) := by
  unfold wL_sums
  rw [h]
  show fL_sums F a1 a2 a3 a4 M = _
  unfold fL_sums
  rw [hf]
  rfl
theorem w_energy_ok {a1 u : Int32} {N : Mem} (h : tX8_energy F a1 M = none) (hf : fX8_energy F a1 M = some (u, N)) : wL_energy F a1 M = some (0, pL N 55 0 u.toInt64) := by
  unfold wL_energy
  rw [h]
  show fL_energy F a1 M = _
  unfold fL_energy
  rw [hf]
  rfl
theorem w_order_ok {a1 u : Int32} {N : Mem} (h : tX8_order F a1 M = none) (hf : fX8_order F a1 M = some (u, N)) : wL_order F a1 M = some (0, pL N 55 0 u.toInt64) := by
  unfold wL_order
  rw [h]
  show fL_order F a1 M = _
  unfold fL_order
  rw [hf]
  rfl
theorem w_keep_ok {a1 a2 u : Int32} {N : Mem} (h : tX8_keep F a1 a2 M = none) (hf : fX8_keep F a1 a2 M = some (u, N)) : wL_keep F a1 a2 M = some (0, pL N 55 0 u.toInt64) := by
  unfold wL_keep
  rw [h]
  show fL_keep F a1 a2 M = _
  unfold fL_keep
  rw [hf]
  rfl
theorem w_has_ok {a1 a2 : Int32} {b : Bool} {N : Mem} (h : tX8_has F a1 a2 M = none) (hf : fX8_has F a1 a2 M = some (bi b, N)) : wL_has F a1 a2 M = some (0, pL N 55 0 (if b then 1 else 0)) := by
  unfold wL_has
  rw [h]
  show fL_has F a1 a2 M = _
  unfold fL_has
  rw [hf]
  cases b <;> rfl
theorem w_put_ok {a1 a2 a3 : Int32} {b : Bool} {N : Mem} (h : tX8_put F a1 a2 a3 M = none) (hf : fX8_put F a1 a2 a3 M = some (bi b, N)) : wL_put F a1 a2 a3 M = some (0, pL N 55 0 (if b then 1 else 0)) := by
  unfold wL_put
  rw [h]
  show fL_put F a1 a2 a3 M = _
  unfold fL_put
  rw [hf]
  cases b <;> rfl
theorem nIA : ¬ exA = exI := by decide
theorem nIN : ¬ exN = exI := by decide
theorem w_sheet_I {a1 a2 : Int32} (h : tX8_sheet F a1 a2 M = some exI) : wL_sheet F a1 a2 M = some (1, M) := by
  unfold wL_sheet
  rw [h]
  exact if_pos rfl
theorem w_sheet_A {a1 a2 : Int32} (h : tX8_sheet F a1 a2 M = some exA) : wL_sheet F a1 a2 M = some (2, M) := by
  unfold wL_sheet
  rw [h]
  exact (if_neg nIA).trans (if_pos rfl)
theorem w_size_I {a1 : Int32} (h : tX8_size F a1 M = some exI) : wL_size F a1 M = some (1, M) := by
  unfold wL_size
  rw [h]
  exact if_pos rfl
theorem w_at_I {a1 a2 : Int32} (h : tX8_at F a1 a2 M = some exI) : wL_at F a1 a2 M = some (1, M) := by
  unfold wL_at
  rw [h]
  exact if_pos rfl
theorem w_at_N {a1 a2 : Int32} (h : tX8_at F a1 a2 M = some exN) : wL_at F a1 a2 M = some (2, M) := by
  unfold wL_at
  rw [h]
  exact (if_neg nIN).trans (if_pos rfl)
theorem w_clash_I {a1 : Int32} (h : tX8_clash F a1 M = some exI) : wL_clash F a1 M = some (1, M) := by
  unfold wL_clash
  rw [h]
  exact if_pos rfl
theorem w_witness_N {a1 : Int32} (h : tX8_witness F a1 M = some exN) : wL_witness F a1 M = some (1, M) := by
  unfold wL_witness
  rw [h]
  exact if_pos rfl
theorem w_room_I {a1 : Int32} (h : tX8_room F a1 M = some exI) : wL_room F a1 M = some (1, M) := by
  unfold wL_room
  rw [h]
  exact if_pos rfl
theorem w_greatest_I {a1 a2 : Int32} (h : tX8_greatest F a1 a2 M = some exI) : wL_greatest F a1 a2 M = some (1, M) := by
  unfold wL_greatest
  rw [h]
  exact if_pos rfl
theorem w_greatest_A {a1 a2 : Int32} (h : tX8_greatest F a1 a2 M = some exA) : wL_greatest F a1 a2 M = some (2, M) := by
  unfold wL_greatest
  rw [h]
  exact (if_neg nIA).trans (if_pos rfl)
theorem w_list_A {a1 : Int32} (h : tX8_list F a1 M = some exA) : wL_list F a1 M = some (1, M) := by
  unfold wL_list
  rw [h]
  exact if_pos rfl
theorem w_listed_I {a1 a2 : Int32} (h : tX8_listed F a1 a2 M = some exI) : wL_listed F a1 a2 M = some (1, M) := by
  unfold wL_listed
  rw [h]
  exact if_pos rfl
theorem w_kinds_A {a1 : Int32} (h : tX8_kinds F a1 M = some exA) : wL_kinds F a1 M = some (1, M) := by
  unfold wL_kinds
  rw [h]
  exact if_pos rfl
theorem w_kind_A {a1 a2 a3 : Int32} (h : tX8_kind F a1 a2 a3 M = some exA) : wL_kind F a1 a2 a3 M = some (1, M) := by
  unfold wL_kind
  rw [h]
  exact if_pos rfl
theorem w_count_A {a1 : Int32} (h : tX8_count F a1 M = some exA) : wL_count F a1 M = some (1, M) := by
  unfold wL_count
  rw [h]
  exact if_pos rfl
theorem w_colours_A {a1 a2 : Int32} (h : tX8_colours F a1 a2 M = some exA) : wL_colours F a1 a2 M = some (1, M) := by
  unfold wL_colours
  rw [h]
  exact if_pos rfl
theorem w_forced_A {a1 a2 : Int32} (h : tX8_forced F a1 a2 M = some exA) : wL_forced F a1 a2 M = some (1, M) := by
  unfold wL_forced
  rw [h]
  exact if_pos rfl
theorem w_sums_I {a1 a2 a3 a4 : Int32} (h : tX8_sums F a1 a2 a3 a4 M = some exI) : wL_sums F a1 a2 a3 a4 M = some (1, M) := by
  unfold wL_sums
  rw [h]
  exact if_pos rfl
theorem w_energy_I {a1 : Int32} (h : tX8_energy F a1 M = some exI) : wL_energy F a1 M = some (1, M) := by
  unfold wL_energy
  rw [h]
  exact if_pos rfl
theorem w_order_I {a1 : Int32} (h : tX8_order F a1 M = some exI) : wL_order F a1 M = some (1, M) := by
  unfold wL_order
  rw [h]
  exact if_pos rfl
theorem w_keep_I {a1 a2 : Int32} (h : tX8_keep F a1 a2 M = some exI) : wL_keep F a1 a2 M = some (1, M) := by
  unfold wL_keep
  rw [h]
  exact if_pos rfl
theorem w_keep_A {a1 a2 : Int32} (h : tX8_keep F a1 a2 M = some exA) : wL_keep F a1 a2 M = some (2, M) := by
  unfold wL_keep
  rw [h]
  exact (if_neg nIA).trans (if_pos rfl)
theorem w_has_I {a1 a2 : Int32} (h : tX8_has F a1 a2 M = some exI) : wL_has F a1 a2 M = some (1, M) := by
  unfold wL_has
  rw [h]
  exact if_pos rfl
theorem w_put_I {a1 a2 a3 : Int32} (h : tX8_put F a1 a2 a3 M = some exI) : wL_put F a1 a2 a3 M = some (1, M) := by
  unfold wL_put
  rw [h]
  exact if_pos rfl
theorem rs_0 {z : Int} (hz : I32 z) (h : ¬ (0 ≤ z ∧ z < 8)) : tX8_requireSet F (ii z) M = some exI ∧ fX9_isSet F (ii z) M = some (0, M) := by
  unfold tX8_requireSet fX9_isSet
  by_cases q : z < 0
  · rw [if_pos (by rw [ii_lit0, ii_lt hz.1 hz.2 (by omega) (by omega)]; exact q), if_pos (by rw [ii_lit0, ii_lt hz.1 hz.2 (by omega) (by omega)]; exact q)]
    exact ⟨rfl, rfl⟩
  · rw [if_neg (by rw [ii_lit0, ii_lt hz.1 hz.2 (by omega) (by omega)]; exact q), if_neg (by rw [show (8 : Int32) = ii 8 from rfl, ii_lt hz.1 hz.2 (by omega) (by omega)]; omega), if_neg (by rw [ii_lit0, ii_lt hz.1 hz.2 (by omega) (by omega)]; exact q), if_pos (by rw [show (8 : Int32) = ii 8 from rfl, ii_le (by omega) (by omega) hz.1 hz.2]; omega)]
    exact ⟨rfl, rfl⟩
theorem rs_1 {k : Nat} (h : k < 8) : tX8_requireSet F (ii k) M = none ∧ fX8_requireSet F (ii k) M = some M ∧ fX9_isSet F (ii k) M = some (1, M) := by
  unfold tX8_requireSet fX8_requireSet fX9_isSet
  rw [if_neg (by rw [ii_lit0, ii_lt] <;> omega), if_pos (by rw [show (8 : Int32) = ii 8 from rfl, ii_lt] <;> omega), if_neg (by rw [ii_lit0, ii_lt] <;> omega), if_pos (by rw [show (8 : Int32) = ii 8 from rfl, ii_lt] <;> omega), if_neg (by rw [ii_lit0, ii_lt] <;> omega), if_neg (by rw [show (8 : Int32) = ii 8 from rfl, ii_le] <;> omega)]
  exact ⟨rfl, rfl, rfl⟩
theorem rl_0 {z : Int} (hz : I32 z) (h : ¬ (1 ≤ z ∧ z ≤ 50000)) : tX8_requireLooks F (ii z) M = some exA ∧ fX9_isLooks F (ii z) M = some (0, M) := by
  unfold tX8_requireLooks fX9_isLooks
  by_cases q : z < 1
  · rw [if_pos (by rw [ii_lit1, ii_lt hz.1 hz.2 (by omega) (by omega)]; exact q), if_pos (by rw [ii_lit1, ii_lt hz.1 hz.2 (by omega) (by omega)]; exact q)]
    exact ⟨rfl, rfl⟩
  · rw [if_neg (by rw [ii_lit1, ii_lt hz.1 hz.2 (by omega) (by omega)]; exact q), if_neg (by rw [show (50000 : Int32) = ii 50000 from rfl, ii_le hz.1 hz.2 (by omega) (by omega)]; omega), if_neg (by rw [ii_lit1, ii_lt hz.1 hz.2 (by omega) (by omega)]; exact q), if_pos (by rw [show (50000 : Int32) = ii 50000 from rfl, ii_lt (by omega) (by omega) hz.1 hz.2]; omega)]
    exact ⟨rfl, rfl⟩
theorem rl_1 {k : Nat} (h : 1 ≤ k ∧ k ≤ 50000) : tX8_requireLooks F (ii k) M = none ∧ fX8_requireLooks F (ii k) M = some M ∧ fX9_isLooks F (ii k) M = some (1, M) := by
  unfold tX8_requireLooks fX8_requireLooks fX9_isLooks
  rw [if_neg (by rw [ii_lit1, ii_lt] <;> omega), if_pos (by rw [show (50000 : Int32) = ii 50000 from rfl, ii_le] <;> omega), if_neg (by rw [ii_lit1, ii_lt] <;> omega), if_pos (by rw [show (50000 : Int32) = ii 50000 from rfl, ii_le] <;> omega), if_neg (by rw [ii_lit1, ii_lt] <;> omega), if_neg (by rw [show (50000 : Int32) = ii 50000 from rfl, ii_lt] <;> omega)]
  exact ⟨rfl, rfl, rfl⟩
theorem rc_0 {z : Int} (hz : I32 z) (h : ¬ (1 ≤ z ∧ z ≤ 8)) : tX8_requireColours F (ii z) M = some exA ∧ fX9_isColours F (ii z) M = some (0, M) := by
  unfold tX8_requireColours fX9_isColours
  by_cases q : z < 1
  · rw [if_pos (by rw [ii_lit1, ii_lt hz.1 hz.2 (by omega) (by omega)]; exact q), if_pos (by rw [ii_lit1, ii_lt hz.1 hz.2 (by omega) (by omega)]; exact q)]
    exact ⟨rfl, rfl⟩
  · rw [if_neg (by rw [ii_lit1, ii_lt hz.1 hz.2 (by omega) (by omega)]; exact q), if_neg (by rw [show (8 : Int32) = ii 8 from rfl, ii_le hz.1 hz.2 (by omega) (by omega)]; omega), if_neg (by rw [ii_lit1, ii_lt hz.1 hz.2 (by omega) (by omega)]; exact q), if_pos (by rw [show (8 : Int32) = ii 8 from rfl, ii_lt (by omega) (by omega) hz.1 hz.2]; omega)]
    exact ⟨rfl, rfl⟩
theorem rc_1 {k : Nat} (h : 1 ≤ k ∧ k ≤ 8) : tX8_requireColours F (ii k) M = none ∧ fX8_requireColours F (ii k) M = some M ∧ fX9_isColours F (ii k) M = some (1, M) := by
  unfold tX8_requireColours fX8_requireColours fX9_isColours
  rw [if_neg (by rw [ii_lit1, ii_lt] <;> omega), if_pos (by rw [show (8 : Int32) = ii 8 from rfl, ii_le] <;> omega), if_neg (by rw [ii_lit1, ii_lt] <;> omega), if_pos (by rw [show (8 : Int32) = ii 8 from rfl, ii_le] <;> omega), if_neg (by rw [ii_lit1, ii_lt] <;> omega), if_neg (by rw [show (8 : Int32) = ii 8 from rfl, ii_lt] <;> omega)]
  exact ⟨rfl, rfl, rfl⟩
theorem rt_0 {z : Int} (hz : I32 z) (h : ¬ (0 ≤ z ∧ z ≤ 7)) : tX8_requireTurns F (ii z) M = some exA := by
  unfold tX8_requireTurns
  by_cases q : z < 0
  · rw [if_pos (by rw [ii_lit0, ii_lt hz.1 hz.2 (by omega) (by omega)]; exact q)]
  · rw [if_neg (by rw [ii_lit0, ii_lt hz.1 hz.2 (by omega) (by omega)]; exact q), if_neg (by rw [show (7 : Int32) = ii 7 from rfl, ii_le hz.1 hz.2 (by omega) (by omega)]; omega)]
theorem rt_1 {k : Nat} (h : k < 8) : tX8_requireTurns F (ii k) M = none ∧ fX8_requireTurns F (ii k) M = some M := by
  unfold tX8_requireTurns fX8_requireTurns
  rw [if_neg (by rw [ii_lit0, ii_lt] <;> omega), if_pos (by rw [show (7 : Int32) = ii 7 from rfl, ii_le] <;> omega), if_neg (by rw [ii_lit0, ii_lt] <;> omega), if_pos (by rw [show (7 : Int32) = ii 7 from rfl, ii_le] <;> omega)]
  exact ⟨rfl, rfl⟩
theorem tor_s {α : Type} (x : α) (k : Option α) : tor (some x) k = some x := rfl
theorem tor_n {α : Type} (k : Option α) : tor none k = k := rfl
end WR
