/-! the law's steps: each call and the comparison after it -/
section ST
variable {F c L : Nat} {xs : Nat → Int32} {k : Int32 → Mem → Option Mem} {x4 : Int32} {M : Mem}
theorem lgc (a : Int64) : lg_cmp a a = 0 := (lg_cmp_eq _ _).mpr rfl
theorem stE {W R : Mem → Option (Int32 × Mem)} {v : Int32} (h : OPE c W R) (hM : Inv c M) (hk : ∀ K, Inv (c + 1) K → ∃ M', k v K = some M') : ∃ M', bd (W M) (fun u N => bd (R N) (fun r K => if u = r then k v K else none)) = some M' := by
  obtain ⟨u, N, K, a1, a2, a3⟩ := h M hM
  obtain ⟨M', hM'⟩ := hk K a3
  exact ⟨M', by rw [a1, bd_eq, a2, bd_eq, if_pos rfl, hM']⟩
theorem stI {W R : Mem → Option (Int32 × Mem)} {v : Int32} (h : OPI c W R) (hM : Inv c M) (hk : ∀ K, Inv (c + 1) K → ∃ M', k v K = some M') : ∃ M', bd (W M) (fun u N => bd (R N) (fun r K => bd (fX9_thrown F K) (fun t K2 => if t = u then (if u = 0 then (if lg_cmp (K2.2 55 (Int32.toNatClampNeg (0 : Int32))) (Int32.toInt64 r) = 0 then k v K2 else none) else k v K2) else none))) = some M' := by
  obtain ⟨u, N, r, K, a1, a2, a3, a4, a5⟩ := h M hM
  obtain ⟨M', hM'⟩ := hk K a5
  refine ⟨M', ?_⟩
  rw [a1, bd_eq, a2, bd_eq]
  unfold fX9_thrown
  rw [bd_eq, if_pos a3, show Int32.toNatClampNeg (0 : Int32) = 0 from rfl]
  by_cases q : u = 0
  · rw [if_pos q, a4 q, lgc, if_pos rfl, hM']
  · rw [if_neg q, hM']
theorem stB {W R : Mem → Option (Int32 × Mem)} {v : Int32} (h : OPB c W R) (hM : Inv c M) (hk : ∀ K, Inv (c + 1) K → ∃ M', k v K = some M') : ∃ M', bd (W M) (fun u N => bd (R N) (fun r K => bd (fX9_thrown F K) (fun t K2 => if t = u then (if u = 0 then (if r = 0 then (if lg_cmp (K2.2 55 (Int32.toNatClampNeg (0 : Int32))) (0 : Int64) = 0 then k v K2 else none) else (if lg_cmp (K2.2 55 (Int32.toNatClampNeg (0 : Int32))) (1 : Int64) = 0 then k v K2 else none)) else k v K2) else none))) = some M' := by
  obtain ⟨u, N, r, K, a1, a2, a3, a4, a5⟩ := h M hM
  obtain ⟨M', hM'⟩ := hk K a5
  refine ⟨M', ?_⟩
  rw [a1, bd_eq, a2, bd_eq]
  unfold fX9_thrown
  rw [bd_eq, if_pos a3, show Int32.toNatClampNeg (0 : Int32) = 0 from rfl]
  by_cases q : u = 0
  · obtain ⟨b1, b2⟩ := a4 q
    rw [if_pos q]
    by_cases q2 : r = 0
    · rw [if_pos q2, b1 q2, lgc, if_pos rfl, hM']
    · rw [if_neg q2, b2 q2, lgc, if_pos rfl, hM']
  · rw [if_neg q, hM']
theorem g01 : inb (0 : Int32) 1 = true := by decide
theorem s_feed (hF : 100000 ≤ F) (g1 : inb (x4 + (1 : Int32)) L = true) (g2 : inb (x4 + (2 : Int32)) L = true) (g3 : inb (x4 + (3 : Int32)) L = true) (g4 : inb (x4 + (4 : Int32)) L = true) (g5 : inb (x4 + (5 : Int32)) L = true) (hM : Inv c M) (hk : ∀ K, Inv (c + 1) K → ∃ M', k (x4 + 6) K = some M') : ∃ M', fL_c164 F xs L k x4 M = some M' := by
  unfold fL_c164
  simp only [g1, g2, g3, g4, g5, gd_eq, nm_eq]
  exact stE (op_feed (c := c) (F := F) hF (xs (Int32.toNatClampNeg (x4 + (1 : Int32)))) (xs (Int32.toNatClampNeg (x4 + (2 : Int32)))) (xs (Int32.toNatClampNeg (x4 + (3 : Int32)))) (xs (Int32.toNatClampNeg (x4 + (4 : Int32)))) (xs (Int32.toNatClampNeg (x4 + (5 : Int32))))) hM hk
theorem s_end (g1 : inb (x4 + (1 : Int32)) L = true) (hM : Inv c M) (hk : ∀ K, Inv (c + 1) K → ∃ M', k (x4 + 6) K = some M') : ∃ M', fL_c237 F xs L k x4 M = some M' := by
  unfold fL_c237
  simp only [g1, gd_eq, nm_eq]
  exact stE (op_end (c := c) (F := F)  (xs (Int32.toNatClampNeg (x4 + (1 : Int32))))) hM hk
theorem s_ground (hF : 100000 ≤ F) (g1 : inb (x4 + (1 : Int32)) L = true) (g2 : inb (x4 + (2 : Int32)) L = true) (hM : Inv c M) (hk : ∀ K, Inv (c + 1) K → ∃ M', k (x4 + 6) K = some M') : ∃ M', fL_c262 F xs L k x4 M = some M' := by
  unfold fL_c262
  simp only [g1, g2, gd_eq, nm_eq]
  exact stE (op_ground (c := c) (F := F) hF (xs (Int32.toNatClampNeg (x4 + (1 : Int32)))) (xs (Int32.toNatClampNeg (x4 + (2 : Int32))))) hM hk
theorem s_sheet (hF : 100000 ≤ F) (g1 : inb (x4 + (1 : Int32)) L = true) (g2 : inb (x4 + (2 : Int32)) L = true) (hM : Inv c M) (hk : ∀ K, Inv (c + 1) K → ∃ M', k (x4 + 6) K = some M') : ∃ M', fL_c299 F xs L k x4 M = some M' := by
  unfold fL_c299
  simp only [g1, g2, g01, gd_eq, nm_eq]
  exact stI (op_sheet (c := c) (F := F) hF (xs (Int32.toNatClampNeg (x4 + (1 : Int32)))) (xs (Int32.toNatClampNeg (x4 + (2 : Int32))))) hM hk
theorem s_put (g1 : inb (x4 + (1 : Int32)) L = true) (g2 : inb (x4 + (2 : Int32)) L = true) (g3 : inb (x4 + (3 : Int32)) L = true) (hM : Inv c M) (hk : ∀ K, Inv (c + 1) K → ∃ M', k (x4 + 6) K = some M') : ∃ M', fL_c367 F xs L k x4 M = some M' := by
  unfold fL_c367
  simp only [g1, g2, g3, g01, gd_eq, nm_eq]
  by_cases q : xs (Int32.toNatClampNeg (x4 + (3 : Int32))) = 0
  · have o : OPB c (wL_put F (xs (Int32.toNatClampNeg (x4 + (1 : Int32)))) (xs (Int32.toNatClampNeg (x4 + (2 : Int32)))) (0 : Int32)) (fX9_put F (xs (Int32.toNatClampNeg (x4 + (1 : Int32)))) (xs (Int32.toNatClampNeg (x4 + (2 : Int32)))) (0 : Int32)) := op_put (c := c) (F := F) (xs (Int32.toNatClampNeg (x4 + (1 : Int32)))) (xs (Int32.toNatClampNeg (x4 + (2 : Int32)))) false
    simp only [if_pos q]
    exact stB o hM hk
  · have o : OPB c (wL_put F (xs (Int32.toNatClampNeg (x4 + (1 : Int32)))) (xs (Int32.toNatClampNeg (x4 + (2 : Int32)))) (1 : Int32)) (fX9_put F (xs (Int32.toNatClampNeg (x4 + (1 : Int32)))) (xs (Int32.toNatClampNeg (x4 + (2 : Int32)))) (1 : Int32)) := op_put (c := c) (F := F) (xs (Int32.toNatClampNeg (x4 + (1 : Int32)))) (xs (Int32.toNatClampNeg (x4 + (2 : Int32)))) true
    simp only [if_neg q]
    exact stB o hM hk
theorem s_has (g1 : inb (x4 + (1 : Int32)) L = true) (g2 : inb (x4 + (2 : Int32)) L = true) (hM : Inv c M) (hk : ∀ K, Inv (c + 1) K → ∃ M', k (x4 + 6) K = some M') : ∃ M', fL_c470 F xs L k x4 M = some M' := by
  unfold fL_c470
  simp only [g1, g2, g01, gd_eq, nm_eq]
  exact stB (op_has (c := c) (F := F)  (xs (Int32.toNatClampNeg (x4 + (1 : Int32)))) (xs (Int32.toNatClampNeg (x4 + (2 : Int32))))) hM hk
theorem s_size (hF : 100000 ≤ F) (g1 : inb (x4 + (1 : Int32)) L = true) (hM : Inv c M) (hk : ∀ K, Inv (c + 1) K → ∃ M', k (x4 + 6) K = some M') : ∃ M', fL_c545 F xs L k x4 M = some M' := by
  unfold fL_c545
  simp only [g1, g01, gd_eq, nm_eq]
  exact stI (op_size (c := c) (F := F) hF (xs (Int32.toNatClampNeg (x4 + (1 : Int32))))) hM hk
theorem s_at (hF : 100000 ≤ F) (g1 : inb (x4 + (1 : Int32)) L = true) (g2 : inb (x4 + (2 : Int32)) L = true) (hM : Inv c M) (hk : ∀ K, Inv (c + 1) K → ∃ M', k (x4 + 6) K = some M') : ∃ M', fL_c601 F xs L k x4 M = some M' := by
  unfold fL_c601
  simp only [g1, g2, g01, gd_eq, nm_eq]
  exact stI (op_at (c := c) (F := F) hF (xs (Int32.toNatClampNeg (x4 + (1 : Int32)))) (xs (Int32.toNatClampNeg (x4 + (2 : Int32))))) hM hk
theorem s_law (g1 : inb (x4 + (1 : Int32)) L = true) (g2 : inb (x4 + (2 : Int32)) L = true) (g3 : inb (x4 + (3 : Int32)) L = true) (g4 : inb (x4 + (4 : Int32)) L = true) (g5 : inb (x4 + (5 : Int32)) L = true) (hM : Inv c M) (hk : ∀ K, Inv (c + 1) K → ∃ M', k (x4 + 6) K = some M') : ∃ M', fL_c669 F xs L k x4 M = some M' := by
  unfold fL_c669
  simp only [g1, g2, g3, g4, g5, gd_eq, nm_eq]
  by_cases q : xs (Int32.toNatClampNeg (x4 + (5 : Int32))) = 0
  · have o : OPE c (fX8_law F (xs (Int32.toNatClampNeg (x4 + (1 : Int32)))) (xs (Int32.toNatClampNeg (x4 + (2 : Int32)))) (xs (Int32.toNatClampNeg (x4 + (3 : Int32)))) (xs (Int32.toNatClampNeg (x4 + (4 : Int32)))) (0 : Int32)) (fX9_law F (xs (Int32.toNatClampNeg (x4 + (1 : Int32)))) (xs (Int32.toNatClampNeg (x4 + (2 : Int32)))) (xs (Int32.toNatClampNeg (x4 + (3 : Int32)))) (xs (Int32.toNatClampNeg (x4 + (4 : Int32)))) (0 : Int32)) := op_law (c := c) (F := F) (xs (Int32.toNatClampNeg (x4 + (1 : Int32)))) (xs (Int32.toNatClampNeg (x4 + (2 : Int32)))) (xs (Int32.toNatClampNeg (x4 + (3 : Int32)))) (xs (Int32.toNatClampNeg (x4 + (4 : Int32)))) false
    simp only [if_pos q]
    exact stE o hM hk
  · have o : OPE c (fX8_law F (xs (Int32.toNatClampNeg (x4 + (1 : Int32)))) (xs (Int32.toNatClampNeg (x4 + (2 : Int32)))) (xs (Int32.toNatClampNeg (x4 + (3 : Int32)))) (xs (Int32.toNatClampNeg (x4 + (4 : Int32)))) (1 : Int32)) (fX9_law F (xs (Int32.toNatClampNeg (x4 + (1 : Int32)))) (xs (Int32.toNatClampNeg (x4 + (2 : Int32)))) (xs (Int32.toNatClampNeg (x4 + (3 : Int32)))) (xs (Int32.toNatClampNeg (x4 + (4 : Int32)))) (1 : Int32)) := op_law (c := c) (F := F) (xs (Int32.toNatClampNeg (x4 + (1 : Int32)))) (xs (Int32.toNatClampNeg (x4 + (2 : Int32)))) (xs (Int32.toNatClampNeg (x4 + (3 : Int32)))) (xs (Int32.toNatClampNeg (x4 + (4 : Int32)))) true
    simp only [if_neg q]
    exact stE o hM hk
theorem s_drop (hM : Inv c M) (hk : ∀ K, Inv (c + 1) K → ∃ M', k (x4 + 6) K = some M') : ∃ M', fL_c758 F xs L k x4 M = some M' := by
  unfold fL_c758
  simp only [nm_eq]
  exact stE (op_drop (c := c) (F := F)  ) hM hk
theorem s_clash (hF : 100000 ≤ F) (g1 : inb (x4 + (1 : Int32)) L = true) (hM : Inv c M) (hk : ∀ K, Inv (c + 1) K → ∃ M', k (x4 + 6) K = some M') : ∃ M', fL_c771 F xs L k x4 M = some M' := by
  unfold fL_c771
  simp only [g1, g01, gd_eq, nm_eq]
  exact stI (op_clash (c := c) (F := F) hF (xs (Int32.toNatClampNeg (x4 + (1 : Int32))))) hM hk
theorem s_witness (g1 : inb (x4 + (1 : Int32)) L = true) (hM : Inv c M) (hk : ∀ K, Inv (c + 1) K → ∃ M', k (x4 + 6) K = some M') : ∃ M', fL_c827 F xs L k x4 M = some M' := by
  unfold fL_c827
  simp only [g1, g01, gd_eq, nm_eq]
  exact stI (op_witness (c := c) (F := F)  (xs (Int32.toNatClampNeg (x4 + (1 : Int32))))) hM hk
theorem s_room (hF : 100000 ≤ F) (g1 : inb (x4 + (1 : Int32)) L = true) (hM : Inv c M) (hk : ∀ K, Inv (c + 1) K → ∃ M', k (x4 + 6) K = some M') : ∃ M', fL_c883 F xs L k x4 M = some M' := by
  unfold fL_c883
  simp only [g1, g01, gd_eq, nm_eq]
  exact stI (op_room (c := c) (F := F) hF (xs (Int32.toNatClampNeg (x4 + (1 : Int32))))) hM hk
theorem s_greatest (hF : 100000 ≤ F) (g1 : inb (x4 + (1 : Int32)) L = true) (g2 : inb (x4 + (2 : Int32)) L = true) (hM : Inv c M) (hk : ∀ K, Inv (c + 1) K → ∃ M', k (x4 + 6) K = some M') : ∃ M', fL_c939 F xs L k x4 M = some M' := by
  unfold fL_c939
  simp only [g1, g2, g01, gd_eq, nm_eq]
  exact stI (op_greatest (c := c) (F := F) hF (xs (Int32.toNatClampNeg (x4 + (1 : Int32)))) (xs (Int32.toNatClampNeg (x4 + (2 : Int32))))) hM hk
theorem s_list (hF : 100000 ≤ F) (g1 : inb (x4 + (1 : Int32)) L = true) (hM : Inv c M) (hk : ∀ K, Inv (c + 1) K → ∃ M', k (x4 + 6) K = some M') : ∃ M', fL_c1007 F xs L k x4 M = some M' := by
  unfold fL_c1007
  simp only [g1, g01, gd_eq, nm_eq]
  exact stI (op_list (c := c) (F := F) hF (xs (Int32.toNatClampNeg (x4 + (1 : Int32))))) hM hk
theorem s_listed (hF : 100000 ≤ F) (g1 : inb (x4 + (1 : Int32)) L = true) (g2 : inb (x4 + (2 : Int32)) L = true) (hM : Inv c M) (hk : ∀ K, Inv (c + 1) K → ∃ M', k (x4 + 6) K = some M') : ∃ M', fL_c1063 F xs L k x4 M = some M' := by
  unfold fL_c1063
  simp only [g1, g2, g01, gd_eq, nm_eq]
  exact stI (op_listed (c := c) (F := F) hF (xs (Int32.toNatClampNeg (x4 + (1 : Int32)))) (xs (Int32.toNatClampNeg (x4 + (2 : Int32))))) hM hk
theorem s_kinds (hF : 100000 ≤ F) (g1 : inb (x4 + (1 : Int32)) L = true) (hM : Inv c M) (hk : ∀ K, Inv (c + 1) K → ∃ M', k (x4 + 6) K = some M') : ∃ M', fL_c1131 F xs L k x4 M = some M' := by
  unfold fL_c1131
  simp only [g1, g01, gd_eq, nm_eq]
  exact stI (op_kinds (c := c) (F := F) hF (xs (Int32.toNatClampNeg (x4 + (1 : Int32))))) hM hk
theorem s_kind (hF : 100000 ≤ F) (g1 : inb (x4 + (1 : Int32)) L = true) (g2 : inb (x4 + (2 : Int32)) L = true) (g3 : inb (x4 + (3 : Int32)) L = true) (hM : Inv c M) (hk : ∀ K, Inv (c + 1) K → ∃ M', k (x4 + 6) K = some M') : ∃ M', fL_c1187 F xs L k x4 M = some M' := by
  unfold fL_c1187
  simp only [g1, g2, g3, g01, gd_eq, nm_eq]
  exact stI (op_kind (c := c) (F := F) hF (xs (Int32.toNatClampNeg (x4 + (1 : Int32)))) (xs (Int32.toNatClampNeg (x4 + (2 : Int32)))) (xs (Int32.toNatClampNeg (x4 + (3 : Int32))))) hM hk
theorem s_count (hF : 100000 ≤ F) (g1 : inb (x4 + (1 : Int32)) L = true) (hM : Inv c M) (hk : ∀ K, Inv (c + 1) K → ∃ M', k (x4 + 6) K = some M') : ∃ M', fL_c1267 F xs L k x4 M = some M' := by
  unfold fL_c1267
  simp only [g1, g01, gd_eq, nm_eq]
  exact stI (op_count (c := c) (F := F) hF (xs (Int32.toNatClampNeg (x4 + (1 : Int32))))) hM hk
theorem s_colours (hF : 100000 ≤ F) (g1 : inb (x4 + (1 : Int32)) L = true) (g2 : inb (x4 + (2 : Int32)) L = true) (hM : Inv c M) (hk : ∀ K, Inv (c + 1) K → ∃ M', k (x4 + 6) K = some M') : ∃ M', fL_c1323 F xs L k x4 M = some M' := by
  unfold fL_c1323
  simp only [g1, g2, g01, gd_eq, nm_eq]
  exact stI (op_colours (c := c) (F := F) hF (xs (Int32.toNatClampNeg (x4 + (1 : Int32)))) (xs (Int32.toNatClampNeg (x4 + (2 : Int32))))) hM hk
theorem s_colour (g1 : inb (x4 + (1 : Int32)) L = true) (hM : Inv c M) (hk : ∀ K, Inv (c + 1) K → ∃ M', k (x4 + 6) K = some M') : ∃ M', fL_c1391 F xs L k x4 M = some M' := by
  unfold fL_c1391
  simp only [g1, gd_eq, nm_eq]
  exact stE (op_colour (c := c) (F := F)  (xs (Int32.toNatClampNeg (x4 + (1 : Int32))))) hM hk
theorem s_forced (hF : 100000 ≤ F) (g1 : inb (x4 + (1 : Int32)) L = true) (g2 : inb (x4 + (2 : Int32)) L = true) (hM : Inv c M) (hk : ∀ K, Inv (c + 1) K → ∃ M', k (x4 + 6) K = some M') : ∃ M', fL_c1416 F xs L k x4 M = some M' := by
  unfold fL_c1416
  simp only [g1, g2, g01, gd_eq, nm_eq]
  exact stI (op_forced (c := c) (F := F) hF (xs (Int32.toNatClampNeg (x4 + (1 : Int32)))) (xs (Int32.toNatClampNeg (x4 + (2 : Int32))))) hM hk
theorem s_sums (hF : 100000 ≤ F) (hcc : c < 900000) (g1 : inb (x4 + (1 : Int32)) L = true) (g2 : inb (x4 + (2 : Int32)) L = true) (g3 : inb (x4 + (3 : Int32)) L = true) (g4 : inb (x4 + (4 : Int32)) L = true) (hM : Inv c M) (hk : ∀ K, Inv (c + 1) K → ∃ M', k (x4 + 6) K = some M') : ∃ M', fL_c1484 F xs L k x4 M = some M' := by
  unfold fL_c1484
  simp only [g1, g2, g3, g4, g01, gd_eq, nm_eq]
  exact stI (op_sums (c := c) (F := F) hF hcc (xs (Int32.toNatClampNeg (x4 + (1 : Int32)))) (xs (Int32.toNatClampNeg (x4 + (2 : Int32)))) (xs (Int32.toNatClampNeg (x4 + (3 : Int32)))) (xs (Int32.toNatClampNeg (x4 + (4 : Int32))))) hM hk
theorem s_energy (hF : 100000 ≤ F) (g1 : inb (x4 + (1 : Int32)) L = true) (hM : Inv c M) (hk : ∀ K, Inv (c + 1) K → ∃ M', k (x4 + 6) K = some M') : ∃ M', fL_c1576 F xs L k x4 M = some M' := by
  unfold fL_c1576
  simp only [g1, g01, gd_eq, nm_eq]
  exact stI (op_energy (c := c) (F := F) hF (xs (Int32.toNatClampNeg (x4 + (1 : Int32))))) hM hk
theorem s_order (hF : 100000 ≤ F) (g1 : inb (x4 + (1 : Int32)) L = true) (hM : Inv c M) (hk : ∀ K, Inv (c + 1) K → ∃ M', k (x4 + 6) K = some M') : ∃ M', fL_c1632 F xs L k x4 M = some M' := by
  unfold fL_c1632
  simp only [g1, g01, gd_eq, nm_eq]
  exact stI (op_order (c := c) (F := F) hF (xs (Int32.toNatClampNeg (x4 + (1 : Int32))))) hM hk
theorem s_keep (hF : 100000 ≤ F) (g1 : inb (x4 + (1 : Int32)) L = true) (g2 : inb (x4 + (2 : Int32)) L = true) (hM : Inv c M) (hk : ∀ K, Inv (c + 1) K → ∃ M', k (x4 + 6) K = some M') : ∃ M', fL_c1688 F xs L k x4 M = some M' := by
  unfold fL_c1688
  simp only [g1, g2, g01, gd_eq, nm_eq]
  exact stI (op_keep (c := c) (F := F) hF (xs (Int32.toNatClampNeg (x4 + (1 : Int32)))) (xs (Int32.toNatClampNeg (x4 + (2 : Int32))))) hM hk
theorem s_look (g1 : inb (x4 + (1 : Int32)) L = true) (hM : Inv c M) (hk : ∀ K, Inv (c + 1) K → ∃ M', k (x4 + 6) K = some M') : ∃ M', fL_c1756 F xs L k x4 M = some M' := by
  unfold fL_c1756
  simp only [g1, gd_eq, nm_eq]
  exact stE (op_look (c := c) (F := F)  (xs (Int32.toNatClampNeg (x4 + (1 : Int32))))) hM hk
end ST
