/-! how often sums are the same: both -/
def sq (c : Nat → Nat) : Nat → Nat
  | 0 => 0
  | k + 1 => sq c k + c k * c k
theorem sq_out {c : Nat → Nat} {a : Nat} (h : ∀ p, a ≤ p → c p = 0) : ∀ d, sq c (a + d) = sq c a
  | 0 => rfl
  | d + 1 => by
    show sq c (a + d + 1) = _
    rw [sq, h (a + d) (by omega), sq_out h d, Nat.mul_zero, Nat.add_zero]
def pe (s n fi la : Nat) (x y : Nat) : Nat := if (fi ≤ x ∧ x ≤ la) ∧ fi ≤ y ∧ y ≤ la then (mx s n 1 x 1 y).toNat else 0
section EN
variable {F s n fi la : Nat}
theorem pe_rng (hG : GV s n fi la) (x y : Nat) : pe s n fi la x y ≤ 120 := by
  have hg := hG.b
  unfold pe
  split
  · rename_i h
    by_cases q : s = 0
    · subst q; rw [mx_0]; omega
    · have := mx_g hG q 1 1 (x := x) (y := y) (by omega) (by omega); omega
  · omega
theorem pe_eq (hG : GV s n fi la) {x y : Nat} (hx : fi ≤ x ∧ x ≤ la) (hy : fi ≤ y ∧ y ≤ la) : (pe s n fi la x y : Int) = mx s n 1 x 1 y := by
  have hg := hG.b
  unfold pe
  rw [if_pos ⟨hx, hy⟩]
  have : 0 ≤ mx s n 1 x 1 y := by
    by_cases q : s = 0
    · subst q; rw [mx_0]; omega
    · have := mx_g hG q 1 1 (x := x) (y := y) (by omega) (by omega); omega
  omega
def CWy (M : Mem) (c : Nat → Nat) : Prop := ∀ p, p < 121 → M.1 32 p = ii (c p)
theorem ways_up {M : Mem} {c : Nat → Nat} (h : CWy M c) {p : Nat} (hp : p < 121) : CWy (pI M 32 p (M.1 32 p + 1)) (acc c p) := by
  intro i hi
  rw [pI_c]
  unfold acc
  by_cases e : i = p
  · rw [e, up_c, if_pos rfl, h p hp, ii_lit1, ii_add]; rfl
  · rw [up_d e, if_neg e]; exact h i hi
theorem addWays_L (hF : 100000 ≤ F) (hG : GV s n fi la) {x : Nat} (hx : fi ≤ x ∧ x ≤ la) {w : Int64} (hS : Sup fi la (bt w)) {c : Nat → Nat} : ∀ (j N k : Nat) (M : Mem), fi + k + j = la + 1 → j < N → CG s n fi la M → CWy M (cy (pe s n fi la) (bt w) fi x k c) →
    ∃ M', fX5_addWays_L9 F (ii x) w N (ii ((fi + k : Nat) : Int)) M = some M' ∧ Sm [32] M M' ∧ CWy M' (cy (pe s n fi la) (bt w) fi x (la + 1 - fi) c)
  | 0, N + 1, k, M, h1, h2, hC, hM => by
    have hg := hG.b
    have e : k = la + 1 - fi := by omega
    subst e
    refine ⟨M, ?_, Sm.rf, hM⟩
    rw [fX5_addWays_L9, hC.2.2.2.1, if_pos (by rw [ii_lt] <;> omega)]
  | j + 1, N + 1, k, M, h1, h2, hC, hM => by
    have hg := hG.b
    rw [fX5_addWays_L9, hC.2.2.2.1, if_neg (by rw [ii_lt] <;> omega), isIn_eq hG hC hS (by omega) (by omega), bd_eq, mm_nat]
    simp only [nm_eq]
    have e1 : ii ((fi + k : Nat) : Int) + 1 = ii ((fi + (k + 1) : Nat) : Int) := by rw [ii_lit1, ii_add]; rfl
    rw [e1]
    have ih := addWays_L hF hG hx hS (c := c) j N (k + 1)
    have hcy : cy (pe s n fi la) (bt w) fi x (k + 1) c = if bt w (fi + k) then acc (cy (pe s n fi la) (bt w) fi x k c) (pe s n fi la x (fi + k)) else cy (pe s n fi la) (bt w) fi x k c := rfl
    cases hb : bt w (fi + k) with
    | false =>
      rw [hb, if_neg (by decide)] at hcy
      rw [hcy] at ih
      rw [if_pos (by decide)]
      exact ih M (by omega) (by omega) hC hM
    | true =>
      rw [hb, if_pos rfl] at hcy
      rw [hcy] at ih
      have hpr := pe_rng hG x (fi + k)
      have hpe := pe_eq hG hx (y := fi + k) (by omega)
      have s1 : Sm [32] M (pI M 32 (pe s n fi la x (fi + k)) (M.1 32 (pe s n fi la x (fi + k)) + 1)) := Sm.i (by decide)
      have hmx : fX1_mix F (1 : Int32) (ii x) (1 : Int32) (ii ((fi + k : Nat) : Int)) M = some (ii (mx s n 1 x 1 ((fi + k : Nat) : Int)), M) := by
        rw [ii_lit1]
        exact mix_eq hF hG hC (by omega) (by omega) (VA.g hG (by omega) (by omega)) (VA.g hG (by omega) (by omega))
      rw [if_neg (by decide), hmx, bd_eq, ← hpe, gd_inb (by omega) (by omega) (by omega), gd_inb (by omega) (by omega) (by omega), ii_nat (by omega) (by omega), Int.toNat_natCast]
      obtain ⟨M', g1, g2, g3⟩ := ih _ (by omega) (by omega) (hC.sm s1 (by decide)) (ways_up hM (by omega))
      exact ⟨M', g1, s1.tr g2, g3⟩
theorem equal_16 (hF : 100000 ≤ F) (hG : GV s n fi la) {w : Int64} (hS : Sup fi la (bt w)) : ∀ (j N k : Nat) (M : Mem), fi + k + j = la + 1 → j < N → CG s n fi la M → CWy M (cx (pe s n fi la) (bt w) (bt w) fi (la + 1 - fi) k) →
    ∃ M', fX5_equalSums_L16 F w N (ii ((fi + k : Nat) : Int)) M = fX5_equalSums_L56 F w F 0 0 M' ∧ Sm [32] M M' ∧ CWy M' (cx (pe s n fi la) (bt w) (bt w) fi (la + 1 - fi) (la + 1 - fi))
  | 0, N + 1, k, M, h1, h2, hC, hM => by
    have hg := hG.b
    have e : k = la + 1 - fi := by omega
    subst e
    refine ⟨M, ?_, Sm.rf, hM⟩
    rw [fX5_equalSums_L16, hC.2.2.2.1, if_pos (by rw [ii_lt] <;> omega)]
  | j + 1, N + 1, k, M, h1, h2, hC, hM => by
    have hg := hG.b
    rw [fX5_equalSums_L16, hC.2.2.2.1, if_neg (by rw [ii_lt] <;> omega), isIn_eq hG hC hS (by omega) (by omega), bd_eq, mm_nat]
    simp only [nm_eq]
    have e1 : ii ((fi + k : Nat) : Int) + 1 = ii ((fi + (k + 1) : Nat) : Int) := by rw [ii_lit1, ii_add]; rfl
    rw [e1]
    have ih := equal_16 hF hG hS j N (k + 1)
    have hcx : cx (pe s n fi la) (bt w) (bt w) fi (la + 1 - fi) (k + 1) = if bt w (fi + k) then cy (pe s n fi la) (bt w) fi (fi + k) (la + 1 - fi) (cx (pe s n fi la) (bt w) (bt w) fi (la + 1 - fi) k) else cx (pe s n fi la) (bt w) (bt w) fi (la + 1 - fi) k := rfl
    cases hb : bt w (fi + k) with
    | false =>
      rw [hb, if_neg (by decide)] at hcx
      rw [hcx] at ih
      rw [if_pos (by decide)]
      exact ih M (by omega) (by omega) hC hM
    | true =>
      rw [hb, if_pos rfl] at hcx
      rw [hcx] at ih
      rw [if_neg (by decide)]
      unfold fX5_addWays
      rw [nm_eq, hC.2.2.1]
      obtain ⟨M1, g1, g2, g3⟩ := addWays_L hF hG (x := fi + k) (by omega) hS (c := cx (pe s n fi la) (bt w) (bt w) fi (la + 1 - fi) k) (la + 1 - fi) F 0 M (by omega) (by omega) hC hM
      rw [show ii (fi : Int) = ii ((fi + 0 : Nat) : Int) from rfl, g1, bv_eq]
      obtain ⟨M', r1, r2, r3⟩ := ih M1 (by omega) (by omega) (hC.sm g2 (by decide)) g3
      exact ⟨M', r1, g2.tr r2, r3⟩
theorem equal_56 {c : Nat → Nat} {M : Mem} (hM : CWy M c) (w : Int64) : ∀ (j N p : Nat), p + j = 121 → j < N → fX5_equalSums_L56 F w N (ii (sq c p)) (ii p) M = some (ii (sq c 121), M)
  | 0, N + 1, p, h1, h2 => by
    have e : p = 121 := by omega
    subst e
    rw [fX5_equalSums_L56, if_pos (by decide)]
  | j + 1, N + 1, p, h1, h2 => by
    rw [fX5_equalSums_L56, if_neg (by rw [show (120 : Int32) = ii 120 from rfl, ii_lt] <;> omega), gd_inb (by omega) (by omega) (by omega), gd_inb (by omega) (by omega) (by omega), ii_nat (by omega) (by omega), Int.toNat_natCast, hM p (by omega)]
    simp only [nm_eq]
    rw [ii_mul, ii_add, ii_lit1, ii_add]
    have := equal_56 hM w j N (p + 1) (by omega) (by omega)
    rw [sq] at this
    exact this
theorem equalSums_eq (hF : 100000 ≤ F) (hG : GV s n fi la) {w : Int64} (hS : Sup fi la (bt w)) {M : Mem} (hC : CG s n fi la M) : ∃ M', fX5_equalSums F w M = some (ii (sq (cx (pe s n fi la) (bt w) (bt w) fi (la + 1 - fi) (la + 1 - fi)) 121), M') ∧ Sm [32] M M' := by
  have hg := hG.b
  unfold fX5_equalSums
  rw [fill32_eq hF, bv_eq, nm_eq]
  have s1 : Sm [32] M (pIr M 32 (fun j => if j < 121 then 0 else M.1 32 j)) := Sm.ir (by decide)
  have hC1 := hC.sm s1 (by decide)
  rw [hC1.2.2.1]
  obtain ⟨M', g1, g2, g3⟩ := equal_16 hF hG hS (la + 1 - fi) F 0 _ (by omega) (by omega) hC1 (fun p hp => by rw [pIr_c, if_pos hp]; rfl)
  rw [show ii (fi : Int) = ii ((fi + 0 : Nat) : Int) from rfl, g1]
  have := equal_56 (F := F) g3 w 121 F 0 (by omega) (by omega)
  exact ⟨M', this, s1.tr g2⟩
theorem energy_21 (a1 : Int32) : ∀ (k N v : Nat) (M : Mem), v + k = 3700 → k < N → (∀ p, p < v → M.1 53 p = 0) →
    ∃ M', fX9_energy_L21 F a1 N (ii v) M = fX9_energy_L46 F a1 F (M'.1 37 6) M' ∧ Sm [53] M M' ∧ ROf M' (fun _ => 0)
  | 0, N + 1, v, M, h1, h2, h3 => by
    refine ⟨M, ?_, Sm.rf, fun p hp => by rw [h3 p (by omega)]; rfl⟩
    rw [fX9_energy_L21, if_pos (by rw [show (3700 : Int32) = ii 3700 from rfl, ii_le] <;> omega), nm_eq]
  | k + 1, N + 1, v, M, h1, h2, h3 => by
    rw [fX9_energy_L21, if_neg (by rw [show (3700 : Int32) = ii 3700 from rfl, ii_le] <;> omega), gd_inb (by omega) (by omega) (by omega), nm_eq, nm_eq, ii_nat (by omega) (by omega), Int.toNat_natCast, ii_lit1, ii_add, show ((v : Int) + 1) = ((v + 1 : Nat) : Int) by omega]
    obtain ⟨M', g1, g2, g3⟩ := energy_21 a1 k N (v + 1) (pI M 53 v 0) (by omega) (by omega) (fun p hp => by
      rw [pI_c]
      by_cases e : p = v
      · rw [e, up_c]
      · rw [up_d e]; exact h3 p (by omega))
    exact ⟨M', g1, (Sm.i (by decide)).tr g2, g3⟩
theorem energy_64 (hF : 100000 ≤ F) (hG : GV s n fi la) {S : Nat → Bool} (hS : Sup fi la S) {r : Nat} (hr : r < 17) {x : Nat} (hx : fi ≤ x ∧ x ≤ la) (K : Int32 → Mem → Option (Int32 × Mem)) {c : Nat → Nat} : ∀ (j N k : Nat) (M : Mem), fi + k + j = la + 1 → j < N → RG s n fi la M → Row M fi r S → ROf M (if S x then cy (pe s n fi la) S fi x k c else c) →
    ∃ M', fX9_energy_L64 F (ii r) K N (ii x) (ii ((fi + k : Nat) : Int)) M = K (ii ((x + 1 : Nat) : Int)) M' ∧ Sm [53] M M' ∧ ROf M' (if S x then cy (pe s n fi la) S fi x (la + 1 - fi) c else c)
  | 0, N + 1, k, M, h1, h2, hR, hw1, hM => by
    have hg := hG.b
    have e : k = la + 1 - fi := by omega
    subst e
    refine ⟨M, ?_, Sm.rf, hM⟩
    rw [fX9_energy_L64, hR.hi, if_pos (by rw [ii_le] <;> omega), nm_eq, ii_lit1, ii_add, show ((x : Int) + 1) = ((x + 1 : Nat) : Int) by omega]
  | j + 1, N + 1, k, M, h1, h2, hR, hw1, hM => by
    have hg := hG.b
    rw [fX9_energy_L64, hR.hi, if_neg (by rw [ii_le] <;> omega), in_eq hG hR hS hr hw1 (by omega) (by omega), bd_eq, mm_nat]
    simp only [nm_eq]
    have e1 : ii ((fi + k : Nat) : Int) + 1 = ii ((fi + (k + 1) : Nat) : Int) := by rw [ii_lit1, ii_add]; rfl
    rw [in_eq hG hR hS hr hw1 (by omega) (by omega), bd_eq, mm_nat, e1]
    have ih := energy_64 hF hG hS hr hx K (c := c) j N (k + 1)
    cases hsx : S x with
    | false =>
      rw [hsx] at ih hM
      rw [if_pos (by decide)]
      exact ih M (by omega) (by omega) hR hw1 hM
    | true =>
      rw [hsx, if_pos rfl] at ih hM
      rw [if_pos rfl] at ih
      rw [if_neg (by decide)]
      have hcy : cy (pe s n fi la) S fi x (k + 1) c = if S (fi + k) then acc (cy (pe s n fi la) S fi x k c) (pe s n fi la x (fi + k)) else cy (pe s n fi la) S fi x k c := rfl
      cases hty : S (fi + k) with
      | false =>
        rw [hty, if_neg (by decide)] at hcy
        rw [hcy] at ih
        rw [if_pos (by decide)]
        exact ih M (by omega) (by omega) hR hw1 hM
      | true =>
        rw [hty, if_pos rfl] at hcy
        rw [hcy] at ih
        have hpr := pe_rng hG x (fi + k)
        have hpe := pe_eq hG hx (y := fi + k) (by omega)
        have s1 : Sm [53] M (pI M 53 (pe s n fi la x (fi + k)) (M.1 53 (pe s n fi la x (fi + k)) + 1)) := Sm.i (by decide)
        rw [if_neg (by decide), sum_eq hF hG hR (VA.g hG (by omega) (by omega)) (VA.g hG (by omega) (by omega)), bd_eq, ← hpe, gd_inb (by omega) (by omega) (by omega), gd_inb (by omega) (by omega) (by omega), ii_nat (by omega) (by omega), Int.toNat_natCast]
        obtain ⟨M', g1, g2, g3⟩ := ih _ (by omega) (by omega) (hR.sm s1 (by decide)) (hw1.sm s1 (by decide)) (often_up hM (by omega))
        exact ⟨M', g1, s1.tr g2, g3⟩
theorem energy_46 (hF : 100000 ≤ F) (hG : GV s n fi la) {S : Nat → Bool} (hS : Sup fi la S) {r : Nat} (hr : r < 17) : ∀ (j N k : Nat) (M : Mem), fi + k + j = la + 1 → j < N → RG s n fi la M → Row M fi r S → ROf M (cx (pe s n fi la) S S fi (la + 1 - fi) k) →
    ∃ M', fX9_energy_L46 F (ii r) N (ii ((fi + k : Nat) : Int)) M = fX9_energy_L128 F (ii r) F 0 0 M' ∧ Sm [53] M M' ∧ ROf M' (cx (pe s n fi la) S S fi (la + 1 - fi) (la + 1 - fi))
  | 0, N + 1, k, M, h1, h2, hR, hw1, hM => by
    have hg := hG.b
    have e : k = la + 1 - fi := by omega
    subst e
    refine ⟨M, ?_, Sm.rf, hM⟩
    rw [fX9_energy_L46, hR.hi, if_pos (by rw [ii_le] <;> omega)]
  | j + 1, N + 1, k, M, h1, h2, hR, hw1, hM => by
    have hg := hG.b
    rw [fX9_energy_L46, hR.hi, if_neg (by rw [ii_le] <;> omega), nm_eq, hR.2.2.2]
    have hcx : cx (pe s n fi la) S S fi (la + 1 - fi) (k + 1) = if S (fi + k) then cy (pe s n fi la) S fi (fi + k) (la + 1 - fi) (cx (pe s n fi la) S S fi (la + 1 - fi) k) else cx (pe s n fi la) S S fi (la + 1 - fi) k := rfl
    obtain ⟨M1, g1, g2, g3⟩ := energy_64 hF hG hS hr (x := fi + k) (by omega) (fun x2 M => fX9_energy_L46 F (ii r) N x2 M) (c := cx (pe s n fi la) S S fi (la + 1 - fi) k) (la + 1 - fi) F 0 M (by omega) (by omega) hR hw1 (by rw [cy]; split <;> exact hM)
    rw [← hcx] at g3
    rw [show ii (fi : Int) = ii ((fi + 0 : Nat) : Int) from rfl, g1]
    obtain ⟨M', r1, r2, r3⟩ := energy_46 hF hG hS hr j N (k + 1) M1 (by omega) (by omega) (hR.sm g2 (by decide)) (hw1.sm g2 (by decide)) g3
    exact ⟨M', r1, g2.tr r2, r3⟩
theorem energy_128 {c : Nat → Nat} {M : Mem} (hM : ROf M c) (a1 : Int32) : ∀ (j N p : Nat), p + j = 3700 → j < N → fX9_energy_L128 F a1 N (ii (sq c p)) (ii p) M = some (ii (sq c 3700), M)
  | 0, N + 1, p, h1, h2 => by
    have e : p = 3700 := by omega
    subst e
    rw [fX9_energy_L128, if_pos (by decide)]
  | j + 1, N + 1, p, h1, h2 => by
    rw [fX9_energy_L128, if_neg (by rw [show (3700 : Int32) = ii 3700 from rfl, ii_le] <;> omega), gd_inb (by omega) (by omega) (by omega), gd_inb (by omega) (by omega) (by omega), ii_nat (by omega) (by omega), Int.toNat_natCast, hM p (by omega)]
    simp only [nm_eq]
    rw [ii_mul, ii_add, ii_lit1, ii_add]
    have := energy_128 hM a1 j N (p + 1) (by omega) (by omega)
    rw [sq] at this
    exact this
theorem energy9_eq (hF : 100000 ≤ F) (hG : GV s n fi la) {S : Nat → Bool} (hS : Sup fi la S) {r : Nat} (hr : r < 17) {M : Mem} (hR : RG s n fi la M) (hw1 : Row M fi r S) : ∃ M', fX9_energy_L21 F (ii r) F 0 M = some (ii (sq (cx (pe s n fi la) S S fi (la + 1 - fi) (la + 1 - fi)) 121), M') ∧ Sm [53] M M' := by
  have hg := hG.b
  obtain ⟨M1, g1, g2, g3⟩ := energy_21 (F := F) (ii r) 3700 F 0 M (by omega) (by omega) (fun p hp => by omega)
  have hR1 := hR.sm g2 (by decide)
  obtain ⟨M2, h1, h2, h3⟩ := energy_46 hF hG hS hr (la + 1 - fi) F 0 M1 (by omega) (by omega) hR1 (hw1.sm g2 (by decide)) g3
  rw [show (0 : Int32) = ii ((0 : Nat) : Int) from rfl, g1, hR1.2.2.2, show ii (fi : Int) = ii ((fi + 0 : Nat) : Int) from rfl, h1]
  have h4 := energy_128 (F := F) h3 (ii r) 3700 F 0 (by omega) (by omega)
  refine ⟨M2, ?_, g2.tr h2⟩
  have e := sq_out (c := cx (pe s n fi la) S S fi (la + 1 - fi) (la + 1 - fi)) (a := 121) (fun p hp => cx_out (fun x y => by have := pe_rng hG x y; omega) _) 3579
  have h5 : 121 + 3579 = 3700 := by decide
  rw [h5] at e
  rw [← e]
  exact h4
end EN
