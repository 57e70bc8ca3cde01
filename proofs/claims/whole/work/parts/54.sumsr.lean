/-! sums, differences and products: the reference; how often sums are the same: both -/
/-- the reference's counts -/
def ROf (M : Mem) (c : Nat → Nat) : Prop := ∀ p, p < 3700 → M.1 53 p = ii (c p)
theorem ROf.sm {cs : List Nat} {M N : Mem} {c : Nat → Nat} (h : ROf M c) (hs : Sm cs M N) (hc : 53 ∉ cs) : ROf N c := by
  unfold ROf
  rw [(hs 53 hc).1]; exact h
section SQ
variable {F s n fi la : Nat}
theorem often_up {M : Mem} {c : Nat → Nat} (h : ROf M c) {p : Nat} (hp : p < 3700) : ROf (pI M 53 p (M.1 53 p + 1)) (acc c p) := by
  intro i hi
  rw [pI_c]
  unfold acc
  by_cases e : i = p
  · rw [e, up_c, if_pos rfl, h p hp, ii_lit1, ii_add]; rfl
  · rw [up_d e, if_neg e]; exact h i hi
theorem sums_50 (a1 a2 a3 a4 : Int32) : ∀ (k N v : Nat) (M : Mem), v + k = 3700 → k < N → (∀ p, p < v → M.1 53 p = 0) →
    ∃ M', fX9_sums_L50 F a1 a2 a3 a4 N (ii v) M = fX9_sums_L78 F a1 a2 a3 a4 F (M'.1 37 6) M' ∧ Sm [53] M M' ∧ ROf M' (fun _ => 0)
  | 0, N + 1, v, M, h1, h2, h3 => by
    refine ⟨M, ?_, Sm.rf, fun p hp => by rw [h3 p (by omega)]; rfl⟩
    rw [fX9_sums_L50, if_pos (by rw [show (3700 : Int32) = ii 3700 from rfl, ii_le] <;> omega), nm_eq]
  | k + 1, N + 1, v, M, h1, h2, h3 => by
    rw [fX9_sums_L50, if_neg (by rw [show (3700 : Int32) = ii 3700 from rfl, ii_le] <;> omega), gd_inb (by omega) (by omega) (by omega), nm_eq, nm_eq, ii_nat (by omega) (by omega), Int.toNat_natCast, ii_lit1, ii_add, show ((v : Int) + 1) = ((v + 1 : Nat) : Int) by omega]
    obtain ⟨M', g1, g2, g3⟩ := sums_50 a1 a2 a3 a4 k N (v + 1) (pI M 53 v 0) (by omega) (by omega) (fun p hp => by
      rw [pI_c]
      by_cases e : p = v
      · rw [e, up_c]
      · rw [up_d e]; exact h3 p (by omega))
    exact ⟨M', g1, (Sm.i (by decide)).tr g2, g3⟩
theorem sums_98 (hF : 100000 ≤ F) (hG : GV s n fi la) {what : Nat} (hw : what ≤ 2) {S T : Nat → Bool} (hS : Sup fi la S) (hT : Sup fi la T) {r q : Nat} (hr : r < 17) (hq : q < 17) {x : Nat} (hx : fi ≤ x ∧ x ≤ la) (a4 : Int32) (K : Int32 → Mem → Option (Int32 × Mem)) {c : Nat → Nat} : ∀ (j N k : Nat) (M : Mem), fi + k + j = la + 1 → j < N → RG s n fi la M → Row M fi r S → Row M fi q T → ROf M (if S x then cy (ps0 s n fi la what) T fi x k c else c) →
    ∃ M', fX9_sums_L98 F (ii r) (ii q) (ii what) a4 K N (ii x) (ii ((fi + k : Nat) : Int)) M = K (ii ((x + 1 : Nat) : Int)) M' ∧ Sm [53] M M' ∧ ROf M' (if S x then cy (ps0 s n fi la what) T fi x (la + 1 - fi) c else c)
  | 0, N + 1, k, M, h1, h2, hR, hw1, hw2, hM => by
    have hg := hG.b
    have e : k = la + 1 - fi := by omega
    subst e
    refine ⟨M, ?_, Sm.rf, hM⟩
    rw [fX9_sums_L98, hR.hi, if_pos (by rw [ii_le] <;> omega), nm_eq, ii_lit1, ii_add, show ((x : Int) + 1) = ((x + 1 : Nat) : Int) by omega]
  | j + 1, N + 1, k, M, h1, h2, hR, hw1, hw2, hM => by
    have hg := hG.b
    rw [fX9_sums_L98, hR.hi, if_neg (by rw [ii_le] <;> omega), in_eq hG hR hS hr hw1 (by omega) (by omega), bd_eq, mm_nat]
    simp only [nm_eq]
    rw [in_eq hG hR hT hq hw2 (by omega) (by omega), bd_eq, mm_nat, show (1 : Int32) = ii 1 from rfl, ii_add, show (((fi + k : Nat) : Int) + 1) = ((fi + (k + 1) : Nat) : Int) by omega]
    have ih := sums_98 hF hG hw hS hT hr hq hx a4 K (c := c) j N (k + 1)
    cases hsx : S x with
    | false =>
      rw [hsx] at ih hM
      rw [if_pos (by decide)]
      exact ih M (by omega) (by omega) hR hw1 hw2 hM
    | true =>
      rw [hsx, if_pos rfl] at ih hM
      rw [if_pos rfl] at ih
      rw [if_neg (by decide)]
      have hcy : cy (ps0 s n fi la what) T fi x (k + 1) c = if T (fi + k) then acc (cy (ps0 s n fi la what) T fi x k c) (ps0 s n fi la what x (fi + k)) else cy (ps0 s n fi la what) T fi x k c := rfl
      cases hty : T (fi + k) with
      | false =>
        rw [hty, if_neg (by decide)] at hcy
        rw [hcy] at ih
        rw [if_pos (by decide)]
        exact ih M (by omega) (by omega) hR hw1 hw2 hM
      | true =>
        rw [hty, if_pos rfl] at hcy
        rw [hcy] at ih
        have hpr := ps0_rng hG what x (fi + k)
        have hpe := ps0_eq hG (what := what) hx (y := fi + k) (by omega)
        have key : fX9_sums_L182 F (ii r) (ii q) (ii what) a4 (fun x5 x6 M => fX9_sums_L98 F (ii r) (ii q) (ii what) a4 K N x5 x6 M) (ii x) (ii ((fi + k : Nat) : Int)) (ii (rk s n what x (fi + k : Nat))) (60 : Int32) M = fX9_sums_L98 F (ii r) (ii q) (ii what) a4 K N (ii x) (ii ((fi + (k + 1) : Nat) : Int)) (pI M 53 (ps0 s n fi la what x (fi + k)) (M.1 53 (ps0 s n fi la what x (fi + k)) + 1)) := by
          unfold fX9_sums_L182
          simp only [nm_eq]
          rw [show (60 : Int32) = ii 60 from rfl, ii_add, ← hpe, gd_inb (by omega) (by omega) (by omega), gd_inb (by omega) (by omega) (by omega), ii_nat (by omega) (by omega), Int.toNat_natCast]
          rw [show ii ((fi + k : Nat) : Int) + 1 = ii ((fi + (k + 1) : Nat) : Int) by rw [ii_lit1, ii_add]; rfl]
        have s1 : Sm [53] M (pI M 53 (ps0 s n fi la what x (fi + k)) (M.1 53 (ps0 s n fi la what x (fi + k)) + 1)) := Sm.i (by decide)
        obtain ⟨M', g1, g2, g3⟩ := ih _ (by omega) (by omega) (hR.sm s1 (by decide)) (hw1.sm s1 (by decide)) (hw2.sm s1 (by decide)) (often_up hM (by omega))
        refine ⟨M', ?_, s1.tr g2, g3⟩
        rw [if_neg (by decide), sum_eq hF hG hR (VA.g hG (by omega) (by omega)) (VA.g hG (by omega) (by omega)), bd_eq, difference_eq hF hG hR (VA.g hG (by omega) (by omega)) (VA.g hG (by omega) (by omega)), bd_eq, product_eq hF hG hR (VA.g hG (by omega) (by omega)) (VA.g hG (by omega) (by omega)), bd_eq, ← g1, ← key]
        unfold rk
        rcases (by omega : what = 0 ∨ what = 1 ∨ what = 2) with rfl | rfl | rfl
        · rw [if_pos (by decide), if_pos rfl]
        · rw [if_neg (by decide), if_pos (by decide), if_neg (by decide), if_pos rfl]
        · rw [if_neg (by decide), if_neg (by decide), if_neg (by decide), if_neg (by decide)]
theorem sums_78 (hF : 100000 ≤ F) (hG : GV s n fi la) {what : Nat} (hw : what ≤ 2) {S T : Nat → Bool} (hS : Sup fi la S) (hT : Sup fi la T) {r q : Nat} (hr : r < 17) (hq : q < 17) (a4 : Int32) : ∀ (j N k : Nat) (M : Mem), fi + k + j = la + 1 → j < N → RG s n fi la M → Row M fi r S → Row M fi q T → ROf M (cx (ps0 s n fi la what) S T fi (la + 1 - fi) k) →
    ∃ M', fX9_sums_L78 F (ii r) (ii q) (ii what) a4 N (ii ((fi + k : Nat) : Int)) M = (bv (fX9_clear F a4 M') (fun N3 => fX9_sums_L212 F (ii r) (ii q) (ii what) a4 F (0 : Int32) (0 : Int32) N3)) ∧ Sm [53] M M' ∧ ROf M' (cx (ps0 s n fi la what) S T fi (la + 1 - fi) (la + 1 - fi))
  | 0, N + 1, k, M, h1, h2, hR, hw1, hw2, hM => by
    have hg := hG.b
    have e : k = la + 1 - fi := by omega
    subst e
    refine ⟨M, ?_, Sm.rf, hM⟩
    rw [fX9_sums_L78, hR.hi, if_pos (by rw [ii_le] <;> omega)]
  | j + 1, N + 1, k, M, h1, h2, hR, hw1, hw2, hM => by
    have hg := hG.b
    rw [fX9_sums_L78, hR.hi, if_neg (by rw [ii_le] <;> omega), nm_eq, hR.2.2.2]
    have hcx : cx (ps0 s n fi la what) S T fi (la + 1 - fi) (k + 1) = if S (fi + k) then cy (ps0 s n fi la what) T fi (fi + k) (la + 1 - fi) (cx (ps0 s n fi la what) S T fi (la + 1 - fi) k) else cx (ps0 s n fi la what) S T fi (la + 1 - fi) k := rfl
    obtain ⟨M1, g1, g2, g3⟩ := sums_98 hF hG hw hS hT hr hq (x := fi + k) (by omega) a4 (fun x5 M => fX9_sums_L78 F (ii r) (ii q) (ii what) a4 N x5 M) (c := cx (ps0 s n fi la what) S T fi (la + 1 - fi) k) (la + 1 - fi) F 0 M (by omega) (by omega) hR hw1 hw2 (by rw [cy]; split <;> exact hM)
    rw [← hcx] at g3
    rw [show ii (fi : Int) = ii ((fi + 0 : Nat) : Int) from rfl, g1]
    obtain ⟨M', r1, r2, r3⟩ := sums_78 hF hG hw hS hT hr hq a4 j N (k + 1) M1 (by omega) (by omega) (hR.sm g2 (by decide)) (hw1.sm g2 (by decide)) (hw2.sm g2 (by decide)) g3
    exact ⟨M', r1, g2.tr r2, r3⟩
theorem sums_212 (hG : GV s n fi la) {c : Nat → Nat} (hc : ∀ p, c p ≤ 3600) {to : Nat} (ht : to < 17) (a1 a2 a3 : Int32) : ∀ (j N v : Nat) (M : Mem), v + j = 3700 → j < N → RG s n fi la M → ROf M c → Row M fi to (fun x => fullB fi la x && (decide (60 + x < v) && sn c (60 + x))) →
    ∃ M', fX9_sums_L212 F a1 a2 a3 (ii to) N (ii (fb_ct (sn c) v)) (ii v) M = some (ii (fb_ct (sn c) 3700), M') ∧ Sm [39] M M' ∧ Row M' fi to (fun x => fullB fi la x && sn c (60 + x)) ∧ ∀ i, (i < 60 * to ∨ 60 * to + 60 ≤ i) → M'.1 39 i = M.1 39 i
  | 0, N + 1, v, M, h1, h2, hR, hM, hw => by
    have hg := hG.b
    have e : v = 3700 := by omega
    subst e
    refine ⟨M, ?_, Sm.rf, fun i hi => ?_, fun _ _ => rfl⟩
    · rw [fX9_sums_L212, if_pos (by decide)]
    · rw [hw i hi]
      dsimp only
      by_cases q : fi ≤ fi + i ∧ fi + i ≤ la
      · rw [decide_eq_true (show 60 + (fi + i) < 3700 by omega), Bool.true_and]
      · have : fullB fi la (fi + i) = false := decide_eq_false q
        rw [this]; rfl
  | j + 1, N + 1, v, M, h1, h2, hR, hM, hw => by
    have hg := hG.b
    have hcv := hc v
    rw [fX9_sums_L212, if_neg (by rw [show (3700 : Int32) = ii 3700 from rfl, ii_le] <;> omega), gd_inb (by omega) (by omega) (by omega), ii_nat (by omega) (by omega), Int.toNat_natCast, hM v (by omega)]
    simp only [nm_eq]
    rw [show (60 : Int32) = ii 60 from rfl, ii_sub, show (1 : Int32) = ii 1 from rfl, ii_add, ii_add, show ((v : Int) + 1) = ((v + 1 : Nat) : Int) by omega]
    have hsucc := fb_ct_succ (sn c) v
    have ih := sums_212 hG hc ht a1 a2 a3 j N (v + 1)
    rw [hsucc] at ih
    by_cases q : c v = 0
    · have hs : sn c v = false := decide_eq_false (by omega)
      rw [hs, if_neg (by decide), Nat.add_zero] at ih
      rw [q, if_pos (by decide)]
      refine ih M (by omega) (by omega) hR hM (fun i hi => ?_)
      rw [hw i hi]
      dsimp only
      by_cases e : 60 + (fi + i) = v
      · rw [e, hs]; simp
      · rw [show decide (60 + (fi + i) < v) = decide (60 + (fi + i) < v + 1) from decide_eq_decide.mpr (by omega)]
    · have hs : sn c v = true := decide_eq_true (by omega)
      rw [hs, if_pos rfl] at ih
      rw [if_neg (by rw [ii_lit0, ii_eq (by omega) (by omega) (by omega) (by omega)]; omega), isIn9_ii hG hR (by omega) (by omega), bd_eq]
      by_cases q2 : (fi : Int) ≤ (v : Int) - 60 ∧ (v : Int) - 60 ≤ la
      · rw [decide_eq_true q2, if_neg (by decide)]
        obtain ⟨x, hx⟩ : ∃ x : Nat, v = 60 + x := ⟨v - 60, by omega⟩
        rw [show ((v : Int) - 60) = (x : Int) by omega, show ii 1 = bi true from rfl, let_eq hG hR ht (by omega) (by omega), bv_eq]
        have s1 : Sm [39] M (pI M 39 (60 * to + (x - fi)) (bi true)) := Sm.i (by decide)
        have hw1 := hw.put (x := x) (by omega) (by omega) true
        obtain ⟨M', g1, g2, g3, g4⟩ := ih (pI M 39 (60 * to + (x - fi)) (bi true)) (by omega) (by omega) (hR.sm s1 (by decide)) (hM.sm s1 (by decide)) (fun i hi => by
          rw [hw1 i hi]
          congr 1
          by_cases e : fi + i = x
          · rw [e, put_c]
            dsimp only
            rw [full_t (by omega) (by omega), decide_eq_true (show 60 + x < v + 1 by omega), ← hx, hs]; rfl
          · rw [put_d e]
            dsimp only
            by_cases e2 : 60 + (fi + i) = v
            · omega
            · rw [show decide (60 + (fi + i) < v) = decide (60 + (fi + i) < v + 1) from decide_eq_decide.mpr (by omega)])
        refine ⟨M', g1, s1.tr g2, g3, fun i hi => ?_⟩
        rw [g4 i hi, pI_c, up_d (by omega)]
      · rw [decide_eq_false q2, if_pos (by decide)]
        refine ih M (by omega) (by omega) hR hM (fun i hi => ?_)
        rw [hw i hi]
        dsimp only
        by_cases q3 : fi ≤ fi + i ∧ fi + i ≤ la
        · rw [show decide (60 + (fi + i) < v) = decide (60 + (fi + i) < v + 1) from decide_eq_decide.mpr (by omega)]
        · have : fullB fi la (fi + i) = false := decide_eq_false q3
          rw [this]; rfl
theorem sums9_eq (hF : 100000 ≤ F) (hG : GV s n fi la) {what : Nat} (hw : what ≤ 2) {S T : Nat → Bool} (hS : Sup fi la S) (hT : Sup fi la T) {r q to : Nat} (hr : r < 17) (hq : q < 17) (ht : to < 17) {M : Mem} (hR : RG s n fi la M) (hw1 : Row M fi r S) (hw2 : Row M fi q T) :
    ∃ M', fX9_sums_L50 F (ii r) (ii q) (ii what) (ii to) F 0 M = some (ii (fb_ct (sn (cx (ps0 s n fi la what) S T fi (la + 1 - fi) (la + 1 - fi))) 3661), M') ∧ Sm [39, 53] M M' ∧ Row M' fi to (fun x => fullB fi la x && sn (cx (ps0 s n fi la what) S T fi (la + 1 - fi) (la + 1 - fi)) (60 + x)) ∧ ∀ i, (i < 60 * to ∨ 60 * to + 60 ≤ i) → M'.1 39 i = M.1 39 i := by
  have hg := hG.b
  obtain ⟨M1, g1, g2, g3⟩ := sums_50 (F := F) (ii r) (ii q) (ii what) (ii to) 3700 F 0 M (by omega) (by omega) (fun p hp => by omega)
  have hR1 := hR.sm g2 (by decide)
  obtain ⟨M2, h1, h2, h3⟩ := sums_78 hF hG hw hS hT hr hq (ii to) (la + 1 - fi) F 0 M1 (by omega) (by omega) hR1 (hw1.sm g2 (by decide)) (hw2.sm g2 (by decide)) g3
  rw [show (0 : Int32) = ii ((0 : Nat) : Int) from rfl, g1, hR1.2.2.2, show ii (fi : Int) = ii ((fi + 0 : Nat) : Int) from rfl, h1]
  have hR2 := hR1.sm h2 (by decide)
  obtain ⟨M3, c1, c2, c3, c4⟩ := clear_eq (F := F) (M := M2) (fi := fi) hF ht
  rw [c1, bv_eq]
  generalize hc : cx (ps0 s n fi la what) S T fi (la + 1 - fi) (la + 1 - fi) = c at *
  have hcb : ∀ p, c p ≤ 3600 := by
    intro p
    rw [← hc]
    have := cx_le (ps0 s n fi la what) S T fi (la + 1 - fi) p (la + 1 - fi)
    have h60 : (la + 1 - fi) * (la + 1 - fi) ≤ 60 * 60 := Nat.mul_le_mul (by omega) (by omega)
    omega
  obtain ⟨M', r1, r2, r3, r4⟩ := sums_212 (F := F) hG hcb ht (ii r) (ii q) (ii what) 3700 F 0 M3 (by omega) (by omega) (hR2.sm c2 (by decide)) (h3.sm c2 (by decide)) (fun i hi => by rw [c3 i hi]; dsimp only; rw [decide_eq_false (Nat.not_lt_zero _)]; simp)
  have e3700 : fb_ct (sn c) 3700 = fb_ct (sn c) 3661 := by
    have := fb_ct_split (sn c) 3661 39
    rw [show fb_ct (fun k => sn c (3661 + k)) 39 = 0 from fb_ct_zero.mpr (fun k _ => decide_eq_false (by
      have : c (3661 + k) = 0 := by
        rw [← hc]
        exact cx_out (fun x y => by have := ps0_rng hG what x y; omega) _
      omega))] at this
    have h39 : 3661 + 39 = 3700 := by decide
    rw [h39, Nat.add_zero] at this
    exact this
  rw [e3700] at r1
  refine ⟨M', r1, ((g2.tr h2).mono (by decide)).tr ((c2.tr r2).mono (by decide)), r3, fun i hi => ?_⟩
  rw [r4 i hi, c4 i hi, (h2 39 (by decide)).1, (g2 39 (by decide)).1]
end SQ
