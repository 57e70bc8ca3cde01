/-! the most summands: both -/
def og (S : Nat → Bool) (f : Nat → Nat) (v : Nat) : Nat → Nat
  | 0 => f (v - 1) + 1
  | k + 1 => if S (k + 2) then min (og S f v k) (f (v - (k + 2)) + 1) else og S f v k
def of (S : Nat → Bool) : Nat → Nat → Nat
  | 0 => fun _ => 0
  | v + 1 => fun i => if i = v + 1 then og S (of S v) (v + 1) v else of S v i
def om (S : Nat → Bool) : Nat → Nat
  | 0 => 0
  | v + 1 => max (om S v) (of S (v + 1) (v + 1))
theorem og_le (S : Nat → Bool) (f : Nat → Nat) (v : Nat) : ∀ k, og S f v k ≤ f (v - 1) + 1
  | 0 => Nat.le_refl _
  | k + 1 => by
    have := og_le S f v k
    rw [og]
    split <;> omega
theorem of_le (S : Nat → Bool) : ∀ v i, of S v i ≤ v
  | 0, i => Nat.le_refl _
  | v + 1, i => by
    rw [of]
    dsimp only
    split
    · have := og_le S (of S v) (v + 1) v
      have h2 := of_le S v (v + 1 - 1)
      omega
    · have := of_le S v i; omega
theorem om_le (S : Nat → Bool) : ∀ v, om S v ≤ v
  | 0 => Nat.le_refl _
  | v + 1 => by
    have := om_le S v
    have := of_le S (v + 1) (v + 1)
    rw [om]; omega
theorem of_new (S : Nat → Bool) (v : Nat) : of S (v + 1) (v + 1) = og S (of S v) (v + 1) v := by
  rw [of]; dsimp only; rw [if_pos rfl]
theorem of_old (S : Nat → Bool) {v i : Nat} (h : i ≠ v + 1) : of S (v + 1) i = of S v i := by
  rw [of]; dsimp only; rw [if_neg h]
section OR
variable {F n fi la : Nat}
theorem most_45 (hG : GV 0 n fi la) {w : Int64} (hS : Sup fi la (bt w)) {v : Nat} (hv : v + 1 ≤ n) (K : Int32 → Int32 → Mem → Option (Int32 × Mem)) (mo : Nat) (hmo : mo ≤ 60) : ∀ (j N k : Nat) (M : Mem), k + j = v → j < N → CG 0 n fi la M → (∀ i, i ≤ v → M.1 33 i = ii (of (bt w) v i)) → M.1 33 (v + 1) = ii (og (bt w) (of (bt w) v) (v + 1) k) →
    ∃ M', fX5_mostSummands_L45 F w K N (ii mo) (ii ((v + 1 : Nat) : Int)) (ii ((k + 2 : Nat) : Int)) M = K (ii ((max mo (og (bt w) (of (bt w) v) (v + 1) v) : Nat) : Int)) (ii ((v + 1 + 1 : Nat) : Int)) M' ∧ Sm [33] M M' ∧ (∀ i, i ≤ v + 1 → M'.1 33 i = ii (of (bt w) (v + 1) i))
  | 0, N + 1, k, M, h1, h2, hC, h3, h4 => by
    have hg := hG.b
    have e : k = v := by omega
    subst e
    have hb := og_le (bt w) (of (bt w) k) (k + 1) k
    have hb2 := of_le (bt w) k (k + 1 - 1)
    refine ⟨M, ?_, Sm.rf, fun i hi => ?_⟩
    · rw [fX5_mostSummands_L45, if_pos (by rw [ii_lt] <;> omega), gd_inb (by omega) (by omega) (by omega), ii_nat (by omega) (by omega), Int.toNat_natCast, h4, max_eq (by omega) (by omega), bd_eq, nm_eq, ii_lit1, ii_add, show (max (mo : Int) (og (bt w) (of (bt w) k) (k + 1) k : Nat)) = ((max mo (og (bt w) (of (bt w) k) (k + 1) k) : Nat) : Int) by omega]
      rfl
    · by_cases e : i = k + 1
      · rw [e, h4, of_new]
      · rw [of_old _ e]; exact h3 i (by omega)
  | j + 1, N + 1, k, M, h1, h2, hC, h3, h4 => by
    have hg := hG.b
    have hG' := hG
    unfold GV at hG'
    have hb := og_le (bt w) (of (bt w) v) (v + 1) k
    have hb2 := of_le (bt w) v (v + 1 - 1)
    have hb3 := of_le (bt w) v (v + 1 - (k + 2))
    rw [fX5_mostSummands_L45, if_neg (by rw [ii_lt] <;> omega), isIn_eq hG hC hS (by omega) (by omega), bd_eq, mm_nat]
    simp only [nm_eq]
    have e1 : ii ((k + 2 : Nat) : Int) + 1 = ii ((k + 1 + 2 : Nat) : Int) := by rw [ii_lit1, ii_add]; rfl
    rw [e1]
    have ih := most_45 hG hS hv K mo hmo j N (k + 1)
    have hog : og (bt w) (of (bt w) v) (v + 1) (k + 1) = if bt w (k + 2) then min (og (bt w) (of (bt w) v) (v + 1) k) (of (bt w) v (v + 1 - (k + 2)) + 1) else og (bt w) (of (bt w) v) (v + 1) k := rfl
    cases hb4 : bt w (k + 2) with
    | false =>
      rw [hb4, if_neg (by decide)] at hog
      rw [if_pos (by decide)]
      exact ih M (by omega) (by omega) hC h3 (by rw [hog]; exact h4)
    | true =>
      rw [hb4, if_pos rfl] at hog
      rw [if_neg (by decide), gd_inb (by omega) (by omega) (by omega), ii_sub, gd_inb (by omega) (by omega) (by omega), ii_nat (by omega) (by omega), ii_nat (by omega) (by omega), Int.toNat_natCast, h4, show (((v + 1 : Nat) : Int) - ((k + 2 : Nat) : Int)).toNat = v + 1 - (k + 2) by omega, h3 (v + 1 - (k + 2)) (by omega), ii_lit1, ii_add, min_eq (by omega) (by omega), bd_eq, gd_inb (by omega) (by omega) (by omega)]
      have s1 : Sm [33] M (pI M 33 (v + 1) (ii (min (og (bt w) (of (bt w) v) (v + 1) k : Int) ((of (bt w) v (v + 1 - (k + 2)) : Int) + 1)))) := Sm.i (by decide)
      obtain ⟨M', g1, g2, g3⟩ := ih _ (by omega) (by omega) (hC.sm s1 (by decide)) (fun i hi => by rw [pI_c, up_d (by omega)]; exact h3 i hi) (by rw [pI_c, up_c, hog]; congr 1; omega)
      exact ⟨M', g1, s1.tr g2, g3⟩
theorem most_12 (hG : GV 0 n fi la) {w : Int64} (hS : Sup fi la (bt w)) (hF : 100000 ≤ F) : ∀ (j N v : Nat) (M : Mem), v + j = n → j < N → CG 0 n fi la M → (∀ i, i ≤ v → M.1 33 i = ii (of (bt w) v i)) →
    ∃ M', fX5_mostSummands_L12 F w N (ii (om (bt w) v)) (ii ((v + 1 : Nat) : Int)) M = some (ii (om (bt w) n), M') ∧ Sm [33] M M'
  | 0, N + 1, v, M, h1, h2, hC, h3 => by
    have hg := hG.b
    have e : v = n := by omega
    subst e
    refine ⟨M, ?_, Sm.rf⟩
    rw [fX5_mostSummands_L12, hC.2.1, if_pos (by rw [ii_lt] <;> omega)]
  | j + 1, N + 1, v, M, h1, h2, hC, h3 => by
    have hg := hG.b
    have hb2 := of_le (bt w) v v
    have hom := om_le (bt w) v
    rw [fX5_mostSummands_L12, hC.2.1, if_neg (by rw [ii_lt] <;> omega)]
    simp only [nm_eq]
    rw [ii_lit1, ii_sub, show (((v + 1 : Nat) : Int) - 1) = (v : Int) by omega, gd_inb (by omega) (by omega) (by omega), gd_inb (by omega) (by omega) (by omega), ii_nat (by omega) (by omega), ii_nat (by omega) (by omega), Int.toNat_natCast, Int.toNat_natCast, h3 v (Nat.le_refl _), ii_add]
    have s1 : Sm [33] M (pI M 33 (v + 1) (ii ((of (bt w) v v : Int) + 1))) := Sm.i (by decide)
    obtain ⟨M1, g1, g2, g3⟩ := most_45 (F := F) hG hS (v := v) (by omega) (fun x3 x4 M => fX5_mostSummands_L12 F w N x3 x4 M) (om (bt w) v) (by omega) v F 0 (pI M 33 (v + 1) (ii ((of (bt w) v v : Int) + 1))) (by omega) (by omega) (hC.sm s1 (by decide)) (fun i hi => by rw [pI_c, up_d (by omega)]; exact h3 i hi) (by rw [pI_c, up_c, og, show v + 1 - 1 = v by omega]; rfl)
    have e2 : fX5_mostSummands_L45 F w (fun x3 x4 M => fX5_mostSummands_L12 F w N x3 x4 M) F (ii (om (bt w) v)) (ii ((v + 1 : Nat) : Int)) 2 (pI M 33 (v + 1) (ii ((of (bt w) v v : Int) + 1))) = _ := g1
    rw [e2]
    obtain ⟨M', r1, r2⟩ := most_12 hG hS hF j N (v + 1) M1 (by omega) (by omega) ((hC.sm s1 (by decide)).sm g2 (by decide)) g3
    refine ⟨M', ?_, (s1.tr g2).tr r2⟩
    rw [← r1, om, of_new]
theorem most_eq (hF : 100000 ≤ F) (hG : GV 0 n fi la) {w : Int64} (hS : Sup fi la (bt w)) {M : Mem} (hC : CG 0 n fi la M) : ∃ M', fX5_mostSummands F w M = some (ii (om (bt w) n), M') ∧ Sm [33] M M' := by
  have hg := hG.b
  unfold fX5_mostSummands
  rw [show (0 : Int32) = ii ((0 : Nat) : Int) from rfl, gd_inb (by omega) (by omega) (by omega), nm_eq, ii_nat (by omega) (by omega), Int.toNat_natCast]
  have s1 : Sm [33] M (pI M 33 0 (ii ((0 : Nat) : Int))) := Sm.i (by decide)
  obtain ⟨M', g1, g2⟩ := most_12 (F := F) hG hS hF n F 0 (pI M 33 0 (ii ((0 : Nat) : Int))) (by omega) (by omega) (hC.sm s1 (by decide)) (fun i hi => by rw [show i = 0 by omega, pI_c, up_c]; rfl)
  exact ⟨M', g1, s1.tr g2⟩
theorem order_57 (hG : GV 0 n fi la) {S : Nat → Bool} (hS : Sup fi la S) {r : Nat} (hr : r < 17) {v : Nat} (hv : v + 1 ≤ n) (K : Int32 → Int32 → Mem → Option (Int32 × Mem)) (mo : Nat) (hmo : mo ≤ 60) : ∀ (j N k : Nat) (M : Mem), k + j = v → j < N → RG 0 n fi la M → Row M fi r S → (∀ i, i ≤ v → M.1 53 i = ii (of S v i)) → M.1 53 (v + 1) = ii (og S (of S v) (v + 1) k) →
    ∃ M', fX9_order_L57 F (ii r) K N (ii mo) (ii ((v + 1 : Nat) : Int)) (ii ((k + 2 : Nat) : Int)) M = K (ii ((max mo (og S (of S v) (v + 1) v) : Nat) : Int)) (ii ((v + 1 + 1 : Nat) : Int)) M' ∧ Sm [53] M M' ∧ (∀ i, i ≤ v + 1 → M'.1 53 i = ii (of S (v + 1) i))
  | 0, N + 1, k, M, h1, h2, hR, hw, h3, h4 => by
    have hg := hG.b
    have e : k = v := by omega
    subst e
    have hb := og_le S (of S k) (k + 1) k
    have hb2 := of_le S k (k + 1 - 1)
    refine ⟨M, ?_, Sm.rf, fun i hi => ?_⟩
    · rw [fX9_order_L57, if_pos (by rw [ii_lt] <;> omega), gd_inb (by omega) (by omega) (by omega), ii_nat (by omega) (by omega), Int.toNat_natCast, h4, if_neg (by rw [show (-1 : Int32) = ii (-1) from rfl, ii_eq (by omega) (by omega) (by omega) (by omega)]; omega), gd_inb (by omega) (by omega) (by omega), gd_inb (by omega) (by omega) (by omega)]
      simp only [nm_eq]
      rw [ii_lit1, ii_add, show (((k + 1 : Nat) : Int) + 1) = ((k + 1 + 1 : Nat) : Int) by omega]
      by_cases q : og S (of S k) (k + 1) k ≤ mo
      · rw [if_pos (by rw [ii_le] <;> omega), Nat.max_eq_left q]
      · rw [if_neg (by rw [ii_le] <;> omega), Nat.max_eq_right (by omega)]
    · by_cases e : i = k + 1
      · rw [e, h4, of_new]
      · rw [of_old _ e]; exact h3 i (by omega)
  | j + 1, N + 1, k, M, h1, h2, hR, hw, h3, h4 => by
    have hg := hG.b
    have hb := og_le S (of S v) (v + 1) k
    have hb2 := of_le S v (v + 1 - 1)
    have hb3 := of_le S v (v + 1 - (k + 2))
    rw [fX9_order_L57, if_neg (by rw [ii_lt] <;> omega), in_eq hG hR hS hr hw (by omega) (by omega), bd_eq, mm_nat]
    simp only [nm_eq]
    have e1 : ii ((k + 2 : Nat) : Int) + 1 = ii ((k + 1 + 2 : Nat) : Int) := by rw [ii_lit1, ii_add]; rfl
    rw [e1]
    have ih := order_57 hG hS hr hv K mo hmo j N (k + 1)
    have hog : og S (of S v) (v + 1) (k + 1) = if S (k + 2) then min (og S (of S v) (v + 1) k) (of S v (v + 1 - (k + 2)) + 1) else og S (of S v) (v + 1) k := rfl
    cases hb4 : S (k + 2) with
    | false =>
      rw [hb4, if_neg (by decide)] at hog
      rw [if_pos (by decide)]
      exact ih M (by omega) (by omega) hR hw h3 (by rw [hog]; exact h4)
    | true =>
      rw [hb4, if_pos rfl] at hog
      rw [if_neg (by decide), ii_sub, gd_inb (by omega) (by omega) (by omega), ii_nat (by omega) (by omega), show (((v + 1 : Nat) : Int) - ((k + 2 : Nat) : Int)).toNat = v + 1 - (k + 2) by omega, h3 (v + 1 - (k + 2)) (by omega), if_neg (by rw [show (-1 : Int32) = ii (-1) from rfl, ii_eq (by omega) (by omega) (by omega) (by omega)]; omega), gd_inb (by omega) (by omega) (by omega), gd_inb (by omega) (by omega) (by omega), ii_nat (by omega) (by omega), Int.toNat_natCast, h4, if_neg (by rw [show (-1 : Int32) = ii (-1) from rfl, ii_eq (by omega) (by omega) (by omega) (by omega)]; omega), gd_inb (by omega) (by omega) (by omega), ii_lit1, ii_add]
      by_cases q : og S (of S v) (v + 1) k ≤ of S v (v + 1 - (k + 2)) + 1
      · rw [Nat.min_eq_left q] at hog
        rw [if_pos (by rw [ii_le] <;> omega)]
        exact ih M (by omega) (by omega) hR hw h3 (by rw [hog]; exact h4)
      · rw [Nat.min_eq_right (by omega)] at hog
        rw [if_neg (by rw [ii_le] <;> omega), gd_inb (by omega) (by omega) (by omega)]
        have s1 : Sm [53] M (pI M 53 (v + 1) (ii ((of S v (v + 1 - (k + 2)) : Int) + 1))) := Sm.i (by decide)
        obtain ⟨M', g1, g2, g3⟩ := ih _ (by omega) (by omega) (hR.sm s1 (by decide)) (hw.sm s1 (by decide)) (fun i hi => by rw [pI_c, up_d (by omega)]; exact h3 i hi) (by rw [pI_c, up_c, hog]; rfl)
        exact ⟨M', g1, s1.tr g2, g3⟩
theorem order_39 (hG : GV 0 n fi la) {S : Nat → Bool} (hS : Sup fi la S) (h1S : S 1 = true) {r : Nat} (hr : r < 17) (hF : 100000 ≤ F) : ∀ (j N v : Nat) (M : Mem), v + j = n → j < N → RG 0 n fi la M → Row M fi r S → (∀ i, i ≤ v → M.1 53 i = ii (of S v i)) →
    ∃ M', fX9_order_L39 F (ii r) N (ii (om S v)) (ii ((v + 1 : Nat) : Int)) M = some (ii (om S n), M') ∧ Sm [53] M M'
  | 0, N + 1, v, M, h1, h2, hR, hw, h3 => by
    have hg := hG.b
    have e : v = n := by omega
    subst e
    refine ⟨M, ?_, Sm.rf⟩
    rw [fX9_order_L39, hR.2.1, if_pos (by rw [ii_lt] <;> omega)]
  | j + 1, N + 1, v, M, h1, h2, hR, hw, h3 => by
    have hg := hG.b
    have hb2 := of_le S v v
    have hom := om_le S v
    rw [fX9_order_L39, hR.2.1, if_neg (by rw [ii_lt] <;> omega), gd_inb (by omega) (by omega) (by omega), nm_eq, ii_nat (by omega) (by omega), Int.toNat_natCast]
    have s0 : Sm [53] M (pI M 53 (v + 1) (-1)) := Sm.i (by decide)
    have hR0 := hR.sm s0 (by decide)
    have hw0 := hw.sm s0 (by decide)
    have h0i : ∀ i, i ≤ v → (pI M 53 (v + 1) (-1)).1 53 i = ii (of S v i) := fun i hi => by rw [pI_c, up_d (by omega)]; exact h3 i hi
    have h0n : (pI M 53 (v + 1) (-1)).1 53 (v + 1) = ii (-1) := by rw [pI_c, up_c]; rfl
    generalize pI M 53 (v + 1) (-1) = M0 at *
    -- the first step: 1 is in the set
    obtain ⟨F', hF'⟩ : ∃ F', F = F' + 1 := ⟨F - 1, by omega⟩
    have hstep : ∀ K : Int32 → Int32 → Mem → Option (Int32 × Mem), fX9_order_L57 F (ii r) K (F' + 1) (ii (om S v)) (ii ((v + 1 : Nat) : Int)) 1 M0 = fX9_order_L57 F (ii r) K F' (ii (om S v)) (ii ((v + 1 : Nat) : Int)) (ii ((0 + 2 : Nat) : Int)) (pI M0 53 (v + 1) (ii ((of S v v : Int) + 1))) := by
      intro K
      rw [fX9_order_L57, ii_lit1, if_neg (by rw [ii_lt] <;> omega), show ii 1 = ii ((1 : Nat) : Int) from rfl, in_eq hG hR0 hS hr hw0 (by omega) (by omega), bd_eq, mm_nat, h1S, if_neg (by decide)]
      simp only [nm_eq]
      rw [ii_sub, show (((v + 1 : Nat) : Int) - ((1 : Nat) : Int)) = (v : Int) by omega, gd_inb (by omega) (by omega) (by omega), ii_nat (by omega) (by omega), Int.toNat_natCast, h0i v (Nat.le_refl _), if_neg (by rw [ii_neg, ii_eq (by omega) (by omega) (by omega) (by omega)]; omega), gd_inb (by omega) (by omega) (by omega), gd_inb (by omega) (by omega) (by omega), ii_nat (by omega) (by omega), Int.toNat_natCast, h0n, if_pos (by rw [ii_neg]; rfl), gd_inb (by omega) (by omega) (by omega), ii_add, ii_add]
      rfl
    have s1 : Sm [53] M0 (pI M0 53 (v + 1) (ii ((of S v v : Int) + 1))) := Sm.i (by decide)
    obtain ⟨M1, g1, g2, g3⟩ := order_57 (F := F) hG hS hr (v := v) (by omega) (fun x2 x3 M => fX9_order_L39 F (ii r) N x2 x3 M) (om S v) (by omega) v F' 0 (pI M0 53 (v + 1) (ii ((of S v v : Int) + 1))) (by omega) (by omega) (hR0.sm s1 (by decide)) (hw0.sm s1 (by decide)) (fun i hi => by rw [pI_c, up_d (by omega)]; exact h0i i hi) (by rw [pI_c, up_c, og, show v + 1 - 1 = v by omega]; rfl)
    have hgo : fX9_order_L57 F (ii r) (fun x2 x3 M => fX9_order_L39 F (ii r) N x2 x3 M) F (ii (om S v)) (ii ((v + 1 : Nat) : Int)) 1 M0 = fX9_order_L39 F (ii r) N (ii ((max (om S v) (og S (of S v) (v + 1) v) : Nat) : Int)) (ii ((v + 1 + 1 : Nat) : Int)) M1 := by
      have h5 := hstep (fun x2 x3 M => fX9_order_L39 F (ii r) N x2 x3 M)
      rw [g1, ← hF'] at h5
      exact h5
    rw [hgo]
    obtain ⟨M', r1, r2⟩ := order_39 hG hS h1S hr hF j N (v + 1) M1 (by omega) (by omega) ((hR0.sm s1 (by decide)).sm g2 (by decide)) ((hw0.sm s1 (by decide)).sm g2 (by decide)) g3
    refine ⟨M', ?_, ((s0.tr s1).tr g2).tr r2⟩
    rw [← r1, om, of_new]
/-- with no 1 in the set, 1 is no sum -/
theorem order_no (hF : 100000 ≤ F) (hG : GV 0 n fi la) {S : Nat → Bool} (hS : Sup fi la S) (h1S : S 1 = false) {r : Nat} (hr : r < 17) {M : Mem} (hR : RG 0 n fi la M) (hw : Row M fi r S) :
    ∃ M', fX9_order_L39 F (ii r) F 0 1 M = some (ii (-1), M') ∧ Sm [53] M M' := by
  have hg := hG.b
  obtain ⟨F', hF'⟩ : ∃ F', F = F' + 1 + 1 := ⟨F - 2, by omega⟩
  have s0 : Sm [53] M (pI M 53 1 (-1)) := Sm.i (by decide)
  have hR0 := hR.sm s0 (by decide)
  have hw0 := hw.sm s0 (by decide)
  have h0n : (pI M 53 1 (-1)).1 53 1 = ii (-1) := by rw [pI_c, up_c]; rfl
  have e0 : pI M 53 1 (-1) = pI M 53 1 (ii (-1)) := rfl
  rw [e0] at s0 hR0 hw0 h0n
  refine ⟨pI M 53 1 (ii (-1)), ?_, s0⟩
  have h57 : ∀ (K : Int32 → Int32 → Mem → Option (Int32 × Mem)) (M0 : Mem), RG 0 n fi la M0 → Row M0 fi r S → M0.1 53 1 = ii (-1) → fX9_order_L57 F (ii r) K (F' + 1 + 1) (ii 0) (ii 1) (ii 1) M0 = some (ii (-1), M0) := by
    intro K M0 hR0 hw0 h0n
    rw [fX9_order_L57, if_neg (by rw [ii_lt] <;> omega), show ii 1 = ii ((1 : Nat) : Int) from rfl, in_eq hG hR0 hS hr hw0 (by omega) (by omega), bd_eq, mm_nat, h1S, if_pos (by decide), nm_eq, fX9_order_L57, ii_lit1, ii_add, if_pos (by rw [ii_lt] <;> omega), gd_inb (by omega) (by omega) (by omega), ii_nat (by omega) (by omega), Int.toNat_natCast, h0n, if_pos (by rw [ii_neg])]
    rw [ii_neg]
  have h39 : fX9_order_L39 F (ii r) (F' + 1 + 1) (ii 0) (ii 1) M = some (ii (-1), pI M 53 1 (ii (-1))) := by
    rw [fX9_order_L39, hR.2.1, if_neg (by rw [ii_lt] <;> omega), gd_inb (by omega) (by omega) (by omega), nm_eq, ii_nat (by omega) (by omega), show (1 : Int).toNat = 1 from rfl]
    have := h57 (fun x2 x3 M => fX9_order_L39 F (ii r) (F' + 1) x2 x3 M) _ hR0 hw0 h0n
    rw [← hF'] at this
    exact this
  rw [← hF'] at h39
  exact h39
end OR
