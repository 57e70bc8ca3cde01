/-! the sheet: numbers read from the tape, both -/
theorem t32_of (v : Int64) : v.toInt32 = ii v.toInt := by
  have : v = Int64.ofInt v.toInt := (Int64.ofInt_toInt v).symm
  rw [this, Int64.toInt32_ofInt, Int64.ofInt_toInt]
  rfl
def nb (M : Mem) (p : Nat) : Nat → Int64
  | 0 => Int32.toInt64 (M.1 2 p)
  | i + 1 => (nb M p i <<< (Int32.toInt64 (8 : Int32) &&& 63)) ||| (Int32.toInt64 ((M.1 2 (p + (i + 1))) &&& (255 : Int32)))
section SH
variable {F s n fi la : Nat}
theorem number_L {M : Mem} {p w : Nat} (hp : p + w ≤ 500) (hw : 1 ≤ w ∧ w ≤ 8) : ∀ (k N i : Nat), i + 1 + k = w → k < N → fX7_number_L11 F (ii p) (ii w) N (nb M p i) (ii ((i + 1 : Nat) : Int)) M = some (nb M p (w - 1), M)
  | 0, N + 1, i, h1, h2 => by
    rw [fX7_number_L11, if_pos (by rw [ii_le] <;> omega), show i = w - 1 by omega]
  | k + 1, N + 1, i, h1, h2 => by
    rw [fX7_number_L11, if_neg (by rw [ii_le] <;> omega), ii_add, gd_inb (by omega) (by omega) (by omega), nm_eq, nm_eq, ii_nat (by omega) (by omega), show ((p : Int) + ((i + 1 : Nat) : Int)).toNat = p + (i + 1) by omega, ii_lit1, ii_add, show (((i + 1 : Nat) : Int) + 1) = ((i + 1 + 1 : Nat) : Int) by omega]
    exact number_L hp hw k N (i + 1) (by omega) (by omega)
theorem number_eq (hF : 100000 ≤ F) {M : Mem} {p w : Nat} (hp : p + w ≤ 500) (hw : 1 ≤ w ∧ w ≤ 8) : fX7_number F (ii p) (ii w) M = some (nb M p (w - 1), M) := by
  unfold fX7_number
  rw [gd_inb (by omega) (by omega) (by omega), nm_eq, ii_nat (by omega) (by omega), Int.toNat_natCast]
  exact number_L hp hw (w - 1) F 0 (by omega) (by omega)
/-- what a sheet gives: the answer, the set, and whether it is read to its end -/
def shf (M : Mem) (fi la T w : Nat) : Nat → Nat → (Nat → Bool) → Int × (Nat → Bool) × Bool
  | 0, _, S => (0, S, false)
  | k + 1, p, S => if T ≤ p then ((ct S : Int), S, true) else if T < p + w then (-1 - (p : Int), S, false) else if (fi : Int) ≤ (nb M p (w - 1)).toInt ∧ (nb M p (w - 1)).toInt ≤ la then shf M fi la T w k (p + w) (put S (nb M p (w - 1)).toInt.toNat true) else (-1 - (p : Int), S, false)
theorem nb_cong {M N : Mem} {p : Nat} (h : N.1 2 = M.1 2) : ∀ i, nb N p i = nb M p i
  | 0 => by rw [nb, nb, h]
  | i + 1 => by rw [nb, nb, h, nb_cong h i]
theorem shf_cong {M N : Mem} {T w : Nat} (h : N.1 2 = M.1 2) : ∀ k p S, shf N fi la T w k p S = shf M fi la T w k p S
  | 0, p, S => rfl
  | k + 1, p, S => by rw [shf, shf, nb_cong h, shf_cong h k]
theorem sheetc_L (hF : 100000 ≤ F) (hG : GV s n fi la) {M : Mem} (hC : CG s n fi la M) {T w a : Nat} (hT : T ≤ 500) (hw : 1 ≤ w ∧ w ≤ 8) (ha : a < 8) (a2 : Int32) : ∀ (k N p : Nat) (v : Int64), T < p + k → k < N + 1 → p ≤ T → Sup fi la (bt v) →
    ∃ v', fX8_sheet_L50 F (ii a) a2 N (ii T) (ii w) v (ii p) M = some (ii (shf M fi la T w k p (bt v)).1, if (shf M fi la T w k p (bt v)).2.2 then pL M 34 a v' else M) ∧ bt v' = (shf M fi la T w k p (bt v)).2.1 ∧ Sup fi la (bt v')
  | k + 1, N + 1, p, v, h1, h2, hp, hS => by
    have hg := hG.b
    rw [fX8_sheet_L50, shf]
    by_cases q1 : T ≤ p
    · rw [if_pos (by rw [ii_le] <;> omega), if_pos q1, gd_inb (by omega) (by omega) (by omega), nm_eq, bitCount_eq, bd_eq, ii_nat (by omega) (by omega), Int.toNat_natCast]
      exact ⟨v, rfl, rfl, hS⟩
    · rw [if_neg (by rw [ii_le] <;> omega), if_neg q1, ii_add]
      have em : ∀ x : Int, (-1 : Int32) - ii x = ii (-1 - x) := fun x => by rw [show (-1 : Int32) = ii (-1) from rfl, ii_sub]
      by_cases q2 : T < p + w
      · rw [if_neg (by rw [ii_le] <;> omega), if_pos q2, em]
        exact ⟨v, rfl, rfl, hS⟩
      · rw [if_pos (by rw [ii_le] <;> omega), if_neg q2, number_eq hF (by omega) hw, bd_eq, contains_eq hG hC, bd_eq]
        by_cases q3 : (fi : Int) ≤ (nb M p (w - 1)).toInt ∧ (nb M p (w - 1)).toInt ≤ la
        · rw [decide_eq_true q3, if_neg (by decide), if_pos q3]
          obtain ⟨x, hx⟩ : ∃ x : Nat, (nb M p (w - 1)).toInt = x := ⟨(nb M p (w - 1)).toInt.toNat, by omega⟩
          simp only [nm_eq]
          rw [t32_of, hx, one_def, Int.toNat_natCast, show ((p : Int) + w) = ((p + w : Nat) : Int) by omega]
          have hb : bt (v ||| one x) = put (bt v) x true := by
            funext y
            rw [bt_or, bt_one (by omega)]
            unfold put
            by_cases q : y = x <;> simp [q]
          obtain ⟨v', r1, r2, r3⟩ := sheetc_L hF hG hC hT hw ha a2 k N (p + w) (v ||| one x) (by omega) (by omega) (by omega) (by rw [hb]; exact hS.put (by omega) (by omega) true)
          rw [hb] at r1 r2
          exact ⟨v', r1, r2, r3⟩
        · rw [decide_eq_false q3, if_pos (by decide), if_neg q3, em]
          exact ⟨v, rfl, rfl, hS⟩
  | 0, N, p, v, h1, h2, hp, hS => by omega
theorem sheet_107 {M : Mem} {p w : Nat} (hp : p + w ≤ 500) (hw : 1 ≤ w ∧ w ≤ 8) (hB : ∀ j, j < p + w → ByR (M.1 2 j) (M.1 38 j)) (a1 a2 : Int32) (K : Int32 → Int32 → Int32 → Mem → Option (Int32 × Mem)) (T : Int32) : ∀ (k N i : Nat), i + 1 + k = w → k < N →
    fX9_sheet_L107 F a1 a2 K N T (ii w) (ii p) (nb M p i) (ii ((i + 1 : Nat) : Int)) M = (bd (fX9_isIn F (nb M p (w - 1)) M) (fun u7 N5 => if u7 = 0 then (some ((-1 : Int32) - ii p, N5)) else (bv (fX9_let F (8 : Int32) (Int64.toInt32 (nb M p (w - 1))) (1 : Int32) N5) (fun N9 => K T (ii w) (ii p + ii w) N9))))
  | 0, N + 1, i, h1, h2 => by
    rw [fX9_sheet_L107, if_pos (by rw [ii_le] <;> omega), show i = w - 1 by omega]
    rfl
  | k + 1, N + 1, i, h1, h2 => by
    rw [fX9_sheet_L107, if_neg (by rw [ii_le] <;> omega), ii_add, gd_inb (by omega) (by omega) (by omega), nm_eq, nm_eq, ii_nat (by omega) (by omega), show ((p : Int) + ((i + 1 : Nat) : Int)).toNat = p + (i + 1) by omega, (hB (p + (i + 1)) (by omega)).1]
    have e1 : ii ((i + 1 : Nat) : Int) + 1 = ii ((i + 1 + 1 : Nat) : Int) := by rw [ii_lit1, ii_add]; rfl
    rw [e1]
    exact sheet_107 hp hw hB a1 a2 K T k N (i + 1) (by omega) (by omega)
theorem sheetr_L (hF : 100000 ≤ F) (hG : GV s n fi la) {T w a : Nat} (hT : T ≤ 500) (hw : 1 ≤ w ∧ w ≤ 8) (ha : a < 8) (a2 : Int32) : ∀ (k N p : Nat) (M : Mem) (S : Nat → Bool), T < p + k → k < N + 1 → p ≤ T → Sup fi la S → RG s n fi la M → Row M fi 8 S → (∀ j, j < T → ByR (M.1 2 j) (M.1 38 j)) →
    ∃ M', fX9_sheet_L63 F (ii a) a2 N (ii T) (ii w) (ii p) M = some (ii (shf M fi la T w k p S).1, M') ∧ Sm [39] M M' ∧ ((shf M fi la T w k p S).2.2 = true → Row M' fi a (shf M fi la T w k p S).2.1) ∧ (∀ i, (i < 480 ∨ 540 ≤ i) → ((shf M fi la T w k p S).2.2 = false ∨ i < 60 * a ∨ 60 * a + 60 ≤ i) → M'.1 39 i = M.1 39 i)
  | 0, N, p, M, S, h1, h2, hp, hS, hR, hr, hB => by omega
  | k + 1, N + 1, p, M, S, h1, h2, hp, hS, hR, hr, hB => by
    have hg := hG.b
    rw [fX9_sheet_L63, shf]
    have em : ∀ x : Int, (-1 : Int32) - ii x = ii (-1 - x) := fun x => by rw [show (-1 : Int32) = ii (-1) from rfl, ii_sub]
    by_cases q1 : T ≤ p
    · rw [if_pos (by rw [ii_le] <;> omega), if_pos q1]
      obtain ⟨M1, c1, c2, c3, c4⟩ := copy_eq (F := F) hF (r := 8) (q := a) (by omega) (by omega) (by omega) hr
      rw [show (8 : Int32) = ii ((8 : Nat) : Int) from rfl, c1, bv_eq, size_eq hF hG (hR.sm c2 (by decide)) (by omega) hS c3, bd_eq]
      refine ⟨M1, rfl, c2, fun _ => c3, fun i hi hi2 => c4 i ?_⟩
      rcases hi2 with h | h
      · cases h
      · exact h
    · rw [if_neg (by rw [ii_le] <;> omega), if_neg q1, ii_add]
      by_cases q2 : T < p + w
      · rw [if_neg (by rw [ii_le] <;> omega), if_pos q2, em]
        exact ⟨M, rfl, Sm.rf, fun h => (by cases h), fun _ _ _ => rfl⟩
      · rw [if_pos (by rw [ii_le] <;> omega), if_neg q2, gd_inb (by omega) (by omega) (by omega), ii_nat (by omega) (by omega), Int.toNat_natCast]
        -- the first byte
        have hb0 := hB p (by omega)
        have first : ∀ (K : Int32 → Int32 → Int32 → Mem → Option (Int32 × Mem)), (if M.1 38 p ≤ 127 then (fX9_sheet_L107 F (ii a) a2 K F (ii T) (ii w) (ii p) (0 : Int64) (0 : Int32) M) else (fX9_sheet_L107 F (ii a) a2 K F (ii T) (ii w) (ii p) (-1 : Int64) (0 : Int32) M)) = (bd (fX9_isIn F (nb M p (w - 1)) M) (fun u7 N5 => if u7 = 0 then (some ((-1 : Int32) - ii p, N5)) else (bv (fX9_let F (8 : Int32) (Int64.toInt32 (nb M p (w - 1))) (1 : Int32) N5) (fun N9 => K (ii T) (ii w) (ii p + ii w) N9)))) := by
          intro K
          obtain ⟨F', hF'⟩ : ∃ F', F = F' + 1 := ⟨F - 1, by omega⟩
          have hone : ∀ v : Int64, (v <<< (Int32.toInt64 (8 : Int32) &&& 63)) ||| (Int32.toInt64 (M.1 38 p)) = nb M p 0 → fX9_sheet_L107 F (ii a) a2 K (F' + 1) (ii T) (ii w) (ii p) v 0 M = (bd (fX9_isIn F (nb M p (w - 1)) M) (fun u7 N5 => if u7 = 0 then (some ((-1 : Int32) - ii p, N5)) else (bv (fX9_let F (8 : Int32) (Int64.toInt32 (nb M p (w - 1))) (1 : Int32) N5) (fun N9 => K (ii T) (ii w) (ii p + ii w) N9)))) := by
            intro v hv
            rw [fX9_sheet_L107, ii_lit0, if_neg (by rw [ii_le] <;> omega), ii_add, show ((p : Int) + 0) = (p : Int) by omega, gd_inb (by omega) (by omega) (by omega), nm_eq, nm_eq, ii_nat (by omega) (by omega), Int.toNat_natCast, hv]
            have e1 : ii 0 + 1 = ii ((0 + 1 : Nat) : Int) := by rw [ii_lit1, ii_add]; rfl
            rw [e1]
            exact sheet_107 (by omega) hw (fun j hj => hB j (by omega)) (ii a) a2 K (ii T) (w - 1) F' 0 (by omega) (by omega)
          rw [← hF'] at hone
          have h2 := hb0.2
          split
          · rename_i h; rw [if_pos h] at h2; exact hone 0 h2
          · rename_i h; rw [if_neg h] at h2; exact hone (-1) h2
        rw [first, isIn9_eq hG hR, bd_eq]
        by_cases q3 : (fi : Int) ≤ (nb M p (w - 1)).toInt ∧ (nb M p (w - 1)).toInt ≤ la
        · rw [decide_eq_true q3, if_neg (by decide), if_pos q3]
          obtain ⟨x, hx⟩ : ∃ x : Nat, (nb M p (w - 1)).toInt = x := ⟨(nb M p (w - 1)).toInt.toNat, by omega⟩
          rw [t32_of, hx, show (8 : Int32) = ii ((8 : Nat) : Int) from rfl, show (1 : Int32) = bi true from rfl, let_eq hG hR (by omega) (by omega) (by omega), bv_eq, ii_add, show ((p : Int) + w) = ((p + w : Nat) : Int) by omega, Int.toNat_natCast]
          have s1 : Sm [39] M (pI M 39 (60 * 8 + (x - fi)) (bi true)) := Sm.i (by decide)
          have h2c : (pI M 39 (60 * 8 + (x - fi)) (bi true)).1 2 = M.1 2 := by rw [pI_d (by decide)]
          obtain ⟨M', r1, r2, r3, r4⟩ := sheetr_L hF hG hT hw ha a2 k N (p + w) (pI M 39 (60 * 8 + (x - fi)) (bi true)) (put S x true) (by omega) (by omega) (by omega) (hS.put (by omega) (by omega) true) (hR.sm s1 (by decide)) (hr.put (by omega) (by omega) true) (fun j hj => by rw [pI_d (by decide), pI_d (by decide)]; exact hB j hj)
          rw [shf_cong h2c] at r1 r3 r4
          refine ⟨M', r1, s1.tr r2, r3, fun i hi hi2 => ?_⟩
          rw [r4 i hi hi2, pI_c, up_d (by omega)]
        · rw [decide_eq_false q3, if_pos (by decide), if_neg q3, em]
          exact ⟨M, rfl, Sm.rf, fun h => (by cases h), fun _ _ _ => rfl⟩
end SH
