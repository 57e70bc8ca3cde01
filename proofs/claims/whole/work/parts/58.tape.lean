/-! the tape: bytes, the class's and the reference's -/
/-- one byte as the class keeps it, and as the reference does -/
def ByR (a b : Int32) : Prop := b = a &&& 255 ∧ (((if b ≤ 127 then (0 : Int64) else -1) <<< (Int32.toInt64 8 &&& 63)) ||| b.toInt64) = a.toInt64
theorem b255 (x : BitVec 32) (i : Nat) : (x &&& 255#32).getLsbD i = (x.getLsbD i && decide (i < 8)) := by
  rw [BitVec.getLsbD_and]
  congr 1
  rw [BitVec.getLsbD_ofNat, show 255 = 2 ^ 8 - 1 by decide, Nat.testBit_two_pow_sub_one]
  by_cases h : i < 8
  · rw [decide_eq_true h, decide_eq_true (by omega)]; rfl
  · rw [decide_eq_false h]; simp
theorem byr_all : ∀ k : Nat, k < 256 → ByR (Int8.toInt32 ⟨⟨BitVec.ofNat 8 k⟩⟩) (Int8.toInt32 ⟨⟨BitVec.ofNat 8 k⟩⟩ &&& 255) := by
  unfold ByR
  decide +kernel
theorem byr_c (c : Int8) : ByR c.toInt32 (c.toInt32 &&& 255) := by
  have h := byr_all c.toBitVec.toNat c.toBitVec.isLt
  have e : (⟨⟨BitVec.ofNat 8 c.toBitVec.toNat⟩⟩ : Int8) = c := by
    rw [BitVec.ofNat_toNat, BitVec.setWidth_eq]
    rfl
  rw [e] at h
  exact h
theorem and255 (z : Int32) : z &&& 255 = z.toInt8.toInt32 &&& 255 := by
  apply Int32.toBitVec_inj.mp
  rw [Int32.toBitVec_and, Int32.toBitVec_and]
  apply BitVec.eq_of_getLsbD_eq
  intro i hi
  show (z.toBitVec &&& 255#32).getLsbD i = (z.toInt8.toInt32.toBitVec &&& 255#32).getLsbD i
  rw [b255, b255]
  by_cases h : i < 8
  · congr 1
    rw [Int8.toBitVec_toInt32, Int32.toBitVec_toInt8, BitVec.getLsbD_signExtend, BitVec.getLsbD_signExtend]
    simp [h, hi]
  · rw [decide_eq_false h]; simp
def cby (a : Int32) (i : Nat) : Int32 := (Int32.toInt8 ((Int32.toInt8 (a >>> (ii (24 - 8 * (i : Int)) &&& 31))).toInt32)).toInt32
def rby (a : Int32) (i : Nat) : Int32 := ((Int32.toUInt32 a >>> (Int32.toUInt32 (ii (24 - 8 * (i : Int))) &&& Int32.toUInt32 31)).toInt32) &&& 255
theorem shr_and (a : Int32) {k : Nat} {x : Int32} {y : UInt32} (hk : k ≤ 24) (h1 : a >>> x = ⟨⟨a.toBitVec.sshiftRight k⟩⟩) (h2 : a.toUInt32 >>> y = ⟨a.toBitVec >>> k⟩) : (a.toUInt32 >>> y).toInt32 &&& 255 = (a >>> x) &&& 255 := by
  rw [h1, h2]
  apply Int32.toBitVec_inj.mp
  rw [Int32.toBitVec_and, Int32.toBitVec_and]
  apply BitVec.eq_of_getLsbD_eq
  intro i hi
  show ((a.toBitVec >>> k) &&& 255#32).getLsbD i = ((a.toBitVec.sshiftRight k) &&& 255#32).getLsbD i
  rw [b255, b255]
  by_cases h : i < 8
  · congr 1
    rw [BitVec.getLsbD_ushiftRight, BitVec.getLsbD_sshiftRight]
    simp [show k + i < 32 by omega, hi]
  · rw [decide_eq_false h]; simp
theorem byr_i (a : Int32) {i : Nat} (hi : i < 4) : ByR (cby a i) (rby a i) := by
  unfold cby rby
  rw [show ∀ c : Int8, Int32.toInt8 c.toInt32 = c from fun c => Int8.toInt8_toInt32 c]
  have key : ∀ z b : Int32, b = z &&& 255 → ByR z.toInt8.toInt32 b := fun z b e => by
    rw [e, and255]; exact byr_c _
  apply key
  rcases (by omega : i = 0 ∨ i = 1 ∨ i = 2 ∨ i = 3) with rfl | rfl | rfl | rfl
  · exact shr_and a (k := 24) (by omega) rfl rfl
  · exact shr_and a (k := 16) (by omega) rfl rfl
  · exact shr_and a (k := 8) (by omega) rfl rfl
  · exact shr_and a (k := 0) (by omega) rfl rfl
section TA
variable {F : Nat}
theorem append_eq (hF : 100000 ≤ F) {M : Mem} {T : Nat} (h1 : M.1 1 1 = ii T) (hT : T + 4 ≤ 500) (a : Int32) :
    ∃ M', fX7_append F a M = some M' ∧ Sm [1, 2] M M' ∧ M'.1 1 1 = ii ((T + 4 : Nat) : Int) ∧ (∀ j, j < T → M'.1 2 j = M.1 2 j) ∧ (∀ i, i < 4 → M'.1 2 (T + i) = cby a i) ∧ ∀ j, j ≠ 1 → M'.1 1 j = M.1 1 j := by
  have step : ∀ (N : Nat) (M : Mem) (i : Nat), i < 4 → M.1 1 1 = ii ((T + i : Nat) : Int) → fX7_append_L3 F a (N + 1) (ii (24 - 8 * (i : Int))) M = fX7_append_L3 F a N (ii (24 - 8 * ((i + 1 : Nat) : Int))) (pI (pI M 2 (T + i) (cby a i)) 1 1 (ii ((T + (i + 1) : Nat) : Int))) := by
    intro N M i hi h
    rw [fX7_append_L3, if_neg (by rw [ii_lit0, ii_lt] <;> omega), h, if_neg (by rw [show (500 : Int32) = ii 500 from rfl, ii_le] <;> omega), gd_inb (by omega) (by omega) (by omega)]
    simp only [nm_eq]
    rw [ii_nat (by omega) (by omega), Int.toNat_natCast, pI_d (by decide), h, ii_lit1, ii_add, show (-8 : Int32) = ii (-8) from rfl, ii_add, show (24 - 8 * (i : Int) + -8) = 24 - 8 * ((i + 1 : Nat) : Int) by omega]
    rfl
  obtain ⟨F', hF'⟩ : ∃ F', F = F' + 1 + 1 + 1 + 1 + 1 := ⟨F - 5, by omega⟩
  have e : fX7_append F a M = fX7_append_L3 F a (F' + 1 + 1 + 1 + 1 + 1) (ii (24 - 8 * ((0 : Nat) : Int))) M := by
    unfold fX7_append
    rw [← hF']; rfl
  rw [e, step _ M 0 (by omega) h1, step _ _ 1 (by omega) (by rw [pI_c, up_c]), step _ _ 2 (by omega) (by rw [pI_c, up_c]), step _ _ 3 (by omega) (by rw [pI_c, up_c]), fX7_append_L3, if_pos (by decide)]
  refine ⟨_, rfl, ?_, by rw [pI_c, up_c], fun j hj => ?_, fun i hi => ?_, fun j hj => ?_⟩
  · exact (((((((Sm.i (c := 2) (by decide)).tr (Sm.i (c := 1) (by decide))).tr (Sm.i (by decide))).tr (Sm.i (by decide))).tr (Sm.i (by decide))).tr (Sm.i (by decide))).tr (Sm.i (by decide))).tr (Sm.i (by decide))
  · simp only [pI_at]
    rw [if_neg (by omega), if_neg (by omega), if_neg (by omega), if_neg (by omega), if_neg (by omega), if_neg (by omega), if_neg (by omega), if_neg (by omega)]
  · simp only [pI_at]
    rcases (by omega : i = 0 ∨ i = 1 ∨ i = 2 ∨ i = 3) with rfl | rfl | rfl | rfl <;> simp
  · simp [pI_at, hj]
theorem come_eq (hF : 100000 ≤ F) {M : Mem} {T : Nat} (h1 : M.1 37 2 = ii T) (hT : T + 4 ≤ 500) (a : Int32) :
    ∃ M', fX9_come F a M = some M' ∧ Sm [37, 38] M M' ∧ M'.1 37 2 = ii ((T + 4 : Nat) : Int) ∧ (∀ j, j < T → M'.1 38 j = M.1 38 j) ∧ (∀ i, i < 4 → M'.1 38 (T + i) = rby a i) ∧ ∀ j, j ≠ 2 → M'.1 37 j = M.1 37 j := by
  have step : ∀ (N : Nat) (M : Mem) (i : Nat), i < 4 → M.1 37 2 = ii ((T + i : Nat) : Int) → fX9_come_L3 F a (N + 1) (ii (24 - 8 * (i : Int))) M = fX9_come_L3 F a N (ii (24 - 8 * ((i + 1 : Nat) : Int))) (pI (pI M 38 (T + i) (rby a i)) 37 2 (ii ((T + (i + 1) : Nat) : Int))) := by
    intro N M i hi h
    rw [fX9_come_L3, if_neg (by rw [ii_lit0, ii_lt] <;> omega)]
    simp only [nm_eq]
    rw [h, gd_inb (by omega) (by omega) (by omega), ii_nat (by omega) (by omega), Int.toNat_natCast, pI_d (by decide), h, ii_lit1, ii_add, show (-8 : Int32) = ii (-8) from rfl, ii_add, show (24 - 8 * (i : Int) + -8) = 24 - 8 * ((i + 1 : Nat) : Int) by omega]
    rfl
  obtain ⟨F', hF'⟩ : ∃ F', F = F' + 1 + 1 + 1 + 1 + 1 := ⟨F - 5, by omega⟩
  have e : fX9_come F a M = fX9_come_L3 F a (F' + 1 + 1 + 1 + 1 + 1) (ii (24 - 8 * ((0 : Nat) : Int))) M := by
    unfold fX9_come
    rw [← hF']; rfl
  rw [e, step _ M 0 (by omega) h1, step _ _ 1 (by omega) (by rw [pI_c, up_c]), step _ _ 2 (by omega) (by rw [pI_c, up_c]), step _ _ 3 (by omega) (by rw [pI_c, up_c]), fX9_come_L3, if_pos (by decide)]
  refine ⟨_, rfl, ?_, by rw [pI_c, up_c], fun j hj => ?_, fun i hi => ?_, fun j hj => ?_⟩
  · exact (((((((Sm.i (c := 38) (by decide)).tr (Sm.i (c := 37) (by decide))).tr (Sm.i (by decide))).tr (Sm.i (by decide))).tr (Sm.i (by decide))).tr (Sm.i (by decide))).tr (Sm.i (by decide))).tr (Sm.i (by decide))
  · simp only [pI_at]
    rw [if_neg (by omega), if_neg (by omega), if_neg (by omega), if_neg (by omega), if_neg (by omega), if_neg (by omega), if_neg (by omega), if_neg (by omega)]
  · simp only [pI_at]
    rcases (by omega : i = 0 ∨ i = 1 ∨ i = 2 ∨ i = 3) with rfl | rfl | rfl | rfl <;> simp
  · simp [pI_at, hj]
/-- the bytes of five numbers -/
def fiv (v0 v1 v2 v3 v4 : Int32) (k : Nat) : Int32 := if k < 4 then v0 else if k < 8 then v1 else if k < 12 then v2 else if k < 16 then v3 else v4
theorem feedc_eq (hF : 100000 ≤ F) {M : Mem} {T : Nat} (h1 : M.1 1 1 = ii T) (hT : T + 20 ≤ 500) (v0 v1 v2 v3 v4 : Int32) :
    ∃ M', fX8_feed F v0 v1 v2 v3 v4 M = some (ii ((T + 20 : Nat) : Int), M') ∧ Sm [1, 2] M M' ∧ M'.1 1 1 = ii ((T + 20 : Nat) : Int) ∧ (∀ j, j < T → M'.1 2 j = M.1 2 j) ∧ (∀ k, k < 20 → M'.1 2 (T + k) = cby (fiv v0 v1 v2 v3 v4 k) (k % 4)) := by
  obtain ⟨M1, a1, a2, a3, a4, a5, -⟩ := append_eq hF h1 (by omega) v0
  obtain ⟨M2, b1, b2, b3, b4, b5, -⟩ := append_eq hF a3 (by omega) v1
  obtain ⟨M3, c1, c2, c3, c4, c5, -⟩ := append_eq hF b3 (by omega) v2
  obtain ⟨M4, d1, d2, d3, d4, d5, -⟩ := append_eq hF c3 (by omega) v3
  obtain ⟨M5, e1, e2, e3, e4, e5, -⟩ := append_eq hF d3 (by omega) v4
  unfold fX8_feed
  rw [h1, show (20 : Int32) = ii 20 from rfl, ii_add, if_pos (by rw [show (500 : Int32) = ii 500 from rfl, ii_le] <;> omega), a1, bv_eq, b1, bv_eq, c1, bv_eq, d1, bv_eq, e1, bv_eq, e3]
  refine ⟨M5, rfl, (((a2.tr b2).tr c2).tr d2).tr e2, e3, fun j hj => ?_, fun k hk => ?_⟩
  · rw [e4 j (by omega), d4 j (by omega), c4 j (by omega), b4 j (by omega), a4 j hj]
  · unfold fiv
    rcases (by omega : k < 4 ∨ (4 ≤ k ∧ k < 8) ∨ (8 ≤ k ∧ k < 12) ∨ (12 ≤ k ∧ k < 16) ∨ 16 ≤ k) with q | q | q | q | q
    · rw [if_pos q, show k % 4 = k by omega, e4 _ (by omega), d4 _ (by omega), c4 _ (by omega), b4 _ (by omega)]
      exact a5 k q
    · rw [if_neg (by omega), if_pos q.2, show k % 4 = k - 4 by omega, e4 _ (by omega), d4 _ (by omega), c4 _ (by omega)]
      have := b5 (k - 4) (by omega)
      rw [show T + 4 + (k - 4) = T + k by omega] at this
      exact this
    · rw [if_neg (by omega), if_neg (by omega), if_pos q.2, show k % 4 = k - 8 by omega, e4 _ (by omega), d4 _ (by omega)]
      have := c5 (k - 8) (by omega)
      rw [show T + 4 + 4 + (k - 8) = T + k by omega] at this
      exact this
    · rw [if_neg (by omega), if_neg (by omega), if_neg (by omega), if_pos q.2, show k % 4 = k - 12 by omega, e4 _ (by omega)]
      have := d5 (k - 12) (by omega)
      rw [show T + 4 + 4 + 4 + (k - 12) = T + k by omega] at this
      exact this
    · rw [if_neg (by omega), if_neg (by omega), if_neg (by omega), if_neg (by omega), show k % 4 = k - 16 by omega]
      have := e5 (k - 16) (by omega)
      rw [show T + 4 + 4 + 4 + 4 + (k - 16) = T + k by omega] at this
      exact this
theorem feedr_eq (hF : 100000 ≤ F) {M : Mem} {T : Nat} (h1 : M.1 37 2 = ii T) (hT : T + 20 ≤ 500) (v0 v1 v2 v3 v4 : Int32) :
    ∃ M', fX9_feed F v0 v1 v2 v3 v4 M = some (ii ((T + 20 : Nat) : Int), M') ∧ Sm [37, 38] M M' ∧ M'.1 37 2 = ii ((T + 20 : Nat) : Int) ∧ (∀ j, j < T → M'.1 38 j = M.1 38 j) ∧ (∀ k, k < 20 → M'.1 38 (T + k) = rby (fiv v0 v1 v2 v3 v4 k) (k % 4)) ∧ (∀ j, j ≠ 2 → j ≠ 0 → M'.1 37 j = M.1 37 j) := by
  have h0 : (pI M 37 0 0).1 37 2 = ii T := by rw [pI_c, up_d (by decide)]; exact h1
  have s0 : Sm [37, 38] M (pI M 37 0 0) := Sm.i (by decide)
  obtain ⟨M1, a1, a2, a3, a4, a5, a6⟩ := come_eq hF h0 (by omega) v0
  obtain ⟨M2, b1, b2, b3, b4, b5, b6⟩ := come_eq hF a3 (by omega) v1
  obtain ⟨M3, c1, c2, c3, c4, c5, c6⟩ := come_eq hF b3 (by omega) v2
  obtain ⟨M4, d1, d2, d3, d4, d5, d6⟩ := come_eq hF c3 (by omega) v3
  obtain ⟨M5, e1, e2, e3, e4, e5, e6⟩ := come_eq hF d3 (by omega) v4
  unfold fX9_feed
  rw [nm_eq, h0, show (20 : Int32) = ii 20 from rfl, ii_add, if_pos (by rw [show (500 : Int32) = ii 500 from rfl, ii_le] <;> omega), a1, bv_eq, b1, bv_eq, c1, bv_eq, d1, bv_eq, e1, bv_eq, e3]
  refine ⟨M5, rfl, ((((s0.tr a2).tr b2).tr c2).tr d2).tr e2, e3, fun j hj => ?_, fun k hk => ?_, fun j hj hj0 => ?_⟩
  · rw [e4 j (by omega), d4 j (by omega), c4 j (by omega), b4 j (by omega), a4 j hj, pI_d (by decide)]
  · unfold fiv
    rcases (by omega : k < 4 ∨ (4 ≤ k ∧ k < 8) ∨ (8 ≤ k ∧ k < 12) ∨ (12 ≤ k ∧ k < 16) ∨ 16 ≤ k) with q | q | q | q | q
    · rw [if_pos q, show k % 4 = k by omega, e4 _ (by omega), d4 _ (by omega), c4 _ (by omega), b4 _ (by omega)]
      exact a5 k q
    · rw [if_neg (by omega), if_pos q.2, show k % 4 = k - 4 by omega, e4 _ (by omega), d4 _ (by omega), c4 _ (by omega)]
      have := b5 (k - 4) (by omega)
      rw [show T + 4 + (k - 4) = T + k by omega] at this
      exact this
    · rw [if_neg (by omega), if_neg (by omega), if_pos q.2, show k % 4 = k - 8 by omega, e4 _ (by omega), d4 _ (by omega)]
      have := c5 (k - 8) (by omega)
      rw [show T + 4 + 4 + (k - 8) = T + k by omega] at this
      exact this
    · rw [if_neg (by omega), if_neg (by omega), if_neg (by omega), if_pos q.2, show k % 4 = k - 12 by omega, e4 _ (by omega)]
      have := d5 (k - 12) (by omega)
      rw [show T + 4 + 4 + 4 + (k - 12) = T + k by omega] at this
      exact this
    · rw [if_neg (by omega), if_neg (by omega), if_neg (by omega), if_neg (by omega), show k % 4 = k - 16 by omega]
      have := e5 (k - 16) (by omega)
      rw [show T + 4 + 4 + 4 + 4 + (k - 16) = T + k by omega] at this
      exact this
  · rw [e6 j hj, d6 j hj, c6 j hj, b6 j hj, a6 j hj, pI_c, up_d hj0]
end TA
