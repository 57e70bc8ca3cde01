theorem ts_nf {x : Bool} (h : ¬ x = false) : x = true := by cases x <;> first | rfl | exact absurd rfl h
theorem ts_nt {x : Bool} (h : ¬ x = true) : x = false := by cases x <;> first | rfl | exact absurd rfl h
theorem ts_bit {w : Int64} {s : UInt64} {j : Nat} (hj : j < 64) (hs : s.toNat = j) : ((w.toUInt64 >>> s).toInt64 &&& 1) = 0 ↔ w.toBitVec.getLsbD j = false := by
  have e : (w.toUInt64 >>> s).toInt64.toBitVec = w.toBitVec >>> j := by
    apply BitVec.eq_of_toNat_eq
    show (w.toUInt64 >>> s).toNat = _
    rw [UInt64.toNat_shiftRight, hs, Nat.mod_eq_of_lt hj, BitVec.toNat_ushiftRight]
    rfl
  rw [← Int64.toBitVec_inj, Int64.toBitVec_and, e]
  show w.toBitVec >>> j &&& 1#64 = 0#64 ↔ _
  constructor
  · intro h
    have t := congrArg (fun x => x.getLsbD 0) h
    simpa using t
  · intro h
    apply BitVec.eq_of_getLsbD_eq
    intro i hi
    cases i with
    | zero => simp [h]
    | succ i => simp
theorem ts_or {w m : Int64} {j : Nat} (hj : j < 64) (hm : m.toBitVec = BitVec.twoPow 64 j) : (w ||| m) = w ↔ w.toBitVec.getLsbD j = true := by
  rw [← Int64.toBitVec_inj, Int64.toBitVec_or, hm]
  constructor
  · intro h
    have t := congrArg (fun x => x.getLsbD j) h
    simp only [BitVec.getLsbD_or, BitVec.getLsbD_twoPow] at t
    simpa [hj] using t.symm
  · intro h
    apply BitVec.eq_of_getLsbD_eq
    intro i hi
    rw [BitVec.getLsbD_or, BitVec.getLsbD_twoPow]
    by_cases e : j = i
    · subst e; rw [h, Bool.true_or]
    · simp [e]
theorem ts_and {w m : Int64} {j : Nat} (hj : j < 64) (hm : m.toBitVec = BitVec.twoPow 64 j) : (w &&& (m ^^^ (-1))) = w ↔ w.toBitVec.getLsbD j = false := by
  have ha : (-1 : Int64).toBitVec = BitVec.allOnes 64 := by decide
  rw [← Int64.toBitVec_inj, Int64.toBitVec_and, Int64.toBitVec_xor, hm, ha]
  constructor
  · intro h
    have t := congrArg (fun x => x.getLsbD j) h
    simp only [BitVec.getLsbD_and, BitVec.getLsbD_xor, BitVec.getLsbD_twoPow, BitVec.getLsbD_allOnes] at t
    simpa [hj] using t.symm
  · intro h
    apply BitVec.eq_of_getLsbD_eq
    intro i hi
    rw [BitVec.getLsbD_and, BitVec.getLsbD_xor, BitVec.getLsbD_twoPow, BitVec.getLsbD_allOnes]
    by_cases e : j = i
    · subst e; rw [h, Bool.false_and]
    · simp [e, hi]
/-! ===== lN n to 2^64: shifts, and, or, masks, one bit ===== -/
theorem wb_tb (n : Nat) : (lN n).toBitVec = BitVec.ofNat 64 n := rfl
theorem wb_inj {a b : Int64} (h : a.toBitVec = b.toBitVec) : a = b := Int64.toBitVec_inj.mp h
theorem wb_tn {n : Nat} (h : n < 2 ^ 64) : (lN n).toBitVec.toNat = n := by rw [wb_tb, BitVec.toNat_ofNat, Nat.mod_eq_of_lt h]
theorem wb_of (x : Int64) : ∃ n, n < 2 ^ 64 ∧ x = lN n := ⟨x.toBitVec.toNat, x.toBitVec.isLt, wb_inj (by rw [wb_tb]; simp)⟩
theorem wb_of32 (x : Int32) : ∃ n, n < 2 ^ 32 ∧ x = nI n := ⟨x.toBitVec.toNat, x.toBitVec.isLt, Int32.toBitVec_inj.mp (by show _ = BitVec.ofNat 32 _; simp)⟩
theorem wb_c : ∀ k, k < 64 → ((nI k).toInt64 &&& 63) = lN k := by decide +kernel
theorem wb_cu : ∀ k, k < 64 → ((nI k).toInt64.toUInt64 &&& Int64.toUInt64 63) = UInt64.ofNat k := by decide +kernel
theorem wb_sm : ∀ k, k < 64 → (BitVec.ofNat 64 k).smod 64 = BitVec.ofNat 64 k := by decide +kernel
theorem wb_pw {a b : Nat} (h : a ≤ b) : 2 ^ b = 2 ^ a * 2 ^ (b - a) := by rw [← Nat.pow_add]; congr 1; omega
theorem wb_lt2 {a b : Nat} (h : a < b) : 2 ^ a < 2 ^ b := Nat.pow_lt_pow_right (by decide) h
theorem wb_mod (n : Nat) : lN n = lN (n % 2 ^ 64) := wb_inj (by rw [wb_tb, wb_tb]; apply BitVec.eq_of_toNat_eq; rw [BitVec.toNat_ofNat, BitVec.toNat_ofNat, Nat.mod_mod])
theorem wb_shr {n k : Nat} (hn : n < 2 ^ 64) (hk : k < 64) : ((lN n).toUInt64 >>> ((nI k).toInt64.toUInt64 &&& Int64.toUInt64 63)).toInt64 = lN (n / 2 ^ k) := by
  rw [wb_cu k hk]
  apply wb_inj
  apply BitVec.eq_of_toNat_eq
  show ((lN n).toUInt64 >>> UInt64.ofNat k).toNat = (BitVec.ofNat 64 _).toNat
  have h1 : (UInt64.ofNat k).toNat = k := by
    show (BitVec.ofNat 64 k).toNat = k
    rw [BitVec.toNat_ofNat, Nat.mod_eq_of_lt (by omega)]
  have h2 : (lN n).toUInt64.toNat = n := wb_tn hn
  rw [UInt64.toNat_shiftRight, h1, h2, Nat.mod_eq_of_lt hk, Nat.shiftRight_eq_div_pow, BitVec.toNat_ofNat, Nat.mod_eq_of_lt (Nat.lt_of_le_of_lt (Nat.div_le_self _ _) hn)]
theorem wb_shl (n : Nat) {k : Nat} (hk : k < 64) : lN n <<< ((nI k).toInt64 &&& 63) = lN (n * 2 ^ k) := by
  rw [wb_c k hk]
  apply wb_inj
  rw [Int64.toBitVec_shiftLeft, wb_tb, wb_tb, wb_tb, wb_sm k hk]
  apply BitVec.eq_of_toNat_eq
  rw [BitVec.shiftLeft_eq', BitVec.toNat_shiftLeft, BitVec.toNat_ofNat, BitVec.toNat_ofNat, BitVec.toNat_ofNat, Nat.mod_eq_of_lt (show k < 2 ^ 64 by omega), Nat.shiftLeft_eq, Nat.mul_mod, Nat.mod_mod, ← Nat.mul_mod]
theorem wb_and {a b : Nat} (ha : a < 2 ^ 64) (hb : b < 2 ^ 64) : lN a &&& lN b = lN (a &&& b) := by
  apply wb_inj
  rw [Int64.toBitVec_and, wb_tb, wb_tb, wb_tb]
  apply BitVec.eq_of_toNat_eq
  rw [BitVec.toNat_and, BitVec.toNat_ofNat, BitVec.toNat_ofNat, BitVec.toNat_ofNat, Nat.mod_eq_of_lt ha, Nat.mod_eq_of_lt hb, Nat.mod_eq_of_lt (Nat.and_lt_two_pow _ hb)]
theorem wb_or {a b : Nat} (ha : a < 2 ^ 64) (hb : b < 2 ^ 64) : lN a ||| lN b = lN (a ||| b) := by
  apply wb_inj
  rw [Int64.toBitVec_or, wb_tb, wb_tb, wb_tb]
  apply BitVec.eq_of_toNat_eq
  rw [BitVec.toNat_or, BitVec.toNat_ofNat, BitVec.toNat_ofNat, BitVec.toNat_ofNat, Nat.mod_eq_of_lt ha, Nat.mod_eq_of_lt hb, Nat.mod_eq_of_lt (Nat.or_lt_two_pow ha hb)]
theorem wb_mask {n k : Nat} (hn : n < 2 ^ 64) (hk : k < 64) : lN n &&& lN (2 ^ k - 1) = lN (n % 2 ^ k) := by
  rw [wb_and hn (by have := wb_lt2 hk; omega), Nat.and_two_pow_sub_one_eq_mod]
theorem wb_a1 {n : Nat} (hn : n < 2 ^ 64) : lN n &&& 1 = lN (n % 2) := wb_mask (k := 1) hn (by decide)
theorem wb_bit {n k : Nat} (hn : n < 2 ^ 64) (hk : k < 64) : ((lN n).toUInt64 >>> ((nI k).toInt64.toUInt64 &&& Int64.toUInt64 63)).toInt64 &&& 1 = lN (n / 2 ^ k % 2) := by
  rw [wb_shr hn hk, wb_a1 (Nat.lt_of_le_of_lt (Nat.div_le_self _ _) hn)]
/-! sets as longs: bits, and how many there are -/
def bt (w : Int64) (x : Nat) : Bool := w.toBitVec.getLsbD x
theorem bt_ext {v w : Int64} (h : ∀ x, x < 64 → bt v x = bt w x) : v = w := wb_inj (BitVec.eq_of_getLsbD_eq (fun i hi => h i hi))
theorem bt_or (v w : Int64) (x : Nat) : bt (v ||| w) x = (bt v x || bt w x) := by unfold bt; rw [Int64.toBitVec_or, BitVec.getLsbD_or]
theorem bt_and (v w : Int64) (x : Nat) : bt (v &&& w) x = (bt v x && bt w x) := by unfold bt; rw [Int64.toBitVec_and, BitVec.getLsbD_and]
theorem bt_xor (v w : Int64) (x : Nat) : bt (v ^^^ w) x = (bt v x ^^ bt w x) := by unfold bt; rw [Int64.toBitVec_xor, BitVec.getLsbD_xor]
theorem bt_big {w : Int64} {x : Nat} (h : 64 ≤ x) : bt w x = false := BitVec.getLsbD_of_ge _ _ h
theorem bt_lt {w : Int64} {x : Nat} (h : bt w x = true) : x < 64 := by
  rcases Nat.lt_or_ge x 64 with q | q
  · exact q
  · rw [bt_big q] at h; cases h
theorem bt_0 (x : Nat) : bt 0 x = false := by unfold bt; simp
theorem bt_m1 {x : Nat} (h : x < 64) : bt (-1) x = true := by
  unfold bt
  rw [show (-1 : Int64).toBitVec = BitVec.allOnes 64 by decide, BitVec.getLsbD_allOnes]
  exact decide_eq_true h
theorem bt_lN {n : Nat} (h : n < 2 ^ 64) (x : Nat) : bt (lN n) x = n.testBit x := by
  show (lN n).toBitVec.toNat.testBit x = _
  rw [wb_tn h]
theorem bt_zero {w : Int64} : w = 0 ↔ ∀ x, x < 64 → bt w x = false := ⟨fun h x _ => by rw [h, bt_0], fun h => bt_ext (fun x hx => by rw [h x hx, bt_0])⟩
theorem ii_nI (n : Nat) : ii (n : Int) = nI n := Int32.ofInt_eq_ofNat
/-- the set of one number -/
def one (x : Int) : Int64 := (1 : Int64) <<< (Int32.toInt64 (ii x) &&& 63)
theorem one_def (x : Int) : (1 : Int64) <<< (Int32.toInt64 (ii x) &&& 63) = one x := rfl
theorem one_lN {x : Nat} (h : x < 64) : one (x : Int) = lN (2 ^ x) := by
  unfold one
  rw [ii_nI]
  have := wb_shl 1 h
  rw [Nat.one_mul] at this
  exact this
theorem bt_one {x : Nat} (h : x < 64) (y : Nat) : bt (one (x : Int)) y = decide (y = x) := by
  rw [one_lN h, bt_lN (wb_lt2 h), Nat.testBit_two_pow]
  exact decide_eq_decide.mpr ⟨Eq.symm, Eq.symm⟩
/-- a set moved down -/
def sr (w : Int64) (x : Int) : Int64 := (Int64.toUInt64 w >>> ((Int32.toInt64 (ii x)).toUInt64 &&& Int64.toUInt64 63)).toInt64
theorem sr_def (w : Int64) (x : Int) : (Int64.toUInt64 w >>> ((Int32.toInt64 (ii x)).toUInt64 &&& Int64.toUInt64 63)).toInt64 = sr w x := rfl
theorem bt_sr {x : Nat} (h : x < 64) (w : Int64) (y : Nat) : bt (sr w (x : Int)) y = bt w (x + y) := by
  obtain ⟨n, hn, rfl⟩ := wb_of w
  unfold sr
  rw [ii_nI, wb_shr hn h, bt_lN (Nat.lt_of_le_of_lt (Nat.div_le_self _ _) hn), bt_lN hn, ← Nat.shiftRight_eq_div_pow, Nat.testBit_shiftRight]
/-- a set moved up -/
def sl (w : Int64) (x : Int) : Int64 := w <<< (Int32.toInt64 (ii x) &&& 63)
theorem bt_sl {x : Nat} (h : x < 64) (w : Int64) {y : Nat} (hy : y < 64) : bt (sl w (x : Int)) y = (decide (x ≤ y) && bt w (y - x)) := by
  obtain ⟨n, hn, rfl⟩ := wb_of w
  unfold sl
  rw [ii_nI, wb_shl n h, wb_mod, bt_lN (Nat.mod_lt _ (by decide)), bt_lN hn, Nat.testBit_mod_two_pow, Nat.mul_comm, Nat.testBit_two_pow_mul]
  simp [hy]
theorem bt_1 (y : Nat) : bt 1 y = decide (y = 0) := bt_one (x := 0) (by decide) y
/-- is a number in: as the class asks it -/
theorem sr_and {x : Nat} (h : x < 64) (w : Int64) : (sr w (x : Int) &&& 1 = 0) ↔ bt w x = false := by
  rw [bt_zero]
  constructor
  · intro h2
    have := h2 0 (by decide)
    rw [bt_and, bt_sr h, bt_1] at this
    simpa using this
  · intro h2 y _
    rw [bt_and, bt_1]
    by_cases e : y = 0
    · subst e; rw [bt_sr h, Nat.add_zero, h2]; rfl
    · simp [e]
theorem sr_cmp {x : Nat} (h : x < 64) (w : Int64) : (lg_cmp (sr w (x : Int) &&& 1) 0 = 0) ↔ bt w x = false := by rw [lg_cmp_eq, sr_and h]
/-! ===== how many: Long.bitCount ===== -/
theorem sw_and {b m c C k : Nat} (hb : b < 256) (hk : k ≤ 8) (hc : c < 2 ^ (8 - k)) : ((256 * m + b) >>> k) &&& (256 * C + c) = 256 * ((m >>> k) &&& C) + ((b >>> k) &&& c) := by
  have hc8 : c < 2 ^ 8 := Nat.lt_of_lt_of_le hc (Nat.pow_le_pow_right (by decide) (by omega))
  have hx : (b >>> k) &&& c < 2 ^ 8 := Nat.and_lt_two_pow _ hc8
  apply Nat.eq_of_testBit_eq
  intro j
  rw [Nat.testBit_and, Nat.testBit_shiftRight, show (256 : Nat) = 2 ^ 8 from rfl, Nat.testBit_two_pow_mul_add _ hb, Nat.testBit_two_pow_mul_add _ hc8, Nat.testBit_two_pow_mul_add _ hx]
  by_cases hj : j < 8
  · simp only [hj, if_true, Nat.testBit_and, Nat.testBit_shiftRight]
    by_cases h2 : k + j < 8
    · simp [h2]
    · have : c.testBit j = false := Nat.testBit_lt_two_pow (Nat.lt_of_lt_of_le hc (Nat.pow_le_pow_right (by decide) (by omega)))
      simp [this]
  · have h2 : ¬ k + j < 8 := by omega
    simp only [hj, h2, if_false, Nat.testBit_and, Nat.testBit_shiftRight]
    rw [show k + j - 8 = k + (j - 8) by omega]
/-- eight bytes -/
def ns (b0 b1 b2 b3 b4 b5 b6 b7 : Nat) : Nat := 256 * (256 * (256 * (256 * (256 * (256 * (256 * b7 + b6) + b5) + b4) + b3) + b2) + b1) + b0
theorem ns_and {b0 b1 b2 b3 b4 b5 b6 b7 c k : Nat} (h0 : b0 < 256) (h1 : b1 < 256) (h2 : b2 < 256) (h3 : b3 < 256) (h4 : b4 < 256) (h5 : b5 < 256) (h6 : b6 < 256) (hk : k ≤ 8) (hc : c < 2 ^ (8 - k)) :
    (ns b0 b1 b2 b3 b4 b5 b6 b7 >>> k) &&& ns c c c c c c c c = ns (b0 >>> k &&& c) (b1 >>> k &&& c) (b2 >>> k &&& c) (b3 >>> k &&& c) (b4 >>> k &&& c) (b5 >>> k &&& c) (b6 >>> k &&& c) (b7 >>> k &&& c) := by
  unfold ns
  rw [sw_and h0 hk hc, sw_and h1 hk hc, sw_and h2 hk hc, sw_and h3 hk hc, sw_and h4 hk hc, sw_and h5 hk hc, sw_and h6 hk hc]
theorem ct_byte (b m k : Nat) (hb : b < 256) : fb_ct ((256 * m + b).testBit) (8 + k) = fb_ct b.testBit 8 + fb_ct m.testBit k := by
  rw [fb_ct_split]
  congr 1
  · exact fb_ct_cong (fun j hj => by rw [show (256 : Nat) = 2 ^ 8 from rfl, Nat.testBit_two_pow_mul_add _ hb, if_pos hj])
  · exact fb_ct_cong (fun j hj => by
      rw [show (256 : Nat) = 2 ^ 8 from rfl, Nat.testBit_two_pow_mul_add _ hb, if_neg (by omega), Nat.add_sub_cancel_left])
def p1 (b : Nat) : Nat := b - ((b >>> 1) &&& 85)
def p2 (c : Nat) : Nat := ((c >>> 0) &&& 51) + ((c >>> 2) &&& 51)
theorem p_ok : ∀ b, b < 256 → ((b >>> 1) &&& 85) ≤ b ∧ p1 b < 256 ∧ p2 (p1 b) % 16 ≤ 4 ∧ p2 (p1 b) / 16 ≤ 4 ∧ p2 (p1 b) % 16 + p2 (p1 b) / 16 = fb_ct b.testBit 8 := by decide +kernel
theorem and15 (e : Nat) : (e >>> 0) &&& 15 = e % 16 := Nat.and_two_pow_sub_one_eq_mod e 4
theorem ns_ex (n : Nat) (h : n < 2 ^ 64) : ∃ b0 b1 b2 b3 b4 b5 b6 b7, b0 < 256 ∧ b1 < 256 ∧ b2 < 256 ∧ b3 < 256 ∧ b4 < 256 ∧ b5 < 256 ∧ b6 < 256 ∧ b7 < 256 ∧ n = ns b0 b1 b2 b3 b4 b5 b6 b7 :=
  ⟨n % 256, n / 256 % 256, n / 256 / 256 % 256, n / 256 / 256 / 256 % 256, n / 256 / 256 / 256 / 256 % 256, n / 256 / 256 / 256 / 256 / 256 % 256, n / 256 / 256 / 256 / 256 / 256 / 256 % 256, n / 256 / 256 / 256 / 256 / 256 / 256 / 256, by omega, by omega, by omega, by omega, by omega, by omega, by omega, by omega, by unfold ns; omega⟩
theorem sw_dv {m a b K : Nat} (e : m = a + K * b) (h : a < K) : m / K = b := by
  rw [e, Nat.add_mul_div_left _ _ (by omega), Nat.div_eq_of_lt h, Nat.zero_add]
theorem sw_i2 (f0 f1 f2 f3 f4 f5 f6 f7 : Nat) : 256 * (256 * (256 * (256 * (256 * (256 * (256 * f7 + f6) + f5) + f4) + f3) + f2) + f1) + f0 + (256 * (256 * (256 * (256 * (256 * (256 * f7 + f6) + f5) + f4) + f3) + f2) + f1) = ((f0 + f1) + 256 * (f1 + f2)) + 2 ^ 16 * ((f2 + f3) + 256 * (f3 + f4) + 65536 * (f4 + f5) + 16777216 * (f5 + f6) + 4294967296 * (f6 + f7) + 1099511627776 * f7) := by omega
theorem sw_i3 (f0 f1 f2 f3 f4 f5 f6 f7 : Nat) : ((f0 + f1) + 256 * (f1 + f2)) + 2 ^ 16 * ((f2 + f3) + 256 * (f3 + f4) + 65536 * (f4 + f5) + 16777216 * (f5 + f6) + 4294967296 * (f6 + f7) + 1099511627776 * f7) + ((f2 + f3) + 256 * (f3 + f4) + 65536 * (f4 + f5) + 16777216 * (f5 + f6) + 4294967296 * (f6 + f7) + 1099511627776 * f7) = ((f0 + f1 + f2 + f3) + 256 * (f1 + f2 + f3 + f4) + 65536 * (f2 + f3 + f4 + f5) + 16777216 * (f3 + f4 + f5 + f6)) + 2 ^ 32 * ((f4 + f5 + f6 + f7) + 256 * (f5 + f6 + f7) + 65536 * (f6 + f7) + 16777216 * f7) := by omega
theorem sw_i4 (f0 f1 f2 f3 f4 f5 f6 f7 : Nat) : ((f0 + f1 + f2 + f3) + 256 * (f1 + f2 + f3 + f4) + 65536 * (f2 + f3 + f4 + f5) + 16777216 * (f3 + f4 + f5 + f6)) + 2 ^ 32 * ((f4 + f5 + f6 + f7) + 256 * (f5 + f6 + f7) + 65536 * (f6 + f7) + 16777216 * f7) + ((f4 + f5 + f6 + f7) + 256 * (f5 + f6 + f7) + 65536 * (f6 + f7) + 16777216 * f7) = (f0 + (f1 + (f2 + (f3 + (f4 + (f5 + (f6 + f7))))))) + 128 * (2 * ((f1 + f2 + f3 + f4) + (f5 + f6 + f7) + 256 * (f2 + f3 + f4 + f5) + 256 * (f6 + f7) + 65536 * (f3 + f4 + f5 + f6) + 65536 * f7 + 16777216 * ((f4 + f5 + f6 + f7) + 256 * (f5 + f6 + f7) + 65536 * (f6 + f7) + 16777216 * f7))) := by omega
theorem sw_sum {f0 f1 f2 f3 f4 f5 f6 f7 m1 m2 m3 m4 : Nat} (x0 : f0 ≤ 8) (x1 : f1 ≤ 8) (x2 : f2 ≤ 8) (x3 : f3 ≤ 8) (x4 : f4 ≤ 8) (x5 : f5 ≤ 8) (x6 : f6 ≤ 8) (x7 : f7 ≤ 8) :
    (m1 = ns f0 f1 f2 f3 f4 f5 f6 f7) → (m2 = m1 + m1 / 2 ^ 8) → (m3 = m2 + m2 / 2 ^ 16) → (m4 = m3 + m3 / 2 ^ 32) → m4 % 128 = f0 + (f1 + (f2 + (f3 + (f4 + (f5 + (f6 + f7)))))) := by
  have b1 : f0 < 2 ^ 8 := by omega
  have b2 : (f0 + f1) + 256 * (f1 + f2) < 2 ^ 16 := by omega
  have b3 : (f0 + f1 + f2 + f3) + 256 * (f1 + f2 + f3 + f4) + 65536 * (f2 + f3 + f4 + f5) + 16777216 * (f3 + f4 + f5 + f6) < 2 ^ 32 := by omega
  have b4 : f0 + (f1 + (f2 + (f3 + (f4 + (f5 + (f6 + f7)))))) < 128 := by omega
  intro y1 y2 y3 y4
  unfold ns at y1
  have v1 : m1 / 2 ^ 8 = 256 * (256 * (256 * (256 * (256 * (256 * f7 + f6) + f5) + f4) + f3) + f2) + f1 := sw_dv (a := f0) (by rw [y1, show (2 : Nat) ^ 8 = 256 from rfl, Nat.add_comm]) b1
  rw [v1, y1, sw_i2] at y2
  have v3 := sw_dv y2 b2
  rw [v3, y2, sw_i3] at y3
  have v5 := sw_dv y3 b3
  rw [v5, y3, sw_i4] at y4
  rw [y4, Nat.add_mul_mod_self_left, Nat.mod_eq_of_lt b4]
/-- how many numbers a set has -/
def cnt (w : Int64) : Nat := fb_ct (bt w) 64
theorem cnt_le (w : Int64) : cnt w ≤ 64 := fb_ct_le _ _
set_option maxRecDepth 100000 in
set_option maxHeartbeats 4000000 in
theorem bitCount_eq (F : Nat) (w : Int64) (M : Mem) : fJ13_bitCount_95d88 F w M = some (ii (cnt w), M) := by
  obtain ⟨n, hn, rfl⟩ := wb_of w
  obtain ⟨b0, b1, b2, b3, b4, b5, b6, b7, h0, h1, h2, h3, h4, h5, h6, h7, e⟩ := ns_ex n hn
  obtain ⟨q0, r0, s0, t0, u0⟩ := p_ok b0 h0
  obtain ⟨q1, r1, s1, t1, u1⟩ := p_ok b1 h1
  obtain ⟨q2, r2, s2, t2, u2⟩ := p_ok b2 h2
  obtain ⟨q3, r3, s3, t3, u3⟩ := p_ok b3 h3
  obtain ⟨q4, r4, s4, t4, u4⟩ := p_ok b4 h4
  obtain ⟨q5, r5, s5, t5, u5⟩ := p_ok b5 h5
  obtain ⟨q6, r6, s6, t6, u6⟩ := p_ok b6 h6
  obtain ⟨q7, r7, s7, t7, u7⟩ := p_ok b7 h7
  have hc : cnt (lN n) = fb_ct b0.testBit 8 + (fb_ct b1.testBit 8 + (fb_ct b2.testBit 8 + (fb_ct b3.testBit 8 + (fb_ct b4.testBit 8 + (fb_ct b5.testBit 8 + (fb_ct b6.testBit 8 + fb_ct b7.testBit 8)))))) := by
    unfold cnt
    rw [fb_ct_cong (fun k _ => bt_lN hn k), e]
    show fb_ct ((256 * (256 * (256 * (256 * (256 * (256 * (256 * b7 + b6) + b5) + b4) + b3) + b2) + b1) + b0).testBit) (8 + (8 + (8 + (8 + (8 + (8 + (8 + 8))))))) = _
    rw [ct_byte _ _ _ h0, ct_byte _ _ _ h1, ct_byte _ _ _ h2, ct_byte _ _ _ h3, ct_byte _ _ _ h4, ct_byte _ _ _ h5, ct_byte _ _ _ h6]
  rw [hc, ← u0, ← u1, ← u2, ← u3, ← u4, ← u5, ← u6, ← u7]
  clear hc u0 u1 u2 u3 u4 u5 u6 u7
  unfold fJ13_bitCount_95d88
  simp only [nm_eq]
  rw [show (1 : Int32) = nI 1 from rfl, show (2 : Int32) = nI 2 from rfl, show (4 : Int32) = nI 4 from rfl, show (8 : Int32) = nI 8 from rfl, show (16 : Int32) = nI 16 from rfl, show (32 : Int32) = nI 32 from rfl]
  have a5 : (6148914691236517205 : Int64) = lN (ns 85 85 85 85 85 85 85 85) := by decide
  have a3 : (3689348814741910323 : Int64) = lN (ns 51 51 51 51 51 51 51 51) := by decide
  have af : (1085102592571150095 : Int64) = lN (ns 15 15 15 15 15 15 15 15) := by decide
  have l5 : ns 85 85 85 85 85 85 85 85 < 2 ^ 64 := by decide
  have l3 : ns 51 51 51 51 51 51 51 51 < 2 ^ 64 := by decide
  have lf : ns 15 15 15 15 15 15 15 15 < 2 ^ 64 := by decide
  rw [a5, a3, af]
  -- the pairs
  have e1 : n / 2 ^ 1 &&& ns 85 85 85 85 85 85 85 85 = ns (b0 >>> 1 &&& 85) (b1 >>> 1 &&& 85) (b2 >>> 1 &&& 85) (b3 >>> 1 &&& 85) (b4 >>> 1 &&& 85) (b5 >>> 1 &&& 85) (b6 >>> 1 &&& 85) (b7 >>> 1 &&& 85) := by
    rw [← Nat.shiftRight_eq_div_pow, e]
    exact ns_and h0 h1 h2 h3 h4 h5 h6 (by decide) (by decide)
  rw [wb_shr hn (by decide), wb_and (Nat.lt_of_le_of_lt (Nat.div_le_self _ _) hn) l5, e1]
  have e2 : n - ns (b0 >>> 1 &&& 85) (b1 >>> 1 &&& 85) (b2 >>> 1 &&& 85) (b3 >>> 1 &&& 85) (b4 >>> 1 &&& 85) (b5 >>> 1 &&& 85) (b6 >>> 1 &&& 85) (b7 >>> 1 &&& 85) = ns (p1 b0) (p1 b1) (p1 b2) (p1 b3) (p1 b4) (p1 b5) (p1 b6) (p1 b7) := by
    rw [e]; unfold ns p1; omega
  rw [lN_sub (by rw [e]; unfold ns; omega), e2]
  generalize p1 b0 = c0 at *
  generalize p1 b1 = c1 at *
  generalize p1 b2 = c2 at *
  generalize p1 b3 = c3 at *
  generalize p1 b4 = c4 at *
  generalize p1 b5 = c5 at *
  generalize p1 b6 = c6 at *
  generalize p1 b7 = c7 at *
  clear e1 e2 q0 q1 q2 q3 q4 q5 q6 q7
  -- the fours
  have k2 : ns c0 c1 c2 c3 c4 c5 c6 c7 < 2 ^ 64 := by unfold ns; omega
  have e3 : ns c0 c1 c2 c3 c4 c5 c6 c7 &&& ns 51 51 51 51 51 51 51 51 = ns (c0 >>> 0 &&& 51) (c1 >>> 0 &&& 51) (c2 >>> 0 &&& 51) (c3 >>> 0 &&& 51) (c4 >>> 0 &&& 51) (c5 >>> 0 &&& 51) (c6 >>> 0 &&& 51) (c7 >>> 0 &&& 51) :=
    ns_and (k := 0) r0 r1 r2 r3 r4 r5 r6 (by decide) (by decide)
  have e4 : ns c0 c1 c2 c3 c4 c5 c6 c7 / 2 ^ 2 &&& ns 51 51 51 51 51 51 51 51 = ns (c0 >>> 2 &&& 51) (c1 >>> 2 &&& 51) (c2 >>> 2 &&& 51) (c3 >>> 2 &&& 51) (c4 >>> 2 &&& 51) (c5 >>> 2 &&& 51) (c6 >>> 2 &&& 51) (c7 >>> 2 &&& 51) := by
    rw [← Nat.shiftRight_eq_div_pow]
    exact ns_and r0 r1 r2 r3 r4 r5 r6 (by decide) (by decide)
  rw [wb_shr k2 (by decide), wb_and k2 l3, wb_and (Nat.lt_of_le_of_lt (Nat.div_le_self _ _) k2) l3, e3, e4, lN_add]
  have e5 : ns (c0 >>> 0 &&& 51) (c1 >>> 0 &&& 51) (c2 >>> 0 &&& 51) (c3 >>> 0 &&& 51) (c4 >>> 0 &&& 51) (c5 >>> 0 &&& 51) (c6 >>> 0 &&& 51) (c7 >>> 0 &&& 51) + ns (c0 >>> 2 &&& 51) (c1 >>> 2 &&& 51) (c2 >>> 2 &&& 51) (c3 >>> 2 &&& 51) (c4 >>> 2 &&& 51) (c5 >>> 2 &&& 51) (c6 >>> 2 &&& 51) (c7 >>> 2 &&& 51) = ns (p2 c0) (p2 c1) (p2 c2) (p2 c3) (p2 c4) (p2 c5) (p2 c6) (p2 c7) := by
    unfold ns p2; omega
  rw [e5]
  clear e3 e4 e5
  generalize p2 c0 = d0 at *
  generalize p2 c1 = d1 at *
  generalize p2 c2 = d2 at *
  generalize p2 c3 = d3 at *
  generalize p2 c4 = d4 at *
  generalize p2 c5 = d5 at *
  generalize p2 c6 = d6 at *
  generalize p2 c7 = d7 at *
  -- the bytes
  have k4 : ns d0 d1 d2 d3 d4 d5 d6 d7 < 2 ^ 64 := by unfold ns; omega
  rw [wb_shr k4 (by decide), lN_add]
  have e6 : ns d0 d1 d2 d3 d4 d5 d6 d7 + ns d0 d1 d2 d3 d4 d5 d6 d7 / 2 ^ 4 = ns (d0 + d0 / 16 + 16 * (d1 % 16)) (d1 + d1 / 16 + 16 * (d2 % 16)) (d2 + d2 / 16 + 16 * (d3 % 16)) (d3 + d3 / 16 + 16 * (d4 % 16)) (d4 + d4 / 16 + 16 * (d5 % 16)) (d5 + d5 / 16 + 16 * (d6 % 16)) (d6 + d6 / 16 + 16 * (d7 % 16)) (d7 + d7 / 16) := by
    unfold ns; omega
  have k6 : ns (d0 + d0 / 16 + 16 * (d1 % 16)) (d1 + d1 / 16 + 16 * (d2 % 16)) (d2 + d2 / 16 + 16 * (d3 % 16)) (d3 + d3 / 16 + 16 * (d4 % 16)) (d4 + d4 / 16 + 16 * (d5 % 16)) (d5 + d5 / 16 + 16 * (d6 % 16)) (d6 + d6 / 16 + 16 * (d7 % 16)) (d7 + d7 / 16) < 2 ^ 64 := by unfold ns; omega
  have e7 : ns (d0 + d0 / 16 + 16 * (d1 % 16)) (d1 + d1 / 16 + 16 * (d2 % 16)) (d2 + d2 / 16 + 16 * (d3 % 16)) (d3 + d3 / 16 + 16 * (d4 % 16)) (d4 + d4 / 16 + 16 * (d5 % 16)) (d5 + d5 / 16 + 16 * (d6 % 16)) (d6 + d6 / 16 + 16 * (d7 % 16)) (d7 + d7 / 16) &&& ns 15 15 15 15 15 15 15 15 = ns (d0 % 16 + d0 / 16) (d1 % 16 + d1 / 16) (d2 % 16 + d2 / 16) (d3 % 16 + d3 / 16) (d4 % 16 + d4 / 16) (d5 % 16 + d5 / 16) (d6 % 16 + d6 / 16) (d7 % 16 + d7 / 16) := by
    have := ns_and (b0 := d0 + d0 / 16 + 16 * (d1 % 16)) (b1 := d1 + d1 / 16 + 16 * (d2 % 16)) (b2 := d2 + d2 / 16 + 16 * (d3 % 16)) (b3 := d3 + d3 / 16 + 16 * (d4 % 16)) (b4 := d4 + d4 / 16 + 16 * (d5 % 16)) (b5 := d5 + d5 / 16 + 16 * (d6 % 16)) (b6 := d6 + d6 / 16 + 16 * (d7 % 16)) (b7 := d7 + d7 / 16) (c := 15) (k := 0) (by omega) (by omega) (by omega) (by omega) (by omega) (by omega) (by omega) (by decide) (by decide)
    rw [Nat.shiftRight_zero] at this
    rw [this]
    simp only [and15]
    have w0 : (d0 + d0 / 16 + 16 * (d1 % 16)) % 16 = d0 % 16 + d0 / 16 := by omega
    have w1 : (d1 + d1 / 16 + 16 * (d2 % 16)) % 16 = d1 % 16 + d1 / 16 := by omega
    have w2 : (d2 + d2 / 16 + 16 * (d3 % 16)) % 16 = d2 % 16 + d2 / 16 := by omega
    have w3 : (d3 + d3 / 16 + 16 * (d4 % 16)) % 16 = d3 % 16 + d3 / 16 := by omega
    have w4 : (d4 + d4 / 16 + 16 * (d5 % 16)) % 16 = d4 % 16 + d4 / 16 := by omega
    have w5 : (d5 + d5 / 16 + 16 * (d6 % 16)) % 16 = d5 % 16 + d5 / 16 := by omega
    have w6 : (d6 + d6 / 16 + 16 * (d7 % 16)) % 16 = d6 % 16 + d6 / 16 := by omega
    have w7 : (d7 + d7 / 16) % 16 = d7 % 16 + d7 / 16 := by omega
    rw [w0, w1, w2, w3, w4, w5, w6, w7]
  rw [e6, wb_and k6 lf, e7]
  clear e6 e7 k6
  obtain ⟨f0, g0⟩ : ∃ f, f = d0 % 16 + d0 / 16 := ⟨_, rfl⟩
  obtain ⟨f1, g1⟩ : ∃ f, f = d1 % 16 + d1 / 16 := ⟨_, rfl⟩
  obtain ⟨f2, g2⟩ : ∃ f, f = d2 % 16 + d2 / 16 := ⟨_, rfl⟩
  obtain ⟨f3, g3⟩ : ∃ f, f = d3 % 16 + d3 / 16 := ⟨_, rfl⟩
  obtain ⟨f4, g4⟩ : ∃ f, f = d4 % 16 + d4 / 16 := ⟨_, rfl⟩
  obtain ⟨f5, g5⟩ : ∃ f, f = d5 % 16 + d5 / 16 := ⟨_, rfl⟩
  obtain ⟨f6, g6⟩ : ∃ f, f = d6 % 16 + d6 / 16 := ⟨_, rfl⟩
  obtain ⟨f7, g7⟩ : ∃ f, f = d7 % 16 + d7 / 16 := ⟨_, rfl⟩
  rw [← g0, ← g1, ← g2, ← g3, ← g4, ← g5, ← g6, ← g7]
  have x0 : f0 ≤ 8 := by omega
  have x1 : f1 ≤ 8 := by omega
  have x2 : f2 ≤ 8 := by omega
  have x3 : f3 ≤ 8 := by omega
  have x4 : f4 ≤ 8 := by omega
  have x5 : f5 ≤ 8 := by omega
  have x6 : f6 ≤ 8 := by omega
  have x7 : f7 ≤ 8 := by omega
  clear g0 g1 g2 g3 g4 g5 g6 g7 s0 s1 s2 s3 s4 s5 s6 s7 t0 t1 t2 t3 t4 t5 t6 t7 k4 r0 r1 r2 r3 r4 r5 r6 r7 h0 h1 h2 h3 h4 h5 h6 h7 e hn k2
  -- the sum of the bytes
  obtain ⟨m1, y1⟩ : ∃ m, m = ns f0 f1 f2 f3 f4 f5 f6 f7 := ⟨_, rfl⟩
  rw [← y1]
  have z1 : m1 < 2 ^ 60 := by rw [y1]; unfold ns; omega
  rw [wb_shr (by omega) (by decide), lN_add]
  obtain ⟨m2, y2⟩ : ∃ m, m = m1 + m1 / 2 ^ 8 := ⟨_, rfl⟩
  rw [← y2]
  have z2 : m2 < 2 ^ 61 := by omega
  rw [wb_shr (by omega) (by decide), lN_add]
  obtain ⟨m3, y3⟩ : ∃ m, m = m2 + m2 / 2 ^ 16 := ⟨_, rfl⟩
  rw [← y3]
  have z3 : m3 < 2 ^ 62 := by omega
  rw [wb_shr (by omega) (by decide), lN_add]
  obtain ⟨m4, y4⟩ : ∃ m, m = m3 + m3 / 2 ^ 32 := ⟨_, rfl⟩
  rw [← y4]
  have z4 : m4 % 128 = f0 + (f1 + (f2 + (f3 + (f4 + (f5 + (f6 + f7)))))) := sw_sum x0 x1 x2 x3 x4 x5 x6 x7 y1 y2 y3 y4
  rw [show (Int64.toInt32 (lN m4)) = nI m4 from Int64.toInt32_ofNat, show (127 : Int32) = nI (2 ^ 7 - 1) from rfl, fa_mask, ii_nI, show (2 : Nat) ^ 7 = 128 from rfl, z4]
