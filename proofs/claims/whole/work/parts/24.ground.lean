/-! the ground: how numbers are mixed and multiplied, and what is in it; the class's and the reference's -/
def GV (s n fi la : Nat) : Prop := (s = 0 ∧ 1 ≤ n ∧ n ≤ 60 ∧ fi = 1 ∧ la = n) ∨ (s = 1 ∧ 2 ≤ n ∧ n ≤ 60 ∧ fi = 0 ∧ la + 1 = n) ∨ (s = 2 ∧ ((n = 1 ∧ la = 2) ∨ (n = 2 ∧ la = 8) ∨ (n = 3 ∧ la = 26)) ∧ fi = 0)
theorem GV.b {s n fi la : Nat} (h : GV s n fi la) : s ≤ 2 ∧ 1 ≤ n ∧ n ≤ 60 ∧ fi ≤ 1 ∧ fi ≤ la ∧ la ≤ 60 ∧ la + 1 ≤ fi + 60 := by unfold GV at h; omega
/-- the class's ground -/
def CG (s n fi la : Nat) (M : Mem) : Prop := M.1 3 0 = ii s ∧ M.1 3 1 = ii n ∧ M.1 3 2 = ii fi ∧ M.1 3 3 = ii la ∧ ∀ x, bt (M.2 3 4) x = decide (fi ≤ x ∧ x ≤ la)
/-- the reference's -/
def RG (s n fi la : Nat) (M : Mem) : Prop := M.1 37 3 = ii s ∧ M.1 37 4 = ii n ∧ M.1 37 5 = ii ((la : Int) - fi + 1) ∧ M.1 37 6 = ii fi
theorem mul_rng {a x : Int} (A X : Nat) (h1 : -A ≤ a) (h2 : a ≤ A) (h3 : -X ≤ x) (h4 : x ≤ X) : -((A * X : Nat) : Int) ≤ a * x ∧ a * x ≤ ((A * X : Nat) : Int) := by
  have h5 : a.natAbs ≤ A := by omega
  have h6 : x.natAbs ≤ X := by omega
  have h7 : (a * x).natAbs ≤ A * X := by rw [Int.natAbs_mul]; exact Nat.mul_le_mul h5 h6
  generalize A * X = K at *
  omega
def t3 (a x b y p : Int) : Int := (a * (x / p % 3) + b * (y / p % 3)) % 3
/-- a x + b y in the ground -/
def mx (s n : Nat) (a x b y : Int) : Int := if s = 1 then (a * x + b * y) % n else if s = 2 then t3 a x b y 1 + 3 * t3 a x b y 3 + 9 * t3 a x b y 9 else a * x + b * y
def u3 (x y p : Int) : Int := (x / p % 3 * (y / p % 3)) % 3
/-- x y in the ground -/
def tm (s n : Nat) (x y : Int) : Int := if s = 1 then (x * y) % n else if s = 2 then u3 x y 1 + 3 * u3 x y 3 + 9 * u3 x y 9 else x * y
theorem emod_fix {z p : Int} (hp : 0 < p) : (if 0 ≤ z.tmod p then z.tmod p else z.tmod p + p) = z % p := by
  rcases Int.lt_or_le z 0 with h | h
  · have h1 : z.tmod p = -((-z) % p) := by rw [← Int.tmod_eq_emod_of_nonneg (by omega), Int.neg_tmod, Int.neg_neg]
    have h2 := Int.emod_nonneg (-z) (show p ≠ 0 by omega)
    have h3 := Int.emod_lt_of_pos (-z) hp
    rw [h1]
    by_cases e : (-z) % p = 0
    · rw [e, if_pos (by omega)]
      have : p ∣ z := by
        have := Int.dvd_of_emod_eq_zero e
        exact (Int.dvd_neg).mp this
      rw [Int.emod_eq_zero_of_dvd this]; rfl
    · rw [if_neg (by omega)]
      have key : ∀ r q : Int, p * q + r = -z → r ≠ 0 → 0 ≤ r → r < p → z % p = p - r := by
        intro r q k1 k2 k3 k4
        have : z = (p - r) + p * (-q - 1) := by rw [Int.mul_sub, Int.mul_neg, Int.mul_one]; omega
        rw [this, Int.add_mul_emod_self_left, Int.emod_eq_of_lt (by omega) (by omega)]
      rw [key _ _ (Int.mul_ediv_add_emod (-z) p) e h2 h3]
      omega
  · rw [Int.tmod_eq_emod_of_nonneg h, if_pos (Int.emod_nonneg _ (by omega))]
theorem t3_rng (a x b y p : Int) : 0 ≤ t3 a x b y p ∧ t3 a x b y p < 3 := ⟨Int.emod_nonneg _ (by omega), Int.emod_lt_of_pos _ (by omega)⟩
theorem u3_rng (x y p : Int) : 0 ≤ u3 x y p ∧ u3 x y p < 3 := ⟨Int.emod_nonneg _ (by omega), Int.emod_lt_of_pos _ (by omega)⟩
/-- one digit, as both reckon it -/
theorem dg_eq {x p : Int} (h1 : 0 ≤ x) (h2 : x < 1000) (h3 : 0 < p) (h4 : p < 1000) : ii x / ii p - ii x / ii p / ii 3 * ii 3 = ii (x / p % 3) := by
  have h5 : 0 ≤ x.tdiv p ∧ x.tdiv p < 1000 := ⟨Int.tdiv_nonneg h1 (by omega), by have := Int.tdiv_le_self p h1; omega⟩
  rw [ii_div (by omega) (by omega) h3 (by omega), ii_rem (by omega) (by omega) (by omega) (by omega), Int.tdiv_eq_ediv_of_nonneg h1, Int.tmod_eq_emod_of_nonneg (by rw [Int.tdiv_eq_ediv_of_nonneg h1] at h5; omega)]
theorem dgm_rng {a d : Int} (h1 : -9 ≤ a) (h2 : a ≤ 9) (h3 : 0 ≤ d) (h4 : d < 3) : -18 ≤ a * d ∧ a * d ≤ 18 := by
  have := mul_rng 9 2 (a := a) (x := d) (by omega) (by omega) (by omega) (by omega)
  omega
theorem gd_inb {α : Type} {a : Int} {n : Nat} {x : Option α} (h1 : 0 ≤ a) (h2 : a < n) (h3 : a < 2147483648) : gd (inb (ii a) n) x = x := by
  rw [ii_inb (by omega) h3, gd_dec _ ⟨h1, h2⟩]
theorem gd_nz {α : Type} {a : Int} {x : Option α} (h1 : a ≠ 0) (h2 : -2147483648 ≤ a) (h3 : a < 2147483648) : gd (nz (ii a)) x = x := by
  rw [ii_nz h2 h3, gd_dec _ h1]
theorem tm3_fix {z : Int} (h1 : -1000 ≤ z) (h2 : z ≤ 1000) : (ii z - ii z / ii 3 * ii 3) = ii (z.tmod 3) := ii_rem (by omega) (by omega) (by omega) (by omega)
theorem tmod3_rng (z : Int) : -3 < z.tmod 3 ∧ z.tmod 3 < 3 := ⟨Int.lt_tmod_of_pos z (by omega), Int.tmod_lt_of_pos z (by omega)⟩
section TH
variable {F : Nat} {M : Mem} {a x b y : Int}
theorem mixThrees_1 {n : Nat} (hn : M.1 3 1 = ii n) (hn3 : n ≤ 3) (ha : -9 ≤ a ∧ a ≤ 9) (hb : -9 ≤ b ∧ b ≤ 9) (hx : 0 ≤ x ∧ x < 27) (hy : 0 ≤ y ∧ y < 27) {p v : Int} (hp : 0 < p ∧ p < 1000) {i : Nat} (hi : i ≤ 3) (m : Nat) :
    fX1_mixThrees_L9 F (ii a) (ii x) (ii b) (ii y) (m + 1) (ii v) (ii p) (ii i) M = if n ≤ i then some (ii v, M) else fX1_mixThrees_L9 F (ii a) (ii x) (ii b) (ii y) m (ii (v + p * t3 a x b y p)) (ii (p * 3)) (ii ((i + 1 : Nat) : Int)) M := by
  rw [fX1_mixThrees_L9, hn]
  by_cases h : n ≤ i
  · rw [if_pos (by rw [ii_le] <;> omega), if_pos h]
  · rw [if_neg (by rw [ii_le] <;> omega), if_neg h]
    have d1 : 0 ≤ x / p % 3 ∧ x / p % 3 < 3 := ⟨Int.emod_nonneg _ (by omega), Int.emod_lt_of_pos _ (by omega)⟩
    have d2 : 0 ≤ y / p % 3 ∧ y / p % 3 < 3 := ⟨Int.emod_nonneg _ (by omega), Int.emod_lt_of_pos _ (by omega)⟩
    have d3 := dgm_rng ha.1 ha.2 d1.1 d1.2
    have d4 := dgm_rng hb.1 hb.2 d2.1 d2.2
    have d6 := tmod3_rng (a * (x / p % 3) + b * (y / p % 3))
    simp (disch := omega) only [ii_lit, nm_eq, gd_nz, fX1_mixThrees_L58, dg_eq, ii_mul, ii_add, tm3_fix, ii_le]
    rw [show t3 a x b y p = _ from (emod_fix (by omega)).symm]
    split <;> rfl
theorem threes_1 (ha : -9 ≤ a ∧ a ≤ 9) (hb : -9 ≤ b ∧ b ≤ 9) (hx : 0 ≤ x ∧ x < 27) (hy : 0 ≤ y ∧ y < 27) {p v : Int} (hp : 0 < p ∧ p < 1000) {i : Nat} (hi : i ≤ 3) (m : Nat) :
    fX9_threes_L9 F (ii a) (ii x) (ii b) (ii y) (m + 1) (ii v) (ii p) (ii i) M = if 3 ≤ i then some (ii v, M) else fX9_threes_L9 F (ii a) (ii x) (ii b) (ii y) m (ii (v + p * t3 a x b y p)) (ii (3 * p)) (ii ((i + 1 : Nat) : Int)) M := by
  rw [fX9_threes_L9, show (3 : Int32) = ii 3 from rfl]
  by_cases h : 3 ≤ i
  · rw [if_pos (by rw [ii_le] <;> omega), if_pos h]
  · rw [if_neg (by rw [ii_le] <;> omega), if_neg h]
    have d1 : 0 ≤ x / p % 3 ∧ x / p % 3 < 3 := ⟨Int.emod_nonneg _ (by omega), Int.emod_lt_of_pos _ (by omega)⟩
    have d2 : 0 ≤ y / p % 3 ∧ y / p % 3 < 3 := ⟨Int.emod_nonneg _ (by omega), Int.emod_lt_of_pos _ (by omega)⟩
    have d3 := dgm_rng ha.1 ha.2 d1.1 d1.2
    have d4 := dgm_rng hb.1 hb.2 d2.1 d2.2
    have d6 := tmod3_rng (a * (x / p % 3) + b * (y / p % 3))
    simp (disch := omega) only [ii_lit, nm_eq, gd_nz, fX9_threes_L55, dg_eq, ii_mul, ii_add, tm3_fix, ii_le]
    rw [show t3 a x b y p = _ from (emod_fix (by omega)).symm]
    split <;> rfl
theorem timesThrees_1 {n : Nat} (hn : M.1 3 1 = ii n) (hn3 : n ≤ 3) (hx : 0 ≤ x ∧ x < 27) (hy : 0 ≤ y ∧ y < 27) {p v : Int} (hp : 0 < p ∧ p < 1000) {i : Nat} (hi : i ≤ 3) (m : Nat) :
    fX1_timesThrees_L8 F (ii x) (ii y) (m + 1) (ii v) (ii p) (ii i) M = if n ≤ i then some (ii v, M) else fX1_timesThrees_L8 F (ii x) (ii y) m (ii (v + p * u3 x y p)) (ii (p * 3)) (ii ((i + 1 : Nat) : Int)) M := by
  rw [fX1_timesThrees_L8, hn]
  by_cases h : n ≤ i
  · rw [if_pos (by rw [ii_le] <;> omega), if_pos h]
  · rw [if_neg (by rw [ii_le] <;> omega), if_neg h]
    have d1 : 0 ≤ x / p % 3 ∧ x / p % 3 < 3 := ⟨Int.emod_nonneg _ (by omega), Int.emod_lt_of_pos _ (by omega)⟩
    have d2 : 0 ≤ y / p % 3 ∧ y / p % 3 < 3 := ⟨Int.emod_nonneg _ (by omega), Int.emod_lt_of_pos _ (by omega)⟩
    have d3 : 0 ≤ x / p % 3 * (y / p % 3) := Int.mul_nonneg d1.1 d2.1
    have d4 := dgm_rng (a := x / p % 3) (by omega) (by omega) d2.1 d2.2
    simp (disch := omega) only [ii_lit, nm_eq, gd_nz, dg_eq, ii_mul, ii_add, tm3_fix, Int.tmod_eq_emod_of_nonneg d3]
    rfl
theorem product_1 (hx : 0 ≤ x ∧ x < 27) (hy : 0 ≤ y ∧ y < 27) {p v : Int} (hp : 0 < p ∧ p < 1000) {i : Nat} (hi : i ≤ 3) (m : Nat) :
    fX9_product_L37 F (ii x) (ii y) (m + 1) (ii v) (ii p) (ii i) M = if 3 ≤ i then some (ii v, M) else fX9_product_L37 F (ii x) (ii y) m (ii (v + p * u3 x y p)) (ii (3 * p)) (ii ((i + 1 : Nat) : Int)) M := by
  rw [fX9_product_L37, show (3 : Int32) = ii 3 from rfl]
  by_cases h : 3 ≤ i
  · rw [if_pos (by rw [ii_le] <;> omega), if_pos h]
  · rw [if_neg (by rw [ii_le] <;> omega), if_neg h]
    have d1 : 0 ≤ x / p % 3 ∧ x / p % 3 < 3 := ⟨Int.emod_nonneg _ (by omega), Int.emod_lt_of_pos _ (by omega)⟩
    have d2 : 0 ≤ y / p % 3 ∧ y / p % 3 < 3 := ⟨Int.emod_nonneg _ (by omega), Int.emod_lt_of_pos _ (by omega)⟩
    have d3 : 0 ≤ x / p % 3 * (y / p % 3) := Int.mul_nonneg d1.1 d2.1
    have d4 := dgm_rng (a := x / p % 3) (by omega) (by omega) d2.1 d2.2
    simp (disch := omega) only [ii_lit, nm_eq, gd_nz, dg_eq, ii_mul, ii_add, tm3_fix, Int.tmod_eq_emod_of_nonneg d3]
    rfl
/-- numbers of a ground of rows of n: their digits above are 0 -/
theorem t3_small {p : Int} (hp : 0 < p) (hx : 0 ≤ x ∧ x < p) (hy : 0 ≤ y ∧ y < p) : t3 a x b y p = 0 := by
  unfold t3
  rw [Int.ediv_eq_zero_of_lt hx.1 hx.2, Int.ediv_eq_zero_of_lt hy.1 hy.2]
  simp
theorem u3_small {p : Int} (hp : 0 < p) (hx : 0 ≤ x ∧ x < p) : u3 x y p = 0 := by
  unfold u3
  rw [Int.ediv_eq_zero_of_lt hx.1 hx.2]
  simp
theorem mixThrees_eq {n la : Nat} (hF : 100000 ≤ F) (hn : M.1 3 1 = ii n) (hG : (n = 1 ∧ la = 2) ∨ (n = 2 ∧ la = 8) ∨ (n = 3 ∧ la = 26)) (ha : -9 ≤ a ∧ a ≤ 9) (hb : -9 ≤ b ∧ b ≤ 9) (hx : 0 ≤ x ∧ x ≤ la) (hy : 0 ≤ y ∧ y ≤ la) :
    fX1_mixThrees F (ii a) (ii x) (ii b) (ii y) M = some (ii (t3 a x b y 1 + 3 * t3 a x b y 3 + 9 * t3 a x b y 9), M) := by
  obtain ⟨m, rfl⟩ : ∃ m, F = m + 4 := ⟨F - 4, by omega⟩
  unfold fX1_mixThrees
  rw [ii_lit0, ii_lit1]
  have s1 := mixThrees_1 (F := m + 4) (x := x) (y := y) (v := 0) (p := 1) hn (by omega) ha hb (by omega) (by omega) (by omega) (i := 0) (by omega) (m + 3)
  have s2 := mixThrees_1 (F := m + 4) (x := x) (y := y) (v := 0 + 1 * t3 a x b y 1) (p := 1 * 3) hn (by omega) ha hb (by omega) (by omega) (by omega) (i := 1) (by omega) (m + 2)
  have s3 := mixThrees_1 (F := m + 4) (x := x) (y := y) (v := 0 + 1 * t3 a x b y 1 + 1 * 3 * t3 a x b y (1 * 3)) (p := 1 * 3 * 3) hn (by omega) ha hb (by omega) (by omega) (by omega) (i := 2) (by omega) (m + 1)
  have s4 := mixThrees_1 (F := m + 4) (x := x) (y := y) (v := 0 + 1 * t3 a x b y 1 + 1 * 3 * t3 a x b y (1 * 3) + 1 * 3 * 3 * t3 a x b y (1 * 3 * 3)) (p := 1 * 3 * 3 * 3) hn (by omega) ha hb (by omega) (by omega) (by omega) (i := 3) (by omega) m
  rw [if_neg (by omega)] at s1
  refine s1.trans ?_
  rcases hG with ⟨rfl, rfl⟩ | ⟨rfl, rfl⟩ | ⟨rfl, rfl⟩
  · rw [if_pos (by omega)] at s2
    refine s2.trans ?_
    rw [t3_small (p := 3) (by omega) (by omega) (by omega), t3_small (p := 9) (by omega) (by omega) (by omega)]
    simp
  · rw [if_neg (by omega)] at s2
    rw [if_pos (by omega)] at s3
    refine (s2.trans s3).trans ?_
    rw [t3_small (p := 9) (by omega) (by omega) (by omega)]
    simp
  · rw [if_neg (by omega)] at s2
    rw [if_neg (by omega)] at s3
    rw [if_pos (by omega)] at s4
    refine ((s2.trans s3).trans s4).trans ?_
    simp
theorem threes_eq (hF : 100000 ≤ F) (ha : -9 ≤ a ∧ a ≤ 9) (hb : -9 ≤ b ∧ b ≤ 9) (hx : 0 ≤ x ∧ x < 27) (hy : 0 ≤ y ∧ y < 27) :
    fX9_threes F (ii a) (ii x) (ii b) (ii y) M = some (ii (t3 a x b y 1 + 3 * t3 a x b y 3 + 9 * t3 a x b y 9), M) := by
  obtain ⟨m, rfl⟩ : ∃ m, F = m + 4 := ⟨F - 4, by omega⟩
  unfold fX9_threes
  rw [ii_lit0, ii_lit1]
  have s1 := threes_1 (F := m + 4) (M := M) (v := 0) (p := 1) ha hb hx hy (by omega) (i := 0) (by omega) (m + 3)
  have s2 := threes_1 (F := m + 4) (M := M) (v := 0 + 1 * t3 a x b y 1) (p := 3 * 1) ha hb hx hy (by omega) (i := 1) (by omega) (m + 2)
  have s3 := threes_1 (F := m + 4) (M := M) (v := 0 + 1 * t3 a x b y 1 + 3 * 1 * t3 a x b y (3 * 1)) (p := 3 * (3 * 1)) ha hb hx hy (by omega) (i := 2) (by omega) (m + 1)
  have s4 := threes_1 (F := m + 4) (M := M) (v := 0 + 1 * t3 a x b y 1 + 3 * 1 * t3 a x b y (3 * 1) + 3 * (3 * 1) * t3 a x b y (3 * (3 * 1))) (p := 3 * (3 * (3 * 1))) ha hb hx hy (by omega) (i := 3) (by omega) m
  rw [if_neg (by omega)] at s1 s2 s3
  rw [if_pos (by omega)] at s4
  refine ((s1.trans (s2.trans s3)).trans s4).trans ?_
  simp
theorem timesThrees_eq {n la : Nat} (hF : 100000 ≤ F) (hn : M.1 3 1 = ii n) (hG : (n = 1 ∧ la = 2) ∨ (n = 2 ∧ la = 8) ∨ (n = 3 ∧ la = 26)) (hx : 0 ≤ x ∧ x ≤ la) (hy : 0 ≤ y ∧ y ≤ la) :
    fX1_timesThrees F (ii x) (ii y) M = some (ii (u3 x y 1 + 3 * u3 x y 3 + 9 * u3 x y 9), M) := by
  obtain ⟨m, rfl⟩ : ∃ m, F = m + 4 := ⟨F - 4, by omega⟩
  unfold fX1_timesThrees
  rw [ii_lit0, ii_lit1]
  have s1 := timesThrees_1 (F := m + 4) (x := x) (y := y) (v := 0) (p := 1) hn (by omega) (by omega) (by omega) (by omega) (i := 0) (by omega) (m + 3)
  have s2 := timesThrees_1 (F := m + 4) (x := x) (y := y) (v := 0 + 1 * u3 x y 1) (p := 1 * 3) hn (by omega) (by omega) (by omega) (by omega) (i := 1) (by omega) (m + 2)
  have s3 := timesThrees_1 (F := m + 4) (x := x) (y := y) (v := 0 + 1 * u3 x y 1 + 1 * 3 * u3 x y (1 * 3)) (p := 1 * 3 * 3) hn (by omega) (by omega) (by omega) (by omega) (i := 2) (by omega) (m + 1)
  have s4 := timesThrees_1 (F := m + 4) (x := x) (y := y) (v := 0 + 1 * u3 x y 1 + 1 * 3 * u3 x y (1 * 3) + 1 * 3 * 3 * u3 x y (1 * 3 * 3)) (p := 1 * 3 * 3 * 3) hn (by omega) (by omega) (by omega) (by omega) (i := 3) (by omega) m
  rw [if_neg (by omega)] at s1
  refine s1.trans ?_
  rcases hG with ⟨rfl, rfl⟩ | ⟨rfl, rfl⟩ | ⟨rfl, rfl⟩
  · rw [if_pos (by omega)] at s2
    refine s2.trans ?_
    rw [u3_small (p := 3) (by omega) (by omega), u3_small (p := 9) (by omega) (by omega)]
    simp
  · rw [if_neg (by omega)] at s2
    rw [if_pos (by omega)] at s3
    refine (s2.trans s3).trans ?_
    rw [u3_small (p := 9) (by omega) (by omega)]
    simp
  · rw [if_neg (by omega)] at s2
    rw [if_neg (by omega)] at s3
    rw [if_pos (by omega)] at s4
    refine ((s2.trans s3).trans s4).trans ?_
    simp
theorem product3_eq (hF : 100000 ≤ F) (hx : 0 ≤ x ∧ x < 27) (hy : 0 ≤ y ∧ y < 27) :
    fX9_product_L37 F (ii x) (ii y) F (ii 0) (ii 1) (ii 0) M = some (ii (u3 x y 1 + 3 * u3 x y 3 + 9 * u3 x y 9), M) := by
  obtain ⟨m, rfl⟩ : ∃ m, F = m + 4 := ⟨F - 4, by omega⟩
  have s1 := product_1 (F := m + 4) (M := M) (v := 0) (p := 1) hx hy (by omega) (i := 0) (by omega) (m + 3)
  have s2 := product_1 (F := m + 4) (M := M) (v := 0 + 1 * u3 x y 1) (p := 3 * 1) hx hy (by omega) (i := 1) (by omega) (m + 2)
  have s3 := product_1 (F := m + 4) (M := M) (v := 0 + 1 * u3 x y 1 + 3 * 1 * u3 x y (3 * 1)) (p := 3 * (3 * 1)) hx hy (by omega) (i := 2) (by omega) (m + 1)
  have s4 := product_1 (F := m + 4) (M := M) (v := 0 + 1 * u3 x y 1 + 3 * 1 * u3 x y (3 * 1) + 3 * (3 * 1) * u3 x y (3 * (3 * 1))) (p := 3 * (3 * (3 * 1))) hx hy (by omega) (i := 3) (by omega) m
  rw [if_neg (by omega)] at s1 s2 s3
  rw [if_pos (by omega)] at s4
  refine ((s1.trans (s2.trans s3)).trans s4).trans ?_
  simp
end TH
/-! by rests -/
theorem xor_sign {z n : Int} (h1 : -2147483648 ≤ z) (h2 : z < 2147483648) (h3 : 0 ≤ n) (h4 : n < 2147483648) : (ii 0 ≤ ii z ^^^ ii n) ↔ 0 ≤ z := by
  rw [← ii_lit0]
  have e2 : (ii z).toBitVec.toInt = z := ii_int h1 h2
  have e3 : (ii n).toBitVec.toInt = n := ii_int (by omega) h4
  have m := BitVec.msb_eq_toInt (x := (ii z ^^^ ii n).toBitVec)
  have m2 := BitVec.msb_eq_toInt (x := (ii z).toBitVec)
  have m3 := BitVec.msb_eq_toInt (x := (ii n).toBitVec)
  rw [Int32.toBitVec_xor, BitVec.msb_xor, m2, m3, e2, e3, show decide (n < 0) = false from decide_eq_false (by omega), Bool.xor_false] at m
  rw [Int32.le_iff_toInt_le, show (0 : Int32).toInt = 0 from rfl, show (ii z ^^^ ii n).toInt = (ii z ^^^ ii n).toBitVec.toInt from rfl, Int32.toBitVec_xor]
  have := decide_eq_decide.mp m
  omega
theorem floorMod_eq {F : Nat} {M : Mem} {z : Int} {n : Nat} (h1 : -1000000 ≤ z) (h2 : z ≤ 1000000) (h3 : 1 ≤ n) (h4 : n ≤ 60) : fJ9_floorMod_7cf53 F (ii z) (ii n) M = some (ii (z % n), M) := by
  unfold fJ9_floorMod_7cf53
  have hr : -(n : Int) < z.tmod n ∧ z.tmod n < n := ⟨Int.lt_tmod_of_pos z (by omega), Int.tmod_lt_of_pos z (by omega)⟩
  simp (disch := omega) only [gd_nz, nm_eq, ii_rem, xor_sign, ii_lit, ii_eq, ii_add]
  have hf := emod_fix (z := z) (p := n) (by omega)
  by_cases h : 0 ≤ z
  · rw [if_pos h]
    have : 0 ≤ z.tmod n := Int.tmod_nonneg _ h
    rw [if_pos this] at hf
    rw [hf]
  · rw [if_neg h]
    have h5 : z.tmod n ≤ 0 := by
      have := Int.tmod_nonneg (a := -z) n (by omega)
      rw [Int.neg_tmod] at this
      omega
    by_cases e : z.tmod n = 0
    · rw [if_pos e]
      rw [if_pos (by omega)] at hf
      rw [hf]
    · rw [if_neg e]
      rw [if_neg (by omega)] at hf
      rw [hf]
theorem LL_int (a : Int32) : a.toInt64 = Int64.ofInt a.toInt := Int64.toInt_inj.mp (by
  rw [Int32.toInt_toInt64]
  have := fb_rng a
  rw [Int64.toInt_ofInt, fb_bmodL] <;> omega)
theorem LL_ii {a : Int} (h1 : -2147483648 ≤ a) (h2 : a < 2147483648) : (ii a).toInt64 = Int64.ofInt a := by rw [LL_int, ii_int h1 h2]
theorem LL_of {a : Int} (h1 : -9223372036854775808 ≤ a) (h2 : a < 9223372036854775808) : (Int64.ofInt a).toInt = a := by rw [Int64.toInt_ofInt, fb_bmodL] <;> omega
theorem LL_cmp {a b : Int} (h1 : -9223372036854775808 ≤ a) (h2 : a < 9223372036854775808) (h3 : -9223372036854775808 ≤ b) (h4 : b < 9223372036854775808) : (0 ≤ lg_cmp (Int64.ofInt a) (Int64.ofInt b)) ↔ b ≤ a := by
  rw [lg_cmp_ge, fa_le64, LL_of h1 h2, LL_of h3 h4]
theorem rest_eq {F : Nat} {M : Mem} {z : Int} {n : Nat} (hn : M.1 37 4 = ii n) (h1 : -1000000 ≤ z) (h2 : z ≤ 1000000) (h3 : 1 ≤ n) (h4 : n ≤ 60) : fX9_rest F (Int64.ofInt z) M = some (ii (z % n), M) := by
  unfold fX9_rest
  have hr : -(n : Int) < z.tmod n ∧ z.tmod n < n := ⟨Int.lt_tmod_of_pos z (by omega), Int.tmod_lt_of_pos z (by omega)⟩
  have hd : (Int64.ofInt z) / (Int64.ofInt n) = Int64.ofInt (z.tdiv n) := by
    refine (Int64.ofInt_tdiv ?_ ?_ ?_ ?_).symm <;> (first | rw [show Int64.minValue.toInt = -9223372036854775808 from rfl] | rw [show Int64.maxValue.toInt = 9223372036854775807 from rfl]) <;> omega
  have he : Int64.ofInt z - Int64.ofInt z / Int64.ofInt n * Int64.ofInt n = Int64.ofInt (z.tmod n) := by
    rw [hd, ← Int64.ofInt_mul, ← Int64.ofInt_sub]
    congr 1
    have := Int.mul_tdiv_add_tmod z n
    rw [Int.mul_comm] at this
    omega
  have hz : nzl (Int64.ofInt n) = true := by
    unfold nzl
    rw [decide_eq_true_eq, fa_eq64, LL_of (by omega) (by omega)]
    show ¬ (n : Int) = 0
    omega
  rw [hn, LL_ii (by omega) (by omega), hz, gd_eq]
  simp only [nm_eq]
  rw [he, show (0 : Int64) = Int64.ofInt 0 from rfl, ← Int64.ofInt_add]
  have hf := emod_fix (z := z) (p := n) (by omega)
  rw [← hf]
  by_cases h : 0 ≤ z.tmod n
  · rw [if_pos ((LL_cmp (by omega) (by omega) (by omega) (by omega)).mpr h), if_pos h, Int64.toInt32_ofInt]
    rfl
  · rw [if_neg (fun q => h ((LL_cmp (by omega) (by omega) (by omega) (by omega)).mp q)), if_neg h, Int64.toInt32_ofInt]
    rfl
