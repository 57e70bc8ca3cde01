/-! the ground's reckoning, the class's and the reference's; what a set has -/
/-- what may be mixed -/
def VA (s la : Nat) (x : Int) : Prop := -300 ≤ x ∧ x ≤ 300 ∧ (s = 2 → 0 ≤ x ∧ x ≤ la)
theorem VA.g {s n fi la : Nat} (hG : GV s n fi la) {x : Int} (h1 : 0 ≤ x) (h2 : x ≤ la) : VA s la x := by have := hG.b; unfold VA; omega
theorem VA.z {s n fi la : Nat} (hG : GV s n fi la) : VA s la 0 := VA.g hG (by omega) (by omega)
section MX
variable {F s n fi la : Nat} {M : Mem} {a x b y : Int}
theorem mix_eq (hF : 100000 ≤ F) (hG : GV s n fi la) (hC : CG s n fi la M) (ha : -9 ≤ a ∧ a ≤ 9) (hb : -9 ≤ b ∧ b ≤ 9) (hx : VA s la x) (hy : VA s la y) : fX1_mix F (ii a) (ii x) (ii b) (ii y) M = some (ii (mx s n a x b y), M) := by
  obtain ⟨c1, c2, -⟩ := hC
  have r1 := mul_rng 9 300 (a := a) (x := x) (by omega) (by omega) (by have := hx.1; omega) (by have := hx.2.1; omega)
  have r2 := mul_rng 9 300 (a := b) (x := y) (by omega) (by omega) (by have := hy.1; omega) (by have := hy.2.1; omega)
  have hg := hG.b
  unfold fX1_mix mx
  rw [c1, c2]
  simp (disch := omega) only [ii_lit, ii_eq, ii_mul, ii_add]
  rcases hG with ⟨rfl, -⟩ | ⟨rfl, -⟩ | ⟨rfl, h3, -⟩
  · rfl
  · rw [if_pos (by decide), if_pos rfl, floorMod_eq (by omega) (by omega) (by omega) (by omega)]
    rfl
  · rw [if_neg (by decide), if_pos rfl, mixThrees_eq hF c2 h3 ha hb (hx.2.2 rfl) (hy.2.2 rfl)]
    rfl
theorem mixed_eq (hF : 100000 ≤ F) (hG : GV s n fi la) (hC : RG s n fi la M) (ha : -9 ≤ a ∧ a ≤ 9) (hb : -9 ≤ b ∧ b ≤ 9) (hx : VA s la x) (hy : VA s la y) : fX9_mixed F (ii a) (ii x) (ii b) (ii y) M = some (ii (mx s n a x b y), M) := by
  obtain ⟨c1, c2, -⟩ := hC
  have h1 := hx.1
  have h2 := hx.2.1
  have h3 := hy.1
  have h4 := hy.2.1
  have r1 := mul_rng 9 300 (a := a) (x := x) (by omega) (by omega) (by omega) (by omega)
  have r2 := mul_rng 9 300 (a := b) (x := y) (by omega) (by omega) (by omega) (by omega)
  have hg := hG.b
  unfold fX9_mixed mx
  rw [c1]
  simp (disch := omega) only [ii_lit, ii_eq, ii_mul, ii_add, LL_ii, nm_eq, ← Int64.ofInt_mul, ← Int64.ofInt_add, rest_eq c2, bd_eq]
  rcases hG with ⟨rfl, -⟩ | ⟨rfl, -⟩ | ⟨rfl, h5, -⟩
  · rfl
  · rfl
  · rw [if_neg (by decide), if_neg (by decide), if_neg (by decide), if_pos rfl, threes_eq hF ha hb (by have := hx.2.2 rfl; omega) (by have := hy.2.2 rfl; omega)]
    rfl
theorem times_eq (hF : 100000 ≤ F) (hG : GV s n fi la) (hC : CG s n fi la M) (hx : VA s la x) (hy : VA s la y) : fX1_times F (ii x) (ii y) M = some (ii (tm s n x y), M) := by
  obtain ⟨c1, c2, -⟩ := hC
  have h1 := hx.1
  have h2 := hx.2.1
  have h3 := hy.1
  have h4 := hy.2.1
  have r1 := mul_rng 300 300 (a := x) (x := y) (by omega) (by omega) (by omega) (by omega)
  have hg := hG.b
  unfold fX1_times tm
  rw [c1, c2]
  simp (disch := omega) only [ii_lit, ii_eq, ii_mul]
  rcases hG with ⟨rfl, -⟩ | ⟨rfl, -⟩ | ⟨rfl, h5, -⟩
  · rfl
  · rw [if_pos (by decide), if_pos rfl, floorMod_eq (by omega) (by omega) (by omega) (by omega)]
    rfl
  · rw [if_neg (by decide), if_pos rfl, timesThrees_eq hF c2 h5 (hx.2.2 rfl) (hy.2.2 rfl)]
    rfl
theorem product_eq (hF : 100000 ≤ F) (hG : GV s n fi la) (hC : RG s n fi la M) (hx : VA s la x) (hy : VA s la y) : fX9_product F (ii x) (ii y) M = some (ii (tm s n x y), M) := by
  obtain ⟨c1, c2, -⟩ := hC
  have h1 := hx.1
  have h2 := hx.2.1
  have h3 := hy.1
  have h4 := hy.2.1
  have r1 := mul_rng 300 300 (a := x) (x := y) (by omega) (by omega) (by omega) (by omega)
  have hg := hG.b
  unfold fX9_product tm
  rw [c1]
  simp (disch := omega) only [ii_lit, ii_eq, ii_mul, LL_ii, ← Int64.ofInt_mul, rest_eq c2, bd_eq]
  rcases hG with ⟨rfl, -⟩ | ⟨rfl, -⟩ | ⟨rfl, h5, -⟩
  · rfl
  · rfl
  · rw [if_neg (by decide), if_neg (by decide), if_neg (by decide), if_pos rfl, product3_eq hF (by have := hx.2.2 rfl; omega) (by have := hy.2.2 rfl; omega)]
theorem sum_eq (hF : 100000 ≤ F) (hG : GV s n fi la) (hC : RG s n fi la M) (hx : VA s la x) (hy : VA s la y) : fX9_sum F (ii x) (ii y) M = some (ii (mx s n 1 x 1 y), M) := by
  unfold fX9_sum
  rw [ii_lit1, mixed_eq hF hG hC (by omega) (by omega) hx hy]
  rfl
theorem difference_eq (hF : 100000 ≤ F) (hG : GV s n fi la) (hC : RG s n fi la M) (hx : VA s la x) (hy : VA s la y) : fX9_difference F (ii x) (ii y) M = some (ii (mx s n 1 x (-1) y), M) := by
  unfold fX9_difference
  rw [ii_lit1, ii_neg, mixed_eq hF hG hC (by omega) (by omega) hx hy]
  rfl
theorem product0_eq (hF : 100000 ≤ F) (hG : GV s n fi la) (hC : RG s n fi la M) (ha : -9 ≤ a ∧ a ≤ 9) (hx : VA s la x) : fX9_product0 F (ii a) (ii x) M = some (ii (mx s n a x 0 0), M) := by
  unfold fX9_product0
  rw [ii_lit0, mixed_eq hF hG hC ha (by omega) hx (VA.z hG)]
  rfl
end MX
/-! what stays in the ground -/
theorem mx_in {s n fi la : Nat} (hG : GV s n fi la) (hs : s ≠ 0) (a x b y : Int) : 0 ≤ mx s n a x b y ∧ mx s n a x b y < n ∨ s = 2 ∧ 0 ≤ mx s n a x b y ∧ mx s n a x b y < 27 := by
  have hg := hG.b
  unfold mx
  rcases hG with ⟨rfl, -⟩ | ⟨rfl, -⟩ | ⟨rfl, -⟩
  · exact absurd rfl hs
  · left
    rw [if_pos rfl]
    exact ⟨Int.emod_nonneg _ (by omega), Int.emod_lt_of_pos _ (by omega)⟩
  · right
    rw [if_neg (by decide), if_pos rfl]
    have h1 := t3_rng a x b y 1
    have h2 := t3_rng a x b y 3
    have h3 := t3_rng a x b y 9
    omega
/-- mixed numbers of the ground are in it, but for sort 0 -/
theorem mx_g {s n fi la : Nat} (hG : GV s n fi la) (hs : s ≠ 0) (a : Int) {x : Int} (b : Int) {y : Int} (hx : 0 ≤ x ∧ x ≤ la) (hy : 0 ≤ y ∧ y ≤ la) : 0 ≤ mx s n a x b y ∧ mx s n a x b y ≤ la := by
  have hg := hG.b
  unfold mx
  rcases hG with ⟨rfl, -⟩ | ⟨rfl, h1, h2, h3, h4⟩ | ⟨rfl, h5, -⟩
  · exact absurd rfl hs
  · rw [if_pos rfl]
    have := Int.emod_lt_of_pos (a * x + b * y) (show (0 : Int) < n by omega)
    exact ⟨Int.emod_nonneg _ (by omega), by omega⟩
  · rw [if_neg (by decide), if_pos rfl]
    have h1 := t3_rng a x b y 1
    have h2 := t3_rng a x b y 3
    have h3 := t3_rng a x b y 9
    rcases h5 with ⟨rfl, rfl⟩ | ⟨rfl, rfl⟩ | ⟨rfl, rfl⟩
    · have e1 := t3_small (a := a) (b := b) (p := 3) (by omega) (show 0 ≤ x ∧ x < 3 by omega) (show 0 ≤ y ∧ y < 3 by omega)
      have e2 := t3_small (a := a) (b := b) (p := 9) (by omega) (show 0 ≤ x ∧ x < 9 by omega) (show 0 ≤ y ∧ y < 9 by omega)
      omega
    · have e2 := t3_small (a := a) (b := b) (p := 9) (by omega) (show 0 ≤ x ∧ x < 9 by omega) (show 0 ≤ y ∧ y < 9 by omega)
      omega
    · omega
theorem tm_g {s n fi la : Nat} (hG : GV s n fi la) (hs : s ≠ 0) {x y : Int} (hx : 0 ≤ x ∧ x ≤ la) : 0 ≤ tm s n x y ∧ tm s n x y ≤ la := by
  have hg := hG.b
  unfold tm
  rcases hG with ⟨rfl, -⟩ | ⟨rfl, h1, h2, h3, h4⟩ | ⟨rfl, h5, -⟩
  · exact absurd rfl hs
  · rw [if_pos rfl]
    have := Int.emod_lt_of_pos (x * y) (show (0 : Int) < n by omega)
    exact ⟨Int.emod_nonneg _ (by omega), by omega⟩
  · rw [if_neg (by decide), if_pos rfl]
    have h1 := u3_rng x y 1
    have h2 := u3_rng x y 3
    have h3 := u3_rng x y 9
    rcases h5 with ⟨rfl, rfl⟩ | ⟨rfl, rfl⟩ | ⟨rfl, rfl⟩
    · have e1 := u3_small (y := y) (p := 3) (by omega) (show 0 ≤ x ∧ x < 3 by omega)
      have e2 := u3_small (y := y) (p := 9) (by omega) (show 0 ≤ x ∧ x < 9 by omega)
      omega
    · have e2 := u3_small (y := y) (p := 9) (by omega) (show 0 ≤ x ∧ x < 9 by omega)
      omega
    · omega
/-! what is in the ground, in a set -/
/-- a set's numbers are the ground's -/
def Sup (fi la : Nat) (S : Nat → Bool) : Prop := ∀ x, S x = true → fi ≤ x ∧ x ≤ la
/-- a set has a whole number -/
def mm (S : Nat → Bool) (x : Int) : Bool := decide (0 ≤ x) && S x.toNat
theorem mm_nat (S : Nat → Bool) (x : Nat) : mm S (x : Int) = S x := by simp [mm]
theorem mm_sup {fi la : Nat} {S : Nat → Bool} (h : Sup fi la S) {x : Int} (hm : mm S x = true) : (fi : Int) ≤ x ∧ x ≤ la ∧ ∃ y : Nat, x = y ∧ S y = true := by
  unfold mm at hm
  rw [Bool.and_eq_true, decide_eq_true_eq] at hm
  have := h _ hm.2
  exact ⟨by omega, by omega, x.toNat, by omega, hm.2⟩
/-- the reference's row r is this set -/
def Row (M : Mem) (fi r : Nat) (S : Nat → Bool) : Prop := ∀ j, j < 60 → M.1 39 (60 * r + j) = bi (S (fi + j))
section IN
variable {F s n fi la : Nat} {M : Mem}
theorem contains_eq (hG : GV s n fi la) (hC : CG s n fi la M) (v : Int64) : fX1_contains F v M = some (bi (decide ((fi : Int) ≤ v.toInt ∧ v.toInt ≤ la)), M) := by
  obtain ⟨-, -, c3, c4, -⟩ := hC
  have hg := hG.b
  unfold fX1_contains
  rw [c3, c4, LL_ii (by omega) (by omega), LL_ii (by omega) (by omega)]
  have h1 : (lg_cmp v (Int64.ofInt fi) < 0) ↔ v.toInt < fi := by rw [lg_cmp_lt, fa_lt64, LL_of (by omega) (by omega)]
  have h2 : (0 < lg_cmp v (Int64.ofInt la)) ↔ la < v.toInt := by rw [lg_cmp_gt, fa_lt64, LL_of (by omega) (by omega)]
  simp only [h1, h2]
  by_cases q1 : v.toInt < fi
  · rw [if_pos q1, decide_eq_false (by omega)]; rfl
  · rw [if_neg q1]
    by_cases q2 : la < v.toInt
    · rw [if_pos q2, decide_eq_false (by omega)]; rfl
    · rw [if_neg q2, decide_eq_true (by omega)]; rfl
theorem isIn9_eq (hG : GV s n fi la) (hC : RG s n fi la M) (v : Int64) : fX9_isIn F v M = some (bi (decide ((fi : Int) ≤ v.toInt ∧ v.toInt ≤ la)), M) := by
  obtain ⟨-, -, c3, c4⟩ := hC
  have hg := hG.b
  unfold fX9_isIn
  rw [c3, c4, ii_add, LL_ii (by omega) (by omega), LL_ii (by omega) (by omega)]
  have h1 : (lg_cmp v (Int64.ofInt fi) < 0) ↔ v.toInt < fi := by rw [lg_cmp_lt, fa_lt64, LL_of (by omega) (by omega)]
  have h2 : (0 ≤ lg_cmp v (Int64.ofInt (fi + ((la : Int) - fi + 1)))) ↔ la + 1 ≤ v.toInt := by
    rw [lg_cmp_ge, fa_le64, LL_of (by omega) (by omega)]
    constructor <;> intro <;> omega
  simp only [h1, h2]
  by_cases q1 : v.toInt < fi
  · rw [if_pos q1, decide_eq_false (by omega)]; rfl
  · rw [if_neg q1]
    by_cases q2 : la + 1 ≤ v.toInt
    · rw [if_pos q2, decide_eq_false (by omega)]; rfl
    · rw [if_neg q2, decide_eq_true (by omega)]; rfl
variable {x : Int}
theorem contains_ii (hG : GV s n fi la) (hC : CG s n fi la M) (h1 : -2147483648 ≤ x) (h2 : x < 2147483648) : fX1_contains F (ii x).toInt64 M = some (bi (decide ((fi : Int) ≤ x ∧ x ≤ la)), M) := by
  rw [contains_eq hG hC, LL_ii h1 h2, LL_of (by omega) (by omega)]
theorem isIn9_ii (hG : GV s n fi la) (hC : RG s n fi la M) (h1 : -2147483648 ≤ x) (h2 : x < 2147483648) : fX9_isIn F (ii x).toInt64 M = some (bi (decide ((fi : Int) ≤ x ∧ x ≤ la)), M) := by
  rw [isIn9_eq hG hC, LL_ii h1 h2, LL_of (by omega) (by omega)]
theorem isIn_eq (hG : GV s n fi la) (hC : CG s n fi la M) {w : Int64} (hS : Sup fi la (bt w)) (h1 : -2147483648 ≤ x) (h2 : x < 2147483648) : fX1_isIn F w (ii x) M = some (bi (mm (bt w) x), M) := by
  have hg := hG.b
  unfold fX1_isIn
  rw [contains_ii hG hC h1 h2, bd_eq]
  by_cases q : (fi : Int) ≤ x ∧ x ≤ la
  · rw [decide_eq_true q, if_neg (by decide)]
    obtain ⟨y, rfl⟩ : ∃ y : Nat, x = y := ⟨x.toNat, by omega⟩
    simp only [nm_eq]
    rw [sr_def, mm_nat]
    have := sr_cmp (x := y) (by omega) w
    cases hb : bt w y with
    | false => rw [if_pos (this.mpr hb)]; rfl
    | true => rw [if_neg (fun e => by rw [this.mp e] at hb; cases hb)]; rfl
  · rw [decide_eq_false q, if_pos (by decide)]
    cases hm : mm (bt w) x with
    | false => rfl
    | true => have := mm_sup hS hm; omega
theorem in_eq (hG : GV s n fi la) (hC : RG s n fi la M) {S : Nat → Bool} (hS : Sup fi la S) {r : Nat} (hr : r < 17) (hR : Row M fi r S) (h1 : -2147483648 ≤ x) (h2 : x < 2147483648) : fX9_in F (ii r) (ii x).toInt64 M = some (bi (mm S x), M) := by
  have hg := hG.b
  unfold fX9_in
  rw [isIn9_ii hG hC h1 h2, bd_eq]
  by_cases q : (fi : Int) ≤ x ∧ x ≤ la
  · rw [decide_eq_true q, if_neg (by decide)]
    obtain ⟨y, rfl⟩ : ∃ y : Nat, x = y := ⟨x.toNat, by omega⟩
    rw [hC.2.2.2, LL_ii h1 h2, Int64.toInt32_ofInt, show Int32.ofInt (y : Int) = ii y from rfl]
    simp (disch := omega) only [ii_lit, ii_mul, ii_add, ii_sub, gd_inb, ii_nat]
    have e := hR (y - fi) (by omega)
    rw [show fi + (y - fi) = y by omega] at e
    rw [show ((60 : Int) * r + y - fi).toNat = 60 * r + (y - fi) by omega, e, mm_nat, ← ii_lit0]
    cases S y <;> rfl
  · rw [decide_eq_false q, if_pos (by decide)]
    cases hm : mm S x with
    | false => rfl
    | true => have := mm_sup hS hm; omega
theorem let_eq (hG : GV s n fi la) (hC : RG s n fi la M) {r y : Nat} (hr : r < 17) (h1 : fi ≤ y) (h2 : y ≤ la) (b : Bool) : fX9_let F (ii r) (ii y) (bi b) M = some (pI M 39 (60 * r + (y - fi)) (bi b)) := by
  have hg := hG.b
  unfold fX9_let
  rw [hC.2.2.2]
  simp (disch := omega) only [ii_lit, ii_mul, ii_add, ii_sub, gd_inb, ii_nat, bi_isb, gd_eq, nm_eq]
  rw [show ((60 : Int) * r + y - fi).toNat = 60 * r + (y - fi) by omega]
end IN
/-- a set with one number more or less -/
def put (S : Nat → Bool) (x : Nat) (b : Bool) : Nat → Bool := fun y => if y = x then b else S y
theorem put_c (S : Nat → Bool) (x : Nat) (b : Bool) : put S x b x = b := by simp [put]
theorem put_d {S : Nat → Bool} {x y : Nat} {b : Bool} (h : y ≠ x) : put S x b y = S y := by simp [put, h]
theorem put_put (S : Nat → Bool) (x : Nat) (b c : Bool) : put (put S x b) x c = put S x c := by
  funext y; unfold put; by_cases e : y = x <;> simp [e]
theorem put_same {S : Nat → Bool} {x : Nat} {b : Bool} (h : S x = b) : put S x b = S := by
  funext y; unfold put; by_cases e : y = x <;> simp [e, h]
theorem Sup.put {fi la : Nat} {S : Nat → Bool} (h : Sup fi la S) {x : Nat} (h1 : fi ≤ x) (h2 : x ≤ la) (b : Bool) : Sup fi la (put S x b) := by
  intro y hy
  by_cases e : y = x
  · exact e ▸ ⟨h1, h2⟩
  · rw [put_d e] at hy; exact h y hy
theorem Row.put {M : Mem} {fi r x : Nat} {S : Nat → Bool} (h : Row M fi r S) (h1 : fi ≤ x) (h2 : x < fi + 60) (b : Bool) : Row (pI M 39 (60 * r + (x - fi)) (bi b)) fi r (put S x b) := by
  intro j hj
  rw [pI_c]
  by_cases e : fi + j = x
  · rw [show 60 * r + j = 60 * r + (x - fi) by omega, up_c, e, put_c]
  · rw [up_d (by omega), put_d e, h j hj]
theorem Row.oth {M : Mem} {fi r q x : Nat} {S : Nat → Bool} (h : Row M fi r S) (hq : q ≠ r) (hx : x < 60) (v : Int32) : Row (pI M 39 (60 * q + x) v) fi r S := by
  intro j hj
  rw [pI_c, up_d (by omega), h j hj]
theorem Row.sm {cs : List Nat} {M N : Mem} {fi r : Nat} {S : Nat → Bool} (h : Row M fi r S) (hs : Sm cs M N) (hc : 39 ∉ cs) : Row N fi r S := by
  intro j hj
  rw [(hs 39 hc).1, h j hj]
theorem CG.sm {cs : List Nat} {M N : Mem} {s n fi la : Nat} (h : CG s n fi la M) (hs : Sm cs M N) (hc : 3 ∉ cs) : CG s n fi la N := by
  unfold CG
  rw [(hs 3 hc).1, (hs 3 hc).2]
  exact h
theorem RG.i {M : Mem} {s n fi la c j : Nat} {v : Int32} (h : RG s n fi la M) (hc : c ≠ 37 ∨ (j ≠ 3 ∧ j ≠ 4 ∧ j ≠ 5 ∧ j ≠ 6)) : RG s n fi la (pI M c j v) := by
  unfold RG
  simp only [pI_at]
  rw [if_neg (by omega), if_neg (by omega), if_neg (by omega), if_neg (by omega)]
  exact h
theorem RG.sm {cs : List Nat} {M N : Mem} {s n fi la : Nat} (h : RG s n fi la M) (hs : Sm cs M N) (hc : 37 ∉ cs) : RG s n fi la N := by
  unfold RG
  rw [(hs 37 hc).1]
  exact h
