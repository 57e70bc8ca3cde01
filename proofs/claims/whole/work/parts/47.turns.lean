/-! TURNS -/
theorem ring_t (a a' y b k0 k1 k2 k3 n : Int) (h : a * a' = 1 + n * k0) : a * (a' * (y - b + n * k1) + n * k2) + n * k3 + b - y = n * (k0 * (y - b) + a * a' * k1 + a * k2 + k3) := by
  grind
theorem bez (a b : Nat) : ∃ u v : Int, (a : Int) * u + b * v = Nat.gcd a b := by
  induction a, b using Nat.gcd.induction with
  | H0 n => exact ⟨0, 1, by simp⟩
  | H1 m n hm ih =>
    obtain ⟨u, v, h⟩ := ih
    refine ⟨v - (n / m : Nat) * u, u, ?_⟩
    rw [Nat.gcd_rec m n, ← h]
    have : ((n % m : Nat) : Int) = n - m * (n / m : Nat) := by
      have := Nat.mod_add_div n m
      have h2 : ((n % m : Nat) : Int) + ((m * (n / m) : Nat) : Int) = n := by rw [← Int.natCast_add, this]
      rw [Int.natCast_mul] at h2
      omega
    rw [this]
    grind
theorem tbit : ∀ t : Nat, t < 8 → ((ii t &&& 1 = 0 ↔ ¬ t % 2 = 1) ∧ (ii t &&& 1 = 1 ↔ t % 2 = 1) ∧ (ii t &&& 2 = 0 ↔ ¬ t / 2 % 2 = 1) ∧ (ii t &&& 2 = 2 ↔ t / 2 % 2 = 1) ∧ (ii t &&& 4 = 0 ↔ ¬ t / 4 % 2 = 1) ∧ (ii t &&& 4 = 4 ↔ t / 4 % 2 = 1)) := by
  decide
/-- the factors and shifts of the TURNS t -/
def fcb (s n t a : Nat) : Bool := decide (a = 1 ∨ (s = 0 ∧ a = 2 ∧ t % 2 = 1 ∧ 1 < n) ∨ (s = 2 ∧ a = 2 ∧ t % 2 = 1) ∨ (s = 1 ∧ ((t % 2 = 1 ∧ a + 1 = n) ∨ (t / 4 % 2 = 1 ∧ Nat.gcd a n = 1))))
def fcN (s n : Nat) : Nat := if s = 1 then n - 1 else 2
def shN (s fi la t : Nat) : Nat := if s ≠ 0 ∧ t / 2 % 2 = 1 then la + 1 - fi else 1
/-- the number to which a TURN takes x -/
def tu (s n a b : Nat) (x : Int) : Int := if s = 0 then (if a = 2 then n + 1 - x else x) else mx s n 1 (mx s n a x 0 0) 1 b
/-- a TURN is one to one on the ground, and σ is its way back -/
def TB (s n fi la a b : Nat) (σ : Nat → Nat) : Prop := ∀ x, fi ≤ x → x ≤ la → (∃ y : Nat, tu s n a b x = y ∧ fi ≤ y ∧ y ≤ la ∧ σ y = x) ∧ (fi ≤ σ x ∧ σ x ≤ la ∧ tu s n a b (σ x) = x)
theorem em_ex (z n : Int) : ∃ k, z % n = z + n * k := ⟨-(z / n), by have := Int.mul_ediv_add_emod z n; rw [Int.mul_neg]; omega⟩
theorem TB_1 {n a b : Nat} (hn : 2 ≤ n) (hb : b < n) {a' k0 : Int} (h : (a : Int) * a' = 1 + n * k0) : ∃ σ, TB 1 n 0 (n - 1) a b σ := by
  refine ⟨fun y => ((a' * ((y - b : Int) % n)) % n).toNat, fun x _ hx => ?_⟩
  have hn0 : (0 : Int) < n := by omega
  have e : ∀ z : Int, tu 1 n a b z = (a * z + b) % n := by
    intro z
    unfold tu
    rw [if_neg (by decide), mx_1, mx_1, Int.zero_mul, Int.add_zero, Int.one_mul, Int.one_mul, Int.emod_add_emod]
  have r1 := fun z : Int => Int.emod_nonneg z (show (n : Int) ≠ 0 by omega)
  have r2 := fun z : Int => Int.emod_lt_of_pos z hn0
  refine ⟨⟨((a * x + b : Int) % n).toNat, ?_, by omega, ?_, ?_⟩, by omega, ?_, ?_⟩
  · rw [e, Int.toNat_of_nonneg (r1 _)]
  · have := r2 ((a : Int) * x + b)
    have := r1 ((a : Int) * x + b)
    omega
  · show ((a' * (((((a * x + b : Int) % n).toNat : Nat) - b : Int) % n)) % n).toNat = x
    rw [Int.toNat_of_nonneg (r1 _)]
    have : (a' * ((((a : Int) * x + b) % n - b) % n)) % n = x := by
      rw [em_fix (by omega)]
      obtain ⟨k1, h1⟩ := em_ex ((a : Int) * x + b) n
      obtain ⟨k2, h2⟩ := em_ex (((a : Int) * x + b) % n - b) n
      rw [h2, h1]
      exact ⟨k0 * x + a' * k1 + a' * k2, by grind⟩
    rw [this]; omega
  · have := r2 (a' * (((x : Int) - b) % n))
    have := r1 (a' * (((x : Int) - b) % n))
    show ((a' * (((x : Int) - b) % n)) % n).toNat ≤ n - 1
    omega
  · show tu 1 n a b (((a' * (((x : Int) - b) % n)) % n).toNat : Nat) = x
    rw [e, Int.toNat_of_nonneg (r1 _), em_fix (by omega)]
    obtain ⟨k1, h1⟩ := em_ex ((x : Int) - b) n
    obtain ⟨k2, h2⟩ := em_ex (a' * (((x : Int) - b) % n)) n
    rw [h2, h1]
    exact ⟨k0 * (x - b) + a * a' * k1 + a * k2, by grind⟩
theorem mx_d0 (n : Nat) (a : Int) {p q r : Int} (h1 : 0 ≤ p ∧ p < 3) (h2 : 0 ≤ q ∧ q < 3) (h3 : 0 ≤ r ∧ r < 3) : mx 2 n a (p + 3 * q + 9 * r) 0 0 = (a * p) % 3 + 3 * ((a * q) % 3) + 9 * ((a * r) % 3) := by
  have := mx_dg n a 0 h1 h2 h3 (p' := 0) (q' := 0) (r' := 0) (by decide) (by decide) (by decide)
  simpa using this
theorem dgA {a : Nat} (ha : a = 1 ∨ a = 2) {p p' : Int} (h : 0 ≤ p ∧ p < 3) (h' : 0 ≤ p' ∧ p' < 3) : (a : Int) * ((1 * ((1 * ((a : Int) * p % 3) + 1 * p') % 3) + -1 * p') % 3) % 3 = p ∧ (1 * ((a : Int) * ((a : Int) * ((1 * p + -1 * p') % 3) % 3) % 3) + 1 * p') % 3 = p := by
  have h1 : p = 0 ∨ p = 1 ∨ p = 2 := by omega
  have h2 : p' = 0 ∨ p' = 1 ∨ p' = 2 := by omega
  rcases ha with rfl | rfl <;> rcases h1 with rfl | rfl | rfl <;> rcases h2 with rfl | rfl | rfl <;> decide
theorem TB_2 {n la a b : Nat} (hG : GV 2 n 0 la) (ha : a = 1 ∨ a = 2) (hb : b ≤ la) : ∃ σ, TB 2 n 0 la a b σ := by
  have hg := hG.b
  refine ⟨fun y => (mx 2 n a (mx 2 n 1 y (-1) b) 0 0).toNat, fun x _ hx => ?_⟩
  have hin : ∀ (c : Int) (z : Int), 0 ≤ z ∧ z ≤ la → 0 ≤ mx 2 n c z 0 0 ∧ mx 2 n c z 0 0 ≤ la := fun c z hz => mx_g hG (by decide) c 0 hz (by omega)
  have hin2 : ∀ (c z y : Int), 0 ≤ z ∧ z ≤ la → 0 ≤ y ∧ y ≤ la → 0 ≤ mx 2 n 1 z c y ∧ mx 2 n 1 z c y ≤ la := fun c z y hz hy => mx_g hG (by decide) 1 c hz hy
  have hla : la < 27 := by unfold GV at hG; omega
  have key : ∀ X B : Int, (0 ≤ X ∧ X < 27) → (0 ≤ B ∧ B < 27) → mx 2 n a (mx 2 n 1 (mx 2 n 1 (mx 2 n a X 0 0) 1 B) (-1) B) 0 0 = X ∧ mx 2 n 1 (mx 2 n a (mx 2 n a (mx 2 n 1 X (-1) B) 0 0) 0 0) 1 B = X := by
    intro X B hX hB
    obtain ⟨p, q, r, h1, h2, h3, h4⟩ := dg_ex hX
    obtain ⟨p', q', r', h1', h2', h3', h4'⟩ := dg_ex hB
    rw [h4, h4']
    constructor
    · rw [mx_d0 n a h1 h2 h3, mx_dg n 1 1 (m3_rng _) (m3_rng _) (m3_rng _) h1' h2' h3', mx_dg n 1 (-1) (m3_rng _) (m3_rng _) (m3_rng _) h1' h2' h3', mx_d0 n a (m3_rng _) (m3_rng _) (m3_rng _), (dgA ha h1 h1').1, (dgA ha h2 h2').1, (dgA ha h3 h3').1]
    · rw [mx_dg n 1 (-1) h1 h2 h3 h1' h2' h3', mx_d0 n a (m3_rng _) (m3_rng _) (m3_rng _), mx_d0 n a (m3_rng _) (m3_rng _) (m3_rng _), mx_dg n 1 1 (m3_rng _) (m3_rng _) (m3_rng _) h1' h2' h3', (dgA ha h1 h1').2, (dgA ha h2 h2').2, (dgA ha h3 h3').2]
  have e : ∀ z : Int, tu 2 n a b z = mx 2 n 1 (mx 2 n a z 0 0) 1 b := fun z => by unfold tu; rw [if_neg (by decide)]
  have i1 := hin a x (by omega)
  have i2 := hin2 1 _ b i1 (by omega)
  have i3 := hin2 (-1) x b (by omega) (by omega)
  have i4 := hin a _ i3
  have kk := key x b (by omega) (by omega)
  refine ⟨⟨(mx 2 n 1 (mx 2 n a x 0 0) 1 b).toNat, ?_, by omega, by omega, ?_⟩, by omega, ?_, ?_⟩
  · rw [e, Int.toNat_of_nonneg i2.1]
  · show (mx 2 n a (mx 2 n 1 ((mx 2 n 1 (mx 2 n a x 0 0) 1 b).toNat : Nat) (-1) b) 0 0).toNat = x
    rw [Int.toNat_of_nonneg i2.1, kk.1]; omega
  · show (mx 2 n a (mx 2 n 1 x (-1) b) 0 0).toNat ≤ la
    omega
  · show tu 2 n a b ((mx 2 n a (mx 2 n 1 x (-1) b) 0 0).toNat : Nat) = x
    rw [e, Int.toNat_of_nonneg i4.1, kk.2]
theorem TB_all {s n fi la : Nat} (hG : GV s n fi la) {t a b : Nat} (ha : fcb s n t a = true) (h1 : 1 ≤ a ∧ a ≤ fcN s n) (hb : b < shN s fi la t) : ∃ σ, TB s n fi la a b σ := by
  have hg := hG.b
  have ha := of_decide_eq_true ha
  unfold fcN at h1
  unfold shN at hb
  rcases (by omega : s = 0 ∨ s = 1 ∨ s = 2) with rfl | rfl | rfl
  · have hG' := hG
    unfold GV at hG'
    by_cases q : a = 2
    · have e : ∀ z : Int, tu 0 n a b z = n + 1 - z := fun z => by unfold tu; rw [if_pos rfl, if_pos q]
      refine ⟨fun x => n + 1 - x, fun x x1 x2 => ?_⟩
      exact ⟨⟨n + 1 - x, by rw [e]; omega, by omega, by omega, by show n + 1 - (n + 1 - x) = x; omega⟩, by show fi ≤ n + 1 - x; omega, by show n + 1 - x ≤ la; omega, by show tu 0 n a b ((n + 1 - x : Nat) : Int) = x; rw [e]; omega⟩
    · have e : ∀ z : Int, tu 0 n a b z = z := fun z => by unfold tu; rw [if_pos rfl, if_neg q]
      exact ⟨fun x => x, fun x x1 x2 => ⟨⟨x, e _, x1, x2, rfl⟩, x1, x2, e _⟩⟩
  · have hG' := hG
    unfold GV at hG'
    have hfi : fi = 0 := by omega
    have hla : la = n - 1 := by omega
    subst hfi
    subst hla
    rw [if_pos rfl] at h1
    have hb' : b < n := by split at hb <;> omega
    have hinv : ∃ a' k0 : Int, (a : Int) * a' = 1 + n * k0 := by
      rcases ha with q | q | q | ⟨-, ⟨-, q⟩ | ⟨-, q⟩⟩
      · exact ⟨1, 0, by rw [q]; simp⟩
      · omega
      · omega
      · refine ⟨a, (a : Int) - 1, ?_⟩
        have : (n : Int) = a + 1 := by omega
        rw [this]; grind
      · obtain ⟨u, v, h⟩ := bez a n
        rw [q] at h
        exact ⟨u, -v, by rw [Int.mul_neg]; have : ((1 : Nat) : Int) = 1 := rfl; omega⟩
    obtain ⟨a', k0, h⟩ := hinv
    exact TB_1 (by omega) hb' h
  · have hfi : fi = 0 := by unfold GV at hG; omega
    subst hfi
    rw [if_neg (by decide)] at h1
    exact TB_2 hG (by omega) (by split at hb <;> omega)
/-- a set turned -/
def img (fi la : Nat) (σ : Nat → Nat) (S : Nat → Bool) : Nat → Bool := fun y => fullB fi la y && S (σ y)
theorem TB_img {s n fi la a b : Nat} {σ : Nat → Nat} (h : TB s n fi la a b σ) {S T : Nat → Bool} (hT : Sup fi la T) : (∀ x : Nat, fi ≤ x → x ≤ la → S x = mm T (tu s n a b x)) ↔ img fi la σ S = T := by
  unfold img
  constructor
  · intro hx
    funext y
    by_cases q : fi ≤ y ∧ y ≤ la
    · rw [full_t q.1 q.2, Bool.true_and]
      obtain ⟨-, h2, h3, h4⟩ := h y q.1 q.2
      rw [hx _ h2 h3, h4, mm_nat]
    · have : fullB fi la y = false := decide_eq_false q
      rw [this, Bool.false_and]
      cases hb : T y with
      | false => rfl
      | true => exact absurd (hT y hb) q
  · intro e x x1 x2
    obtain ⟨⟨y, y1, y2, y3, y4⟩, -⟩ := h x x1 x2
    rw [y1, mm_nat, ← e]
    show S x = (fullB fi la y && S (σ y))
    rw [full_t y2 y3, Bool.true_and, y4]
theorem TB_mem {s n fi la a b : Nat} {σ : Nat → Nat} (h : TB s n fi la a b σ) {S : Nat → Bool} (hS : Sup fi la S) (y : Nat) : img fi la σ S y = true ↔ ∃ x, S x = true ∧ tu s n a b x = y := by
  unfold img
  constructor
  · intro hy
    rw [Bool.and_eq_true] at hy
    have q := of_decide_eq_true hy.1
    exact ⟨σ y, hy.2, (h y q.1 q.2).2.2.2⟩
  · rintro ⟨x, hx, e⟩
    have hr := hS x hx
    obtain ⟨⟨z, z1, z2, z3, z4⟩, -⟩ := h x hr.1 hr.2
    have hz : z = y := by omega
    subst hz
    rw [full_t z2 z3, Bool.true_and, z4]; exact hx
