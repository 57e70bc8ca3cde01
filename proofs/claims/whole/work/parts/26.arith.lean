/-! what mixing keeps to -/
def Ca (s n : Nat) (x : Int) : Prop := (s = 1 → 0 ≤ x ∧ x < n) ∧ (s = 2 → 0 ≤ x ∧ x < 27)
theorem mx_0 (n : Nat) (a x b y : Int) : mx 0 n a x b y = a * x + b * y := rfl
theorem mx_1 (n : Nat) (a x b y : Int) : mx 1 n a x b y = (a * x + b * y) % n := rfl
theorem mx_2 (n : Nat) (a x b y : Int) : mx 2 n a x b y = t3 a x b y 1 + 3 * t3 a x b y 3 + 9 * t3 a x b y 9 := rfl
theorem Ca.g {s n fi la : Nat} (hG : GV s n fi la) {x : Int} (h1 : 0 ≤ x) (h2 : x ≤ la) : Ca s n x := by unfold GV at hG; unfold Ca; omega
theorem Ca.mx {s n fi la : Nat} (hG : GV s n fi la) (a x b y : Int) : Ca s n (mx s n a x b y) := by
  have hg := hG.b
  rcases hG with ⟨rfl, -⟩ | ⟨rfl, -⟩ | ⟨rfl, -⟩
  · exact ⟨fun h => (by cases h), fun h => (by cases h)⟩
  · exact ⟨fun _ => ⟨Int.emod_nonneg _ (by omega), Int.emod_lt_of_pos _ (by omega)⟩, fun h => (by cases h)⟩
  · refine ⟨fun h => (by cases h), fun _ => ?_⟩
    rw [mx_2]
    have h1 := t3_rng a x b y 1
    have h2 := t3_rng a x b y 3
    have h3 := t3_rng a x b y 9
    omega
/-- the three digits of a number below 27 -/
theorem dg_1 {p q r : Int} (h1 : 0 ≤ p ∧ p < 3) (h2 : 0 ≤ q ∧ q < 3) (h3 : 0 ≤ r ∧ r < 3) : (p + 3 * q + 9 * r) / 1 % 3 = p := by omega
theorem dg_3 {p q r : Int} (h1 : 0 ≤ p ∧ p < 3) (h2 : 0 ≤ q ∧ q < 3) (h3 : 0 ≤ r ∧ r < 3) : (p + 3 * q + 9 * r) / 3 % 3 = q := by omega
theorem dg_9 {p q r : Int} (h1 : 0 ≤ p ∧ p < 3) (h2 : 0 ≤ q ∧ q < 3) (h3 : 0 ≤ r ∧ r < 3) : (p + 3 * q + 9 * r) / 9 % 3 = r := by omega
theorem dg_ex {x : Int} (h : 0 ≤ x ∧ x < 27) : ∃ p q r : Int, (0 ≤ p ∧ p < 3) ∧ (0 ≤ q ∧ q < 3) ∧ (0 ≤ r ∧ r < 3) ∧ x = p + 3 * q + 9 * r := ⟨x % 3, x / 3 % 3, x / 9, by omega, by omega, by omega, by omega⟩
/-- a number of three digits, mixed -/
theorem mx_dg (n : Nat) (a b : Int) {p q r p' q' r' : Int} (h1 : 0 ≤ p ∧ p < 3) (h2 : 0 ≤ q ∧ q < 3) (h3 : 0 ≤ r ∧ r < 3) (k1 : 0 ≤ p' ∧ p' < 3) (k2 : 0 ≤ q' ∧ q' < 3) (k3 : 0 ≤ r' ∧ r' < 3) :
    mx 2 n a (p + 3 * q + 9 * r) b (p' + 3 * q' + 9 * r') = (a * p + b * p') % 3 + 3 * ((a * q + b * q') % 3) + 9 * ((a * r + b * r') % 3) := by
  rw [mx_2]
  unfold t3
  rw [dg_1 h1 h2 h3, dg_3 h1 h2 h3, dg_9 h1 h2 h3, dg_1 k1 k2 k3, dg_3 k1 k2 k3, dg_9 k1 k2 k3]
theorem m3_rng (z : Int) : 0 ≤ z % 3 ∧ z % 3 < 3 := ⟨Int.emod_nonneg _ (by omega), Int.emod_lt_of_pos _ (by omega)⟩
/-- two numbers of three digits are the same by their digits -/
theorem dg_inj {p q r p' q' r' : Int} (h1 : 0 ≤ p ∧ p < 3) (h2 : 0 ≤ q ∧ q < 3) (h3 : 0 ≤ r ∧ r < 3) (k1 : 0 ≤ p' ∧ p' < 3) (k2 : 0 ≤ q' ∧ q' < 3) (k3 : 0 ≤ r' ∧ r' < 3) : (p + 3 * q + 9 * r = p' + 3 * q' + 9 * r') ↔ p = p' ∧ q = q' ∧ r = r' := by omega
theorem em_add (n a x b y c z : Int) : (a * ((b * x + c * y) % n) + z) % n = (a * (b * x + c * y) + z) % n := by
  rw [Int.add_emod, Int.mul_emod, Int.emod_emod_of_dvd _ (Int.dvd_refl n), ← Int.mul_emod, ← Int.add_emod]
theorem em_eq {n x y : Int} : (x % n = y % n) ↔ n ∣ x - y := by rw [Int.emod_eq_emod_iff_emod_sub_eq_zero, Int.dvd_iff_emod_eq_zero]
theorem em_fix {n x y : Int} (h : 0 ≤ y ∧ y < n) : (x % n = y) ↔ n ∣ x - y := by
  rw [← em_eq, Int.emod_eq_of_lt h.1 h.2]
theorem em_l (n x z : Int) : (1 * (x % n) + z) % n = (x + z) % n := by rw [Int.one_mul, Int.emod_add_emod]
theorem em_r (n x b z : Int) : (x + b * (z % n)) % n = (x + b * z) % n := by
  rw [Int.add_emod, Int.mul_emod, Int.emod_emod_of_dvd _ (Int.dvd_refl n), ← Int.mul_emod, ← Int.add_emod]
theorem eA (n x i d j : Int) : (1 * ((1 * x + i * d) % n) + j * d) % n = (1 * x + (i + j) * d) % n := by
  rw [em_l, Int.add_mul]; congr 1; omega
theorem eB {n x : Int} (h : 0 ≤ x ∧ x < n) (d : Int) : (1 * x + 0 * d) % n = x := by
  rw [Int.one_mul, Int.zero_mul, Int.add_zero, Int.emod_eq_of_lt h.1 h.2]
theorem eC {n x y m d : Int} (hx : 0 ≤ x ∧ x < n) (hy : 0 ≤ y ∧ y < n) : ((1 * x + m * d) % n = x) ↔ ((1 * y + m * d) % n = y) := by
  rw [em_fix hx, em_fix hy, show 1 * x + m * d - x = m * d by omega, show 1 * y + m * d - y = m * d by omega]
theorem eD {n x y : Int} (hy : 0 ≤ y ∧ y < n) : (1 * x + 1 * ((1 * y + -1 * x) % n)) % n = y := by
  rw [em_r, show 1 * x + 1 * (1 * y + -1 * x) = y by omega, Int.emod_eq_of_lt hy.1 hy.2]
theorem eE {n x d : Int} (hd : 0 ≤ d ∧ d < n) : (1 * ((1 * x + 1 * d) % n) + -1 * x) % n = d := by
  rw [em_l, show 1 * x + 1 * d + -1 * x = d by omega, Int.emod_eq_of_lt hd.1 hd.2]
theorem eG (n x y u : Int) : (1 * y + 1 * ((1 * x + -1 * u) % n)) % n = (1 * ((1 * x + 1 * y) % n) + -1 * u) % n := by
  rw [em_l, em_r]; congr 1; omega
theorem eH (n a x b y c z : Int) : ((-c * z + 0 * 0) % n = (a * x + b * y) % n) ↔ (1 * ((a * x + b * y) % n) + c * z) % n = 0 := by
  rw [em_l, em_eq, ← Int.dvd_iff_emod_eq_zero, Int.neg_mul, Int.zero_mul, Int.add_zero, show -(c * z) - (a * x + b * y) = -(a * x + b * y + c * z) by omega, Int.dvd_neg]
theorem eS {n z : Int} (h : 0 ≤ z ∧ z < n) : (1 * z + 0 * 0) % n = z := eB h 0
theorem eR {n x y z : Int} (hz : 0 ≤ z ∧ z < n) : ((-1 * z + 0 * 0) % n = (1 * x + -2 * y) % n) ↔ z = (1 * x + 2 * ((1 * y + -1 * x) % n)) % n := by
  rw [em_r, em_eq, @eq_comm _ z, em_fix hz, show -1 * z + 0 * 0 - (1 * x + -2 * y) = 1 * x + 2 * (1 * y + -1 * x) - z by omega]
section AR
variable {s n fi la : Nat}
theorem mx_step (hG : GV s n fi la) {x d : Int} (hx : Ca s n x) (hd : Ca s n d) (i j : Int) : mx s n 1 (mx s n 1 x i d) j d = mx s n 1 x (i + j) d := by
  rcases hG with ⟨rfl, -⟩ | ⟨rfl, -⟩ | ⟨rfl, -⟩
  · rw [mx_0, mx_0, mx_0, Int.add_mul]; omega
  · rw [mx_1, mx_1, mx_1]; exact eA n x i d j
  · obtain ⟨p, q, r, h1, h2, h3, rfl⟩ := dg_ex (hx.2 rfl)
    obtain ⟨p', q', r', k1, k2, k3, rfl⟩ := dg_ex (hd.2 rfl)
    rw [mx_dg n _ _ h1 h2 h3 k1 k2 k3, mx_dg n _ _ (m3_rng _) (m3_rng _) (m3_rng _) k1 k2 k3, mx_dg n _ _ h1 h2 h3 k1 k2 k3, eA, eA, eA]
theorem mx_zero (hG : GV s n fi la) {x d : Int} (hx : Ca s n x) (hd : Ca s n d) : mx s n 1 x 0 d = x := by
  rcases hG with ⟨rfl, -⟩ | ⟨rfl, -⟩ | ⟨rfl, -⟩
  · rw [mx_0]; omega
  · rw [mx_1]; exact eB (hx.1 rfl) d
  · obtain ⟨p, q, r, h1, h2, h3, rfl⟩ := dg_ex (hx.2 rfl)
    obtain ⟨p', q', r', k1, k2, k3, rfl⟩ := dg_ex (hd.2 rfl)
    rw [mx_dg n _ _ h1 h2 h3 k1 k2 k3, eB h1, eB h2, eB h3]
theorem mx_fix (hG : GV s n fi la) {x y d : Int} (hx : Ca s n x) (hy : Ca s n y) (hd : Ca s n d) (m : Int) : (mx s n 1 x m d = x) ↔ mx s n 1 y m d = y := by
  rcases hG with ⟨rfl, -⟩ | ⟨rfl, -⟩ | ⟨rfl, -⟩
  · rw [mx_0, mx_0]; constructor <;> intro <;> omega
  · rw [mx_1, mx_1]; exact eC (hx.1 rfl) (hy.1 rfl)
  · obtain ⟨p, q, r, h1, h2, h3, rfl⟩ := dg_ex (hx.2 rfl)
    obtain ⟨p', q', r', k1, k2, k3, rfl⟩ := dg_ex (hd.2 rfl)
    obtain ⟨u, v, w, l1, l2, l3, rfl⟩ := dg_ex (hy.2 rfl)
    rw [mx_dg n _ _ h1 h2 h3 k1 k2 k3, mx_dg n _ _ l1 l2 l3 k1 k2 k3, dg_inj (m3_rng _) (m3_rng _) (m3_rng _) h1 h2 h3, dg_inj (m3_rng _) (m3_rng _) (m3_rng _) l1 l2 l3, eC h1 l1, eC h2 l2, eC h3 l3]
theorem mx_back (hG : GV s n fi la) {x y : Int} (hx : Ca s n x) (hy : Ca s n y) : mx s n 1 x 1 (mx s n 1 y (-1) x) = y := by
  rcases hG with ⟨rfl, -⟩ | ⟨rfl, -⟩ | ⟨rfl, -⟩
  · rw [mx_0, mx_0]; omega
  · rw [mx_1, mx_1]; exact eD (hy.1 rfl)
  · obtain ⟨p, q, r, h1, h2, h3, rfl⟩ := dg_ex (hx.2 rfl)
    obtain ⟨p', q', r', k1, k2, k3, rfl⟩ := dg_ex (hy.2 rfl)
    rw [mx_dg n _ _ k1 k2 k3 h1 h2 h3, mx_dg n _ _ h1 h2 h3 (m3_rng _) (m3_rng _) (m3_rng _), eD k1, eD k2, eD k3]
theorem mx_less (hG : GV s n fi la) {x d : Int} (hx : Ca s n x) (hd : Ca s n d) : mx s n 1 (mx s n 1 x 1 d) (-1) x = d := by
  rcases hG with ⟨rfl, -⟩ | ⟨rfl, -⟩ | ⟨rfl, -⟩
  · rw [mx_0, mx_0]; omega
  · rw [mx_1, mx_1]; exact eE (hd.1 rfl)
  · obtain ⟨p, q, r, h1, h2, h3, rfl⟩ := dg_ex (hx.2 rfl)
    obtain ⟨p', q', r', k1, k2, k3, rfl⟩ := dg_ex (hd.2 rfl)
    rw [mx_dg n _ _ h1 h2 h3 k1 k2 k3, mx_dg n _ _ (m3_rng _) (m3_rng _) (m3_rng _) h1 h2 h3, eE k1, eE k2, eE k3]
theorem mx_comm (s n : Nat) (x y : Int) : mx s n 1 x 1 y = mx s n 1 y 1 x := by
  unfold mx t3
  simp only [Int.add_comm]
theorem mx_assoc (hG : GV s n fi la) {x y u : Int} (hx : Ca s n x) (hy : Ca s n y) (hu : Ca s n u) : mx s n 1 y 1 (mx s n 1 x (-1) u) = mx s n 1 (mx s n 1 x 1 y) (-1) u := by
  rcases hG with ⟨rfl, -⟩ | ⟨rfl, -⟩ | ⟨rfl, -⟩
  · rw [mx_0, mx_0, mx_0, mx_0]; omega
  · rw [mx_1, mx_1, mx_1, mx_1]; exact eG n x y u
  · obtain ⟨p, q, r, h1, h2, h3, rfl⟩ := dg_ex (hx.2 rfl)
    obtain ⟨p', q', r', k1, k2, k3, rfl⟩ := dg_ex (hy.2 rfl)
    obtain ⟨u, v, w, l1, l2, l3, rfl⟩ := dg_ex (hu.2 rfl)
    rw [mx_dg n _ _ h1 h2 h3 l1 l2 l3, mx_dg n _ _ k1 k2 k3 (m3_rng _) (m3_rng _) (m3_rng _), mx_dg n _ _ h1 h2 h3 k1 k2 k3, mx_dg n _ _ (m3_rng _) (m3_rng _) (m3_rng _) l1 l2 l3, eG, eG, eG]
theorem mx_null (hG : GV s n fi la) {a x b y c z : Int} (hx : Ca s n x) (hy : Ca s n y) (hz : Ca s n z) : (mx s n (-c) z 0 0 = mx s n a x b y) ↔ mx s n 1 (mx s n a x b y) c z = 0 := by
  rcases hG with ⟨rfl, -⟩ | ⟨rfl, -⟩ | ⟨rfl, -⟩
  · rw [mx_0, mx_0, mx_0, Int.neg_mul]; constructor <;> intro <;> omega
  · rw [mx_1, mx_1, mx_1]; exact eH n a x b y c z
  · obtain ⟨p, q, r, h1, h2, h3, rfl⟩ := dg_ex (hx.2 rfl)
    obtain ⟨p', q', r', k1, k2, k3, rfl⟩ := dg_ex (hy.2 rfl)
    obtain ⟨u, v, w, l1, l2, l3, rfl⟩ := dg_ex (hz.2 rfl)
    have e0 := mx_dg n (-c) 0 l1 l2 l3 (p' := 0) (q' := 0) (r' := 0) (by omega) (by omega) (by omega)
    rw [show (0 : Int) + 3 * 0 + 9 * 0 = 0 from rfl] at e0
    rw [e0, mx_dg n _ _ h1 h2 h3 k1 k2 k3, mx_dg n _ _ (m3_rng _) (m3_rng _) (m3_rng _) l1 l2 l3, dg_inj (m3_rng _) (m3_rng _) (m3_rng _) (m3_rng _) (m3_rng _) (m3_rng _), show (0 : Int) = 0 + 3 * 0 + 9 * 0 from rfl, dg_inj (m3_rng _) (m3_rng _) (m3_rng _) (by omega) (by omega) (by omega), show (0 : Int) + 3 * 0 + 9 * 0 = 0 from rfl, eH, eH, eH]
theorem mx_self (hG : GV s n fi la) {z : Int} (hz : Ca s n z) : mx s n 1 z 0 0 = z := mx_zero hG hz ⟨fun _ => by have := hG.b; omega, fun _ => by omega⟩
theorem mx_three (hG : GV s n fi la) {x y z : Int} (hx : Ca s n x) (hy : Ca s n y) (hz : Ca s n z) : (mx s n (-1) z 0 0 = mx s n 1 x (-2) y) ↔ z = mx s n 1 x 2 (mx s n 1 y (-1) x) := by
  rcases hG with ⟨rfl, -⟩ | ⟨rfl, -⟩ | ⟨rfl, -⟩
  · rw [mx_0, mx_0, mx_0, mx_0]; constructor <;> intro <;> omega
  · rw [mx_1, mx_1, mx_1, mx_1]; exact eR (hz.1 rfl)
  · obtain ⟨p, q, r, h1, h2, h3, rfl⟩ := dg_ex (hx.2 rfl)
    obtain ⟨p', q', r', k1, k2, k3, rfl⟩ := dg_ex (hy.2 rfl)
    obtain ⟨u, v, w, l1, l2, l3, rfl⟩ := dg_ex (hz.2 rfl)
    have e0 := mx_dg n (-1) 0 l1 l2 l3 (p' := 0) (q' := 0) (r' := 0) (by omega) (by omega) (by omega)
    rw [show (0 : Int) + 3 * 0 + 9 * 0 = 0 from rfl] at e0
    rw [e0, mx_dg n _ _ h1 h2 h3 k1 k2 k3, mx_dg n _ _ k1 k2 k3 h1 h2 h3, mx_dg n _ _ h1 h2 h3 (m3_rng _) (m3_rng _) (m3_rng _), dg_inj (m3_rng _) (m3_rng _) (m3_rng _) (m3_rng _) (m3_rng _) (m3_rng _), dg_inj l1 l2 l3 (m3_rng _) (m3_rng _) (m3_rng _), eR l1, eR l2, eR l3]
end AR
