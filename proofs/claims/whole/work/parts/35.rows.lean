/-! ROWS with x: the class's and the reference's are the same; whether x comes -/
theorem stp_1 (S : Nat → Bool) (x : Int) (g : Nat → Int) : ∀ k i j, i < j → j ≤ stp S x g k i → mm S (g j) = true ∧ g j ≠ x
  | 0, i, j, h1, h2 => by rw [stp] at h2; omega
  | k + 1, i, j, h1, h2 => by
    rw [stp] at h2
    split at h2
    · omega
    · rename_i q1
      split at h2
      · rename_i q2
        by_cases e : j = i + 1
        · rw [e]; exact ⟨q2, q1⟩
        · exact stp_1 S x g k (i + 1) j (by omega) h2
      · omega
theorem stp_2 (S : Nat → Bool) (x : Int) (g : Nat → Int) : ∀ k i t, i < t → t ≤ i + k → g t = x → stp S x g k i = 0 ∨ ∃ j, i < j ∧ j < t ∧ mm S (g j) = false ∧ stp S x g k i < j
  | 0, i, t, h1, h2, h3 => by omega
  | k + 1, i, t, h1, h2, h3 => by
    rw [stp]
    split
    · exact Or.inl rfl
    · rename_i q1
      have ht : t ≠ i + 1 := fun e => q1 (e ▸ h3)
      split
      · rcases stp_2 S x g k (i + 1) t (by omega) (by omega) h3 with h | ⟨j, j1, j2, j3, j4⟩
        · exact Or.inl h
        · exact Or.inr ⟨j, by omega, j2, j3, j4⟩
      · rename_i q2
        exact Or.inr ⟨i + 1, by omega, by omega, by simpa using q2, by omega⟩
theorem stp_3 (S : Nat → Bool) (x : Int) (g : Nat → Int) : ∀ k i t, i ≤ t → t ≤ i + k → (∀ j, i < j → j ≤ i + k → g j ≠ x) → (∀ j, i < j → j ≤ t → mm S (g j) = true) → t ≤ stp S x g k i
  | 0, i, t, h1, h2, h3, h4 => by rw [stp]; omega
  | k + 1, i, t, h1, h2, h3, h4 => by
    rw [stp, if_neg (h3 (i + 1) (by omega) (by omega))]
    split
    · by_cases e : t = i
      · have := stp_3 S x g k (i + 1) (i + 1) (by omega) (by omega) (fun j a b => h3 j (by omega) (by omega)) (fun j a b => by omega)
        omega
      · exact stp_3 S x g k (i + 1) t (by omega) (by omega) (fun j a b => h3 j (by omega) (by omega)) (fun j a b => h4 j (by omega) b)
    · rename_i q
      by_cases e : t = i
      · omega
      · exact absurd (h4 (i + 1) (by omega) (by omega)) q
section RO
variable {s n fi la : Nat}
/-- back by d is on by -d -/
theorem mx_opp (hG : GV s n fi la) (h2 : s ≠ 2) {x d : Int} (hx : Ca s n x) (hd : Ca s n d) (j : Int) : mx s n 1 x j (mx s n 1 (mx s n 1 x (-1) d) (-1) x) = mx s n 1 x (-j) d := by
  rcases (by have := hG.b; omega : s = 0 ∨ s = 1) with q | q
  · subst q
    rw [mx_0, mx_0, mx_0, mx_0]
    rw [show (1 * (1 * x + -1 * d) + -1 * x) = -d by omega, Int.mul_neg, Int.neg_mul]
  · subst q
    rw [mx_1, mx_1, mx_1, mx_1, em_l, em_r, em_eq, show (1 * x + -1 * d + -1 * x) = -d by omega, Int.mul_neg, Int.neg_mul]
    exact ⟨0, by omega⟩
theorem mx_ii (hG : GV s n fi la) {x d : Int} (hx : Ca s n x) (hd : Ca s n d) (i j : Int) (h : i + j = 0) : mx s n 1 (mx s n 1 x i d) j d = x := by
  rw [mx_step hG hx hd, h, mx_zero hG hx hd]
/-- a row through x, with the step that the reference takes -/
theorem RW_BR (hG : GV s n fi la) {S : Nat → Bool} (hS : Sup fi la S) {x : Nat} (hx : fi ≤ x ∧ x ≤ la) {D : Int} (hD : VD s n la D) (h0 : D ≠ 0) {i k : Nat} (hi : i < k) (hR : RW s n S (mx s n 1 x (-(i : Int)) D) D k) (h60 : s = 0 → -(la : Int) ≤ D ∧ D ≤ la) : BR s n fi la S x k := by
  have hg := hG.b
  by_cases q : s = 0
  · rcases Int.lt_or_lt_of_ne h0 with h1 | h1
    · subst q
      have hd : (((-D).toNat : Nat) : Int) = -D := by omega
      have := h60 rfl
      have hla : -D ≤ (la + 1 - fi : Nat) := by
        unfold GV at hG
        omega
      refine ⟨(-D).toNat, k - 1 - i, by omega, by rw [if_pos rfl]; omega, by omega, fun j hj => ?_⟩
      rw [hd]
      have k1 := hR (k - 1 - j) (by omega)
      simp only [mx_0] at k1 ⊢
      have e : (1 * (1 * (x : Int) + -((k - 1 - i : Nat) : Int) * -D) + (j : Int) * -D) = 1 * (1 * (x : Int) + -(i : Int) * D) + ((k - 1 - j : Nat) : Int) * D := by
        rw [show ((k - 1 - i : Nat) : Int) = (k : Int) - 1 - i by omega, show ((k - 1 - j : Nat) : Int) = (k : Int) - 1 - j by omega]
        simp only [Int.sub_mul, Int.neg_mul, Int.mul_neg, Int.neg_neg, Int.one_mul]
        omega
      rw [e]
      refine ⟨k1.1, fun hj0 => ?_⟩
      intro h
      rw [← e] at h
      have : (j : Int) * -D = 0 := by omega
      rcases Int.mul_eq_zero.mp this with h | h <;> omega
    · have := h60 q
      have e : ((D.toNat : Nat) : Int) = D := by omega
      refine ⟨D.toNat, i, by omega, ?_, hi, by rw [e]; exact hR⟩
      rw [if_pos q]
      unfold GV at hG
      omega
  · have h1 : 0 ≤ D ∧ D ≤ la := by unfold VD at hD; unfold GV at hG; omega
    have e : ((D.toNat : Nat) : Int) = D := by omega
    refine ⟨D.toNat, i, by omega, ?_, hi, by rw [e]; exact hR⟩
    rw [if_neg q]
    unfold GV at hG
    omega
theorem VD.sub (hG : GV s n fi la) {x y : Nat} (hx : fi ≤ x ∧ x ≤ la) (hy : fi ≤ y ∧ y ≤ la) (h : y ≠ x) : VD s n la (mx s n 1 y (-1) x) ∧ mx s n 1 y (-1) x ≠ 0 ∧ (s = 0 → -(la : Int) ≤ mx s n 1 y (-1) x ∧ mx s n 1 y (-1) x ≤ la) := by
  have cx := Ca.g hG (x := x) (by omega) (by omega)
  have cy := Ca.g hG (x := y) (by omega) (by omega)
  refine ⟨VD.of hG (by omega) (by omega), fun e => ?_, fun e => ?_⟩
  · have k1 := mx_back hG cx cy
    rw [e] at k1
    have k2 : mx s n 1 (x : Int) 1 0 = mx s n 1 x 0 0 := by unfold mx t3; simp
    rw [k2, mx_self hG cx] at k1
    omega
  · subst e; rw [mx_0]; omega
theorem HR_iff (hG : GV s n fi la) {S : Nat → Bool} (hS : Sup fi la S) {x : Nat} (hx : S x = true) {k : Nat} (hk : 4 ≤ k ∧ k ≤ 6) : HR s n S x (k - 1) ↔ BR s n fi la S x k := by
  have hg := hG.b
  have hxr := hS x hx
  have cx := Ca.g hG (x := x) (by omega) (by omega)
  constructor
  · rintro ⟨hs2, y, hy, hyx, hst⟩
    have hyr := hS y hy
    obtain ⟨hD, hD0, hD60⟩ := VD.sub hG hxr hyr hyx
    generalize mx s n 1 (y : Int) (-1) x = D at *
    have cD := hD.ca hG
    generalize ha : stp S x (fun j => mx s n 1 x (1 * j) D) (k - 1) 0 = a at hst
    generalize hb : stp S x (fun j => mx s n 1 x (-1 * j) D) (k - 1) 0 = b at hst
    have hak := stp_le S x (fun j => mx s n 1 x (1 * j) D) (k - 1) 0
    have hbk := stp_le S x (fun j => mx s n 1 x (-1 * j) D) (k - 1) 0
    have p1 := stp_1 S x (fun j => mx s n 1 x (1 * j) D) (k - 1) 0
    have m1 := stp_1 S x (fun j => mx s n 1 x (-1 * j) D) (k - 1) 0
    have p2 := stp_2 S x (fun j => mx s n 1 x (1 * j) D) (k - 1) 0
    have m2 := stp_2 S x (fun j => mx s n 1 x (-1 * j) D) (k - 1) 0
    rw [ha] at p1 p2 hak
    rw [hb] at m1 m2 hbk
    simp only [Int.one_mul, Int.neg_mul] at p1 m1 p2 m2
    have hno : ∀ t : Nat, 0 < t → t ≤ k - 1 → mx s n 1 x t D ≠ x := by
      intro t t1 t2 ht
      have ht' : mx s n 1 x (-(t : Int)) D = x := by
        have := mx_ii hG cx cD (t : Int) (-(t : Int)) (by omega)
        rw [ht] at this; exact this
      rcases p2 t t1 (by omega) ht with h1 | ⟨j, j1, j2, j3, j4⟩
      · exact (m1 t t1 (by omega)).2 ht'
      · rcases m2 t t1 (by omega) ht' with h1 | ⟨j', j1', j2', j3', j4'⟩
        · exact (p1 t t1 (by omega)).2 ht
        · have e : mx s n 1 x (-((t - j : Nat) : Int)) D = mx s n 1 x j D := by
            rw [show (-((t - j : Nat) : Int)) = -(t : Int) + j by omega, ← mx_step hG cx cD, ht']
          have hbj : b < t - j := by
            apply Classical.byContradiction
            intro hq
            have := (m1 (t - j) (by omega) (by omega)).1
            rw [e, j3] at this; cases this
          omega
    have hin : ∀ j : Int, -(b : Int) ≤ j → j ≤ a → mm S (mx s n 1 x j D) = true := by
      intro j j1 j2
      rcases (by omega : j = 0 ∨ 0 < j ∨ j < 0) with q | q | q
      · rw [q, mx_zero hG cx cD, mm_nat]; exact hx
      · have := (p1 j.toNat (by omega) (by omega)).1
        rw [show ((j.toNat : Nat) : Int) = j by omega] at this; exact this
      · have := (m1 (-j).toNat (by omega) (by omega)).1
        rw [show (-(((-j).toNat : Nat) : Int)) = j by omega] at this; exact this
    have hi2 : ∃ i : Nat, i ≤ b ∧ i ≤ k - 1 ∧ k - 1 - i ≤ a := ⟨k - 1 - a, by omega, by omega, by omega⟩
    obtain ⟨i, i1, i2, i3⟩ := hi2
    refine RW_BR hG hS hxr hD hD0 (i := i) (by omega) (fun j hj => ?_) hD60
    refine ⟨?_, fun hj0 h => ?_⟩
    · rw [mx_step hG cx cD]
      exact hin _ (by omega) (by omega)
    · exact hno j hj0 (by omega) ((mx_fix hG cx (Ca.mx hG _ _ _ _) cD j).mpr h)
  · rintro ⟨d, i, d1, d2, hi, hR⟩
    have hD : VD s n la (d : Int) := VD.d hG d2
    have cD := hD.ca hG
    have hA : ∀ j : Int, -(i : Int) ≤ j → j ≤ (k : Int) - 1 - i → mm S (mx s n 1 x j d) = true := by
      intro j j1 j2
      have := (hR (j + i).toNat (by omega)).1
      rw [mx_step hG cx cD, show (-(i : Int) + ((j + i).toNat : Nat)) = j by omega] at this
      exact this
    have hB : ∀ j : Nat, 0 < j → j ≤ k - 1 → mx s n 1 x j d ≠ x := by
      intro j j1 j2 h
      exact (hR j (by omega)).2 j1 ((mx_fix hG (Ca.mx hG _ _ _ _) cx cD j).mpr h)
    have hB' : ∀ j : Nat, 0 < j → j ≤ k - 1 → mx s n 1 x (-(j : Int)) d ≠ x := by
      intro j j1 j2 h
      have := mx_ii hG cx cD (-(j : Int)) j (by omega)
      rw [h] at this
      exact hB j j1 j2 this
    have hs2 : s ≠ 2 := by
      intro e
      apply hB 3 (by omega) (by omega)
      subst e
      obtain ⟨p, q, r, h1, h2, h3, h4⟩ := dg_ex (cx.2 rfl)
      obtain ⟨p', q', r', h1', h2', h3', h4'⟩ := dg_ex (cD.2 rfl)
      rw [h4, h4']
      show mx 2 n 1 _ 3 _ = _
      rw [mx_dg n 1 3 h1 h2 h3 h1' h2' h3']
      omega
    refine ⟨hs2, ?_⟩
    by_cases q : i < k - 1
    · obtain ⟨-, -, y, hy1, hy2⟩ := mm_sup hS (hA 1 (by omega) (by omega))
      have hyx : y ≠ x := by
        intro e
        apply hB 1 (by omega) (by omega)
        rw [show ((1 : Nat) : Int) = 1 from rfl, hy1, e]
      refine ⟨y, hy2, hyx, ?_⟩
      rw [← hy1, mx_less hG cx cD]
      have k1 := stp_3 S x (fun j => mx s n 1 x (1 * j) d) (k - 1) 0 (k - 1 - i) (by omega) (by omega) (fun j a b => by simpa only [Int.one_mul] using hB j a (by omega)) (fun j a b => by simpa only [Int.one_mul] using hA j (by omega) (by omega))
      have k2 := stp_3 S x (fun j => mx s n 1 x (-1 * j) d) (k - 1) 0 i (by omega) (by omega) (fun j a b => by simpa only [Int.one_mul, Int.neg_mul] using hB' j a (by omega)) (fun j a b => by simpa only [Int.one_mul, Int.neg_mul] using hA (-(j : Int)) (by omega) (by omega))
      omega
    · obtain ⟨-, -, y, hy1, hy2⟩ := mm_sup hS (hA (-1) (by omega) (by omega))
      have hyx : y ≠ x := by
        intro e
        apply hB' 1 (by omega) (by omega)
        show mx s n 1 x (-1) d = x
        rw [hy1, e]
      refine ⟨y, hy2, hyx, ?_⟩
      rw [← hy1]
      have e : (fun j : Nat => mx s n 1 x (1 * j) (mx s n 1 (mx s n 1 x (-1) d) (-1) x)) = fun j : Nat => mx s n 1 x (-(j : Int)) d := by
        funext j
        rw [mx_opp hG hs2 cx cD, Int.one_mul]
      rw [e]
      have k1 := stp_3 S x (fun j => mx s n 1 x (-(j : Int)) d) (k - 1) 0 (k - 1) (by omega) (by omega) (fun j a b => hB' j a (by omega)) (fun j a b => hA (-(j : Int)) (by omega) (by omega))
      omega
theorem R3_iff (hG : GV s n fi la) {l : LawT} (hV : LV l) (hk : lk l = 0) {S : Nat → Bool} (hS : Sup fi la S) {x : Nat} (hx : S x = true) :
    BR s n fi la S x 3 ↔ ∃ p q r, KK s n fi la l S p q r ∧ ((wa l ≠ 0 ∧ p = x) ∨ (wb l ≠ 0 ∧ q = x) ∨ (wc l ≠ 0 ∧ r = x)) := by
  have hg := hG.b
  have hxr := hS x hx
  have cx := Ca.g hG (x := x) (by omega) (by omega)
  have e1 : wa l = 1 := by unfold wa; rw [if_neg (by omega)]
  have e2 : wb l = -2 := by unfold wb; rw [if_pos hk]
  have e3 : wc l = 1 := by unfold wc; rw [if_neg (by omega), if_neg (by omega)]
  have e4 : wu l = true := by unfold wu; rw [if_pos hk]
  have key : ∀ p q r : Nat, KK s n fi la l S p q r ↔ S p = true ∧ S q = true ∧ S r = true ∧ (r : Int) = mx s n 1 p 2 (mx s n 1 q (-1) p) ∧ p ≠ q ∧ r ≠ p ∧ r ≠ q := by
    intro p q r
    unfold KK T3
    rw [e1, e2, e3, e4, hk, chb_1 (by decide), chb_1 (by decide), chb_1 (by decide), if_neg (by decide), chb_1 (by decide)]
    refine and_congr_right (fun h1 => and_congr_right (fun h2 => and_congr_right (fun h3 => ?_)))
    have k1 := hS p h1
    have k2 := hS q h2
    have k3 := hS r h3
    rw [full_t k3.1 k3.2, Bool.true_and, Bool.and_eq_true, decide_eq_true_eq, mx_three hG (Ca.g hG (by omega) (by omega)) (Ca.g hG (by omega) (by omega)) (Ca.g hG (by omega) (by omega))]
    refine and_congr_right (fun _ => ?_)
    simp
  rw [e1, e2, e3]
  constructor
  · rintro ⟨d, i, d1, d2, hi, hR⟩
    have hD : VD s n la (d : Int) := VD.d hG d2
    have cD := hD.ca hG
    have cp : Ca s n (mx s n 1 x (-(i : Int)) d) := Ca.mx hG _ _ _ _
    have hxp : mx s n 1 (mx s n 1 x (-(i : Int)) d) i d = x := mx_ii hG cx cD _ _ (by omega)
    generalize mx s n 1 x (-(i : Int)) d = P at *
    have r0 := (hR 0 (by omega)).1
    have r1 := hR 1 (by omega)
    have r2 := hR 2 (by omega)
    rw [show ((0 : Nat) : Int) = 0 from rfl, mx_zero hG cp cD] at r0
    obtain ⟨p1, p2, p, rfl, p3⟩ := mm_sup hS r0
    obtain ⟨-, -, q, q1, q2⟩ := mm_sup hS r1.1
    obtain ⟨-, -, r, r3, r4⟩ := mm_sup hS r2.1
    have n1 := r1.2 (by omega)
    have n2 := r2.2 (by omega)
    rw [q1] at n1
    rw [r3] at n2
    have hqp : mx s n 1 (q : Int) (-1) p = d := by rw [← q1]; exact mx_less hG cp cD
    have hqr : (r : Int) ≠ q := by
      intro e
      have k1 := mx_step hG cp cD 1 1
      rw [show ((1 : Nat) : Int) = 1 from rfl] at q1
      rw [show ((2 : Nat) : Int) = 2 from rfl] at r3
      rw [show (1 + 1 : Int) = 2 from rfl, r3, q1, e] at k1
      have k2 := (mx_fix hG (Ca.g hG (by have := hS q q2; omega) (by have := hS q q2; omega)) cp cD 1).mp k1
      rw [q1] at k2
      exact n1 k2
    refine ⟨p, q, r, (key p q r).mpr ⟨p3, q2, r4, ?_, by omega, by omega, by omega⟩, ?_⟩
    · rw [hqp, ← r3]; rfl
    · rcases (by omega : i = 0 ∨ i = 1 ∨ i = 2) with h | h | h <;> subst h
      · left
        rw [show ((0 : Nat) : Int) = 0 from rfl, mx_zero hG cp cD] at hxp
        exact ⟨by decide, by omega⟩
      · right; left
        rw [q1] at hxp
        exact ⟨by decide, by omega⟩
      · right; right
        rw [r3] at hxp
        exact ⟨by decide, by omega⟩
  · rintro ⟨p, q, r, h, h5⟩
    obtain ⟨h1, h2, h3, h4, n1, n2, n3⟩ := (key p q r).mp h
    have k1 := hS p h1
    have k2 := hS q h2
    have k3 := hS r h3
    have cp := Ca.g hG (x := p) (by omega) (by omega)
    have cq := Ca.g hG (x := q) (by omega) (by omega)
    obtain ⟨hD, hD0, hD60⟩ := VD.sub hG k1 k2 (fun e => n1 e.symm)
    have hback := mx_back hG cp cq
    generalize mx s n 1 (q : Int) (-1) p = D at *
    have cD := hD.ca hG
    have hRW : RW s n S p D 3 := by
      intro j hj
      rcases (by omega : j = 0 ∨ j = 1 ∨ j = 2) with e | e | e <;> subst e
      · rw [show ((0 : Nat) : Int) = 0 from rfl, mx_zero hG cp cD, mm_nat]; exact ⟨h1, fun h => by omega⟩
      · rw [show ((1 : Nat) : Int) = 1 from rfl, hback, mm_nat]; exact ⟨h2, fun _ => by omega⟩
      · rw [show ((2 : Nat) : Int) = 2 from rfl, ← h4, mm_nat]; exact ⟨h3, fun _ => by omega⟩
    rcases h5 with ⟨-, rfl⟩ | ⟨-, rfl⟩ | ⟨-, rfl⟩
    · refine RW_BR hG hS k1 hD hD0 (i := 0) (by omega) ?_ hD60
      show RW s n S (mx s n 1 p 0 D) D 3
      rw [mx_zero hG cp cD]; exact hRW
    · refine RW_BR hG hS k2 hD hD0 (i := 1) (by omega) ?_ hD60
      rw [← hback, mx_ii hG cp cD 1 _ (by omega)]; exact hRW
    · refine RW_BR hG hS k3 hD hD0 (i := 2) (by omega) ?_ hD60
      rw [h4, mx_ii hG cp cD 2 _ (by omega)]; exact hRW
/-- a law broken with x -/
theorem RB_iff (hG : GV s n fi la) {m : Nat} {ls : Nat → LawT} (hV : ∀ i, i < m → LV (ls i)) {S : Nat → Bool} (hS : Sup fi la S) {x : Nat} (hx : S x = true) : Bad s n fi la m ls S x ↔ ∃ i, i < m ∧ RB s n fi la (ls i) S x := by
  have hg := hG.b
  have hxr := hS x hx
  have h1 : ∀ i, i < m → (RB s n fi la (ls i) S x ↔ (tbl (ls i) ∧ ∃ y z, S y = true ∧ S z = true ∧ EL s n fi la (lk (ls i)) (wa (ls i)) (wb (ls i)) (wc (ls i)) (wu (ls i)) x y z) ∨ (lk (ls i) = 3 ∧ AP s n S x) ∨ ((lk (ls i) = 0 ∧ 3 < lA (ls i)) ∧ HR s n S x (lA (ls i) - 1).toNat)) := by
    intro i hi
    have hv := hV i hi
    rw [EL_KK hv hS hx]
    unfold RB tbl
    have h4 := hv.1
    rcases (by omega : lk (ls i) = 0 ∨ (lk (ls i) = 1 ∨ lk (ls i) = 2) ∨ lk (ls i) = 3 ∨ lk (ls i) = 4) with q | q | q | q
    · have hA := hv.2.2.1 q
      by_cases q3 : lA (ls i) = 3
      · rw [← R3_iff hG hv q hS hx, q3]
        simp [q]
      · have := HR_iff hG hS hx (k := (lA (ls i)).toNat) (by omega)
        rw [show (lA (ls i)).toNat - 1 = (lA (ls i) - 1).toNat by omega] at this
        rw [this]
        simp [q, show 3 < lA (ls i) by omega]
    · rw [← RT_iff hG hv q hS hx]
      rcases q with q | q <;> simp [q]
    · rw [AP_iff hG hS hxr]
      simp [q]
    · rw [← RE_iff hG hv q hS hx]
      simp [q]
  unfold Bad ELs
  constructor
  · rintro (⟨y, z, hy, hz, j, -, j2, j3, j4⟩ | ⟨i, hi, h⟩)
    · exact ⟨j, j2, (h1 j j2).mpr (Or.inl ⟨j3, y, z, hy, hz, j4⟩)⟩
    · exact ⟨i, hi, (h1 i hi).mpr (Or.inr h)⟩
  · rintro ⟨i, hi, h⟩
    rcases (h1 i hi).mp h with ⟨t, y, z, hy, hz, h⟩ | h
    · exact Or.inl ⟨y, z, hy, hz, i, Nat.zero_le _, hi, t, h⟩
    · exact Or.inr ⟨i, hi, h⟩
end RO
section CO
variable {F s n fi la : Nat} {M : Mem} {m : Nat} {ls : Nat → LawT}
theorem RLs.sm {cs : List Nat} {M N : Mem} (h : RLs M m ls) (hs : Sm cs M N) (hc : 37 ∉ cs ∧ ∀ c, 40 ≤ c → c < 45 → c ∉ cs) : RLs N m ls := by
  unfold RLs
  rw [(hs 37 hc.1).1, (hs 40 (hc.2 40 (by omega) (by omega))).1, (hs 41 (hc.2 41 (by omega) (by omega))).1, (hs 42 (hc.2 42 (by omega) (by omega))).1, (hs 43 (hc.2 43 (by omega) (by omega))).1, (hs 44 (hc.2 44 (by omega) (by omega))).1]
  exact h
/-- the reference: whether x comes to a row -/
theorem comes_eq (hF : 100000 ≤ F) (hG : GV s n fi la) (hR : RG s n fi la M) (hL : RLs M m ls) {S : Nat → Bool} (hS : Sup fi la S) {r : Nat} (hr : r < 17) (hw : Row M fi r S) {x : Nat} (hx : fi ≤ x ∧ x ≤ la) :
    fX9_comes F (ii r) (ii x) M = some (bi (ky s n fi la m ls (put S x true) x), pI M 39 (60 * r + (x - fi)) (bi (ky s n fi la m ls (put S x true) x))) := by
  have hg := hG.b
  unfold fX9_comes
  rw [show (1 : Int32) = bi true from rfl, let_eq hG hR hr hx.1 hx.2, bv_eq]
  have hw1 := hw.put hx.1 (by omega) true
  have hS1 := hS.put hx.1 hx.2 true
  have hs1 : Sm [39] M (pI M 39 (60 * r + (x - fi)) (bi true)) := Sm.i (by decide)
  have hR1 := hR.sm hs1 (by decide)
  have hL1 := hL.sm hs1 ⟨by decide, fun c h1 h2 => by simp; omega⟩
  have hm6 := hL.2.1
  have h2 : pI (pI M 39 (60 * r + (x - fi)) (bi true)) 39 (60 * r + (x - fi)) (bi false) = pI M 39 (60 * r + (x - fi)) (bi false) := by
    rw [pI_r, pI_r, pI_r, pIr_r, pIr_c]
    congr 1
    funext j
    unfold upd
    split <;> rfl
  generalize hM1 : pI M 39 (60 * r + (x - fi)) (bi true) = M1 at *
  have key := scan1 (L := fun N i => fX9_comes_L9 F (ii r) (ii x) N (ii (i : Nat)) M1) (fun i => RB s n fi la (ls i) (put S x true) x) (A := some (bi true, M1)) (B := some (bi false, pI M 39 (60 * r + (x - fi)) (bi false))) (lo := 0) (hi := m) (N := F) (x := 0) ?_ ?_ ?_ (by omega) (by omega) (by omega)
  · rcases key with ⟨⟨i, -, h3, h4⟩, h⟩ | ⟨h3, h⟩
    · have : ky s n fi la m ls (put S x true) x = false := ky_f ((RB_iff hG (fun i hi => (hL.2.2 i hi).1) hS1 (put_c _ _ _)).mpr ⟨i, h3, h4⟩)
      rw [this]; exact h
    · have : ky s n fi la m ls (put S x true) x = true := ky_t (fun hb => by
        obtain ⟨i, h4, h5⟩ := (RB_iff hG (fun i hi => (hL.2.2 i hi).1) hS1 (put_c _ _ _)).mp hb
        exact h3 ⟨i, by omega, h4, h5⟩)
      rw [this, hM1]; exact h
  · intro N
    show fX9_comes_L9 _ _ _ _ _ _ = _
    rw [fX9_comes_L9, hL1.1, if_pos (by rw [ii_le] <;> omega)]; rfl
  · intro N i _ hi hp
    show fX9_comes_L9 _ _ _ _ _ _ = _
    obtain ⟨b, b1, b2⟩ := breaks_eq hF hG hR1 hL1 hS1 hr hw1 hi hx
    rw [fX9_comes_L9, hL1.1, if_neg (by rw [ii_le] <;> omega), b1, bd_eq, b2.mpr hp, if_neg (by decide), show (0 : Int32) = bi false from rfl, let_eq hG hR1 hr hx.1 hx.2, bv_eq, h2]
  · intro N i _ hi hp
    show fX9_comes_L9 _ _ _ _ _ _ = fX9_comes_L9 _ _ _ _ _ _
    obtain ⟨b, b1, b2⟩ := breaks_eq hF hG hR1 hL1 hS1 hr hw1 hi hx
    have b3 : b = false := by
      cases b with
      | false => rfl
      | true => exact absurd (b2.mp rfl) hp
    rw [fX9_comes_L9, hL1.1, if_neg (by rw [ii_le] <;> omega), b1, bd_eq, b3, if_pos (by decide), nm_eq, ii_lit1, ii_add, show ((i : Int) + 1) = ((i + 1 : Nat) : Int) by omega]
end CO
