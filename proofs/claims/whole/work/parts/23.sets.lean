/-! sets as longs: the least number, the rest, number by number -/
/-- some number below n has it -/
def exb (p : Nat → Bool) : Nat → Bool
  | 0 => false
  | n + 1 => exb p n || p n
theorem exb_iff {p : Nat → Bool} : ∀ {n : Nat}, exb p n = true ↔ ∃ x, x < n ∧ p x = true
  | 0 => ⟨fun h => (by cases h), fun ⟨x, hx, _⟩ => absurd hx (Nat.not_lt_zero x)⟩
  | n + 1 => by
    show (exb p n || p n) = true ↔ _
    rw [Bool.or_eq_true, exb_iff]
    constructor
    · rintro (⟨x, hx, h⟩ | h)
      · exact ⟨x, by omega, h⟩
      · exact ⟨n, by omega, h⟩
    · rintro ⟨x, hx, h⟩
      rcases Nat.lt_or_ge x n with q | q
      · exact Or.inl ⟨x, q, h⟩
      · exact Or.inr (by rw [show n = x by omega]; exact h)
theorem exb_no {p : Nat → Bool} {n : Nat} : exb p n = false ↔ ∀ x, x < n → p x = false := by
  constructor
  · intro h x hx
    cases hp : p x with
    | false => rfl
    | true => rw [exb_iff.mpr ⟨x, hx, hp⟩] at h; cases h
  · intro h
    cases hp : exb p n with
    | false => rfl
    | true => obtain ⟨x, hx, h2⟩ := exb_iff.mp hp; rw [h x hx] at h2; cases h2
theorem exb_ext {p q : Nat → Bool} {n m : Nat} (h : (∃ x, x < n ∧ p x = true) ↔ ∃ x, x < m ∧ q x = true) : exb p n = exb q m := Bool.eq_iff_iff.mpr (by rw [exb_iff, exb_iff]; exact h)
theorem exb_cong {p q : Nat → Bool} {n : Nat} (h : ∀ x, x < n → p x = q x) : exb p n = exb q n := exb_ext ⟨fun ⟨x, hx, e⟩ => ⟨x, hx, by rw [← h x hx]; exact e⟩, fun ⟨x, hx, e⟩ => ⟨x, hx, by rw [h x hx]; exact e⟩⟩
/-- the least number of a set -/
def lo (w : Int64) : Nat := fa_first (bt w) 64
theorem cnt_pos {w : Int64} : 0 < cnt w ↔ ∃ x, x < 64 ∧ bt w x = true := fb_ct_pos
theorem lo_ok {w : Int64} (h : 0 < cnt w) : lo w < 64 ∧ bt w (lo w) = true ∧ ∀ y, y < lo w → bt w y = false := by
  have h1 : lo w < 64 := by
    rcases Nat.lt_or_ge (lo w) 64 with q | q
    · exact q
    · obtain ⟨x, hx, hb⟩ := cnt_pos.mp h
      rw [fa_first_no (bt w) 64 x (by unfold lo at q; omega)] at hb
      cases hb
  exact ⟨h1, fa_first_yes (bt w) 64 h1, fun y hy => fa_first_no (bt w) 64 y hy⟩
theorem lo_is {w : Int64} {x : Nat} (h : bt w x = true) (h2 : ∀ y, y < x → bt w y = false) : lo w = x := by
  obtain ⟨-, h4, h5⟩ := lo_ok (cnt_pos.mpr ⟨x, bt_lt h, h⟩)
  rcases Nat.lt_trichotomy (lo w) x with q | q | q
  · rw [h2 _ q] at h4; cases h4
  · exact q
  · rw [h5 _ q] at h; cases h
theorem bt_neg (w : Int64) {y : Nat} (hy : y < 64) : bt (-w) y = (bt w y ^^ exb (bt w) y) := by
  unfold bt
  rw [Int64.toBitVec_neg, BitVec.getLsbD_neg]
  congr 1
  rw [Bool.eq_iff_iff, exb_iff]
  simp [hy]
theorem bt_pred (w : Int64) {y : Nat} (hy : y < 64) : bt (w - 1) y = !(bt w y ^^ exb (bt w) y) := by
  have e : (w - 1).toBitVec = ~~~ (-w).toBitVec := by
    rw [Int64.toBitVec_neg, BitVec.not_neg]
    rfl
  rw [← bt_neg w hy]
  show (w - 1).toBitVec.getLsbD y = _
  rw [e, BitVec.getLsbD_not]
  simp [hy, bt]
/-- a set without its least number -/
def clr (w : Int64) : Int64 := w &&& (w - 1)
theorem clr_def (w : Int64) : w &&& (w - 1) = clr w := rfl
theorem bt_clr {w : Int64} (h : 0 < cnt w) (y : Nat) : bt (clr w) y = (bt w y && decide (y ≠ lo w)) := by
  rcases Nat.lt_or_ge y 64 with hy | hy
  · unfold clr
    rw [bt_and, bt_pred w hy]
    obtain ⟨h1, h2, h3⟩ := lo_ok h
    cases hb : bt w y with
    | false => rfl
    | true =>
      have : exb (bt w) y = decide (y ≠ lo w) := by
        rw [Bool.eq_iff_iff, exb_iff, decide_eq_true_eq]
        constructor
        · rintro ⟨x, hx, hbx⟩ e
          rw [h3 x (by omega)] at hbx; cases hbx
        · intro e
          refine ⟨lo w, ?_, h2⟩
          rcases Nat.lt_or_ge (lo w) y with q | q
          · exact q
          · rw [h3 y (by omega)] at hb; cases hb
      rw [this]
      cases decide (y ≠ lo w) <;> rfl
  · rw [bt_big hy, bt_big hy]; rfl
theorem clr_fun {w : Int64} (h : 0 < cnt w) : bt (clr w) = fun k => if k = lo w then false else bt w k := by
  funext k
  rw [bt_clr h]
  by_cases e : k = lo w <;> simp [e]
theorem ct_clr {w : Int64} (h : 0 < cnt w) {n : Nat} (hn : lo w < n) : fb_ct (bt (clr w)) n + 1 = fb_ct (bt w) n := by
  have := fb_ct_upd (bt w) false hn
  rw [(lo_ok h).2.1] at this
  rw [clr_fun h]
  simpa using this
theorem cnt_clr {w : Int64} (h : 0 < cnt w) : cnt (clr w) + 1 = cnt w := ct_clr h (lo_ok h).1
theorem cnt_one {x : Nat} (h : x ≤ 64) : fb_ct (fun y => decide (y < x)) 64 = x := by
  have := fb_ct_split (fun y => decide (y < x)) x (64 - x)
  rw [show x + (64 - x) = 64 by omega] at this
  rw [this, fb_ct_all.mpr (fun k hk => by simpa using hk), fb_ct_zero.mpr (fun k hk => by simp)]
  rfl
theorem least_eq {w : Int64} (h : 0 < cnt w) (F : Nat) (M : Mem) : fX8_least F w M = some (ii (lo w), M) := by
  obtain ⟨h1, h2, h3⟩ := lo_ok h
  have e : w &&& (-w) = lN (2 ^ lo w) := by
    rw [← one_lN h1]
    apply bt_ext
    intro y hy
    rw [bt_and, bt_neg w hy, bt_one h1]
    cases hb : bt w y with
    | false =>
      rw [Bool.false_and]
      symm
      apply decide_eq_false
      intro e
      rw [e, h2] at hb; cases hb
    | true =>
      have : exb (bt w) y = decide (y ≠ lo w) := by
        rw [Bool.eq_iff_iff, exb_iff, decide_eq_true_eq]
        constructor
        · rintro ⟨x, hx, hbx⟩ e
          rw [h3 x (by omega)] at hbx; cases hbx
        · intro e
          refine ⟨lo w, ?_, h2⟩
          rcases Nat.lt_or_ge (lo w) y with q | q
          · exact q
          · rw [h3 y (by omega)] at hb; cases hb
      rw [this]
      by_cases e : y = lo w <;> simp [e]
  unfold fX8_least
  rw [e, show (1 : Int64) = lN 1 from rfl, lN_sub (Nat.one_le_two_pow), bitCount_eq, bd_eq]
  have hl := wb_lt2 h1
  have : cnt (lN (2 ^ lo w - 1)) = lo w := by
    unfold cnt
    rw [fb_ct_cong (q := fun y => decide (y < lo w)) (fun k _ => by rw [bt_lN (by omega), Nat.testBit_two_pow_sub_one]), cnt_one (by omega)]
  rw [this]
theorem cnt_0 {w : Int64} (h : cnt w = 0) : ∀ x, bt w x = false := by
  intro x
  rcases Nat.lt_or_ge x 64 with q | q
  · exact (fb_ct_zero.mp h) x q
  · exact bt_big q
theorem ct_lo {w : Int64} (h : 0 < cnt w) : fb_ct (bt w) (lo w) = 0 := fb_ct_zero.mpr (fun k hk => (lo_ok h).2.2 k hk)
theorem lo_le {w : Int64} {x : Nat} (h : bt w x = true) : lo w ≤ x := by
  have h0 : 0 < cnt w := cnt_pos.mpr ⟨x, bt_lt h, h⟩
  rcases Nat.lt_or_ge x (lo w) with q | q
  · rw [(lo_ok h0).2.2 x q] at h; cases h
  · exact q
/-- something of a set's numbers holds: the first, or the rest -/
theorem exb_clr {w : Int64} (h : 0 < cnt w) (p : Nat → Bool) : exb (fun x => bt w x && p x) 64 = (p (lo w) || exb (fun x => bt (clr w) x && p x) 64) := by
  rw [Bool.eq_iff_iff, Bool.or_eq_true, exb_iff, exb_iff]
  obtain ⟨h1, h2, h3⟩ := lo_ok h
  constructor
  · rintro ⟨x, hx, e⟩
    rw [Bool.and_eq_true] at e
    by_cases q : x = lo w
    · exact Or.inl (by rw [← q]; exact e.2)
    · exact Or.inr ⟨x, hx, by rw [bt_clr h]; simp [e.1, e.2, q]⟩
  · rintro (e | ⟨x, hx, e⟩)
    · exact ⟨lo w, h1, by rw [h2, e]; rfl⟩
    · rw [bt_clr h, Bool.and_eq_true, Bool.and_eq_true] at e
      exact ⟨x, hx, by rw [e.1.1, e.2]; rfl⟩
/-- number i of a set -/
theorem numberAt_L {F : Nat} {M : Mem} {w0 : Int64} {i : Nat} (hi : i ≤ 64) : ∀ (k : Nat) (n : Nat) (w : Int64) (j : Nat), j + k = i → k < n → k < cnt w → ∃ x, x < 64 ∧ bt w x = true ∧ fb_ct (bt w) x = k ∧ fX8_numberAt_L5 F w0 (ii i) n w (ii j) M = some (ii x, M)
  | 0, n + 1, w, j, h1, h2, h3 => by
    refine ⟨lo w, (lo_ok h3).1, (lo_ok h3).2.1, ct_lo h3, ?_⟩
    show (if ii i ≤ ii j then _ else _) = _
    rw [if_pos (by rw [ii_le] <;> omega), least_eq h3]
    rfl
  | k + 1, n + 1, w, j, h1, h2, h3 => by
    have h4 : 0 < cnt w := by omega
    have h5 := cnt_clr h4
    obtain ⟨x, x1, x2, x3, x4⟩ := numberAt_L (F := F) (M := M) (w0 := w0) hi k n (clr w) (j + 1) (by omega) (by omega) (by omega)
    rw [bt_clr h4, Bool.and_eq_true, decide_eq_true_eq] at x2
    have h6 : lo w < x := by have := lo_le x2.1; omega
    refine ⟨x, x1, x2.1, ?_, ?_⟩
    · have := ct_clr h4 h6; omega
    · show (if ii i ≤ ii j then _ else _) = _
      rw [if_neg (by rw [ii_le] <;> omega)]
      simp only [nm_eq]
      rw [clr_def, ii_lit1, ii_add]
      exact x4
theorem numberAt_eq {F : Nat} (hF : 100000 ≤ F) {w : Int64} {i : Nat} (h : i < cnt w) (M : Mem) : ∃ x, x < 64 ∧ bt w x = true ∧ fb_ct (bt w) x = i ∧ fX8_numberAt F w (ii i) M = some (ii x, M) := by
  have := cnt_le w
  exact numberAt_L (by omega) i F w 0 (by omega) (by omega) h
