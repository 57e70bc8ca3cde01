/-! whether a set that keeps the laws does so with one number more: the class -/
/-- two other numbers are as far apart as x and another one -/
def AP (s n : Nat) (S : Nat → Bool) (x : Nat) : Prop := ∃ u v : Nat, S u = true ∧ u ≠ x ∧ S v = true ∧ v ≠ x ∧ mm S (mx s n 1 v (-1) (mx s n 1 x (-1) u)) = true
/-- x is in a row of so many steps -/
def HR (s n : Nat) (S : Nat → Bool) (x st : Nat) : Prop := s ≠ 2 ∧ ∃ y : Nat, S y = true ∧ y ≠ x ∧ st ≤ stp S x (fun j => mx s n 1 x (1 * j) (mx s n 1 y (-1) x)) st 0 + stp S x (fun j => mx s n 1 x (-1 * j) (mx s n 1 y (-1) x)) st 0
/-- the set S, which has x, has a CLASH with x -/
def Bad (s n fi la m : Nat) (ls : Nat → LawT) (S : Nat → Bool) (x : Nat) : Prop :=
  (∃ y z, S y = true ∧ S z = true ∧ ELs s n fi la m 0 ls x y z) ∨ ∃ i, i < m ∧ ((lk (ls i) = 3 ∧ AP s n S x) ∨ ((lk (ls i) = 0 ∧ 3 < lA (ls i)) ∧ HR s n S x (lA (ls i) - 1).toNat))
noncomputable def ky (s n fi la m : Nat) (ls : Nat → LawT) (S : Nat → Bool) (x : Nat) : Bool := !(@decide (Bad s n fi la m ls S x) (Classical.propDecidable _))
theorem ky_t {s n fi la m : Nat} {ls : Nat → LawT} {S : Nat → Bool} {x : Nat} (h : ¬ Bad s n fi la m ls S x) : ky s n fi la m ls S x = true := by
  unfold ky
  rw [@decide_eq_false _ (Classical.propDecidable _) h]; rfl
theorem ky_f {s n fi la m : Nat} {ls : Nat → LawT} {S : Nat → Bool} {x : Nat} (h : Bad s n fi la m ls S x) : ky s n fi la m ls S x = false := by
  unfold ky
  rw [@decide_eq_true _ (Classical.propDecidable _) h]; rfl
theorem stp_le (S : Nat → Bool) (x : Int) (g : Nat → Int) : ∀ k i, stp S x g k i ≤ i + k
  | 0, i => by rw [stp]; omega
  | k + 1, i => by
    rw [stp]
    have := stp_le S x g k (i + 1)
    split
    · omega
    · split <;> omega
theorem bt_less {w : Int64} {x : Nat} (hx : x < 64) (t : Nat) : bt (w &&& (one x ^^^ -1)) t = (bt w t && decide (t ≠ x)) := by
  rcases Nat.lt_or_ge t 64 with q | q
  · rw [bt_and, bt_not q, bt_one hx]
    by_cases e : t = x <;> simp [e]
  · rw [bt_big q, bt_big q]; rfl
theorem cnt_two {w : Int64} {x : Nat} (hx : bt w x = true) : 1 < cnt w ↔ ∃ v, v ≠ x ∧ bt w v = true := by
  have hx6 := bt_lt hx
  have h := fb_ct_upd (bt w) false hx6
  rw [hx] at h
  have h2 : cnt w = fb_ct (bt w) 64 := rfl
  have h3 : 0 < fb_ct (fun k => if k = x then false else bt w k) 64 ↔ ∃ v, v ≠ x ∧ bt w v = true := by
    rw [fb_ct_pos]
    constructor
    · rintro ⟨v, v1, v2⟩
      by_cases e : v = x
      · simp [e] at v2
      · exact ⟨v, e, by simpa [e] using v2⟩
    · rintro ⟨v, v1, v2⟩
      exact ⟨v, bt_lt v2, by simp [v1, v2]⟩
  rw [← h3]
  rw [if_pos (rfl : true = true), if_neg (by decide : ¬ false = true)] at h
  omega
section KP
variable {F s n fi la : Nat} {M : Mem}
theorem equal_L (hF : 100000 ≤ F) (hG : GV s n fi la) (hC : CG s n fi la M) {w : Int64} (hS : Sup fi la (bt w)) {x : Nat} (hx : bt w x = true) : ∀ (m N : Nat) (r : Int64), cnt r = m → m < N → (∀ t, bt r t = true → bt w t = true ∧ t ≠ x) →
    ∃ b, fX3_hasEqualSums_L18 F w (ii x) N r (ii m) M = some (bi b, M) ∧ (b = true ↔ ∃ u v : Nat, bt r u = true ∧ bt w v = true ∧ v ≠ x ∧ mm (bt w) (mx s n 1 v (-1) (mx s n 1 x (-1) u)) = true)
  | 0, N + 1, r, h1, h2, h3 => by
    refine ⟨false, ?_, ?_⟩
    · rw [fX3_hasEqualSums_L18]; rfl
    · constructor
      · intro h; cases h
      · rintro ⟨u, v, hu, -⟩
        rw [cnt_0 h1] at hu; cases hu
  | m + 1, N + 1, r, h1, h2, h3 => by
    have hg := hG.b
    have h4 : 0 < cnt r := by omega
    have h5 := cnt_clr h4
    have h6 := lo_ok h4
    have h8 := cnt_le r
    have h9 := h3 _ h6.2.1
    have hxr := hS x hx
    have hur := hS _ h9.1
    have hd := VD.of hG (x := x) (y := lo r) (by omega) (by omega)
    obtain ⟨w', e1, e2⟩ := moved_eq hF hG hC hd hS
    have hcx := Ca.g hG (x := x) (by omega) (by omega)
    have hcu := Ca.g hG (x := lo r) (by omega) (by omega)
    -- x itself is there: what is d behind it is lo r
    have hxin : bt (w &&& w') x = true := by
      rw [bt_and, hx, e2 x, full_t hxr.1 hxr.2]
      have : mx s n 1 x (-1) (mx s n 1 x (-1) (lo r : Nat)) = (lo r : Nat) := by
        have k1 := mx_back hG (x := lo r) (y := x) hcu hcx
        have k2 := mx_less hG (x := mx s n 1 x (-1) (lo r : Nat)) (d := lo r) (Ca.mx hG _ _ _ _) hcu
        rw [mx_comm, k1] at k2
        exact k2
      rw [this, mm_nat, h9.1]; rfl
    rw [fX3_hasEqualSums_L18, ii_lit0, if_neg (by rw [ii_le] <;> omega), least_eq h4, bd_eq, ii_lit1, ii_neg, mix_eq hF hG hC (by omega) (by omega) (VA.g hG (by omega) (by omega)) (VA.g hG (by omega) (by omega)), bd_eq, e1, bd_eq, bitCount_eq, bd_eq]
    have h10 := cnt_le (w &&& w')
    simp (disch := omega) only [ii_le]
    have h11 : 1 < cnt (w &&& w') ↔ ∃ v : Nat, bt w v = true ∧ v ≠ x ∧ mm (bt w) (mx s n 1 v (-1) (mx s n 1 x (-1) (lo r : Nat))) = true := by
      rw [cnt_two hxin]
      constructor
      · rintro ⟨v, v1, v2⟩
        rw [bt_and, Bool.and_eq_true, e2 v, Bool.and_eq_true] at v2
        exact ⟨v, v2.1, v1, v2.2.2⟩
      · rintro ⟨v, v1, v2, v3⟩
        refine ⟨v, v2, ?_⟩
        have := hS v v1
        rw [bt_and, v1, e2 v, full_t this.1 this.2, v3]; rfl
    by_cases q : 1 < cnt (w &&& w')
    · rw [if_neg (by omega)]
      refine ⟨true, rfl, fun _ => ?_, fun _ => rfl⟩
      obtain ⟨v, hv⟩ := h11.mp q
      exact ⟨lo r, v, h6.2.1, hv⟩
    · rw [if_pos (by omega)]
      simp only [nm_eq]
      rw [clr_def, ii_add, show (((m + 1 : Nat) : Int) + -1) = (m : Int) by omega]
      obtain ⟨b, b1, b2⟩ := equal_L hF hG hC hS hx m N (clr r) (by omega) (by omega) (fun t ht => h3 t (by rw [bt_clr h4, Bool.and_eq_true] at ht; exact ht.1))
      refine ⟨b, b1, ?_⟩
      rw [b2]
      constructor
      · rintro ⟨u, v, hu, hv⟩
        rw [bt_clr h4, Bool.and_eq_true] at hu
        exact ⟨u, v, hu.1, hv⟩
      · rintro ⟨u, v, hu, hv⟩
        by_cases e : u = lo r
        · rw [e] at hv; exact absurd (h11.mpr ⟨v, hv⟩) q
        · exact ⟨u, v, by rw [bt_clr h4, hu]; simp [e], hv⟩
theorem equal_eq (hF : 100000 ≤ F) (hG : GV s n fi la) (hC : CG s n fi la M) {w : Int64} (hS : Sup fi la (bt w)) {x : Nat} (hx : bt w x = true) :
    ∃ b, fX3_hasEqualSums F w (ii x) M = some (bi b, M) ∧ (b = true ↔ AP s n (bt w) x) := by
  have hx6 := bt_lt hx
  unfold fX3_hasEqualSums
  simp only [nm_eq]
  rw [one_def, bitCount_eq, bd_eq]
  have h8 := cnt_le (w &&& (one x ^^^ -1))
  obtain ⟨b, b1, b2⟩ := equal_L hF hG hC hS hx _ F (w &&& (one x ^^^ -1)) rfl (by omega) (fun t ht => by
    rw [bt_less hx6, Bool.and_eq_true, decide_eq_true_eq] at ht; exact ht)
  refine ⟨b, b1, ?_⟩
  rw [b2]
  unfold AP
  constructor
  · rintro ⟨u, v, hu, hv⟩
    rw [bt_less hx6, Bool.and_eq_true, decide_eq_true_eq] at hu
    exact ⟨u, v, hu.1, hu.2, hv⟩
  · rintro ⟨u, v, hu, hn, hv⟩
    exact ⟨u, v, by rw [bt_less hx6, hu]; simp [hn], hv⟩
theorem row_L (hF : 100000 ≤ F) (hG : GV s n fi la) (hC : CG s n fi la M) {w : Int64} (hS : Sup fi la (bt w)) {x : Nat} (hx : bt w x = true) {st : Nat} (hst : st ≤ 5) : ∀ (m N : Nat) (r : Int64), cnt r = m → m < N → (∀ t, bt r t = true → bt w t = true ∧ t ≠ x) →
    ∃ b, fX3_hasRow_L31 F w (ii x) (ii st) N r (ii m) M = some (bi b, M) ∧ (b = true ↔ ∃ y : Nat, bt r y = true ∧ st ≤ stp (bt w) x (fun j => mx s n 1 x (1 * j) (mx s n 1 y (-1) x)) st 0 + stp (bt w) x (fun j => mx s n 1 x (-1 * j) (mx s n 1 y (-1) x)) st 0)
  | 0, N + 1, r, h1, h2, h3 => by
    refine ⟨false, ?_, ?_⟩
    · rw [fX3_hasRow_L31]; rfl
    · constructor
      · intro h; cases h
      · rintro ⟨u, hu, -⟩
        rw [cnt_0 h1] at hu; cases hu
  | m + 1, N + 1, r, h1, h2, h3 => by
    have hg := hG.b
    have h4 : 0 < cnt r := by omega
    have h5 := cnt_clr h4
    have h6 := lo_ok h4
    have h8 := cnt_le r
    have h9 := h3 _ h6.2.1
    have hxr := hS x hx
    have hur := hS _ h9.1
    have hd := VD.of hG (x := lo r) (y := x) (by omega) (by omega)
    rw [fX3_hasRow_L31, ii_lit0, if_neg (by rw [ii_le] <;> omega), least_eq h4, bd_eq, ii_lit1, ii_neg, mix_eq hF hG hC (by omega) (by omega) (VA.g hG (by omega) (by omega)) (VA.g hG (by omega) (by omega)), bd_eq, steps_eq hF hG hC hd hS (by omega) (Or.inl rfl) hst, bd_eq, steps_eq hF hG hC hd hS (by omega) (Or.inr rfl) hst, bd_eq, ii_add]
    have k1 := stp_le (bt w) x (fun j => mx s n 1 x (1 * j) (mx s n 1 (lo r : Nat) (-1) x)) st 0
    have k2 := stp_le (bt w) x (fun j => mx s n 1 x (-1 * j) (mx s n 1 (lo r : Nat) (-1) x)) st 0
    simp (disch := omega) only [ii_lt]
    by_cases q : st ≤ stp (bt w) x (fun j => mx s n 1 x (1 * j) (mx s n 1 (lo r : Nat) (-1) x)) st 0 + stp (bt w) x (fun j => mx s n 1 x (-1 * j) (mx s n 1 (lo r : Nat) (-1) x)) st 0
    · rw [if_neg (by omega)]
      exact ⟨true, rfl, fun _ => ⟨lo r, h6.2.1, q⟩, fun _ => rfl⟩
    · rw [if_pos (by omega)]
      simp only [nm_eq]
      rw [clr_def, ii_add, show (((m + 1 : Nat) : Int) + -1) = (m : Int) by omega]
      obtain ⟨b, b1, b2⟩ := row_L hF hG hC hS hx hst m N (clr r) (by omega) (by omega) (fun t ht => h3 t (by rw [bt_clr h4, Bool.and_eq_true] at ht; exact ht.1))
      refine ⟨b, b1, ?_⟩
      rw [b2]
      constructor
      · rintro ⟨u, hu, hv⟩
        rw [bt_clr h4, Bool.and_eq_true] at hu
        exact ⟨u, hu.1, hv⟩
      · rintro ⟨u, hu, hv⟩
        by_cases e : u = lo r
        · rw [e] at hv; exact absurd hv q
        · exact ⟨u, by rw [bt_clr h4, hu]; simp [e], hv⟩
theorem row_eq (hF : 100000 ≤ F) (hG : GV s n fi la) (hC : CG s n fi la M) {w : Int64} (hS : Sup fi la (bt w)) {x : Nat} (hx : bt w x = true) {st : Nat} (hst : st ≤ 5) :
    ∃ b, fX3_hasRow F w (ii x) (ii st) M = some (bi b, M) ∧ (b = true ↔ HR s n (bt w) x st) := by
  have hx6 := bt_lt hx
  have hg := hG.b
  unfold fX3_hasRow HR
  rw [hC.1]
  simp (disch := omega) only [ii_lit, ii_eq]
  by_cases q : s = 2
  · rw [if_pos (by omega)]
    exact ⟨false, rfl, fun h => (by cases h), fun h => absurd q h.1⟩
  · rw [if_neg (by omega)]
    simp only [nm_eq]
    rw [one_def, bitCount_eq, bd_eq]
    have h8 := cnt_le (w &&& (one x ^^^ -1))
    obtain ⟨b, b1, b2⟩ := row_L hF hG hC hS hx hst _ F (w &&& (one x ^^^ -1)) rfl (by omega) (fun t ht => by
      rw [bt_less hx6, Bool.and_eq_true, decide_eq_true_eq] at ht; exact ht)
    refine ⟨b, b1, ?_⟩
    rw [b2]
    constructor
    · rintro ⟨u, hu, hv⟩
      rw [bt_less hx6, Bool.and_eq_true, decide_eq_true_eq] at hu
      exact ⟨q, u, hu.1, hu.2, hv⟩
    · rintro ⟨-, u, hu, hn, hv⟩
      exact ⟨u, by rw [bt_less hx6, hu]; simp [hn], hv⟩
theorem keep66 (hF : 100000 ≤ F) (hG : GV s n fi la) (hC : CG s n fi la M) {m : Nat} {ls : Nat → LawT} (hL : CLs M m ls) {w0 w : Int64} (hS : Sup fi la (bt w)) {x : Nat} (hx : bt w x = true) : ∀ (j N i : Nat), i + j = m → j < N →
    ∃ b, fX3_keepWith_L66 F w0 (ii x) N w (ii i) M = some (bi b, M) ∧ (b = false ↔ ∃ t, i ≤ t ∧ t < m ∧ ((lk (ls t) = 3 ∧ AP s n (bt w) x) ∨ ((lk (ls t) = 0 ∧ 3 < lA (ls t)) ∧ HR s n (bt w) x (lA (ls t) - 1).toNat)))
  | 0, N + 1, i, h1, h2 => by
    have hm := hL.2.1
    refine ⟨true, ?_, ?_⟩
    · rw [fX3_keepWith_L66, hL.1, if_pos (by rw [ii_le] <;> omega)]; rfl
    · constructor
      · intro h; cases h
      · rintro ⟨t, t1, t2, -⟩; omega
  | j + 1, N + 1, i, h1, h2 => by
    have hm := hL.2.1
    obtain ⟨hV, hl⟩ := hL.2.2 i (by omega)
    have h4 := hV.1
    have h5 := hV.2.1
    obtain ⟨b, b1, b2⟩ := keep66 hF hG hC hL (w0 := w0) hS hx j N (i + 1) (by omega) (by omega)
    have step : ¬ ((lk (ls i) = 3 ∧ AP s n (bt w) x) ∨ ((lk (ls i) = 0 ∧ 3 < lA (ls i)) ∧ HR s n (bt w) x (lA (ls i) - 1).toNat)) → (b = false ↔ ∃ t, i ≤ t ∧ t < m ∧ ((lk (ls t) = 3 ∧ AP s n (bt w) x) ∨ ((lk (ls t) = 0 ∧ 3 < lA (ls t)) ∧ HR s n (bt w) x (lA (ls t) - 1).toNat))) := by
      intro hn
      rw [b2]
      constructor
      · rintro ⟨t, t1, t2⟩; exact ⟨t, by omega, t2⟩
      · rintro ⟨t, t1, t2, t3⟩
        refine ⟨t, ?_, t2, t3⟩
        rcases Nat.lt_or_ge i t with q | q
        · exact q
        · rw [show t = i by omega] at t3; exact absurd t3 hn
    have h99 : ¬ (lk (ls i) = 3 ∧ AP s n (bt w) x) → ∃ b, fX3_keepWith_L99 F w0 (ii x) (fun x4 x8 M => fX3_keepWith_L66 F w0 (ii x) N x4 x8 M) w (ii i) M = some (bi b, M) ∧ (b = false ↔ ∃ t, i ≤ t ∧ t < m ∧ ((lk (ls t) = 3 ∧ AP s n (bt w) x) ∨ ((lk (ls t) = 0 ∧ 3 < lA (ls t)) ∧ HR s n (bt w) x (lA (ls t) - 1).toNat))) := by
      intro hn
      unfold fX3_keepWith_L99
      simp (disch := omega) only [gd_inb, nm_eq, ii_nat, ii_lit, ii_add]
      rw [show (6 + (i : Int).toNat) = 6 + i by omega, long_eq ⟨by omega, by omega⟩ hV hl, bd_eq, show ((i : Int) + 1) = ((i + 1 : Nat) : Int) by omega]
      by_cases q4 : lk (ls i) = 0 ∧ 3 < lA (ls i)
      · have hr := hV.2.2.1 q4.1
        rw [decide_eq_true q4, if_neg (by decide), hl.2.1, ii_sub]
        obtain ⟨c, c1, c2⟩ := row_eq hF hG hC hS hx (st := (lA (ls i) - 1).toNat) (by omega)
        rw [show (((lA (ls i) - 1).toNat : Nat) : Int) = lA (ls i) - 1 by omega] at c1
        rw [c1, bd_eq]
        cases c with
        | false =>
          rw [if_pos (by decide)]
          exact ⟨b, b1, step (by
            rintro (h | h)
            · exact hn h
            · cases c2.mpr h.2)⟩
        | true =>
          rw [if_neg (by decide)]
          exact ⟨false, rfl, fun _ => ⟨i, by omega, by omega, Or.inr ⟨q4, c2.mp rfl⟩⟩, fun _ => rfl⟩
      · rw [decide_eq_false q4, if_pos (by decide)]
        exact ⟨b, b1, step (by
          rintro (h | h)
          · exact hn h
          · exact q4 h.1)⟩
    rw [fX3_keepWith_L66, hL.1, if_neg (by rw [ii_le] <;> omega)]
    simp (disch := omega) only [gd_inb, nm_eq, ii_nat, ii_lit]
    rw [show (6 + (i : Int).toNat) = 6 + i by omega, hl.1]
    simp (disch := omega) only [ii_eq]
    by_cases q3 : lk (ls i) = 3
    · rw [if_pos (by omega)]
      obtain ⟨c, c1, c2⟩ := equal_eq hF hG hC hS hx
      rw [c1, bd_eq]
      cases c with
      | false => rw [if_pos (by decide)]; exact h99 (fun h => by cases c2.mpr h.2)
      | true =>
        rw [if_neg (by decide)]
        exact ⟨false, rfl, fun _ => ⟨i, by omega, by omega, Or.inl ⟨q3, c2.mp rfl⟩⟩, fun _ => rfl⟩
    · rw [if_neg (by omega)]; exact h99 (fun h => q3 h.1)
theorem keep18 (hF : 100000 ≤ F) (hG : GV s n fi la) (hC : CG s n fi la M) {m : Nat} {ls : Nat → LawT} (hL : CLs M m ls) (hT : TH s n fi la m ls M) {w0 w : Int64} (hS : Sup fi la (bt w)) {x : Nat} (hx : bt w x = true) : ∀ (j N : Nat) (r : Int64), cnt r = j → j < N → (∀ t, bt r t = true → bt w t = true) →
    ∃ b, fX3_keepWith_L18 F w0 (ii x) N w r (ii j) M = some (bi b, M) ∧ (b = false ↔ (∃ y z, bt r y = true ∧ bt w z = true ∧ ELs s n fi la m 0 ls x y z) ∨ ∃ t, t < m ∧ ((lk (ls t) = 3 ∧ AP s n (bt w) x) ∨ ((lk (ls t) = 0 ∧ 3 < lA (ls t)) ∧ HR s n (bt w) x (lA (ls t) - 1).toNat)))
  | 0, N + 1, r, h1, h2, h3 => by
    obtain ⟨b, b1, b2⟩ := keep66 hF hG hC hL (w0 := w0) hS hx m F 0 (by omega) (by have := hL.2.1; omega)
    refine ⟨b, ?_, ?_⟩
    · rw [fX3_keepWith_L18, ii_lit0]
      exact b1
    · rw [b2]
      simp only [Nat.zero_le, true_and]
      constructor
      · exact Or.inr
      · rintro (⟨y, z, hy, -⟩ | h)
        · rw [cnt_0 h1] at hy; cases hy
        · exact h
  | j + 1, N + 1, r, h1, h2, h3 => by
    have hg := hG.b
    have h4 : 0 < cnt r := by omega
    have h5 := cnt_clr h4
    have h6 := lo_ok h4
    have h8 := cnt_le r
    have hxr := hS x hx
    have hur := hS _ (h3 _ h6.2.1)
    rw [fX3_keepWith_L18, ii_lit0, if_neg (by rw [ii_le] <;> omega), least_eq h4, bd_eq]
    simp (disch := omega) only [gd_inb, nm_eq, ii_nat, ii_lit, ii_add, ii_mul, ii_neg]
    rw [show ((x : Int) * 61 + (lo r : Nat)).toNat = 61 * x + lo r by omega, clr_def, show (((j + 1 : Nat) : Int) + -1) = (j : Int) by omega]
    have hz : (M.2 14 (61 * x + lo r) &&& w = 0) ↔ ¬ ∃ z, bt w z = true ∧ ELs s n fi la m 0 ls x (lo r) z := by
      rw [bt_zero]
      constructor
      · rintro h ⟨z, z1, z2⟩
        have := h z (bt_lt z1)
        rw [bt_and, z1, Bool.and_true] at this
        have h7 := (hT x (lo r) z (by omega) (by omega)).mpr z2
        unfold Th at h7
        rw [this] at h7; cases h7
      · intro h z _
        rw [bt_and]
        cases hb : bt w z with
        | false => simp
        | true =>
          cases hc : bt (M.2 14 (61 * x + lo r)) z with
          | false => rfl
          | true => exact absurd ⟨z, hb, (hT x (lo r) z (by omega) (by omega)).mp hc⟩ h
    have hcmp : (lg_cmp (M.2 14 (61 * x + lo r) &&& w) 0 = ii 0) ↔ M.2 14 (61 * x + lo r) &&& w = 0 := lg_cmp_eq _ _
    by_cases q : M.2 14 (61 * x + lo r) &&& w = 0
    · rw [if_pos (hcmp.mpr q)]
      obtain ⟨b, b1, b2⟩ := keep18 hF hG hC hL hT (w0 := w0) hS hx j N (clr r) (by omega) (by omega) (fun t ht => h3 t (by rw [bt_clr h4, Bool.and_eq_true] at ht; exact ht.1))
      refine ⟨b, b1, ?_⟩
      rw [b2]
      constructor
      · rintro (⟨y, z, hy, h⟩ | h)
        · rw [bt_clr h4, Bool.and_eq_true] at hy
          exact Or.inl ⟨y, z, hy.1, h⟩
        · exact Or.inr h
      · rintro (⟨y, z, hy, h⟩ | h)
        · by_cases e : y = lo r
          · rw [e] at h; exact absurd ⟨z, h⟩ (hz.mp q)
          · exact Or.inl ⟨y, z, by rw [bt_clr h4, hy]; simp [e], h⟩
        · exact Or.inr h
    · rw [if_neg (fun e => q (hcmp.mp e))]
      refine ⟨false, rfl, fun _ => Or.inl ?_, fun _ => rfl⟩
      obtain ⟨z, hz2⟩ := Classical.not_not.mp (fun h => q (hz.mpr h))
      exact ⟨lo r, z, h6.2.1, hz2⟩
/-- the class: whether a set keeps the laws with x, too -/
theorem keep_eq (hF : 100000 ≤ F) (hG : GV s n fi la) (hC : CG s n fi la M) {m : Nat} {ls : Nat → LawT} (hL : CLs M m ls) (hT : TH s n fi la m ls M) {w : Int64} (hS : Sup fi la (bt w)) {x : Nat} (h1 : fi ≤ x) (h2 : x ≤ la) :
    fX3_keepWith F w (ii x) M = some (bi (ky s n fi la m ls (put (bt w) x true) x), M) := by
  have hg := hG.b
  unfold fX3_keepWith
  simp only [nm_eq]
  rw [one_def, bitCount_eq, bd_eq]
  have e : bt (w ||| one x) = put (bt w) x true := by
    funext t
    rw [bt_or, bt_one (by omega)]
    unfold put
    by_cases q : t = x <;> simp [q]
  have hS' : Sup fi la (bt (w ||| one x)) := by rw [e]; exact hS.put h1 h2 true
  have h8 := cnt_le (w ||| one x)
  obtain ⟨b, b1, b2⟩ := keep18 hF hG hC hL hT (w0 := w) hS' (x := x) (by rw [e, put_c]) _ F (w ||| one x) rfl (by omega) (fun t ht => ht)
  rw [b1]
  rw [e] at b2
  congr 3
  cases b with
  | false => exact (ky_f (b2.mp rfl)).symm
  | true => exact (ky_t (fun h => by cases b2.mpr h)).symm
end KP
