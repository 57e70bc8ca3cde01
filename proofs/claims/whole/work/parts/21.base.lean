/-! THE PURE CLAIM, its base: whole numbers as ints, the steps' combinators, the memory's stores -/
/-- a whole number as an int -/
def ii (z : Int) : Int32 := Int32.ofInt z
theorem ii_add (a b : Int) : ii a + ii b = ii (a + b) := (Int32.ofInt_add a b).symm
theorem ii_sub (a b : Int) : ii a - ii b = ii (a - b) := (Int32.ofInt_sub a b).symm
theorem ii_mul (a b : Int) : ii a * ii b = ii (a * b) := (Int32.ofInt_mul a b).symm
theorem ii_neg (a : Int) : -ii a = ii (-a) := (Int32.ofInt_neg a).symm
theorem ii_lit (n : Nat) : (OfNat.ofNat n : Int32) = ii (OfNat.ofNat n) := by
  show Int32.ofNat n = Int32.ofInt (n : Int)
  exact Int32.ofInt_eq_ofNat.symm
theorem ii_lit0 : (0 : Int32) = ii 0 := rfl
theorem ii_lit1 : (1 : Int32) = ii 1 := rfl
theorem ii_int {a : Int} (h1 : -2147483648 ≤ a) (h2 : a < 2147483648) : (ii a).toInt = a := fb_ofI h1 h2
theorem ii_asI (x : Int32) : ii x.toInt = x := fb_asI x
theorem ii_ex (x : Int32) : ∃ z : Int, x = ii z ∧ -2147483648 ≤ z ∧ z < 2147483648 := ⟨x.toInt, (fb_asI x).symm, fb_rng x⟩
theorem ii_le {a b : Int} (h1 : -2147483648 ≤ a) (h2 : a < 2147483648) (h3 : -2147483648 ≤ b) (h4 : b < 2147483648) : (ii a ≤ ii b) ↔ a ≤ b := by
  rw [fa_le, ii_int h1 h2, ii_int h3 h4]
theorem ii_lt {a b : Int} (h1 : -2147483648 ≤ a) (h2 : a < 2147483648) (h3 : -2147483648 ≤ b) (h4 : b < 2147483648) : (ii a < ii b) ↔ a < b := by
  rw [fa_lt, ii_int h1 h2, ii_int h3 h4]
theorem ii_eq {a b : Int} (h1 : -2147483648 ≤ a) (h2 : a < 2147483648) (h3 : -2147483648 ≤ b) (h4 : b < 2147483648) : (ii a = ii b) ↔ a = b := by
  rw [fa_eq, ii_int h1 h2, ii_int h3 h4]
theorem ii_nat {a : Int} (h1 : -2147483648 ≤ a) (h2 : a < 2147483648) : (ii a).toNatClampNeg = a.toNat := by
  show (ii a).toInt.toNat = a.toNat
  rw [ii_int h1 h2]
theorem ii_inb {a : Int} {n : Nat} (h1 : -2147483648 ≤ a) (h2 : a < 2147483648) : inb (ii a) n = decide (0 ≤ a ∧ a < n) := by
  unfold inb
  rw [ii_int h1 h2, Bool.decide_and]
theorem ii_nz {a : Int} (h1 : -2147483648 ≤ a) (h2 : a < 2147483648) : nz (ii a) = decide (a ≠ 0) := by
  unfold nz
  rw [ii_lit0, decide_eq_decide, ii_eq h1 h2 (by omega) (by omega)]
theorem ii_div {a b : Int} (h1 : -2147483648 ≤ a) (h2 : a < 2147483648) (h3 : 0 < b) (h4 : b < 2147483648) : ii a / ii b = ii (a.tdiv b) := by
  rw [fa_eq, Int32.toInt_div_of_ne_right _ _ ?_, ii_int h1 h2, ii_int (by omega) h4]
  · have h5 : a.tdiv b ≤ a ∨ a.tdiv b ≤ 0 := by
      rcases Int.lt_or_le a 0 with h | h
      · right
        have := Int.tdiv_nonneg (a := -a) (b := b) (by omega) (by omega)
        rw [Int.neg_tdiv] at this
        omega
      · left; exact Int.tdiv_le_self _ h
    have h6 : a ≤ a.tdiv b ∨ 0 ≤ a.tdiv b := by
      rcases Int.lt_or_le a 0 with h | h
      · left
        have := Int.tdiv_le_self (a := -a) b (by omega)
        rw [Int.neg_tdiv] at this
        omega
      · right; exact Int.tdiv_nonneg h (by omega)
    rw [ii_int (by omega) (by omega)]
  · intro e
    rw [fa_eq, ii_int (by omega) h4] at e
    have : (-1 : Int32).toInt = -1 := by decide
    omega
theorem ii_rem {a b : Int} (h1 : -2147483648 ≤ a) (h2 : a < 2147483648) (h3 : 0 < b) (h4 : b < 2147483648) : ii a - ii a / ii b * ii b = ii (a.tmod b) := by
  rw [ii_div h1 h2 h3 h4, ii_mul, ii_sub]
  congr 1
  have := Int.mul_tdiv_add_tmod a b
  rw [Int.mul_comm] at this
  omega
/-- a truth as an int -/
def bi (b : Bool) : Int32 := if b then 1 else 0
theorem bi_0 (b : Bool) : (bi b = 0) ↔ b = false := by cases b <;> decide
theorem bi_t : bi true = 1 := rfl
theorem bi_f : bi false = 0 := rfl
theorem bi_isb (b : Bool) : isb (bi b) = true := by cases b <;> decide
theorem bi_inj {a b : Bool} (h : bi a = bi b) : a = b := by revert h; cases a <;> cases b <;> decide
/-! the combinators -/
theorem nm_eq {α β : Type} (a : α) (f : α → Option β) : nm a f = f a := rfl
theorem bd_eq {α β : Type} (x : α) (M : Mem) (f : α → Mem → Option β) : bd (some (x, M)) f = f x M := rfl
theorem bv_eq {β : Type} (M : Mem) (f : Mem → Option β) : bv (some M) f = f M := rfl
theorem gd_eq {α : Type} (x : Option α) : gd true x = x := rfl
theorem gd_dec {α : Type} {p : Prop} [Decidable p] (x : Option α) (h : p) : gd (decide p) x = x := gd_t (decide_eq_true h)
/-! the memory -/
theorem pI_c (M : Mem) (c j : Nat) (v : Int32) : (pI M c j v).1 c = upd (M.1 c) j v := by simp [pI]
theorem pI_d {M : Mem} {c a j : Nat} {v : Int32} (h : a ≠ c) : (pI M c j v).1 a = M.1 a := by simp [pI, h]
theorem pI_2 (M : Mem) (c j : Nat) (v : Int32) : (pI M c j v).2 = M.2 := rfl
theorem pL_c (M : Mem) (c j : Nat) (v : Int64) : (pL M c j v).2 c = vp_updL (M.2 c) j v := by simp [pL]
theorem pL_d {M : Mem} {c a j : Nat} {v : Int64} (h : a ≠ c) : (pL M c j v).2 a = M.2 a := by simp [pL, h]
theorem pL_1 (M : Mem) (c j : Nat) (v : Int64) : (pL M c j v).1 = M.1 := rfl
theorem up_c (f : Nat → Int32) (k : Nat) (x : Int32) : upd f k x k = x := by simp [upd]
theorem up_d {f : Nat → Int32} {k j : Nat} {x : Int32} (h : j ≠ k) : upd f k x j = f j := by simp [upd, h]
theorem uL_c (f : Nat → Int64) (k : Nat) (x : Int64) : vp_updL f k x k = x := by simp [vp_updL]
theorem uL_d {f : Nat → Int64} {k j : Nat} {x : Int64} (h : j ≠ k) : vp_updL f k x j = f j := by simp [vp_updL, h]
theorem pI_at (M : Mem) (c j c' j' : Nat) (v : Int32) : (pI M c j v).1 c' j' = if c' = c ∧ j' = j then v else M.1 c' j' := by
  by_cases h : c' = c
  · subst h
    rw [pI_c]
    by_cases h2 : j' = j
    · subst h2; simp [up_c]
    · simp [up_d h2, h2]
  · simp [pI_d h, h]
theorem pL_at (M : Mem) (c j c' j' : Nat) (v : Int64) : (pL M c j v).2 c' j' = if c' = c ∧ j' = j then v else M.2 c' j' := by
  by_cases h : c' = c
  · subst h
    rw [pL_c]
    by_cases h2 : j' = j
    · subst h2; simp [uL_c]
    · simp [uL_d h2, h2]
  · simp [pL_d h, h]
theorem pIr_c (M : Mem) (c : Nat) (f : Nat → Int32) : (pIr M c f).1 c = f := by simp [pIr]
theorem pIr_d {M : Mem} {c a : Nat} {f : Nat → Int32} (h : a ≠ c) : (pIr M c f).1 a = M.1 a := by simp [pIr, h]
theorem pIr_2 (M : Mem) (c : Nat) (f : Nat → Int32) : (pIr M c f).2 = M.2 := rfl
theorem pLr_c (M : Mem) (c : Nat) (f : Nat → Int64) : (pLr M c f).2 c = f := by simp [pLr]
theorem pLr_d {M : Mem} {c a : Nat} {f : Nat → Int64} (h : a ≠ c) : (pLr M c f).2 a = M.2 a := by simp [pLr, h]
theorem pLr_1 (M : Mem) (c : Nat) (f : Nat → Int64) : (pLr M c f).1 = M.1 := rfl
theorem pI_r (M : Mem) (c j : Nat) (v : Int32) : pI M c j v = pIr M c (upd (M.1 c) j v) := rfl
theorem pL_r (M : Mem) (c j : Nat) (v : Int64) : pL M c j v = pLr M c (vp_updL (M.2 c) j v) := rfl
theorem pIr_r (M : Mem) (c : Nat) (f g : Nat → Int32) : pIr (pIr M c f) c g = pIr M c g := by
  unfold pIr
  congr 1
  funext a
  by_cases h : a = c <;> simp [h]
theorem pLr_r (M : Mem) (c : Nat) (f g : Nat → Int64) : pLr (pLr M c f) c g = pLr M c g := by
  unfold pLr
  congr 1
  funext a
  by_cases h : a = c <;> simp [h]
theorem pIr_id (M : Mem) (c : Nat) : pIr M c (M.1 c) = M := by
  unfold pIr
  rw [show M = (M.1, M.2) from rfl]
  congr 1
  funext a
  by_cases h : a = c <;> simp [h]
theorem pLr_id (M : Mem) (c : Nat) : pLr M c (M.2 c) = M := by
  unfold pLr
  rw [show M = (M.1, M.2) from rfl]
  congr 1
  funext a
  by_cases h : a = c <;> simp [h]
theorem pI_same {M : Mem} {c j : Nat} {v : Int32} (h : M.1 c j = v) : pI M c j v = M := by
  rw [pI_r, fa_upd_same h, pIr_id]
/-- two memories that are alike but for some cells -/
def Sm (cs : List Nat) (M N : Mem) : Prop := ∀ c, c ∉ cs → N.1 c = M.1 c ∧ N.2 c = M.2 c
theorem Sm.rf {cs : List Nat} {M : Mem} : Sm cs M M := fun _ _ => ⟨rfl, rfl⟩
theorem Sm.tr {cs : List Nat} {M N K : Mem} (h : Sm cs M N) (h2 : Sm cs N K) : Sm cs M K := fun c hc => ⟨(h2 c hc).1.trans (h c hc).1, (h2 c hc).2.trans (h c hc).2⟩
theorem Sm.mono {cs ds : List Nat} {M N : Mem} (h : Sm cs M N) (hs : ∀ c ∈ cs, c ∈ ds) : Sm ds M N := fun c hc => h c (fun hm => hc (hs c hm))
theorem Sm.i {cs : List Nat} {M : Mem} {c j : Nat} {v : Int32} (h : c ∈ cs) : Sm cs M (pI M c j v) := fun a ha => ⟨pI_d (fun e => ha (e ▸ h)), rfl⟩
theorem Sm.l {cs : List Nat} {M : Mem} {c j : Nat} {v : Int64} (h : c ∈ cs) : Sm cs M (pL M c j v) := fun a ha => ⟨rfl, pL_d (fun e => ha (e ▸ h))⟩
theorem Sm.ir {cs : List Nat} {M : Mem} {c : Nat} {f : Nat → Int32} (h : c ∈ cs) : Sm cs M (pIr M c f) := fun a ha => ⟨pIr_d (fun e => ha (e ▸ h)), rfl⟩
theorem Sm.lr {cs : List Nat} {M : Mem} {c : Nat} {f : Nat → Int64} (h : c ∈ cs) : Sm cs M (pLr M c f) := fun a ha => ⟨rfl, pLr_d (fun e => ha (e ▸ h))⟩
