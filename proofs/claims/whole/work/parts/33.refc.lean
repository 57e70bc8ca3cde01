/-! the reference: equations and threes with x; whether x comes -/
section RC
variable {F s n fi la : Nat} {M : Mem} {m : Nat} {ls : Nat → LawT}
theorem RLs.at {i : Nat} (h : RLs M m ls) (hi : i < m) : i < 6 ∧ LV (ls i) ∧ M.1 40 i = ii (lk (ls i)) ∧ M.1 41 i = ii (lA (ls i)) ∧ M.1 42 i = ii (lB (ls i)) ∧ M.1 43 i = ii (lC (ls i)) ∧ M.1 44 i = bi (lU (ls i)) := by
  have := h.2.1
  exact ⟨by omega, h.2.2 i hi⟩
theorem isEq_73 {a b c : Int} (ha : -9 ≤ a ∧ a ≤ 9) (hb : -9 ≤ b ∧ b ≤ 9) (hc : -9 ≤ c ∧ c ≤ 9) {x y z : Nat} (hx : x ≤ 60) (hy : y ≤ 60) (hz : z ≤ 60) (r l : Int32) :
    fX9_isEquation_L73 F r l (ii x) (ii y) (ii z) (ii a) (ii b) (ii c) M = fX9_isEquation_L127 F r l (ii x) (ii y) (ii z) (ii a) (ii b) (ii c) (bi (smb a b c x y z)) M := by
  unfold fX9_isEquation_L73 fX9_isEquation_L89 fX9_isEquation_L105 smb
  have h1 : (ii a = 0) = (a = 0) := propext (by rw [ii_lit0]; exact ii_eq (by omega) (by omega) (by omega) (by omega))
  have h2 : (ii b = 0) = (b = 0) := propext (by rw [ii_lit0]; exact ii_eq (by omega) (by omega) (by omega) (by omega))
  have h3 : (ii c = 0) = (c = 0) := propext (by rw [ii_lit0]; exact ii_eq (by omega) (by omega) (by omega) (by omega))
  have h4 : (ii (x : Int) = ii (y : Int)) = (x = y) := propext ((ii_eq (by omega) (by omega) (by omega) (by omega)).trans (by omega))
  have h5 : (ii (x : Int) = ii (z : Int)) = (x = z) := propext ((ii_eq (by omega) (by omega) (by omega) (by omega)).trans (by omega))
  have h6 : (ii (y : Int) = ii (z : Int)) = (y = z) := propext ((ii_eq (by omega) (by omega) (by omega) (by omega)).trans (by omega))
  simp only [h1, h2, h3, h4, h5, h6]
  have b0 : bi false = 0 := rfl
  have b1 : bi true = 1 := rfl
  by_cases q1 : a = 0 <;> by_cases q2 : b = 0 <;> by_cases q3 : c = 0 <;> rcases Classical.propComplete (x = y) with q4 | q4 <;> rcases Classical.propComplete (x = z) with q5 | q5 <;> rcases Classical.propComplete (y = z) with q6 | q6 <;> simp only [q1, q2, q3, q4, q5, q6, if_true, if_false, ne_eq, not_true_eq_false, not_false_eq_true, true_and, false_and, and_false, or_false, false_or, or_true, true_or, or_self, decide_true, decide_false, b0, b1]
theorem isEquation_eq (hF : 100000 ≤ F) (hG : GV s n fi la) (hR : RG s n fi la M) (hL : RLs M m ls) {S : Nat → Bool} (hS : Sup fi la S) {r : Nat} (hr : r < 17) (hw : Row M fi r S) {i : Nat} (hi : i < m) (h4 : lk (ls i) = 4) {x y z : Nat} (hx : x ≤ la) (hy : y ≤ la) (hz : z ≤ la) :
    fX9_isEquation F (ii r) (ii i) (ii x) (ii y) (ii z) M = some (bi (EQ s n (lA (ls i)) (lB (ls i)) (lC (ls i)) (lU (ls i)) S x y z), M) := by
  have hg := hG.b
  obtain ⟨i6, hV, -, l1, l2, l3, l4⟩ := hL.at hi
  obtain ⟨ha, hb, hc, -⟩ := hV.2.2.2 h4
  generalize lA (ls i) = a at *
  generalize lB (ls i) = b at *
  generalize lC (ls i) = c at *
  generalize lU (ls i) = u at *
  have k127 : fX9_isEquation_L73 F (ii r) (ii i) (ii x) (ii y) (ii z) (ii a) (ii b) (ii c) M = some (bi (!(u && smb a b c x y z) && decide (EV s n a b c x y z = 0)), M) := by
    rw [isEq_73 ha hb hc (by omega) (by omega) (by omega)]
    unfold fX9_isEquation_L127
    rw [gd_inb (by omega) (by omega) (by omega), ii_nat (by omega) (by omega), Int.toNat_natCast, l4, ev_145 hF hG hR ha hb hc hx hy hz]
    cases u
    · rw [if_pos (by decide)]; simp
    · rw [if_neg (by decide)]
      cases smb a b c x y z
      · rw [if_pos (by decide)]; simp
      · rw [if_neg (by decide)]; rfl
  have k55 : fX9_isEquation_L55 F (ii r) (ii i) (ii x) (ii y) (ii z) (ii a) (ii b) (ii c) M = some (bi ((decide (c = 0) || S z) && (!(u && smb a b c x y z) && decide (EV s n a b c x y z = 0))), M) := by
    unfold fX9_isEquation_L55
    rw [ii_lit0, in_eq hG hR hS hr hw (by omega) (by omega), bd_eq, k127, mm_nat]
    simp (disch := omega) only [ii_eq]
    by_cases q : c = 0
    · rw [if_pos q, decide_eq_true q]; rfl
    · rw [if_neg q, decide_eq_false q]
      cases S z
      · rw [if_pos (by decide)]; rfl
      · rw [if_neg (by decide)]; rfl
  have k39 : fX9_isEquation_L39 F (ii r) (ii i) (ii x) (ii y) (ii z) (ii a) (ii b) (ii c) M = some (bi ((decide (b = 0) || S y) && ((decide (c = 0) || S z) && (!(u && smb a b c x y z) && decide (EV s n a b c x y z = 0)))), M) := by
    unfold fX9_isEquation_L39
    rw [ii_lit0, in_eq hG hR hS hr hw (by omega) (by omega), bd_eq, k55, mm_nat]
    simp (disch := omega) only [ii_eq]
    by_cases q : b = 0
    · rw [if_pos q, decide_eq_true q]; rfl
    · rw [if_neg q, decide_eq_false q]
      cases S y
      · rw [if_pos (by decide)]; rfl
      · rw [if_neg (by decide)]; rfl
  unfold fX9_isEquation
  rw [gd_inb (by omega) (by omega) (by omega), nm_eq, gd_inb (by omega) (by omega) (by omega), nm_eq, gd_inb (by omega) (by omega) (by omega), nm_eq, ii_nat (by omega) (by omega), Int.toNat_natCast, l1, l2, l3, in_eq hG hR hS hr hw (by omega) (by omega), bd_eq, k39, mm_nat, ii_lit0]
  simp (disch := omega) only [ii_eq]
  unfold EQ
  rw [Bool.and_assoc, Bool.and_assoc, Bool.and_assoc]
  by_cases q : a = 0
  · rw [if_pos q, decide_eq_true q]; rfl
  · rw [if_neg q, decide_eq_false q]
    cases S x
    · rw [if_pos (by decide)]; rfl
    · rw [if_neg (by decide)]; rfl
/-- three numbers with x + y = z, or x y = z -/
def TT (s n kd : Nat) (u : Bool) (x y z : Nat) : Bool := !(u && decide (x = y ∨ y = z ∨ x = z)) && decide ((if kd = 1 then mx s n 1 x 1 y else tm s n x y) = z)
theorem tm_bd (hG : GV s n fi la) {x y : Int} (hx : -300 ≤ x ∧ x ≤ 300) (hy : -300 ≤ y ∧ y ≤ 300) : -90000 ≤ tm s n x y ∧ tm s n x y ≤ 90000 := by
  have hg := hG.b
  unfold tm
  rcases hG with ⟨rfl, -⟩ | ⟨rfl, -⟩ | ⟨rfl, -⟩
  · rw [if_neg (by decide), if_neg (by decide)]
    have r1 := mul_rng 300 300 (a := x) (x := y) (by omega) (by omega) (by omega) (by omega)
    omega
  · rw [if_pos rfl]
    have h1 := Int.emod_nonneg (x * y) (b := (n : Int)) (by omega)
    have h2 := Int.emod_lt_of_pos (x * y) (b := (n : Int)) (by omega)
    omega
  · rw [if_neg (by decide), if_pos rfl]
    have h1 := u3_rng x y 1
    have h2 := u3_rng x y 3
    have h3 := u3_rng x y 9
    omega
theorem isThree_eq (hF : 100000 ≤ F) (hG : GV s n fi la) (hR : RG s n fi la M) (hL : RLs M m ls) {i : Nat} (hi : i < m) {x y z : Nat} (hx : x ≤ la) (hy : y ≤ la) (hz : z ≤ la) :
    fX9_isThree F (ii i) (ii x) (ii y) (ii z) M = some (bi (TT s n (lk (ls i)) (lU (ls i)) x y z), M) := by
  have hg := hG.b
  obtain ⟨i6, hV, l0, -, -, -, l4⟩ := hL.at hi
  have hk4 := hV.1
  have k21 : fX9_isThree_L21 F (ii i) (ii x) (ii y) (ii z) M = some (bi (decide ((if lk (ls i) = 1 then mx s n 1 x 1 y else tm s n x y) = z)), M) := by
    unfold fX9_isThree_L21
    have hb := mx_bd hG (a := 1) (x := x) (b := 1) (y := y) (by omega) (by omega) (by omega) (by omega)
    have hb2 := tm_bd hG (x := x) (y := y) (by omega) (by omega)
    rw [gd_inb (by omega) (by omega) (by omega), ii_nat (by omega) (by omega), Int.toNat_natCast, l0, sum_eq hF hG hR (VA.g hG (by omega) (by omega)) (VA.g hG (by omega) (by omega)), bd_eq, product_eq hF hG hR (VA.g hG (by omega) (by omega)) (VA.g hG (by omega) (by omega)), bd_eq]
    rw [show ((1 : Int32) = ii 1) from rfl]
    by_cases q : lk (ls i) = 1
    · rw [if_pos (by rw [q]; rfl), if_pos q]
      by_cases q2 : mx s n 1 x 1 y = z
      · rw [if_pos (by rw [q2]), decide_eq_true q2]; rfl
      · rw [if_neg (by rw [ii_eq (by omega) (by omega) (by omega) (by omega)]; exact q2), decide_eq_false q2]; rfl
    · rw [if_neg (by rw [ii_eq (by omega) (by omega) (by omega) (by omega)]; omega), if_neg q]
      by_cases q2 : tm s n x y = z
      · rw [if_pos (by rw [q2]), decide_eq_true q2]; rfl
      · rw [if_neg (by rw [ii_eq (by omega) (by omega) (by omega) (by omega)]; exact q2), decide_eq_false q2]; rfl
  have ku : fX9_areUnlike F (ii x) (ii y) (ii z) M = some (bi (!decide (x = y ∨ y = z ∨ x = z)), M) := by
    unfold fX9_areUnlike
    simp (disch := omega) only [ii_eq]
    by_cases q : (x : Int) = y
    · rw [if_pos q, decide_eq_true (by omega)]; rfl
    · rw [if_neg q]
      by_cases q2 : (y : Int) = z
      · rw [if_pos q2, decide_eq_true (by omega)]; rfl
      · rw [if_neg q2]
        by_cases q3 : (x : Int) = z
        · rw [if_pos q3, decide_eq_true (by omega)]; rfl
        · rw [if_neg q3, decide_eq_false (by omega)]; rfl
  unfold fX9_isThree TT
  rw [gd_inb (by omega) (by omega) (by omega), ii_nat (by omega) (by omega), Int.toNat_natCast, l4, k21, ku, bd_eq]
  cases lU (ls i)
  · rw [if_pos (by decide)]; rfl
  · rw [if_neg (by decide)]
    cases decide (x = y ∨ y = z ∨ x = z)
    · rw [if_neg (by decide), k21]; rfl
    · rw [if_pos (by decide)]; rfl
/-- the reference's equations with x -/
def RE (s n fi la : Nat) (l : LawT) (S : Nat → Bool) (x : Nat) : Prop := ∃ y z : Nat, (fi ≤ y ∧ y ≤ la) ∧ (fi ≤ z ∧ z ≤ la) ∧ ((lA l ≠ 0 ∧ EQ s n (lA l) (lB l) (lC l) (lU l) S x y z = true) ∨ (lB l ≠ 0 ∧ EQ s n (lA l) (lB l) (lC l) (lU l) S y x z = true) ∨ (lC l ≠ 0 ∧ EQ s n (lA l) (lB l) (lC l) (lU l) S y z x = true))
abbrev REz (s n : Nat) (l : LawT) (S : Nat → Bool) (x y z : Nat) : Prop := (lA l ≠ 0 ∧ EQ s n (lA l) (lB l) (lC l) (lU l) S x y z = true) ∨ (lB l ≠ 0 ∧ EQ s n (lA l) (lB l) (lC l) (lU l) S y x z = true) ∨ (lC l ≠ 0 ∧ EQ s n (lA l) (lB l) (lC l) (lU l) S y z x = true)
theorem breaksEq_26 (hF : 100000 ≤ F) (hG : GV s n fi la) (hR : RG s n fi la M) (hL : RLs M m ls) {S : Nat → Bool} (hS : Sup fi la S) {r : Nat} (hr : r < 17) (hw : Row M fi r S) {i : Nat} (hi : i < m) (h4 : lk (ls i) = 4) {x y : Nat} (hx : fi ≤ x ∧ x ≤ la) (hy : fi ≤ y ∧ y ≤ la) (K : Int32 → Mem → Option (Int32 × Mem)) :
    ((∃ z, fi ≤ z ∧ z < la + 1 ∧ REz s n (ls i) S x y z) ∧ fX9_breaksEquation_L26 F (ii r) (ii i) (ii x) K F (ii y) (ii fi) M = some (bi true, M)) ∨
    ((¬ ∃ z, fi ≤ z ∧ z < la + 1 ∧ REz s n (ls i) S x y z) ∧ fX9_breaksEquation_L26 F (ii r) (ii i) (ii x) K F (ii y) (ii fi) M = K (ii ((y + 1 : Nat) : Int)) M) := by
  have hg := hG.b
  obtain ⟨i6, hV, -, l1, l2, l3, -⟩ := hL.at hi
  obtain ⟨ha, hb, hc, -⟩ := hV.2.2.2 h4
  have step : ∀ N z, fi ≤ z → z < la + 1 → fX9_breaksEquation_L26 F (ii r) (ii i) (ii x) K (N + 1) (ii y) (ii z) M = if REz s n (ls i) S x y z then some (bi true, M) else fX9_breaksEquation_L26 F (ii r) (ii i) (ii x) K N (ii y) (ii ((z + 1 : Nat) : Int)) M := by
    intro N z hz1 hz2
    rw [fX9_breaksEquation_L26, hR.hi, if_neg (by rw [ii_le] <;> omega)]
    unfold fX9_breaksEquation_L65 fX9_breaksEquation_L90 REz
    simp only [isEquation_eq hF hG hR hL hS hr hw hi h4 (x := x) (y := y) (z := z) (by omega) (by omega) (by omega), isEquation_eq hF hG hR hL hS hr hw hi h4 (x := y) (y := x) (z := z) (by omega) (by omega) (by omega), isEquation_eq hF hG hR hL hS hr hw hi h4 (x := y) (y := z) (z := x) (by omega) (by omega) (by omega), bd_eq, nm_eq]
    rw [gd_inb (by omega) (by omega) (by omega), gd_inb (by omega) (by omega) (by omega), gd_inb (by omega) (by omega) (by omega), ii_nat (by omega) (by omega), Int.toNat_natCast, l1, l2, l3, ii_lit0, ii_lit1, ii_add, show ((z : Int) + 1) = ((z + 1 : Nat) : Int) by omega]
    simp (disch := omega) only [ii_eq]
    rw [show ii 0 = bi false from rfl, show ii 1 = bi true from rfl]
    generalize EQ s n (lA (ls i)) (lB (ls i)) (lC (ls i)) (lU (ls i)) S x y z = e1
    generalize EQ s n (lA (ls i)) (lB (ls i)) (lC (ls i)) (lU (ls i)) S y x z = e2
    generalize EQ s n (lA (ls i)) (lB (ls i)) (lC (ls i)) (lU (ls i)) S y z x = e3
    have b1 : (bi true = bi false) = False := eq_false (by decide)
    by_cases q1 : lA (ls i) = 0 <;> by_cases q2 : lB (ls i) = 0 <;> by_cases q3 : lC (ls i) = 0 <;> cases e1 <;> cases e2 <;> cases e3 <;> simp [q1, q2, q3, b1]
  rcases scan1 (L := fun N z => fX9_breaksEquation_L26 F (ii r) (ii i) (ii x) K N (ii y) (ii (z : Nat)) M) (REz s n (ls i) S x y) (A := K (ii ((y + 1 : Nat) : Int)) M) (B := some (bi true, M)) (lo := fi) (hi := la + 1) (N := F) (x := fi) (fun N => by
      show fX9_breaksEquation_L26 _ _ _ _ _ _ _ _ _ = _
      rw [fX9_breaksEquation_L26, hR.hi, if_pos (by rw [ii_le] <;> omega), nm_eq, ii_lit1, ii_add, show ((y : Int) + 1) = ((y + 1 : Nat) : Int) by omega]) (fun N z h1 h2 h3 => (step N z h1 h2).trans (if_pos h3)) (fun N z h1 h2 h3 => (step N z h1 h2).trans (if_neg h3)) (by omega) (by omega) (by omega) with h | h
  · exact Or.inl h
  · exact Or.inr h
theorem breaksEq_eq (hF : 100000 ≤ F) (hG : GV s n fi la) (hR : RG s n fi la M) (hL : RLs M m ls) {S : Nat → Bool} (hS : Sup fi la S) {r : Nat} (hr : r < 17) (hw : Row M fi r S) {i : Nat} (hi : i < m) (h4 : lk (ls i) = 4) {x : Nat} (hx : fi ≤ x ∧ x ≤ la) :
    ∃ b, fX9_breaksEquation F (ii r) (ii i) (ii x) M = some (bi b, M) ∧ (b = true ↔ RE s n fi la (ls i) S x) := by
  have hg := hG.b
  have step : ∀ N y, fi ≤ y → y < la + 1 → fX9_breaksEquation_L6 F (ii r) (ii i) (ii x) (N + 1) (ii y) M = fX9_breaksEquation_L26 F (ii r) (ii i) (ii x) (fun x4 M => fX9_breaksEquation_L6 F (ii r) (ii i) (ii x) N x4 M) F (ii y) (ii fi) M := by
    intro N y h1 h2
    rw [fX9_breaksEquation_L6, hR.hi, if_neg (by rw [ii_le] <;> omega), nm_eq, hR.2.2.2]
  obtain ⟨b, b1, b2⟩ := scanb (M := M) (L := fun N y => fX9_breaksEquation_L6 F (ii r) (ii i) (ii x) N (ii (y : Nat)) M) (fun y => ∃ z, fi ≤ z ∧ z < la + 1 ∧ REz s n (ls i) S x y z) (lo := fi) (hi := la + 1) (N := F) (x := fi) (fun N => by
      show fX9_breaksEquation_L6 _ _ _ _ _ _ _ = _
      rw [fX9_breaksEquation_L6, hR.hi, if_pos (by rw [ii_le] <;> omega)]; rfl) (fun N y h1 h2 h3 => by
      refine (step N y h1 h2).trans ?_
      rcases breaksEq_26 hF hG hR hL hS hr hw hi h4 hx (y := y) (by omega) (fun x4 M => fX9_breaksEquation_L6 F (ii r) (ii i) (ii x) N x4 M) with ⟨-, h⟩ | ⟨h, -⟩
      · exact h
      · exact absurd h3 h) (fun N y h1 h2 h3 => by
      refine (step N y h1 h2).trans ?_
      rcases breaksEq_26 hF hG hR hL hS hr hw hi h4 hx (y := y) (by omega) (fun x4 M => fX9_breaksEquation_L6 F (ii r) (ii i) (ii x) N x4 M) with ⟨h, -⟩ | ⟨-, h⟩
      · exact absurd h h3
      · exact h) (by omega) (by omega) (by omega)
  refine ⟨b, ?_, ?_⟩
  · unfold fX9_breaksEquation
    rw [nm_eq, hR.2.2.2]; exact b1
  · rw [b2]
    constructor
    · rintro ⟨y, h1, h2, z, h3, h5, h6⟩; exact ⟨y, z, by omega, by omega, h6⟩
    · rintro ⟨y, z, h1, h2, h3⟩; exact ⟨y, h1.1, by omega, z, h2.1, by omega, h3⟩
/-- the reference's threes with x -/
abbrev RTz (s n kd : Nat) (u : Bool) (S : Nat → Bool) (x y z : Nat) : Prop := S z = true ∧ (TT s n kd u x y z = true ∨ TT s n kd u y x z = true ∨ TT s n kd u y z x = true)
theorem breaks_108 (hF : 100000 ≤ F) (hG : GV s n fi la) (hR : RG s n fi la M) (hL : RLs M m ls) {S : Nat → Bool} (hS : Sup fi la S) {r : Nat} (hr : r < 17) (hw : Row M fi r S) {i : Nat} (hi : i < m) {x y : Nat} (hx : fi ≤ x ∧ x ≤ la) (hy : fi ≤ y ∧ y ≤ la) (K : Int32 → Mem → Option (Int32 × Mem)) :
    ((∃ z, fi ≤ z ∧ z < la + 1 ∧ RTz s n (lk (ls i)) (lU (ls i)) S x y z) ∧ fX9_breaks_L108 F (ii r) (ii i) (ii x) K F (ii y) (ii fi) M = some (bi true, M)) ∨
    ((¬ ∃ z, fi ≤ z ∧ z < la + 1 ∧ RTz s n (lk (ls i)) (lU (ls i)) S x y z) ∧ fX9_breaks_L108 F (ii r) (ii i) (ii x) K F (ii y) (ii fi) M = K (ii ((y + 1 : Nat) : Int)) M) := by
  have hg := hG.b
  have step : ∀ N z, fi ≤ z → z < la + 1 → fX9_breaks_L108 F (ii r) (ii i) (ii x) K (N + 1) (ii y) (ii z) M = if RTz s n (lk (ls i)) (lU (ls i)) S x y z then some (bi true, M) else fX9_breaks_L108 F (ii r) (ii i) (ii x) K N (ii y) (ii ((z + 1 : Nat) : Int)) M := by
    intro N z hz1 hz2
    rw [fX9_breaks_L108, hR.hi, if_neg (by rw [ii_le] <;> omega), in_eq hG hR hS hr hw (by omega) (by omega), bd_eq, mm_nat]
    simp only [isThree_eq hF hG hR hL hi (x := x) (y := y) (z := z) (by omega) (by omega) (by omega), isThree_eq hF hG hR hL hi (x := y) (y := x) (z := z) (by omega) (by omega) (by omega), isThree_eq hF hG hR hL hi (x := y) (y := z) (z := x) (by omega) (by omega) (by omega), bd_eq, nm_eq]
    rw [ii_lit1, ii_add, show ((z : Int) + 1) = ((z + 1 : Nat) : Int) by omega]
    rw [show (0 : Int32) = bi false from rfl, show ii 1 = bi true from rfl]
    unfold RTz
    generalize TT s n (lk (ls i)) (lU (ls i)) x y z = e1
    generalize TT s n (lk (ls i)) (lU (ls i)) y x z = e2
    generalize TT s n (lk (ls i)) (lU (ls i)) y z x = e3
    have b1 : (bi true = bi false) = False := eq_false (by decide)
    cases S z <;> cases e1 <;> cases e2 <;> cases e3 <;> simp [b1]
  rcases scan1 (L := fun N z => fX9_breaks_L108 F (ii r) (ii i) (ii x) K N (ii y) (ii (z : Nat)) M) (RTz s n (lk (ls i)) (lU (ls i)) S x y) (A := K (ii ((y + 1 : Nat) : Int)) M) (B := some (bi true, M)) (lo := fi) (hi := la + 1) (N := F) (x := fi) (fun N => by
      show fX9_breaks_L108 _ _ _ _ _ _ _ _ _ = _
      rw [fX9_breaks_L108, hR.hi, if_pos (by rw [ii_le] <;> omega), nm_eq, ii_lit1, ii_add, show ((y : Int) + 1) = ((y + 1 : Nat) : Int) by omega]) (fun N z h1 h2 h3 => (step N z h1 h2).trans (if_pos h3)) (fun N z h1 h2 h3 => (step N z h1 h2).trans (if_neg h3)) (by omega) (by omega) (by omega) with h | h
  · exact Or.inl h
  · exact Or.inr h
def RT (s n kd : Nat) (u : Bool) (S : Nat → Bool) (x : Nat) : Prop := ∃ y z : Nat, S y = true ∧ RTz s n kd u S x y z
theorem breaks_74 (hF : 100000 ≤ F) (hG : GV s n fi la) (hR : RG s n fi la M) (hL : RLs M m ls) {S : Nat → Bool} (hS : Sup fi la S) {r : Nat} (hr : r < 17) (hw : Row M fi r S) {i : Nat} (hi : i < m) {x : Nat} (hx : fi ≤ x ∧ x ≤ la) :
    ∃ b, fX9_breaks_L74 F (ii r) (ii i) (ii x) F (ii fi) M = some (bi b, M) ∧ (b = true ↔ RT s n (lk (ls i)) (lU (ls i)) S x) := by
  have hg := hG.b
  have step : ∀ N y, fi ≤ y → y < la + 1 → fX9_breaks_L74 F (ii r) (ii i) (ii x) (N + 1) (ii y) M = if S y = true then fX9_breaks_L108 F (ii r) (ii i) (ii x) (fun x4 M => fX9_breaks_L74 F (ii r) (ii i) (ii x) N x4 M) F (ii y) (ii fi) M else fX9_breaks_L74 F (ii r) (ii i) (ii x) N (ii ((y + 1 : Nat) : Int)) M := by
    intro N y h1 h2
    rw [fX9_breaks_L74, hR.hi, if_neg (by rw [ii_le] <;> omega), in_eq hG hR hS hr hw (by omega) (by omega), bd_eq, mm_nat, nm_eq, nm_eq, hR.2.2.2, ii_lit1, ii_add, show ((y : Int) + 1) = ((y + 1 : Nat) : Int) by omega]
    cases S y
    · rw [if_pos (by decide), if_neg (by decide)]
    · rw [if_neg (by decide), if_pos rfl]
  obtain ⟨b, b1, b2⟩ := scanb (M := M) (L := fun N y => fX9_breaks_L74 F (ii r) (ii i) (ii x) N (ii (y : Nat)) M) (fun y => S y = true ∧ ∃ z, fi ≤ z ∧ z < la + 1 ∧ RTz s n (lk (ls i)) (lU (ls i)) S x y z) (lo := fi) (hi := la + 1) (N := F) (x := fi) (fun N => by
      show fX9_breaks_L74 _ _ _ _ _ _ _ = _
      rw [fX9_breaks_L74, hR.hi, if_pos (by rw [ii_le] <;> omega)]; rfl) (fun N y h1 h2 h3 => by
      refine (step N y h1 h2).trans ?_
      rw [if_pos h3.1]
      rcases breaks_108 hF hG hR hL hS hr hw hi hx (y := y) (by omega) (fun x4 M => fX9_breaks_L74 F (ii r) (ii i) (ii x) N x4 M) with ⟨-, h⟩ | ⟨h, -⟩
      · exact h
      · exact absurd h3.2 h) (fun N y h1 h2 h3 => by
      refine (step N y h1 h2).trans ?_
      by_cases hq : S y = true
      · rw [if_pos hq]
        rcases breaks_108 hF hG hR hL hS hr hw hi hx (y := y) (by omega) (fun x4 M => fX9_breaks_L74 F (ii r) (ii i) (ii x) N x4 M) with ⟨h, -⟩ | ⟨-, h⟩
        · exact absurd ⟨hq, h⟩ h3
        · exact h
      · rw [if_neg hq]) (by omega) (by omega) (by omega)
  refine ⟨b, b1, ?_⟩
  rw [b2]
  constructor
  · rintro ⟨y, h1, h2, h3, z, h5, h6, h7⟩; exact ⟨y, z, h3, h7⟩
  · rintro ⟨y, z, h1, h2⟩
    have k1 := hS y h1
    have k2 := hS z h2.1
    exact ⟨y, k1.1, by omega, h1, z, k2.1, by omega, h2⟩
/-- the reference: a law broken with x -/
def RB (s n fi la : Nat) (l : LawT) (S : Nat → Bool) (x : Nat) : Prop := (lk l = 0 ∧ BR s n fi la S x (lA l).toNat) ∨ ((lk l = 1 ∨ lk l = 2) ∧ RT s n (lk l) (lU l) S x) ∨ (lk l = 3 ∧ RAp s n S x) ∨ (lk l = 4 ∧ RE s n fi la l S x)
theorem breaks_eq (hF : 100000 ≤ F) (hG : GV s n fi la) (hR : RG s n fi la M) (hL : RLs M m ls) {S : Nat → Bool} (hS : Sup fi la S) {r : Nat} (hr : r < 17) (hw : Row M fi r S) {i : Nat} (hi : i < m) {x : Nat} (hx : fi ≤ x ∧ x ≤ la) :
    ∃ b, fX9_breaks F (ii r) (ii i) (ii x) M = some (bi b, M) ∧ (b = true ↔ RB s n fi la (ls i) S x) := by
  have hg := hG.b
  obtain ⟨i6, hV, l0, l1, -⟩ := hL.at hi
  have hk := hV.1
  unfold fX9_breaks RB
  rw [gd_inb (by omega) (by omega) (by omega), gd_inb (by omega) (by omega) (by omega), ii_nat (by omega) (by omega), Int.toNat_natCast, l0, nm_eq, hR.2.2.2, l1]
  rcases (by omega : lk (ls i) = 0 ∨ lk (ls i) = 1 ∨ lk (ls i) = 2 ∨ lk (ls i) = 3 ∨ lk (ls i) = 4) with q | q | q | q | q
  · rw [q, if_pos (by decide)]
    have hA := hV.2.2.1 q
    obtain ⟨b, b1, b2⟩ := breaksRow_eq hF hG hR hS hr hw hx (k := (lA (ls i)).toNat) (by omega)
    rw [show ((lA (ls i)).toNat : Int) = lA (ls i) by omega] at b1
    rw [b1, bd_eq, bi_isb, gd_eq]
    exact ⟨b, rfl, by rw [b2]; simp⟩
  · rw [q, if_neg (by decide), if_pos (by decide)]
    obtain ⟨b, b1, b2⟩ := breaks_74 hF hG hR hL hS hr hw hi hx
    exact ⟨b, b1, by rw [b2, q]; simp⟩
  · rw [q, if_neg (by decide), if_neg (by decide), if_pos (by decide)]
    obtain ⟨b, b1, b2⟩ := breaks_74 hF hG hR hL hS hr hw hi hx
    exact ⟨b, b1, by rw [b2, q]; simp⟩
  · rw [q, if_neg (by decide), if_neg (by decide), if_neg (by decide), if_pos (by decide)]
    obtain ⟨b, b1, b2⟩ := breaksApart_eq hF hG hR hS hr hw hx
    rw [b1, bd_eq, bi_isb, gd_eq]
    exact ⟨b, rfl, by rw [b2]; simp⟩
  · rw [q, if_neg (by decide), if_neg (by decide), if_neg (by decide), if_neg (by decide), if_pos (by decide)]
    obtain ⟨b, b1, b2⟩ := breaksEq_eq hF hG hR hL hS hr hw hi q hx
    rw [b1, bd_eq, bi_isb, gd_eq]
    exact ⟨b, rfl, by rw [b2]; simp⟩
end RC
