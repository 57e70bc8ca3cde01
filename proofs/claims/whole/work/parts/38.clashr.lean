/-! the first CLASH of a set: the reference -/
def nX (l : LawT) : Bool := decide (lk l = 4 ∧ lA l = 0)
def nY (l : LawT) : Bool := decide (lk l = 4 ∧ lB l = 0)
def nZ (l : LawT) : Bool := decide (lk l = 4 ∧ lC l = 0)
/-- a number that is not in the CLASH is told as 0 -/
def ph (b : Bool) (x : Nat) : Nat := if b then 0 else x
def bodyZ (s n : Nat) (l : LawT) (S : Nat → Bool) (x y z : Nat) : Bool := if lk l = 4 then EQ s n (lA l) (lB l) (lC l) (lU l) S x y z else if lk l = 3 then mm S (mx s n 1 (mx s n 1 x 1 y) (-1) z) && decide ((z : Int) ≤ mx s n 1 (mx s n 1 x 1 y) (-1) z) && !decide (z = x ∧ mx s n 1 (mx s n 1 x 1 y) (-1) z = y) else TT s n (lk l) (lU l) x y z
def PZ (s n fi : Nat) (l : LawT) (S : Nat → Bool) (x y z : Nat) : Bool := (if nZ l then decide (z = fi) else S z) && bodyZ s n l S x y z
section CR
variable {F s n fi la : Nat} {M : Mem} {m : Nat} {ls : Nat → LawT}
theorem cl_296 (hF : 100000 ≤ F) (hG : GV s n fi la) (hR : RG s n fi la M) (hL : RLs M m ls) {S : Nat → Bool} (hS : Sup fi la S) {r : Nat} (hr : r < 17) (hw : Row M fi r S) {i : Nat} (hi : i < m) (h0 : lk (ls i) ≠ 0) {x y z : Nat} (hx : x ≤ la) (hy : y ≤ la) (hz : z ≤ la) (to : Int32) (K : Int32 → Int32 → Int32 → Int32 → Int32 → Int32 → Int32 → Mem → Option (Int32 × Mem)) :
    fX9_clashes_L296 F (ii r) (ii i) K to (ii (lk (ls i))) (ii x) (bi (nX (ls i))) (ii y) (bi (nY (ls i))) (ii z) (bi (nZ (ls i))) M = if bodyZ s n (ls i) S x y z = true then some (bi true, tl M 45 (ii (ph (nX (ls i)) x)) (ii (ph (nY (ls i)) y)) (ii (ph (nZ (ls i)) z)) (ii (vC s n (ls i) x y z))) else K to (ii (lk (ls i))) (ii x) (bi (nX (ls i))) (ii y) (bi (nY (ls i))) (ii ((z + 1 : Nat) : Int)) M := by
  have hg := hG.b
  obtain ⟨i6, hV, l0, l1, l2, l3, l4⟩ := hL.at hi
  have h4 := hV.1
  have b1 : (bi true = (0 : Int32)) = False := eq_false (by decide)
  have b0 : (bi false = (0 : Int32)) = True := eq_true (by decide)
  unfold fX9_clashes_L296 bodyZ vC
  simp only [nm_eq]
  rw [ii_lit1, ii_add, show ((z : Int) + 1) = ((z + 1 : Nat) : Int) by omega]
  by_cases q4 : lk (ls i) = 4
  · rw [if_pos (by rw [q4]; rfl), if_pos q4, if_neg (show ¬ lk (ls i) = 3 by omega), isEquation_eq hF hG hR hL hS hr hw hi q4 hx hy hz, bd_eq]
    unfold fX9_clashes_L340
    simp only [finds_eq, bd_eq, bi_isb, gd_eq]
    cases EQ s n (lA (ls i)) (lB (ls i)) (lC (ls i)) (lU (ls i)) S x y z <;> cases nX (ls i) <;> cases nY (ls i) <;> cases nZ (ls i) <;> simp [b1, b0, ph] <;> rfl
  · have e1 : nX (ls i) = false := decide_eq_false (fun h => q4 h.1)
    have e2 : nY (ls i) = false := decide_eq_false (fun h => q4 h.1)
    have e3 : nZ (ls i) = false := decide_eq_false (fun h => q4 h.1)
    rw [if_neg (by rw [show (4 : Int32) = ii 4 from rfl, ii_eq (by omega) (by omega) (by omega) (by omega)]; omega), if_neg q4, e1, e2, e3]
    have e4 : ∀ t, ph false t = t := fun t => rfl
    simp only [e4]
    by_cases q3 : lk (ls i) = 3
    · have hvs := VA.sum hG (x := x) (y := y) (by omega) (by omega)
      have hb := mx_bd hG (a := 1) (x := mx s n 1 x 1 y) (b := -1) (y := z) (by omega) (by omega) ⟨hvs.1, hvs.2.1⟩ (by omega)
      rw [if_pos (by rw [q3]; rfl), if_pos q3, if_pos q3, sum_eq hF hG hR (VA.g hG (by omega) (by omega)) (VA.g hG (by omega) (by omega)), bd_eq, difference_eq hF hG hR hvs (VA.g hG (by omega) (by omega)), bd_eq, in_eq hG hR hS hr hw (by omega) (by omega), bd_eq]
      simp only [finds_eq, bd_eq, bi_isb, gd_eq]
      generalize mx s n 1 (mx s n 1 x 1 y) (-1) z = v at *
      simp (disch := omega) only [ii_lt, ii_eq]
      cases mm S v with
      | false => rw [if_pos (by decide), if_neg (by simp)]
      | true =>
        rw [if_neg (by decide)]
        by_cases q1 : v < z
        · rw [if_pos q1, decide_eq_false (by omega), if_neg (by simp)]
        · rw [if_neg q1, decide_eq_true (by omega)]
          by_cases q2 : (z : Int) = x
          · rw [if_pos q2]
            by_cases q5 : v = y
            · rw [if_pos q5, decide_eq_true ⟨by omega, q5⟩, if_neg (by simp)]
            · rw [if_neg q5, decide_eq_false (fun h => q5 h.2), if_pos (by simp)]
          · rw [if_neg q2, decide_eq_false (fun h => q2 (by omega)), if_pos (by simp)]
    · rw [if_neg (by rw [show (3 : Int32) = ii 3 from rfl, ii_eq (by omega) (by omega) (by omega) (by omega)]; omega), if_neg q3, if_neg q3, isThree_eq hF hG hR hL hi hx hy hz, bd_eq]
      simp only [finds_eq, bd_eq, bi_isb, gd_eq]
      cases TT s n (lk (ls i)) (lU (ls i)) x y z with
      | false => rw [if_pos (by decide), if_neg (by decide)]
      | true => rw [if_neg (by decide), if_pos rfl]; rfl
theorem cl_235 (hF : 100000 ≤ F) (hG : GV s n fi la) (hR : RG s n fi la M) (hL : RLs M m ls) {S : Nat → Bool} (hS : Sup fi la S) {r : Nat} (hr : r < 17) (hw : Row M fi r S) {i : Nat} (hi : i < m) (h0 : lk (ls i) ≠ 0) {x y : Nat} (hx : fi ≤ x ∧ x ≤ la) (hy : fi ≤ y ∧ y ≤ la) (K : Int32 → Int32 → Int32 → Int32 → Int32 → Mem → Option (Int32 × Mem)) :
    (∃ z, PZ s n fi (ls i) S x y z = true ∧ (fi ≤ z ∧ z ≤ la) ∧ (∀ z', fi ≤ z' → z' < z → ¬ PZ s n fi (ls i) S x y z' = true) ∧ fX9_clashes_L235 F (ii r) (ii i) K F (ii ((la + 1 : Nat) : Int)) (ii (lk (ls i))) (ii x) (bi (nX (ls i))) (ii y) (bi (nY (ls i))) (ii fi) M = some (bi true, tl M 45 (ii (ph (nX (ls i)) x)) (ii (ph (nY (ls i)) y)) (ii (ph (nZ (ls i)) z)) (ii (vC s n (ls i) x y z)))) ∨
    ((∀ z, fi ≤ z → z ≤ la → ¬ PZ s n fi (ls i) S x y z = true) ∧ fX9_clashes_L235 F (ii r) (ii i) K F (ii ((la + 1 : Nat) : Int)) (ii (lk (ls i))) (ii x) (bi (nX (ls i))) (ii y) (bi (nY (ls i))) (ii fi) M = K (ii ((la + 1 : Nat) : Int)) (ii (lk (ls i))) (ii x) (bi (nX (ls i))) (ii ((y + 1 : Nat) : Int)) M) := by
  have hg := hG.b
  obtain ⟨i6, hV, l0, l1, l2, l3, l4⟩ := hL.at hi
  have h4 := hV.1
  have step : ∀ N z, fi ≤ z → z < la + 1 → fX9_clashes_L235 F (ii r) (ii i) K (N + 1) (ii ((la + 1 : Nat) : Int)) (ii (lk (ls i))) (ii x) (bi (nX (ls i))) (ii y) (bi (nY (ls i))) (ii z) M = if PZ s n fi (ls i) S x y z = true then some (bi true, tl M 45 (ii (ph (nX (ls i)) x)) (ii (ph (nY (ls i)) y)) (ii (ph (nZ (ls i)) z)) (ii (vC s n (ls i) x y z))) else fX9_clashes_L235 F (ii r) (ii i) K N (ii ((la + 1 : Nat) : Int)) (ii (lk (ls i))) (ii x) (bi (nX (ls i))) (ii y) (bi (nY (ls i))) (ii ((z + 1 : Nat) : Int)) M := by
    intro N z hz1 hz2
    have k261 : ∀ b, b = nZ (ls i) → fX9_clashes_L261 F (ii r) (ii i) (fun x3 x4 x5 x6 x7 x8 x9 M => fX9_clashes_L235 F (ii r) (ii i) K N x3 x4 x5 x6 x7 x8 x9 M) (ii ((la + 1 : Nat) : Int)) (ii (lk (ls i))) (ii x) (bi (nX (ls i))) (ii y) (bi (nY (ls i))) (ii z) (bi b) M = if PZ s n fi (ls i) S x y z = true then some (bi true, tl M 45 (ii (ph (nX (ls i)) x)) (ii (ph (nY (ls i)) y)) (ii (ph (nZ (ls i)) z)) (ii (vC s n (ls i) x y z))) else fX9_clashes_L235 F (ii r) (ii i) K N (ii ((la + 1 : Nat) : Int)) (ii (lk (ls i))) (ii x) (bi (nX (ls i))) (ii y) (bi (nY (ls i))) (ii ((z + 1 : Nat) : Int)) M := by
      intro b hb
      subst hb
      unfold fX9_clashes_L261 fX9_clashes_L277 PZ
      rw [hR.2.2.2, in_eq hG hR hS hr hw (by omega) (by omega), bd_eq, mm_nat]
      simp only [nm_eq]
      rw [ii_lit1, ii_add, show ((z : Int) + 1) = ((z + 1 : Nat) : Int) by omega, cl_296 hF hG hR hL hS hr hw hi h0 hx.2 hy.2 (z := z) (by omega)]
      simp (disch := omega) only [ii_lt]
      cases nZ (ls i) with
      | false =>
        rw [if_pos (by decide), if_pos (by decide)]
        cases S z with
        | false => rw [if_pos (by decide)]; simp
        | true => rw [if_neg (by decide)]; simp
      | true =>
        rw [if_neg (by decide)]
        by_cases q : z = fi
        · rw [if_neg (by omega), if_neg (by decide), decide_eq_true q]; simp
        · rw [if_pos (by omega), decide_eq_false q]; simp
    rw [fX9_clashes_L235, if_neg (by rw [ii_le] <;> omega)]
    by_cases q4 : lk (ls i) = 4
    · have hc := hV.2.2.2 q4
      rw [if_pos (by rw [q4]; rfl), gd_inb (by omega) (by omega) (by omega), ii_nat (by omega) (by omega), Int.toNat_natCast, l3, ii_lit0]
      simp (disch := omega) only [ii_eq]
      by_cases q : lC (ls i) = 0
      · rw [if_pos q]; exact k261 true (decide_eq_true ⟨q4, q⟩).symm
      · rw [if_neg q]; exact k261 false (decide_eq_false (fun h => q h.2)).symm
    · rw [if_neg (by rw [show (4 : Int32) = ii 4 from rfl, ii_eq (by omega) (by omega) (by omega) (by omega)]; omega)]
      exact k261 false (decide_eq_false (fun h => q4 h.1)).symm
  rcases scan (L := fun N z => fX9_clashes_L235 F (ii r) (ii i) K N (ii ((la + 1 : Nat) : Int)) (ii (lk (ls i))) (ii x) (bi (nX (ls i))) (ii y) (bi (nY (ls i))) (ii (z : Nat)) M) (p := fun z => PZ s n fi (ls i) S x y z = true) (A := K (ii ((la + 1 : Nat) : Int)) (ii (lk (ls i))) (ii x) (bi (nX (ls i))) (ii ((y + 1 : Nat) : Int)) M) (B := fun z => some (bi true, tl M 45 (ii (ph (nX (ls i)) x)) (ii (ph (nY (ls i)) y)) (ii (ph (nZ (ls i)) z)) (ii (vC s n (ls i) x y z)))) (lo := fi) (hi := la + 1) (fun N => by
      show fX9_clashes_L235 _ _ _ _ _ _ _ _ _ _ _ _ _ = _
      rw [fX9_clashes_L235, if_pos (by rw [ii_le] <;> omega), nm_eq, ii_lit1, ii_add, show ((y : Int) + 1) = ((y + 1 : Nat) : Int) by omega]) (fun N z h1 h2 h3 => (step N z h1 h2).trans (if_pos h3)) (fun N z h1 h2 h3 => (step N z h1 h2).trans (if_neg h3)) (la + 1 - fi) F fi (by omega) (by omega) (by omega) with ⟨z, z1, z2, z3, z4, z5⟩ | ⟨z1, z2⟩
  · exact Or.inl ⟨z, z3, by omega, z4, z5⟩
  · exact Or.inr ⟨fun z h1 h2 => z1 z h1 (by omega), z2⟩
/-- what the reference wants of x and y -/
def PY (s n fi : Nat) (l : LawT) (S : Nat → Bool) (x y : Nat) : Prop := (if nY l then y = fi else S y = true) ∧ (lk l = 0 → y ≠ x ∧ (s ≠ 0 ∨ x < y) ∧ RW s n S x (mx s n 1 y (-1) x) (lA l).toNat) ∧ (lk l = 3 → x ≤ y)
/-- the reference's CLASHES, in its coordinates -/
def RC (s n fi la : Nat) (l : LawT) (S : Nat → Bool) (x y z : Nat) : Prop := (if nX l then x = fi else S x = true) ∧ PY s n fi l S x y ∧ (lk l = 0 → z = fi) ∧ (lk l ≠ 0 → PZ s n fi l S x y z = true) ∧ fi ≤ z ∧ z ≤ la
def tlr (s n : Nat) (l : LawT) (M : Mem) (x y z : Nat) : Mem := if lk l = 0 then tl M 45 (ii x) (ii y) (ii 0) (ii 0) else tl M 45 (ii (ph (nX l) x)) (ii (ph (nY l) y)) (ii (ph (nZ l) z)) (ii (vC s n l x y z))
theorem cl_91 (hF : 100000 ≤ F) (hG : GV s n fi la) (hR : RG s n fi la M) (hL : RLs M m ls) {S : Nat → Bool} (hS : Sup fi la S) {r : Nat} (hr : r < 17) (hw : Row M fi r S) {i : Nat} (hi : i < m) {x : Nat} (hx : fi ≤ x ∧ x ≤ la) (hx2 : if nX (ls i) then x = fi else S x = true) (K : Int32 → Int32 → Int32 → Mem → Option (Int32 × Mem)) :
    (∃ y z, RC s n fi la (ls i) S x y z ∧ (∀ y', y' < y → ∀ z', ¬ RC s n fi la (ls i) S x y' z') ∧ (∀ z', z' < z → ¬ RC s n fi la (ls i) S x y z') ∧ fX9_clashes_L91 F (ii r) (ii i) K F (ii ((la + 1 : Nat) : Int)) (ii (lk (ls i))) (ii x) (bi (nX (ls i))) (ii fi) M = some (bi true, tlr s n (ls i) M x y z)) ∨
    ((∀ y z, ¬ RC s n fi la (ls i) S x y z) ∧ fX9_clashes_L91 F (ii r) (ii i) K F (ii ((la + 1 : Nat) : Int)) (ii (lk (ls i))) (ii x) (bi (nX (ls i))) (ii fi) M = K (ii ((la + 1 : Nat) : Int)) (ii (lk (ls i))) (ii ((x + 1 : Nat) : Int)) M) := by
  have hg := hG.b
  obtain ⟨i6, hV, l0, l1, l2, l3, l4⟩ := hL.at hi
  have h4 := hV.1
  have hyr : ∀ {y z}, RC s n fi la (ls i) S x y z → fi ≤ y ∧ y ≤ la := by
    intro y z h
    have h1 := h.2.1.1
    split at h1
    · omega
    · exact hS y h1
  have step : ∀ N y, fi ≤ y → y < la + 1 → ((∃ z, RC s n fi la (ls i) S x y z) ∧ (∃ z, RC s n fi la (ls i) S x y z ∧ (∀ z', z' < z → ¬ RC s n fi la (ls i) S x y z') ∧ fX9_clashes_L91 F (ii r) (ii i) K (N + 1) (ii ((la + 1 : Nat) : Int)) (ii (lk (ls i))) (ii x) (bi (nX (ls i))) (ii y) M = some (bi true, tlr s n (ls i) M x y z))) ∨ ((¬ ∃ z, RC s n fi la (ls i) S x y z) ∧ fX9_clashes_L91 F (ii r) (ii i) K (N + 1) (ii ((la + 1 : Nat) : Int)) (ii (lk (ls i))) (ii x) (bi (nX (ls i))) (ii y) M = fX9_clashes_L91 F (ii r) (ii i) K N (ii ((la + 1 : Nat) : Int)) (ii (lk (ls i))) (ii x) (bi (nX (ls i))) (ii ((y + 1 : Nat) : Int)) M) := by
    intro N y hy1 hy2
    generalize hK2 : (fun x3 x4 x5 x6 x7 M => fX9_clashes_L91 F (ii r) (ii i) K N x3 x4 x5 x6 x7 M) = K2
    have e2 : ∀ a b c d e M, K2 a b c d e M = fX9_clashes_L91 F (ii r) (ii i) K N a b c d e M := fun a b c d e M => by rw [← hK2]
    -- from here on y may be one
    have k152 : (if nY (ls i) then y = fi else S y = true) → ((∃ z, RC s n fi la (ls i) S x y z) ∧ (∃ z, RC s n fi la (ls i) S x y z ∧ (∀ z', z' < z → ¬ RC s n fi la (ls i) S x y z') ∧ fX9_clashes_L152 F (ii r) (ii i) K2 (ii ((la + 1 : Nat) : Int)) (ii (lk (ls i))) (ii x) (bi (nX (ls i))) (ii y) (bi (nY (ls i))) M = some (bi true, tlr s n (ls i) M x y z))) ∨ ((¬ ∃ z, RC s n fi la (ls i) S x y z) ∧ fX9_clashes_L152 F (ii r) (ii i) K2 (ii ((la + 1 : Nat) : Int)) (ii (lk (ls i))) (ii x) (bi (nX (ls i))) (ii y) (bi (nY (ls i))) M = K2 (ii ((la + 1 : Nat) : Int)) (ii (lk (ls i))) (ii x) (bi (nX (ls i))) (ii ((y + 1 : Nat) : Int)) M) := by
      intro hyq
      unfold fX9_clashes_L152
      simp only [nm_eq]
      rw [hR.2.2.2, hR.1, ii_lit1, ii_add, show ((y : Int) + 1) = ((y + 1 : Nat) : Int) by omega]
      by_cases q0 : lk (ls i) = 0
      · have hA := hV.2.2.1 q0
        have hnx : nX (ls i) = false := decide_eq_false (fun h => by omega)
        rw [if_pos (by rw [q0]; rfl)]
        have hrc : ∀ z, RC s n fi la (ls i) S x y z ↔ (y ≠ x ∧ (s ≠ 0 ∨ x < y) ∧ RW s n S x (mx s n 1 y (-1) x) (lA (ls i)).toNat) ∧ z = fi := by
          intro z
          unfold RC PY
          constructor
          · rintro ⟨-, ⟨-, h1, -⟩, h2, -⟩; exact ⟨h1 q0, h2 q0⟩
          · rintro ⟨h1, h2⟩
            exact ⟨hx2, ⟨hyq, fun _ => h1, fun h => absurd h (by omega)⟩, fun _ => h2, fun h => absurd q0 h, by omega, by omega⟩
        have k178 : y ≠ x → (s ≠ 0 ∨ x < y) → ((∃ z, RC s n fi la (ls i) S x y z) ∧ (∃ z, RC s n fi la (ls i) S x y z ∧ (∀ z', z' < z → ¬ RC s n fi la (ls i) S x y z') ∧ fX9_clashes_L178 F (ii r) (ii i) K2 (ii ((la + 1 : Nat) : Int)) (ii (lk (ls i))) (ii x) (bi (nX (ls i))) (ii y) M = some (bi true, tlr s n (ls i) M x y z))) ∨ ((¬ ∃ z, RC s n fi la (ls i) S x y z) ∧ fX9_clashes_L178 F (ii r) (ii i) K2 (ii ((la + 1 : Nat) : Int)) (ii (lk (ls i))) (ii x) (bi (nX (ls i))) (ii y) M = K2 (ii ((la + 1 : Nat) : Int)) (ii (lk (ls i))) (ii x) (bi (nX (ls i))) (ii ((y + 1 : Nat) : Int)) M) := by
          intro n1 n2
          obtain ⟨b, b1, b2⟩ := isRow_eq hF hG hR hS hr hw (x := x) (d := mx s n 1 y (-1) x) (by omega) (VD.of hG (by omega) (by omega)) (k := (lA (ls i)).toNat) (by omega)
          rw [show (((lA (ls i)).toNat : Nat) : Int) = lA (ls i) by omega] at b1
          unfold fX9_clashes_L178
          rw [difference_eq hF hG hR (VA.g hG (by omega) (by omega)) (VA.g hG (by omega) (by omega)), bd_eq, gd_inb (by omega) (by omega) (by omega), ii_nat (by omega) (by omega), Int.toNat_natCast, l1, b1, bd_eq, nm_eq, ii_lit1, ii_add, show ((y : Int) + 1) = ((y + 1 : Nat) : Int) by omega, finds_eq, bd_eq, bi_isb, gd_eq]
          cases b with
          | true =>
            left
            have h1 := (hrc fi).mpr ⟨⟨n1, n2, b2.mp rfl⟩, rfl⟩
            refine ⟨⟨fi, h1⟩, fi, h1, fun z' hz' h => ?_, ?_⟩
            · have := (hrc z').mp h; omega
            · rw [if_neg (by decide)]
              unfold tlr
              rw [if_pos q0]; rfl
          | false =>
            right
            refine ⟨fun ⟨z, h⟩ => ?_, by rw [if_pos (by decide)]⟩
            have := b2.mpr ((hrc z).mp h).1.2.2
            cases this
        simp (disch := omega) only [ii_eq, ii_lt, ii_le, ii_lit0]
        by_cases q1 : (y : Int) = x
        · rw [if_pos q1]
          right
          exact ⟨fun ⟨z, h⟩ => absurd ((hrc z).mp h).1.1 (by omega), rfl⟩
        · rw [if_neg q1]
          by_cases q2 : s = 0
          · rw [if_neg (by omega)]
            by_cases q3 : (y : Int) ≤ x
            · rw [if_pos q3]
              right
              refine ⟨fun ⟨z, h⟩ => ?_, rfl⟩
              have := ((hrc z).mp h).1.2.1
              omega
            · rw [if_neg q3]; exact k178 (by omega) (by omega)
          · rw [if_pos (by omega)]; exact k178 (by omega) (Or.inl q2)
      · rw [if_neg (by rw [ii_lit0, ii_eq (by omega) (by omega) (by omega) (by omega)]; omega)]
        have hrc : ∀ z, RC s n fi la (ls i) S x y z ↔ (lk (ls i) = 3 → x ≤ y) ∧ PZ s n fi (ls i) S x y z = true ∧ fi ≤ z ∧ z ≤ la := by
          intro z
          unfold RC PY
          constructor
          · rintro ⟨-, ⟨-, -, h1⟩, -, h2, h3⟩; exact ⟨h1, h2 q0, h3⟩
          · rintro ⟨h1, h2, h3⟩
            exact ⟨hx2, ⟨hyq, fun h => absurd h q0, h1⟩, fun h => absurd h q0, fun _ => h2, h3⟩
        have k235 : (lk (ls i) = 3 → x ≤ y) → ((∃ z, RC s n fi la (ls i) S x y z) ∧ (∃ z, RC s n fi la (ls i) S x y z ∧ (∀ z', z' < z → ¬ RC s n fi la (ls i) S x y z') ∧ fX9_clashes_L235 F (ii r) (ii i) K2 F (ii ((la + 1 : Nat) : Int)) (ii (lk (ls i))) (ii x) (bi (nX (ls i))) (ii y) (bi (nY (ls i))) (ii fi) M = some (bi true, tlr s n (ls i) M x y z))) ∨ ((¬ ∃ z, RC s n fi la (ls i) S x y z) ∧ fX9_clashes_L235 F (ii r) (ii i) K2 F (ii ((la + 1 : Nat) : Int)) (ii (lk (ls i))) (ii x) (bi (nX (ls i))) (ii y) (bi (nY (ls i))) (ii fi) M = K2 (ii ((la + 1 : Nat) : Int)) (ii (lk (ls i))) (ii x) (bi (nX (ls i))) (ii ((y + 1 : Nat) : Int)) M) := by
          intro h3
          rcases cl_235 hF hG hR hL hS hr hw hi q0 hx (y := y) (by omega) K2 with ⟨z, z1, z2, z3, z4⟩ | ⟨z1, z2⟩
          · left
            have h1 := (hrc z).mpr ⟨h3, z1, z2⟩
            refine ⟨⟨z, h1⟩, z, h1, fun z' hz' h => ?_, ?_⟩
            · have := (hrc z').mp h
              exact z3 z' this.2.2.1 hz' this.2.1
            · unfold tlr
              rw [if_neg q0]; exact z4
          · right
            refine ⟨fun ⟨z, h⟩ => ?_, z2⟩
            have := (hrc z).mp h
            exact z1 z this.2.2.1 this.2.2.2 this.2.1
        by_cases q3 : lk (ls i) = 3
        · rw [if_pos (by rw [q3]; rfl)]
          simp (disch := omega) only [ii_le]
          by_cases q : (x : Int) ≤ y
          · rw [if_pos q]; exact k235 (fun _ => by omega)
          · rw [if_neg q]
            right
            refine ⟨fun ⟨z, h⟩ => ?_, rfl⟩
            have := ((hrc z).mp h).1 q3
            omega
        · rw [if_neg (by rw [show (3 : Int32) = ii 3 from rfl, ii_eq (by omega) (by omega) (by omega) (by omega)]; omega)]
          exact k235 (fun h => absurd h q3)
    have k117 : ∀ b, b = nY (ls i) → ((∃ z, RC s n fi la (ls i) S x y z) ∧ (∃ z, RC s n fi la (ls i) S x y z ∧ (∀ z', z' < z → ¬ RC s n fi la (ls i) S x y z') ∧ fX9_clashes_L117 F (ii r) (ii i) K2 (ii ((la + 1 : Nat) : Int)) (ii (lk (ls i))) (ii x) (bi (nX (ls i))) (ii y) (bi b) M = some (bi true, tlr s n (ls i) M x y z))) ∨ ((¬ ∃ z, RC s n fi la (ls i) S x y z) ∧ fX9_clashes_L117 F (ii r) (ii i) K2 (ii ((la + 1 : Nat) : Int)) (ii (lk (ls i))) (ii x) (bi (nX (ls i))) (ii y) (bi b) M = K2 (ii ((la + 1 : Nat) : Int)) (ii (lk (ls i))) (ii x) (bi (nX (ls i))) (ii ((y + 1 : Nat) : Int)) M) := by
      intro b hb
      subst hb
      unfold fX9_clashes_L117 fX9_clashes_L133
      simp only [nm_eq]
      rw [hR.2.2.2, in_eq hG hR hS hr hw (by omega) (by omega), bd_eq, mm_nat, ii_lit1, ii_add, show ((y : Int) + 1) = ((y + 1 : Nat) : Int) by omega]
      simp (disch := omega) only [ii_lt]
      have hno : ¬ (if nY (ls i) then y = fi else S y = true) → ¬ ∃ z, RC s n fi la (ls i) S x y z := fun h ⟨z, h1⟩ => h h1.2.1.1
      cases hny : nY (ls i) with
      | false =>
        rw [hny] at k152 hno
        rw [if_pos (by decide), if_pos (by decide)]
        cases hs : S y with
        | false =>
          rw [if_pos (by decide)]
          right
          exact ⟨hno (by rw [hs]; simp), rfl⟩
        | true => rw [if_neg (by decide)]; exact k152 hs
      | true =>
        rw [hny] at k152 hno
        rw [if_neg (by decide)]
        by_cases q : y = fi
        · rw [if_neg (by omega), if_neg (by decide)]; exact k152 q
        · rw [if_pos (by omega)]
          right
          exact ⟨hno q, rfl⟩
    simp only [fX9_clashes_L91, hK2]
    rw [if_neg (by rw [ii_le] <;> omega)]
    by_cases q4 : lk (ls i) = 4
    · have hc := hV.2.2.2 q4
      rw [if_pos (by rw [q4]; rfl), gd_inb (by omega) (by omega) (by omega), ii_nat (by omega) (by omega), Int.toNat_natCast, l2, ii_lit0]
      simp (disch := omega) only [ii_eq]
      by_cases q : lB (ls i) = 0
      · rw [if_pos q]; exact k117 true (decide_eq_true ⟨q4, q⟩).symm
      · rw [if_neg q]; exact k117 false (decide_eq_false (fun h => q h.2)).symm
    · rw [if_neg (by rw [show (4 : Int32) = ii 4 from rfl, ii_eq (by omega) (by omega) (by omega) (by omega)]; omega)]
      exact k117 false (decide_eq_false (fun h => q4 h.1)).symm
  have out := scanx (L := fun N y => fX9_clashes_L91 F (ii r) (ii i) K N (ii ((la + 1 : Nat) : Int)) (ii (lk (ls i))) (ii x) (bi (nX (ls i))) (ii (y : Nat)) M) (P := fun y => ∃ z, RC s n fi la (ls i) S x y z) (R := fun y res => ∃ z, RC s n fi la (ls i) S x y z ∧ (∀ z', z' < z → ¬ RC s n fi la (ls i) S x y z') ∧ res = some (bi true, tlr s n (ls i) M x y z)) (A := K (ii ((la + 1 : Nat) : Int)) (ii (lk (ls i))) (ii ((x + 1 : Nat) : Int)) M) (lo := fi) (hi := la + 1) ?_ step (la + 1 - fi) F fi (by omega) (by omega) (by omega)
  · rcases out with ⟨y, y1, y2, y3, y4, z, z1, z2, z3⟩ | ⟨y1, y2⟩
    · exact Or.inl ⟨y, z, z1, fun y' hy' z' h => y4 y' (hyr h).1 hy' ⟨z', h⟩, z2, z3⟩
    · exact Or.inr ⟨fun y z h => y1 y (hyr h).1 (by have := (hyr h).2; omega) ⟨z, h⟩, y2⟩
  · intro N
    show fX9_clashes_L91 _ _ _ _ _ _ _ _ _ _ _ = _
    rw [fX9_clashes_L91, if_pos (by rw [ii_le] <;> omega), nm_eq, ii_lit1, ii_add, show ((x : Int) + 1) = ((x + 1 : Nat) : Int) by omega]
end CR
