/-! the reference's look for a CLASH with x: sums, equations, threes -/
theorem RG.hi {M : Mem} {s n fi la : Nat} (h : RG s n fi la M) : M.1 37 6 + M.1 37 5 = ii ((la + 1 : Nat) : Int) := by
  rw [h.2.2.2, h.2.2.1, ii_add]
  congr 1; omega
section RA
variable {F s n fi la : Nat} {M : Mem}
/-- the reference's equal sums with x -/
def RAp (s n : Nat) (S : Nat → Bool) (x : Nat) : Prop := ∃ y u : Nat, S y = true ∧ S u = true ∧ mm S (mx s n 1 (mx s n 1 x 1 y) (-1) u) = true ∧ ¬ (u = x ∧ mx s n 1 (mx s n 1 x 1 y) (-1) u = y) ∧ ¬ (u = y ∧ mx s n 1 (mx s n 1 x 1 y) (-1) u = x)
theorem VA.sum (hG : GV s n fi la) {x y : Int} (hx : 0 ≤ x ∧ x ≤ la) (hy : 0 ≤ y ∧ y ≤ la) : VA s la (mx s n 1 x 1 y) := by
  have hg := hG.b
  by_cases q : s = 0
  · subst q
    rw [mx_0]
    refine ⟨by omega, by omega, fun h => (by omega)⟩
  · have := mx_g hG q 1 1 hx hy
    exact VA.g hG this.1 this.2
theorem breaksApart_45 (hF : 100000 ≤ F) (hG : GV s n fi la) (hR : RG s n fi la M) {S : Nat → Bool} (hS : Sup fi la S) {r : Nat} (hr : r < 17) (hw : Row M fi r S) {x y : Nat} (hx : fi ≤ x ∧ x ≤ la) (hy : fi ≤ y ∧ y ≤ la) (K : Int32 → Mem → Option (Int32 × Mem)) :
    ((∃ u : Nat, S u = true ∧ mm S (mx s n 1 (mx s n 1 x 1 y) (-1) u) = true ∧ ¬ (u = x ∧ mx s n 1 (mx s n 1 x 1 y) (-1) u = y) ∧ ¬ (u = y ∧ mx s n 1 (mx s n 1 x 1 y) (-1) u = x)) ∧ fX9_breaksApart_L45 F (ii r) (ii x) K F (ii y) (ii (mx s n 1 x 1 y)) (ii fi) M = some (bi true, M)) ∨
    ((¬ ∃ u : Nat, S u = true ∧ mm S (mx s n 1 (mx s n 1 x 1 y) (-1) u) = true ∧ ¬ (u = x ∧ mx s n 1 (mx s n 1 x 1 y) (-1) u = y) ∧ ¬ (u = y ∧ mx s n 1 (mx s n 1 x 1 y) (-1) u = x)) ∧ fX9_breaksApart_L45 F (ii r) (ii x) K F (ii y) (ii (mx s n 1 x 1 y)) (ii fi) M = K (ii ((y + 1 : Nat) : Int)) M) := by
  have hg := hG.b
  have hvs := VA.sum hG (x := x) (y := y) (by omega) (by omega)
  have k2 := scan1 (L := fun N' u => fX9_breaksApart_L45 F (ii r) (ii x) K N' (ii y) (ii (mx s n 1 x 1 y)) (ii u) M) (fun u : Nat => S u = true ∧ mm S (mx s n 1 (mx s n 1 x 1 y) (-1) u) = true ∧ ¬ (u = x ∧ mx s n 1 (mx s n 1 x 1 y) (-1) u = y) ∧ ¬ (u = y ∧ mx s n 1 (mx s n 1 x 1 y) (-1) u = x)) (A := K (ii ((y + 1 : Nat) : Int)) M) (B := some (bi true, M)) (lo := fi) (hi := la + 1) (N := F) (x := fi) ?_ ?_ ?_ (by omega) (by omega) (by omega)
  · rcases k2 with ⟨⟨i, -, -, h2⟩, h⟩ | ⟨h1, h⟩
    · exact Or.inl ⟨⟨i, h2⟩, h⟩
    · exact Or.inr ⟨fun ⟨i, h2⟩ => h1 ⟨i, (hS i h2.1).1, by have := (hS i h2.1).2; omega, h2⟩, h⟩
  · intro N'
    show fX9_breaksApart_L45 _ _ _ _ _ _ _ _ _ = _
    rw [fX9_breaksApart_L45, hR.hi, if_pos (by rw [ii_le] <;> omega), nm_eq, ii_lit1, ii_add, show ((y : Int) + 1) = ((y + 1 : Nat) : Int) by omega]
  · intro N' u hu1 hu2 hp
    show fX9_breaksApart_L45 _ _ _ _ _ _ _ _ _ = _
    have hb := mx_bd hG (a := 1) (x := mx s n 1 x 1 y) (b := -1) (y := u) (by omega) (by omega) ⟨hvs.1, hvs.2.1⟩ (by omega)
    rw [fX9_breaksApart_L45, hR.hi, if_neg (by rw [ii_le] <;> omega), difference_eq hF hG hR hvs (VA.g hG (by omega) (by omega)), bd_eq, in_eq hG hR hS hr hw (by omega) (by omega), bd_eq, mm_nat, hp.1, if_neg (by decide), in_eq hG hR hS hr hw (by omega) (by omega), bd_eq, hp.2.1, if_neg (by decide)]
    unfold fX9_breaksApart_L103
    simp (disch := omega) only [ii_eq]
    have h3 := hp.2.2
    generalize mx s n 1 (mx s n 1 x 1 y) (-1) u = v at *
    by_cases q1 : (u : Int) = x
    · rw [if_pos q1, if_neg (by omega)]
      by_cases q2 : (u : Int) = y
      · rw [if_pos q2, if_neg (by omega)]; rfl
      · rw [if_neg q2]; rfl
    · rw [if_neg q1]
      by_cases q2 : (u : Int) = y
      · rw [if_pos q2, if_neg (by omega)]; rfl
      · rw [if_neg q2]; rfl
  · intro N' u hu1 hu2 hp
    show fX9_breaksApart_L45 _ _ _ _ _ _ _ _ _ = fX9_breaksApart_L45 _ _ _ _ _ _ _ _ _
    have hb := mx_bd hG (a := 1) (x := mx s n 1 x 1 y) (b := -1) (y := u) (by omega) (by omega) ⟨hvs.1, hvs.2.1⟩ (by omega)
    rw [fX9_breaksApart_L45, hR.hi, if_neg (by rw [ii_le] <;> omega), difference_eq hF hG hR hvs (VA.g hG (by omega) (by omega)), bd_eq, in_eq hG hR hS hr hw (by omega) (by omega), bd_eq, mm_nat]
    simp only [nm_eq]
    rw [ii_lit1, ii_add, show ((u : Int) + 1) = ((u + 1 : Nat) : Int) by omega]
    cases h1 : S u with
    | false => rw [if_pos (by decide)]
    | true =>
      rw [if_neg (by decide), in_eq hG hR hS hr hw (by omega) (by omega), bd_eq]
      cases h2 : mm S (mx s n 1 (mx s n 1 x 1 y) (-1) u) with
      | false => rw [if_pos (by decide)]
      | true =>
        rw [if_neg (by decide)]
        unfold fX9_breaksApart_L103
        simp (disch := omega) only [ii_eq, nm_eq, ii_lit1, ii_add]
        rw [h1, h2] at hp
        generalize mx s n 1 (mx s n 1 x 1 y) (-1) u = v at *
        have e : ((u : Int) + 1) = ((u + 1 : Nat) : Int) := by omega
        by_cases q1 : (u : Int) = x ∧ v = y
        · rw [if_pos q1.1, if_pos q1.2]
        · by_cases q2 : (u : Int) = y ∧ v = x
          · rw [if_pos q2.1, if_pos q2.2, e]
            split <;> (try split) <;> rfl
          · exact absurd ⟨rfl, rfl, fun h => q1 ⟨by omega, h.2⟩, fun h => q2 ⟨by omega, h.2⟩⟩ hp
theorem breaksApart_eq (hF : 100000 ≤ F) (hG : GV s n fi la) (hR : RG s n fi la M) {S : Nat → Bool} (hS : Sup fi la S) {r : Nat} (hr : r < 17) (hw : Row M fi r S) {x : Nat} (hx : fi ≤ x ∧ x ≤ la) :
    ∃ b, fX9_breaksApart F (ii r) (ii x) M = some (bi b, M) ∧ (b = true ↔ RAp s n S x) := by
  have hg := hG.b
  have key := scanb (M := M) (L := fun N y => fX9_breaksApart_L5 F (ii r) (ii x) N (ii y) M) (fun y => S y = true ∧ ∃ u : Nat, S u = true ∧ mm S (mx s n 1 (mx s n 1 x 1 y) (-1) u) = true ∧ ¬ (u = x ∧ mx s n 1 (mx s n 1 x 1 y) (-1) u = y) ∧ ¬ (u = y ∧ mx s n 1 (mx s n 1 x 1 y) (-1) u = x)) (lo := fi) (hi := la + 1) (N := F) (x := fi) ?_ ?_ ?_ (by omega) (by omega) (by omega)
  · unfold fX9_breaksApart
    rw [hR.2.2.2, nm_eq]
    obtain ⟨b, b1, b2⟩ := key
    refine ⟨b, b1, ?_⟩
    rw [b2]
    constructor
    · rintro ⟨y, -, -, h, u, hu⟩; exact ⟨y, u, h, hu⟩
    · rintro ⟨y, u, h, hu⟩; exact ⟨y, (hS y h).1, by have := (hS y h).2; omega, h, u, hu⟩
  · intro N
    show fX9_breaksApart_L5 _ _ _ _ _ _ = _
    rw [fX9_breaksApart_L5, hR.hi, if_pos (by rw [ii_le] <;> omega)]; rfl
  · intro N y hy1 hy2 hp
    show fX9_breaksApart_L5 _ _ _ _ _ _ = _
    rw [fX9_breaksApart_L5, hR.hi, if_neg (by rw [ii_le] <;> omega), in_eq hG hR hS hr hw (by omega) (by omega), bd_eq, mm_nat, hp.1, if_neg (by decide), sum_eq hF hG hR (VA.g hG (by omega) (by omega)) (VA.g hG (by omega) (by omega)), bd_eq, nm_eq, hR.2.2.2]
    rcases breaksApart_45 hF hG hR hS hr hw hx (y := y) (by omega) (fun x3 M => fX9_breaksApart_L5 F (ii r) (ii x) N x3 M) with ⟨-, h⟩ | ⟨h, -⟩
    · exact h
    · exact absurd hp.2 h
  · intro N y hy1 hy2 hp
    show fX9_breaksApart_L5 _ _ _ _ _ _ = fX9_breaksApart_L5 _ _ _ _ _ _
    rw [fX9_breaksApart_L5, hR.hi, if_neg (by rw [ii_le] <;> omega), in_eq hG hR hS hr hw (by omega) (by omega), bd_eq, mm_nat]
    cases h1 : S y with
    | false => rw [if_pos (by decide), nm_eq, ii_lit1, ii_add, show ((y : Int) + 1) = ((y + 1 : Nat) : Int) by omega]
    | true =>
      rw [if_neg (by decide), sum_eq hF hG hR (VA.g hG (by omega) (by omega)) (VA.g hG (by omega) (by omega)), bd_eq, nm_eq, hR.2.2.2]
      rcases breaksApart_45 hF hG hR hS hr hw hx (y := y) (by omega) (fun x3 M => fX9_breaksApart_L5 F (ii r) (ii x) N x3 M) with ⟨h, -⟩ | ⟨-, h⟩
      · exact absurd ⟨h1, h⟩ hp
      · exact h
/-- mixed, with a first number that is no number of the ground in sort 0 -/
theorem mixed_v (hF : 100000 ≤ F) (hG : GV s n fi la) (hR : RG s n fi la M) {a x b y : Int} (ha : -9 ≤ a ∧ a ≤ 9) (hb : -9 ≤ b ∧ b ≤ 9) (hx : s ≠ 0 → VA s la x) (hy : VA s la y) : fX9_mixed F (ii a) (ii x) (ii b) (ii y) M = some (ii (mx s n a x b y), M) := by
  by_cases q : s = 0
  · subst q
    unfold fX9_mixed
    rw [hR.1, mx_0, if_pos (by decide), ii_mul, ii_mul, ii_add]
  · exact mixed_eq hF hG hR ha hb (hx q) hy
theorem VA.mx (hG : GV s n fi la) (hs : s ≠ 0) {a x b y : Int} (hx : 0 ≤ x ∧ x ≤ la) (hy : 0 ≤ y ∧ y ≤ la) : VA s la (mx s n a x b y) := by
  have := mx_g hG hs a b hx hy
  exact VA.g hG this.1 this.2
/-- a CLASH of an equation, as the reference sees it -/
def EV (s n : Nat) (a b c : Int) (x y z : Nat) : Int := mx s n 1 (mx s n a (if a = 0 then 0 else x) b (if b = 0 then 0 else y)) c (if c = 0 then 0 else z)
def smb (a b c : Int) (x y z : Nat) : Bool := decide ((a ≠ 0 ∧ b ≠ 0 ∧ x = y) ∨ (a ≠ 0 ∧ c ≠ 0 ∧ x = z) ∨ (b ≠ 0 ∧ c ≠ 0 ∧ y = z))
def EQ (s n : Nat) (a b c : Int) (u : Bool) (S : Nat → Bool) (x y z : Nat) : Bool := (decide (a = 0) || S x) && (decide (b = 0) || S y) && (decide (c = 0) || S z) && !(u && smb a b c x y z) && decide (EV s n a b c x y z = 0)
theorem ev_145 (hF : 100000 ≤ F) (hG : GV s n fi la) (hR : RG s n fi la M) {a b c : Int} (ha : -9 ≤ a ∧ a ≤ 9) (hb : -9 ≤ b ∧ b ≤ 9) (hc : -9 ≤ c ∧ c ≤ 9) {x y z : Nat} (hx : x ≤ la) (hy : y ≤ la) (hz : z ≤ la) (r l : Int32) :
    fX9_isEquation_L145 F r l (ii x) (ii y) (ii z) (ii a) (ii b) (ii c) M = some (bi (decide (EV s n a b c x y z = 0)), M) := by
  have hg := hG.b
  have k1 : ∀ x' y' : Int, 0 ≤ x' ∧ x' ≤ la → 0 ≤ y' ∧ y' ≤ la → fX9_isEquation_L171 F r l (ii x) (ii y) (ii z) (ii c) (ii y') (ii b) (ii x') (ii a) M = some (bi (decide (mx s n 1 (mx s n a x' b y') c (if c = 0 then 0 else z) = 0)), M) := by
    intro x' y' hx' hy'
    have hbd : ∀ z' : Int, 0 ≤ z' ∧ z' ≤ la → -10000 ≤ mx s n 1 (mx s n a x' b y') c z' ∧ mx s n 1 (mx s n a x' b y') c z' ≤ 10000 := by
      intro z' hz'
      by_cases q : s = 0
      · subst q
        rw [mx_0, mx_0]
        have r1 := mul_rng 9 300 (a := a) (x := x') (by omega) (by omega) (by omega) (by omega)
        have r2 := mul_rng 9 300 (a := b) (x := y') (by omega) (by omega) (by omega) (by omega)
        have r3 := mul_rng 9 300 (a := c) (x := z') (by omega) (by omega) (by omega) (by omega)
        omega
      · have := mx_in hG q 1 (mx s n a x' b y') c z'
        omega
    unfold fX9_isEquation_L171
    rw [mixed_eq hF hG hR ha hb (VA.g hG hx'.1 hx'.2) (VA.g hG hy'.1 hy'.2), bd_eq, ii_lit0, ii_lit1]
    simp (disch := omega) only [ii_eq]
    by_cases q : c = 0
    · rw [if_pos q, if_pos q, mixed_v hF hG hR (by omega) hc (fun h => VA.mx hG h hx' hy') (VA.z hG), bd_eq]
      have := hbd 0 (by omega)
      simp (disch := omega) only [ii_eq]
      split
      · rename_i h; rw [decide_eq_true h]; rfl
      · rename_i h; rw [decide_eq_false h]; rfl
    · rw [if_neg q, if_neg q, mixed_v hF hG hR (by omega) hc (fun h => VA.mx hG h hx' hy') (VA.g hG (by omega) (by omega)), bd_eq]
      have := hbd z (by omega)
      simp (disch := omega) only [ii_eq]
      split
      · rename_i h; rw [decide_eq_true h]; rfl
      · rename_i h; rw [decide_eq_false h]; rfl
  unfold fX9_isEquation_L145 EV
  rw [ii_lit0]
  simp (disch := omega) only [ii_eq]
  by_cases q1 : a = 0
  · rw [if_pos q1, if_pos q1]
    by_cases q2 : b = 0
    · rw [if_pos q2, if_pos q2, k1 0 0 (by omega) (by omega)]
    · rw [if_neg q2, if_neg q2, k1 0 y (by omega) (by omega)]
  · rw [if_neg q1, if_neg q1]
    by_cases q2 : b = 0
    · rw [if_pos q2, if_pos q2, k1 x 0 (by omega) (by omega)]
    · rw [if_neg q2, if_neg q2, k1 x y (by omega) (by omega)]
end RA
