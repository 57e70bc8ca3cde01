/-! sums, differences and products of sets: what both count, and the class -/
def acc (c : Nat → Nat) (p : Nat) : Nat → Nat := fun q => if q = p then c q + 1 else c q
/-- with x: the numbers of T, from the first on -/
def cy (pos : Nat → Nat → Nat) (T : Nat → Bool) (fi x : Nat) : Nat → (Nat → Nat) → Nat → Nat
  | 0, c => c
  | k + 1, c => if T (fi + k) then acc (cy pos T fi x k c) (pos x (fi + k)) else cy pos T fi x k c
/-- with all numbers of S -/
def cx (pos : Nat → Nat → Nat) (S T : Nat → Bool) (fi m : Nat) : Nat → Nat → Nat
  | 0 => fun _ => 0
  | k + 1 => if S (fi + k) then cy pos T fi (fi + k) m (cx pos S T fi m k) else cx pos S T fi m k
theorem cy_le (pos : Nat → Nat → Nat) (T : Nat → Bool) (fi x : Nat) (c : Nat → Nat) (p : Nat) : ∀ k, cy pos T fi x k c p ≤ c p + k
  | 0 => Nat.le_refl _
  | k + 1 => by
    have := cy_le pos T fi x c p k
    rw [cy]
    split
    · unfold acc; split <;> omega
    · omega
theorem cx_le (pos : Nat → Nat → Nat) (S T : Nat → Bool) (fi m p : Nat) : ∀ k, cx pos S T fi m k p ≤ m * k
  | 0 => Nat.le_refl _
  | k + 1 => by
    have := cx_le pos S T fi m p k
    rw [cx, Nat.mul_succ]
    split
    · have := cy_le pos T fi (fi + k) (cx pos S T fi m k) p m
      omega
    · omega
theorem cy_out {pos : Nat → Nat → Nat} {T : Nat → Bool} {fi x : Nat} {c : Nat → Nat} {p : Nat} (h : ∀ y, pos x y ≠ p) : ∀ k, cy pos T fi x k c p = c p
  | 0 => rfl
  | k + 1 => by
    rw [cy]
    split
    · unfold acc; rw [if_neg (fun e => h (fi + k) e.symm)]; exact cy_out h k
    · exact cy_out h k
theorem cx_out {pos : Nat → Nat → Nat} {S T : Nat → Bool} {fi m p : Nat} (h : ∀ x y, pos x y ≠ p) : ∀ k, cx pos S T fi m k p = 0
  | 0 => rfl
  | k + 1 => by
    rw [cx]
    split
    · rw [cy_out (h _)]; exact cx_out h k
    · exact cx_out h k
def rk (s n what : Nat) (x y : Int) : Int := if what = 0 then mx s n 1 x 1 y else if what = 1 then mx s n 1 x (-1) y else tm s n x y
/-- where a sum, difference or product is counted -/
def ps0 (s n fi la what : Nat) (x y : Nat) : Nat := if (fi ≤ x ∧ x ≤ la) ∧ fi ≤ y ∧ y ≤ la then (60 + rk s n what x y).toNat else 0
section SU
variable {F s n fi la : Nat}
theorem rk_rng (hG : GV s n fi la) {what : Nat} {x y : Nat} (hx : fi ≤ x ∧ x ≤ la) (hy : fi ≤ y ∧ y ≤ la) : -60 ≤ rk s n what x y ∧ rk s n what x y ≤ 3600 := by
  have hg := hG.b
  unfold rk
  by_cases q : s = 0
  · subst q
    split
    · rw [mx_0]; omega
    · split
      · rw [mx_0]; omega
      · have r1 := mul_rng 60 60 (a := (x : Int)) (x := (y : Int)) (by omega) (by omega) (by omega) (by omega)
        have : tm 0 n x y = (x : Int) * y := rfl
        have r2 := Int.mul_nonneg (a := (x : Int)) (b := (y : Int)) (by omega) (by omega)
        omega
  · split
    · have := mx_g hG q 1 1 (x := x) (y := y) (by omega) (by omega); omega
    · split
      · have := mx_g hG q 1 (-1) (x := x) (y := y) (by omega) (by omega); omega
      · have := tm_g hG q (x := x) (y := y) (by omega); omega
theorem ps0_rng (hG : GV s n fi la) (what x y : Nat) : ps0 s n fi la what x y ≤ 3660 := by
  unfold ps0
  split
  · rename_i h
    have := rk_rng hG (what := what) h.1 h.2
    omega
  · omega
theorem ps0_eq (hG : GV s n fi la) {what x y : Nat} (hx : fi ≤ x ∧ x ≤ la) (hy : fi ≤ y ∧ y ≤ la) : (ps0 s n fi la what x y : Int) = 60 + rk s n what x y := by
  have := rk_rng hG (what := what) hx hy
  unfold ps0
  rw [if_pos ⟨hx, hy⟩]; omega
theorem reckon_eq (hF : 100000 ≤ F) (hG : GV s n fi la) {M : Mem} (hC : CG s n fi la M) {what : Nat} (hw : what ≤ 2) {x y : Nat} (hx : x ≤ la) (hy : y ≤ la) : fX5_reckon F (ii x) (ii y) (ii what) M = some (ii (rk s n what x y), M) := by
  unfold fX5_reckon rk
  rw [show (-1 : Int32) = ii (-1) from rfl, show (1 : Int32) = ii 1 from rfl, mix_eq hF hG hC (by omega) (by omega) (VA.g hG (by omega) (by omega)) (VA.g hG (by omega) (by omega)), bd_eq, mix_eq hF hG hC (by omega) (by omega) (VA.g hG (by omega) (by omega)) (VA.g hG (by omega) (by omega)), bd_eq, times_eq hF hG hC (VA.g hG (by omega) (by omega)) (VA.g hG (by omega) (by omega)), bd_eq]
  rcases (by omega : what = 0 ∨ what = 1 ∨ what = 2) with rfl | rfl | rfl
  · rw [if_pos (by decide), if_pos rfl]
  · rw [if_neg (by decide), if_pos (by decide), if_neg (by decide), if_pos rfl]
  · rw [if_neg (by decide), if_neg (by decide), if_neg (by decide), if_neg (by decide)]
def sn (c : Nat → Nat) : Nat → Bool := fun p => decide (0 < c p)
/-- the class's round: c has been counted -/
def RKs (fi la : Nat) (M : Mem) (r : Nat) (c : Nat → Nat) : Prop := M.1 30 2 = ii r ∧ r < 1000000 ∧ (∀ p, p < 3661 → (0 < c p → M.1 31 p = ii r) ∧ (c p = 0 → ∃ v : Nat, v < r ∧ M.1 31 p = ii v)) ∧ ∀ v, bt (M.2 30 3) v = (fullB fi la v && sn c (60 + v))
theorem isNew_eq (hG : GV s n fi la) {M : Mem} (hC : CG s n fi la M) {r : Nat} {c : Nat → Nat} (hM : RKs fi la M r c) {v : Int} {p : Nat} (hv : (p : Int) = 60 + v) (hp : p < 3661) :
    ∃ M', fX5_isNew F (ii v) M = some (bi (!sn c p), M') ∧ Sm [30, 31] M M' ∧ RKs fi la M' r (acc c p) := by
  have hg := hG.b
  obtain ⟨m1, m2, m3, m4⟩ := hM
  have hvp : v = (p : Int) - 60 := by omega
  unfold fX5_isNew
  rw [show (60 : Int32) = ii 60 from rfl, ii_add, nm_eq, show ((60 : Int) + v) = (p : Int) by omega, if_neg (by rw [ii_lit0, ii_lt] <;> omega), if_neg (by rw [show (3661 : Int32) = ii 3661 from rfl, ii_le] <;> omega), gd_inb (by omega) (by omega) (by omega), ii_nat (by omega) (by omega), Int.toNat_natCast, m1]
  obtain ⟨h1, h2⟩ := m3 p hp
  by_cases q : 0 < c p
  · have : sn c p = true := decide_eq_true q
    rw [h1 q, if_pos rfl, this]
    refine ⟨M, rfl, Sm.rf, m1, m2, fun i hi => ?_, fun i => ?_⟩
    · unfold acc
      by_cases e : i = p
      · rw [if_pos e, e]; exact ⟨fun _ => h1 q, fun h => by omega⟩
      · rw [if_neg e]; exact m3 i hi
    · rw [m4 i]
      congr 1
      unfold sn acc
      by_cases e : 60 + i = p
      · rw [if_pos e, e, decide_eq_true q, decide_eq_true (by omega)]
      · rw [if_neg e]
  · obtain ⟨w, w1, w2⟩ := h2 (by omega)
    have hs : sn c p = false := decide_eq_false q
    rw [w2, if_neg (by rw [ii_eq (by omega) (by omega) (by omega) (by omega)]; omega), gd_inb (by omega) (by omega) (by omega), nm_eq, hs]
    have s1 : Sm [31] M (pI M 31 p (ii r)) := Sm.i (by decide)
    have hC1 := hC.sm s1 (by decide)
    rw [contains_ii hG hC1 (by omega) (by omega), bd_eq]
    have hcells : ∀ i, i < 3661 → (0 < acc c p i → (pI M 31 p (ii r)).1 31 i = ii r) ∧ (acc c p i = 0 → ∃ v : Nat, v < r ∧ (pI M 31 p (ii r)).1 31 i = ii v) := by
      intro i hi
      unfold acc
      by_cases e : i = p
      · rw [if_pos e, e, pI_c, up_c]; exact ⟨fun _ => rfl, fun h => by omega⟩
      · rw [if_neg e, pI_c, up_d e]; exact m3 i hi
    by_cases q2 : (fi : Int) ≤ v ∧ v ≤ la
    · rw [decide_eq_true q2, if_neg (by decide), nm_eq]
      obtain ⟨x, hx⟩ : ∃ x : Nat, v = x := ⟨v.toNat, by omega⟩
      subst hx
      rw [one_def, pI_2]
      refine ⟨_, rfl, (s1.mono (by decide)).tr (Sm.l (by decide)), ?_, m2, fun i hi => ?_, fun i => ?_⟩
      · rw [pL_1, pI_d (by decide)]; exact m1
      · rw [pL_1]; exact hcells i hi
      · rw [pL_c, uL_c, bt_or, bt_one (by omega), m4 i]
        unfold sn acc
        by_cases e : i = x
        · rw [if_pos (by omega), e, full_t (by omega) (by omega), decide_eq_true (show 0 < c (60 + x) + 1 by omega)]; simp
        · rw [if_neg (by omega), decide_eq_false e]; simp
    · rw [decide_eq_false q2, if_pos (by decide)]
      refine ⟨_, rfl, s1.mono (by decide), by rw [pI_d (by decide)]; exact m1, m2, hcells, fun i => ?_⟩
      rw [pI_2, m4 i]
      unfold sn acc
      by_cases e : 60 + i = p
      · have : fullB fi la i = false := decide_eq_false (by omega)
        rw [this]; simp
      · rw [if_neg e]
theorem sn_acc (c : Nat → Nat) {p : Nat} (hp : p < 3661) : fb_ct (sn (acc c p)) 3661 = fb_ct (sn c) 3661 + (if sn c p then 0 else 1) := by
  have hu := fb_ct_upd (sn c) true hp
  have e : fb_ct (sn (acc c p)) 3661 = fb_ct (fun k => if k = p then true else sn c k) 3661 := fb_ct_cong (fun i _ => by
    unfold sn acc
    by_cases e : i = p
    · rw [if_pos e, if_pos e, decide_eq_true (by omega)]
    · rw [if_neg e, if_neg e])
  rw [e]
  rw [if_pos rfl] at hu
  cases h : sn c p
  · rw [h] at hu; simp at hu ⊢; omega
  · rw [h] at hu; simp at hu ⊢; omega
theorem newWith_L (hF : 100000 ≤ F) (hG : GV s n fi la) {what : Nat} (hw : what ≤ 2) {x : Nat} (hx : fi ≤ x ∧ x ≤ la) {w : Int64} (hS : Sup fi la (bt w)) {r : Nat} {c : Nat → Nat} : ∀ (j N k : Nat) (M : Mem), fi + k + j = la + 1 → j < N → CG s n fi la M → RKs fi la M r (cy (ps0 s n fi la what) (bt w) fi x k c) →
    ∃ M', fX5_newWith_L12 F (ii x) w (ii what) N (ii ((fb_ct (sn (cy (ps0 s n fi la what) (bt w) fi x k c)) 3661 : Int) - fb_ct (sn c) 3661)) (ii ((fi + k : Nat) : Int)) M = some (ii ((fb_ct (sn (cy (ps0 s n fi la what) (bt w) fi x (la + 1 - fi) c)) 3661 : Int) - fb_ct (sn c) 3661), M') ∧ Sm [30, 31] M M' ∧ RKs fi la M' r (cy (ps0 s n fi la what) (bt w) fi x (la + 1 - fi) c)
  | 0, N + 1, k, M, h1, h2, hC, hM => by
    have hg := hG.b
    have e : k = la + 1 - fi := by omega
    subst e
    refine ⟨M, ?_, Sm.rf, hM⟩
    rw [fX5_newWith_L12, hC.2.2.2.1, if_pos (by rw [ii_lt] <;> omega)]
  | j + 1, N + 1, k, M, h1, h2, hC, hM => by
    have hg := hG.b
    rw [fX5_newWith_L12, hC.2.2.2.1, if_neg (by rw [ii_lt] <;> omega), isIn_eq hG hC hS (by omega) (by omega), bd_eq, mm_nat]
    simp only [nm_eq]
    rw [ii_lit1, ii_add, ii_add, show (((fi + k : Nat) : Int) + 1) = ((fi + (k + 1) : Nat) : Int) by omega]
    have ih := newWith_L hF hG hw hx hS (r := r) (c := c) j N (k + 1)
    have hcy : cy (ps0 s n fi la what) (bt w) fi x (k + 1) c = if bt w (fi + k) then acc (cy (ps0 s n fi la what) (bt w) fi x k c) (ps0 s n fi la what x (fi + k)) else cy (ps0 s n fi la what) (bt w) fi x k c := rfl
    cases hb : bt w (fi + k) with
    | false =>
      rw [hb, if_neg (by decide)] at hcy
      rw [hcy] at ih
      rw [if_pos (by decide)]
      exact ih M (by omega) (by omega) hC hM
    | true =>
      rw [hb, if_pos rfl] at hcy
      rw [hcy] at ih
      rw [if_neg (by decide), reckon_eq hF hG hC hw hx.2 (by omega), bd_eq]
      have hpr := ps0_rng hG what x (fi + k)
      obtain ⟨M1, g1, g2, g3⟩ := isNew_eq (F := F) hG hC hM (ps0_eq hG (what := what) hx (y := fi + k) (by omega)) (by omega)
      rw [g1, bd_eq]
      have hsa := sn_acc (cy (ps0 s n fi la what) (bt w) fi x k c) (p := ps0 s n fi la what x (fi + k)) (by omega)
      obtain ⟨M', r1, r2, r3⟩ := ih M1 (by omega) (by omega) (hC.sm g2 (by decide)) g3
      refine ⟨M', ?_, g2.tr r2, r3⟩
      cases hs : sn (cy (ps0 s n fi la what) (bt w) fi x k c) (ps0 s n fi la what x (fi + k)) with
      | true =>
        rw [hs, if_pos rfl, Nat.add_zero] at hsa
        rw [if_pos (by decide), ← hsa]
        exact r1
      | false =>
        rw [hs, if_neg (by decide)] at hsa
        rw [if_neg (by decide), show ((fb_ct (sn (cy (ps0 s n fi la what) (bt w) fi x k c)) 3661 : Int) - fb_ct (sn c) 3661 + 1) = (fb_ct (sn (acc (cy (ps0 s n fi la what) (bt w) fi x k c) (ps0 s n fi la what x (fi + k)))) 3661 : Int) - fb_ct (sn c) 3661 by omega]
        exact r1
theorem pair_L (hF : 100000 ≤ F) (hG : GV s n fi la) {what : Nat} (hw : what ≤ 2) {w w' : Int64} (hS : Sup fi la (bt w)) (hT : Sup fi la (bt w')) {r : Nat} : ∀ (j N k : Nat) (M : Mem), fi + k + j = la + 1 → j < N → CG s n fi la M → RKs fi la M r (cx (ps0 s n fi la what) (bt w) (bt w') fi (la + 1 - fi) k) →
    ∃ M', fX5_pair_L27 F w w' (ii what) N (ii (fb_ct (sn (cx (ps0 s n fi la what) (bt w) (bt w') fi (la + 1 - fi) k)) 3661)) (ii ((fi + k : Nat) : Int)) M = some (ii (fb_ct (sn (cx (ps0 s n fi la what) (bt w) (bt w') fi (la + 1 - fi) (la + 1 - fi))) 3661), M') ∧ Sm [30, 31] M M' ∧ RKs fi la M' r (cx (ps0 s n fi la what) (bt w) (bt w') fi (la + 1 - fi) (la + 1 - fi))
  | 0, N + 1, k, M, h1, h2, hC, hM => by
    have hg := hG.b
    have e : k = la + 1 - fi := by omega
    subst e
    refine ⟨M, ?_, Sm.rf, hM⟩
    rw [fX5_pair_L27, hC.2.2.2.1, if_pos (by rw [ii_lt] <;> omega)]
  | j + 1, N + 1, k, M, h1, h2, hC, hM => by
    have hg := hG.b
    rw [fX5_pair_L27, hC.2.2.2.1, if_neg (by rw [ii_lt] <;> omega), isIn_eq hG hC hS (by omega) (by omega), bd_eq, mm_nat]
    simp only [nm_eq]
    rw [ii_lit1, ii_add, show (((fi + k : Nat) : Int) + 1) = ((fi + (k + 1) : Nat) : Int) by omega]
    have ih := pair_L hF hG hw hS hT (r := r) j N (k + 1)
    have hcx : cx (ps0 s n fi la what) (bt w) (bt w') fi (la + 1 - fi) (k + 1) = if bt w (fi + k) then cy (ps0 s n fi la what) (bt w') fi (fi + k) (la + 1 - fi) (cx (ps0 s n fi la what) (bt w) (bt w') fi (la + 1 - fi) k) else cx (ps0 s n fi la what) (bt w) (bt w') fi (la + 1 - fi) k := rfl
    cases hb : bt w (fi + k) with
    | false =>
      rw [hb, if_neg (by decide)] at hcx
      rw [hcx] at ih
      rw [if_pos (by decide)]
      exact ih M (by omega) (by omega) hC hM
    | true =>
      rw [hb, if_pos rfl] at hcx
      rw [hcx] at ih
      rw [if_neg (by decide)]
      unfold fX5_newWith
      rw [nm_eq, hC.2.2.1]
      obtain ⟨M1, g1, g2, g3⟩ := newWith_L hF hG hw (x := fi + k) (by omega) hT (r := r) (c := cx (ps0 s n fi la what) (bt w) (bt w') fi (la + 1 - fi) k) (la + 1 - fi) F 0 M (by omega) (by omega) hC hM
      have e0 : (fb_ct (sn (cy (ps0 s n fi la what) (bt w') fi (fi + k) 0 (cx (ps0 s n fi la what) (bt w) (bt w') fi (la + 1 - fi) k))) 3661 : Int) - fb_ct (sn (cx (ps0 s n fi la what) (bt w) (bt w') fi (la + 1 - fi) k)) 3661 = 0 := by
        rw [cy]; omega
      rw [e0] at g1
      have g1' : fX5_newWith_L12 F (ii ((fi + k : Nat) : Int)) w' (ii what) F 0 (ii fi) M = _ := g1
      rw [g1', bd_eq, ii_add]
      obtain ⟨M', r1, r2, r3⟩ := ih M1 (by omega) (by omega) (hC.sm g2 (by decide)) g3
      refine ⟨M', ?_, g2.tr r2, r3⟩
      rw [← r1]
      congr 2
      omega
theorem pair_eq (hF : 100000 ≤ F) (hG : GV s n fi la) {what : Nat} (hw : what ≤ 2) {w w' : Int64} (hS : Sup fi la (bt w)) (hT : Sup fi la (bt w')) {M : Mem} (hC : CG s n fi la M) {r : Nat} (hr : r + 1 < 1000000) (h30 : M.1 30 2 = ii r) (h31 : ∀ p, p < 3661 → ∃ v : Nat, v ≤ r ∧ M.1 31 p = ii v) :
    ∃ M', fX5_pair F w w' (ii what) M = some (ii (fb_ct (sn (cx (ps0 s n fi la what) (bt w) (bt w') fi (la + 1 - fi) (la + 1 - fi))) 3661), M') ∧ Sm [30, 31] M M' ∧ RKs fi la M' (r + 1) (cx (ps0 s n fi la what) (bt w) (bt w') fi (la + 1 - fi) (la + 1 - fi)) := by
  have hg := hG.b
  unfold fX5_pair
  simp only [nm_eq]
  have s1 : Sm [30, 31] M (pL (pI M 30 2 (ii ((r + 1 : Nat) : Int))) 30 3 0) := (Sm.i (by decide)).tr (Sm.l (by decide))
  rw [h30, ii_lit1, ii_add, show ((r : Int) + 1) = ((r + 1 : Nat) : Int) by omega, (s1 3 (by decide)).1, hC.2.2.1]
  have hM : RKs fi la (pL (pI M 30 2 (ii ((r + 1 : Nat) : Int))) 30 3 0) (r + 1) (fun _ => 0) := by
    refine ⟨by rw [pL_1, pI_c, up_c], hr, fun p hp => ⟨fun h => absurd h (show ¬ 0 < 0 by decide), fun _ => ?_⟩, fun v => ?_⟩
    · obtain ⟨v, v1, v2⟩ := h31 p hp
      exact ⟨v, by omega, by rw [pL_1, pI_d (by decide)]; exact v2⟩
    · rw [pL_c, uL_c, bt_0]
      unfold sn
      rw [decide_eq_false (show ¬ 0 < 0 by decide)]; simp
  obtain ⟨M', g1, g2, g3⟩ := pair_L hF hG hw hS hT (r := r + 1) (la + 1 - fi) F 0 _ (by omega) (by omega) (hC.sm s1 (by decide)) hM
  refine ⟨M', ?_, s1.tr g2, g3⟩
  have e : fb_ct (sn (cx (ps0 s n fi la what) (bt w) (bt w') fi (la + 1 - fi) 0)) 3661 = 0 := fb_ct_zero.mpr (fun k _ => rfl)
  rw [e] at g1
  exact g1
end SU
