/-! the first CLASH of a set: the class, sums and threes -/
section CD
variable {F s n fi la : Nat} {M : Mem}
/-- the inner part of Qa -/
def Qu (s n : Nat) (S : Nat → Bool) (x y u : Nat) : Prop := u ≠ x ∧ S u = true ∧ (u : Int) ≤ mx s n 1 (mx s n 1 x 1 y) (-1) u ∧ mm S (mx s n 1 (mx s n 1 x 1 y) (-1) u) = true
theorem findsSum_eq (hF : 100000 ≤ F) (hG : GV s n fi la) (hC : CG s n fi la M) {w : Int64} (hS : Sup fi la (bt w)) {x y : Nat} (hx : fi ≤ x ∧ x ≤ la) (hy : fi ≤ y ∧ y ≤ la) :
    (∃ u, Qu s n (bt w) x y u ∧ (∀ z, z < u → ¬ Qu s n (bt w) x y z) ∧ fX3_findsEqualSum F (ii x) (ii y) w M = some (bi true, tl M 12 (ii x) (ii y) (ii u) (ii (mx s n 1 (mx s n 1 x 1 y) (-1) u)))) ∨ ((∀ u, ¬ Qu s n (bt w) x y u) ∧ fX3_findsEqualSum F (ii x) (ii y) w M = some (bi false, M)) := by
  have hg := hG.b
  have hvs := VA.sum hG (x := x) (y := y) (by omega) (by omega)
  have key := scan (L := fun N u => fX3_findsEqualSum_L22 F (ii x) (ii y) w N (ii (mx s n 1 x 1 y)) (ii (u : Nat)) M) (p := Qu s n (bt w) x y) (A := some (bi false, M)) (B := fun u => some (bi true, tl M 12 (ii x) (ii y) (ii u) (ii (mx s n 1 (mx s n 1 x 1 y) (-1) u)))) (lo := fi) (hi := la + 1) ?_ ?_ ?_ (la + 1 - fi) F fi (by omega) (by omega) (by omega)
  · unfold fX3_findsEqualSum
    rw [ii_lit1, mix_eq hF hG hC (by omega) (by omega) (VA.g hG (by omega) (by omega)) (VA.g hG (by omega) (by omega)), bd_eq, nm_eq, hC.2.2.1]
    rcases key with ⟨u, u1, u2, u3, u4, u5⟩ | ⟨u1, u2⟩
    · exact Or.inl ⟨u, u3, fun z hz h => u4 z (hS z h.2.1).1 hz h, u5⟩
    · exact Or.inr ⟨fun u h => u1 u (hS u h.2.1).1 (by have := (hS u h.2.1).2; omega) h, u2⟩
  · intro N
    show fX3_findsEqualSum_L22 _ _ _ _ _ _ _ _ = _
    rw [fX3_findsEqualSum_L22, hC.2.2.2.1, if_pos (by rw [ii_lt] <;> omega)]; rfl
  · intro N u hu1 hu2 hp
    show fX3_findsEqualSum_L22 _ _ _ _ _ _ _ _ = _
    have hb := mx_bd hG (a := 1) (x := mx s n 1 x 1 y) (b := -1) (y := u) (by omega) (by omega) ⟨hvs.1, hvs.2.1⟩ (by omega)
    have h1 := hp.1
    have h3 := hp.2.2.1
    rw [fX3_findsEqualSum_L22, hC.2.2.2.1, if_neg (by rw [ii_lt] <;> omega), if_neg (by rw [ii_eq (by omega) (by omega) (by omega) (by omega)]; omega), isIn_eq hG hC hS (by omega) (by omega), bd_eq, mm_nat, hp.2.1, if_neg (by decide), ii_lit1, ii_neg, mix_eq hF hG hC (by omega) (by omega) hvs (VA.g hG (by omega) (by omega)), bd_eq, if_neg (by rw [ii_lt] <;> omega), isIn_eq hG hC hS (by omega) (by omega), bd_eq, hp.2.2.2, if_neg (by decide), tell_eq, bd_eq, bi_isb, gd_eq]
  · intro N u hu1 hu2 hp
    show fX3_findsEqualSum_L22 _ _ _ _ _ _ _ _ = fX3_findsEqualSum_L22 _ _ _ _ _ _ _ _
    have hb := mx_bd hG (a := 1) (x := mx s n 1 x 1 y) (b := -1) (y := u) (by omega) (by omega) ⟨hvs.1, hvs.2.1⟩ (by omega)
    rw [fX3_findsEqualSum_L22, hC.2.2.2.1, if_neg (by rw [ii_lt] <;> omega), isIn_eq hG hC hS (by omega) (by omega), bd_eq, mm_nat, ii_lit1, ii_neg, mix_eq hF hG hC (by omega) (by omega) hvs (VA.g hG (by omega) (by omega)), bd_eq, isIn_eq hG hC hS (by omega) (by omega), bd_eq]
    simp only [nm_eq]
    rw [ii_add, show ((u : Int) + 1) = ((u + 1 : Nat) : Int) by omega]
    simp (disch := omega) only [ii_eq, ii_lt]
    by_cases q : (u : Int) = x
    · rw [if_pos q]
    · rw [if_neg q]
      cases hu : bt w u with
      | false => rw [if_pos (by decide)]
      | true =>
        rw [if_neg (by decide)]
        by_cases q2 : mx s n 1 (mx s n 1 x 1 y) (-1) u < u
        · rw [if_pos q2]
        · rw [if_neg q2]
          cases hm : mm (bt w) (mx s n 1 (mx s n 1 x 1 y) (-1) u) with
          | false => rw [if_pos (by decide)]
          | true => exact absurd ⟨by omega, hu, by omega, hm⟩ hp
theorem findsSumsFrom_eq (hF : 100000 ≤ F) (hG : GV s n fi la) (hC : CG s n fi la M) {w : Int64} (hS : Sup fi la (bt w)) {x : Nat} (hx : fi ≤ x ∧ x ≤ la) :
    (∃ y u, ((x ≤ y ∧ bt w y = true) ∧ Qu s n (bt w) x y u) ∧ (∀ y', y' < y → ∀ u', ¬ ((x ≤ y' ∧ bt w y' = true) ∧ Qu s n (bt w) x y' u')) ∧ (∀ z, z < u → ¬ Qu s n (bt w) x y z) ∧ fX3_findsEqualSumsFrom F (ii x) w M = some (bi true, tl M 12 (ii x) (ii y) (ii u) (ii (mx s n 1 (mx s n 1 x 1 y) (-1) u)))) ∨ ((∀ y u, ¬ ((x ≤ y ∧ bt w y = true) ∧ Qu s n (bt w) x y u)) ∧ fX3_findsEqualSumsFrom F (ii x) w M = some (bi false, M)) := by
  have hg := hG.b
  have out := scanx (L := fun N y => fX3_findsEqualSumsFrom_L3 F (ii x) w N (ii (y : Nat)) M) (P := fun y => bt w y = true ∧ ∃ u, Qu s n (bt w) x y u) (R := fun y res => ∃ u, Qu s n (bt w) x y u ∧ (∀ z, z < u → ¬ Qu s n (bt w) x y z) ∧ res = some (bi true, tl M 12 (ii x) (ii y) (ii u) (ii (mx s n 1 (mx s n 1 x 1 y) (-1) u)))) (A := some (bi false, M)) (lo := x) (hi := la + 1) ?_ ?_ (la + 1 - x) F x (by omega) (by omega) (by omega)
  · unfold fX3_findsEqualSumsFrom
    rcases out with ⟨y, y1, y2, y3, y4, u, u1, u2, u3⟩ | ⟨y1, y2⟩
    · exact Or.inl ⟨y, u, ⟨⟨y1, y3.1⟩, u1⟩, fun y' hy' u' h => y4 y' h.1.1 hy' ⟨h.1.2, u', h.2⟩, u2, u3⟩
    · exact Or.inr ⟨fun y u h => y1 y h.1.1 (by have := (hS y h.1.2).2; omega) ⟨h.1.2, u, h.2⟩, y2⟩
  · intro N
    show fX3_findsEqualSumsFrom_L3 _ _ _ _ _ _ = _
    rw [fX3_findsEqualSumsFrom_L3, hC.2.2.2.1, if_pos (by rw [ii_lt] <;> omega)]; rfl
  · intro N y hy1 hy2
    show (_ ∧ _) ∨ (_ ∧ fX3_findsEqualSumsFrom_L3 _ _ _ _ _ _ = fX3_findsEqualSumsFrom_L3 _ _ _ _ _ _)
    simp only [fX3_findsEqualSumsFrom_L3]
    rw [hC.2.2.2.1, if_neg (by rw [ii_lt] <;> omega), isIn_eq hG hC hS (by omega) (by omega), bd_eq, mm_nat]
    simp only [nm_eq]
    rw [ii_lit1, ii_add, show ((y : Int) + 1) = ((y + 1 : Nat) : Int) by omega]
    cases hb : bt w y with
    | false => right; exact ⟨fun h => (by cases h.1), by rw [if_pos (by decide)]⟩
    | true =>
      rw [if_neg (by decide)]
      rcases findsSum_eq hF hG hC hS hx (y := y) (by omega) with ⟨u, u1, u2, u3⟩ | ⟨u1, u2⟩
      · left
        refine ⟨⟨rfl, u, u1⟩, u, u1, u2, ?_⟩
        rw [u3, bd_eq, if_neg (by decide)]; rfl
      · right
        refine ⟨fun ⟨_, u, h⟩ => u1 u h, ?_⟩
        rw [u2, bd_eq, if_pos (by decide)]
theorem findsSums_eq (hF : 100000 ≤ F) (hG : GV s n fi la) (hC : CG s n fi la M) {w : Int64} (hS : Sup fi la (bt w)) :
    (∃ x y u, F3 (Qa s n (bt w)) x y u ∧ fX3_findsEqualSums F w M = some (bi true, tl M 12 (ii x) (ii y) (ii u) (ii (mx s n 1 (mx s n 1 x 1 y) (-1) u)))) ∨ ((∀ x y u, ¬ Qa s n (bt w) x y u) ∧ fX3_findsEqualSums F w M = some (bi false, M)) := by
  have hg := hG.b
  have out := scanx (L := fun N x => fX3_findsEqualSums_L8 F w N (ii (x : Nat)) M) (P := fun x => bt w x = true ∧ ∃ y u, (x ≤ y ∧ bt w y = true) ∧ Qu s n (bt w) x y u) (R := fun x res => ∃ y u, ((x ≤ y ∧ bt w y = true) ∧ Qu s n (bt w) x y u) ∧ (∀ y', y' < y → ∀ u', ¬ ((x ≤ y' ∧ bt w y' = true) ∧ Qu s n (bt w) x y' u')) ∧ (∀ z, z < u → ¬ Qu s n (bt w) x y z) ∧ res = some (bi true, tl M 12 (ii x) (ii y) (ii u) (ii (mx s n 1 (mx s n 1 x 1 y) (-1) u)))) (A := some (bi false, M)) (lo := fi) (hi := la + 1) ?_ ?_ (la + 1 - fi) F fi (by omega) (by omega) (by omega)
  · unfold fX3_findsEqualSums
    rw [hC.2.2.1, nm_eq]
    rcases out with ⟨x, x1, x2, x3, x4, y, u, h1, h2, h3, h4⟩ | ⟨x1, x2⟩
    · refine Or.inl ⟨x, y, u, F3.mk ⟨x3.1, h1.1, h1.2⟩ (fun x' hx' y' z' h => x4 x' (hS x' h.1).1 hx' ⟨h.1, y', z', h.2⟩) (fun y' hy' z' h => h2 y' hy' z' h.2) (fun z' hz' h => h3 z' hz' h.2.2), h4⟩
    · exact Or.inr ⟨fun x y z h => x1 x (hS x h.1).1 (by have := (hS x h.1).2; omega) ⟨h.1, y, z, h.2⟩, x2⟩
  · intro N
    show fX3_findsEqualSums_L8 _ _ _ _ _ = _
    rw [fX3_findsEqualSums_L8, hC.2.2.2.1, if_pos (by rw [ii_lt] <;> omega)]; rfl
  · intro N x hx1 hx2
    show (_ ∧ _) ∨ (_ ∧ fX3_findsEqualSums_L8 _ _ _ _ _ = fX3_findsEqualSums_L8 _ _ _ _ _)
    simp only [fX3_findsEqualSums_L8]
    rw [hC.2.2.2.1, if_neg (by rw [ii_lt] <;> omega), isIn_eq hG hC hS (by omega) (by omega), bd_eq, mm_nat]
    simp only [nm_eq]
    rw [ii_lit1, ii_add, show ((x : Int) + 1) = ((x + 1 : Nat) : Int) by omega]
    cases hb : bt w x with
    | false => right; exact ⟨fun h => (by cases h.1), by rw [if_pos (by decide)]⟩
    | true =>
      rw [if_neg (by decide)]
      rcases findsSumsFrom_eq hF hG hC hS (x := x) (by omega) with ⟨y, u, h1, h2, h3, h4⟩ | ⟨u1, u2⟩
      · left
        refine ⟨⟨rfl, y, u, h1⟩, y, u, h1, h2, h3, ?_⟩
        rw [h4, bd_eq, if_neg (by decide)]; rfl
      · right
        refine ⟨fun ⟨_, y, u, h⟩ => u1 y u h, ?_⟩
        rw [u2, bd_eq, if_pos (by decide)]
theorem chb_la {fi la : Nat} {S : Nat → Bool} (hS : Sup fi la S) {c : Int} {z : Nat} (h : chb c S z = true) : z ≤ la := by
  by_cases q : c = 0
  · rw [(chb_0 q).mp h]; omega
  · rw [chb_1 q] at h; exact (hS z h).2
theorem findsThreeFrom_eq (hF : 100000 ≤ F) (hG : GV s n fi la) (hC : CG s n fi la M) {k : Nat} {l : LawT} (hk : 6 ≤ k ∧ k < 12) (hV : LV l) (hL : CL M k (lk l) (lA l) (wa l) (wb l) (wc l) (wu l)) (hA : Ans s n fi la (wc l) (M.2 13)) {w : Int64} (hS : Sup fi la (bt w)) {x : Nat} (hx : x ≤ la) (hx2 : chb (wa l) (bt w) x = true) :
    (∃ y z, KK s n fi la l (bt w) x y z ∧ (∀ y', y' < y → ∀ z', ¬ KK s n fi la l (bt w) x y' z') ∧ (∀ z', z' < z → ¬ KK s n fi la l (bt w) x y z') ∧ fX3_findsThreeFrom F k (ii x) w M = some (bi true, tl M 12 (ii x) (ii y) (ii z) (ii 0))) ∨ ((∀ y z, ¬ KK s n fi la l (bt w) x y z) ∧ fX3_findsThreeFrom F k (ii x) w M = some (bi false, M)) := by
  have hg := hG.b
  have ha := hV.war
  have hb := hV.wbr
  have hc := hV.wcr
  have out := scanx (L := fun N y => fX3_findsThreeFrom_L23 F k (ii x) w N (chs (wb l) w) (chs (wc l) w) (ii (y : Nat)) M) (P := fun y => ∃ z, KK s n fi la l (bt w) x y z) (R := fun y res => ∃ z, KK s n fi la l (bt w) x y z ∧ (∀ z', z' < z → ¬ KK s n fi la l (bt w) x y z') ∧ res = some (bi true, tl M 12 (ii x) (ii y) (ii z) (ii 0))) (A := some (bi false, M)) (lo := 0) (hi := la + 1) ?_ ?_ (la + 1) F 0 (by omega) (by omega) (by omega)
  · unfold fX3_findsThreeFrom
    rw [isLaw_t hk.1 hk.2, gd_eq, hL.2.2.2.1, choices_eq hb, bd_eq, hL.2.2.2.2.1, choices_eq hc, bd_eq, ii_lit0]
    rcases out with ⟨y, y1, y2, y3, y4, z, z1, z2, z3⟩ | ⟨y1, y2⟩
    · exact Or.inl ⟨y, z, z1, fun y' hy' z' h => y4 y' (by omega) hy' ⟨z', h⟩, z2, z3⟩
    · exact Or.inr ⟨fun y z h => y1 y (by omega) (by have := chb_la hS h.2.1; omega) ⟨z, h⟩, y2⟩
  · intro N
    show fX3_findsThreeFrom_L23 _ _ _ _ _ _ _ _ _ = _
    rw [fX3_findsThreeFrom_L23, hC.2.2.2.1, if_pos (by rw [ii_lt] <;> omega)]; rfl
  · intro N y hy1 hy2
    show (_ ∧ _) ∨ (_ ∧ fX3_findsThreeFrom_L23 _ _ _ _ _ _ _ _ _ = fX3_findsThreeFrom_L23 _ _ _ _ _ _ _ _ _)
    simp only [fX3_findsThreeFrom_L23]
    rw [hC.2.2.2.1, if_neg (by rw [ii_lt] <;> omega)]
    simp only [nm_eq]
    rw [sr_def, ii_lit1, ii_add, show ((y : Int) + 1) = ((y + 1 : Nat) : Int) by omega]
    have hs := sr_cmp (x := y) (by omega) (chs (wb l) w)
    rw [bt_chs] at hs
    cases hq : chb (wb l) (bt w) y with
    | false =>
      right
      refine ⟨fun ⟨z, h⟩ => (by have := h.2.1; rw [hq] at this; cases this), ?_⟩
      rw [if_pos (hs.mpr hq)]
    | true =>
      rw [if_neg (fun e => by rw [hs.mp e] at hq; cases hq)]
      obtain ⟨v, v1, v2⟩ := fitting_eq hF hG hC hk hV.1 hL ha hb hc hA hx (y := y) (by omega)
      rw [v1, bd_eq]
      have hbit : ∀ z, bt (v &&& chs (wc l) w) z = true ↔ KK s n fi la l (bt w) x y z := by
        intro z
        rw [bt_and, v2, bt_chs, Bool.and_eq_true]
        unfold KK
        constructor
        · rintro ⟨h1, h2⟩; exact ⟨hx2, hq, h2, h1⟩
        · rintro ⟨-, -, h2, h1⟩; exact ⟨h1, h2⟩
      by_cases q : v &&& chs (wc l) w = 0
      · right
        refine ⟨fun ⟨z, h⟩ => ?_, by rw [if_pos ((lg_cmp_eq _ _).mpr q)]⟩
        have := (hbit z).mpr h
        rw [q, bt_0] at this; cases this
      · left
        have hpos : 0 < cnt (v &&& chs (wc l) w) := by
          apply Classical.byContradiction
          intro hn
          exact q (bt_zero.mpr (fun z _ => cnt_0 (by omega) z))
        have hlo := lo_ok hpos
        refine ⟨⟨_, (hbit _).mp hlo.2.1⟩, _, (hbit _).mp hlo.2.1, fun z' hz' h => ?_, ?_⟩
        · have := (hbit z').mpr h
          rw [hlo.2.2 z' hz'] at this; cases this
        · rw [if_neg (fun e => q ((lg_cmp_eq _ _).mp e)), least_eq hpos, bd_eq, tell_eq, bd_eq, bi_isb, gd_eq]
          rfl
theorem findsThree_eq (hF : 100000 ≤ F) (hG : GV s n fi la) (hC : CG s n fi la M) {k : Nat} {l : LawT} (hk : 6 ≤ k ∧ k < 12) (hV : LV l) (hL : CL M k (lk l) (lA l) (wa l) (wb l) (wc l) (wu l)) {w : Int64} (hS : Sup fi la (bt w)) :
    ∃ g, (∃ x y z, F3 (KK s n fi la l (bt w)) x y z ∧ fX3_findsThree F k w M = some (bi true, tl (pLr M 13 g) 12 (ii x) (ii y) (ii z) (ii 0))) ∨ ((∀ x y z, ¬ KK s n fi la l (bt w) x y z) ∧ fX3_findsThree F k w M = some (bi false, pLr M 13 g)) := by
  have hg := hG.b
  have ha := hV.war
  have hc := hV.wcr
  obtain ⟨g, g1, g2⟩ := take_eq hF hG hC hk hL.2.2.2.2.1 hc
  refine ⟨g, ?_⟩
  unfold fX3_findsThree
  have hs13 : Sm [13] M (pLr M 13 g) := Sm.lr (by decide)
  rw [isLaw_t hk.1 hk.2, gd_eq, g1, bv_eq, pLr_1, hL.2.2.1, choices_eq ha, bd_eq]
  have hC' := hC.sm hs13 (by decide)
  have hL' := hL.sm hs13 (by simp; omega)
  have hA' : Ans s n fi la (wc l) ((pLr M 13 g).2 13) := by rw [pLr_c]; exact g2
  generalize pLr M 13 g = M1 at *
  have out := scanx (L := fun N x => fX3_findsThree_L18 F k w N (chs (wa l) w) (ii (x : Nat)) M1) (P := fun x => ∃ y z, KK s n fi la l (bt w) x y z) (R := fun x res => ∃ y z, KK s n fi la l (bt w) x y z ∧ (∀ y', y' < y → ∀ z', ¬ KK s n fi la l (bt w) x y' z') ∧ (∀ z', z' < z → ¬ KK s n fi la l (bt w) x y z') ∧ res = some (bi true, tl M1 12 (ii x) (ii y) (ii z) (ii 0))) (A := some (bi false, M1)) (lo := 0) (hi := la + 1) ?_ ?_ (la + 1) F 0 (by omega) (by omega) (by omega)
  · rw [ii_lit0]
    rcases out with ⟨x, x1, x2, x3, x4, y, z, h1, h2, h3, h4⟩ | ⟨x1, x2⟩
    · exact Or.inl ⟨x, y, z, F3.mk h1 (fun x' hx' y' z' h => x4 x' (by omega) hx' ⟨y', z', h⟩) h2 h3, h4⟩
    · exact Or.inr ⟨fun x y z h => x1 x (by omega) (by have := chb_la hS h.1; omega) ⟨y, z, h⟩, x2⟩
  · intro N
    show fX3_findsThree_L18 _ _ _ _ _ _ _ = _
    rw [fX3_findsThree_L18, hC'.2.2.2.1, if_pos (by rw [ii_lt] <;> omega)]; rfl
  · intro N x hx1 hx2
    show (_ ∧ _) ∨ (_ ∧ fX3_findsThree_L18 _ _ _ _ _ _ _ = fX3_findsThree_L18 _ _ _ _ _ _ _)
    simp only [fX3_findsThree_L18]
    rw [hC'.2.2.2.1, if_neg (by rw [ii_lt] <;> omega)]
    simp only [nm_eq]
    rw [sr_def, ii_lit1, ii_add, show ((x : Int) + 1) = ((x + 1 : Nat) : Int) by omega]
    have hs := sr_cmp (x := x) (by omega) (chs (wa l) w)
    rw [bt_chs] at hs
    cases hq : chb (wa l) (bt w) x with
    | false =>
      right
      refine ⟨fun ⟨y, z, h⟩ => (by have := h.1; rw [hq] at this; cases this), ?_⟩
      rw [if_pos (hs.mpr hq)]
    | true =>
      rw [if_neg (fun e => by rw [hs.mp e] at hq; cases hq)]
      rcases findsThreeFrom_eq hF hG hC' hk hV hL' hA' hS (x := x) (by omega) hq with ⟨y, z, h1, h2, h3, h4⟩ | ⟨h1, h2⟩
      · left
        refine ⟨⟨y, z, h1⟩, y, z, h1, h2, h3, ?_⟩
        rw [h4, bd_eq, if_neg (by decide)]; rfl
      · right
        refine ⟨fun ⟨y, z, h⟩ => h1 y z h, ?_⟩
        rw [h2, bd_eq, if_pos (by decide)]
/-- the class: the first CLASH of one law -/
theorem findsClash_eq (hF : 100000 ≤ F) (hG : GV s n fi la) (hC : CG s n fi la M) {k : Nat} {l : LawT} (hk : 6 ≤ k ∧ k < 12) (hV : LV l) (hL : CL M k (lk l) (lA l) (wa l) (wb l) (wc l) (wu l)) {w : Int64} (hS : Sup fi la (bt w)) :
    ∃ M', Sm [12, 13] M M' ∧ ((∃ x y z, F3 (QC s n fi la l (bt w)) x y z ∧ Wt (M'.1 12) x y z (vC s n l x y z) ∧ fX3_findsClash F k w M = some (bi true, M')) ∨ ((∀ x y z, ¬ QC s n fi la l (bt w) x y z) ∧ fX3_findsClash F k w M = some (bi false, M'))) := by
  have h4 := hV.1
  have hs1 : ∀ x y z v, Sm [12, 13] M (tl M 12 x y z v) := fun x y z v => tl_sm (by decide) x y z v
  unfold fX3_findsClash QC vC
  rw [isLaw_t hk.1 hk.2, gd_eq, hL.1, hL.2.1]
  by_cases q0 : lk l = 0
  · have hA := hV.2.2.1 q0
    rw [q0, if_pos (by decide), show ii (lA l) = ii ((lA l).toNat : Nat) by congr 1; omega]
    simp only [if_true, if_neg (show ¬ (0 : Nat) = 3 by decide)]
    rcases findsRow_eq hF hG hC hS (k := (lA l).toNat) (by omega) with ⟨x, y, z, h1, h2⟩ | ⟨h1, h2⟩
    · exact ⟨_, hs1 _ _ _ _, Or.inl ⟨x, y, z, h1, tl_wt _ _ _ _ _ _, by rw [h2, bd_eq, bi_isb, gd_eq]⟩⟩
    · exact ⟨M, Sm.rf, Or.inr ⟨h1, by rw [h2, bd_eq, bi_isb, gd_eq]⟩⟩
  · rw [if_neg (by rw [ii_lit0, ii_eq (by omega) (by omega) (by omega) (by omega)]; omega)]
    simp only [if_neg q0]
    by_cases q3 : lk l = 3
    · rw [q3, if_pos (by decide)]
      simp only [if_true]
      rcases findsSums_eq hF hG hC hS with ⟨x, y, z, h1, h2⟩ | ⟨h1, h2⟩
      · exact ⟨_, hs1 _ _ _ _, Or.inl ⟨x, y, z, h1, tl_wt _ _ _ _ _ _, by rw [h2, bd_eq, bi_isb, gd_eq]⟩⟩
      · exact ⟨M, Sm.rf, Or.inr ⟨h1, by rw [h2, bd_eq, bi_isb, gd_eq]⟩⟩
    · rw [if_neg (by rw [show (3 : Int32) = ii 3 from rfl, ii_eq (by omega) (by omega) (by omega) (by omega)]; omega)]
      simp only [if_neg q3]
      obtain ⟨g, ⟨x, y, z, h1, h2⟩ | ⟨h1, h2⟩⟩ := findsThree_eq hF hG hC hk hV hL hS
      · exact ⟨_, (Sm.lr (c := 13) (by decide)).tr (tl_sm (by decide) _ _ _ _), Or.inl ⟨x, y, z, h1, tl_wt _ _ _ _ _ _, by rw [h2, bd_eq, bi_isb, gd_eq]⟩⟩
      · exact ⟨_, Sm.lr (c := 13) (by decide), Or.inr ⟨h1, by rw [h2, bd_eq, bi_isb, gd_eq]⟩⟩
end CD
