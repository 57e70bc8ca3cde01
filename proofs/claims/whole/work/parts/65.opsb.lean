/-! calls: tape, laws, ground, witness, colour, put -/
section OB
variable {F c : Nat}
theorem IV.inv {s n fi la m : Nat} {ls : Nat → LawT} {ll : List (Nat → Bool)} {M : Mem} (h : IV s n fi la m ls ll c M) : Inv c M := ⟨s, n, fi, la, m, ls, ll, h⟩
theorem op_witness (x : Int32) : OPI c (wL_witness F x) (fX9_witness F x) := by
  intro M h
  obtain ⟨s, n, fi, la, m, ls, ll, h⟩ := h
  obtain ⟨y, rfl, hy⟩ := ii_ex x
  obtain ⟨w1, w2⟩ := h.2.2.2.2.2.1
  have c0 : (ii y < 0) = (y < 0) := propext (by rw [ii_lit0]; exact ii_lt hy.1 hy.2 (by omega) (by omega))
  have c4 : (ii y < 4) = (y < 4) := propext (by rw [show (4 : Int32) = ii 4 from rfl]; exact ii_lt hy.1 hy.2 (by omega) (by omega))
  have c3 : (ii y ≤ 3) = (y ≤ 3) := propext (by rw [show (3 : Int32) = ii 3 from rfl]; exact ii_le hy.1 hy.2 (by omega) (by omega))
  by_cases q : M.1 0 9 ≠ 0 ∧ 0 ≤ y ∧ y < 4
  · obtain ⟨i, rfl⟩ : ∃ i : Nat, y = i := ⟨y.toNat, by omega⟩
    have ht : tX8_witness F (ii i) M = none := by
      unfold tX8_witness
      rw [if_neg q.1]
      simp only [c0, c4]
      rw [if_neg (by omega), if_pos (by omega)]
    have hf : fX8_witness F (ii i) M = some (M.1 35 i, M) := by
      unfold fX8_witness
      rw [if_neg q.1]
      simp only [c0, c4]
      rw [if_neg (by omega), if_pos (by omega), gd_inb (by omega) (by omega) (by omega), ii_nat (by omega) (by omega), Int.toNat_natCast]
    have fr : Fr [37, 55] [0] M (pI (pL M 55 0 (M.1 35 i).toInt64) 37 0 0) := (Fr.mono (Fr.of (cs := [55]) (Sm.l (by decide)) (by decide)) (by decide) (by decide)).tr (Fr.i (by decide) (by decide))
    refine ⟨0, _, M.1 35 i, pI (pL M 55 0 (M.1 35 i).toInt64) 37 0 0, w_witness_ok ht hf, ?_, p370, fun _ => ?_, s, n, fi, la, m, ls, ll, h.same fr (by decide) (by decide) (fun j _ => by rw [pI_d (by decide), pL_1])⟩
    · unfold fX9_witness fX9_witness_L22
      simp only [nm_eq, c0, c3]
      rw [if_neg (by rw [pL_1, ← w1]; exact q.1), if_neg (by omega), if_pos (by omega), p370, if_pos (by decide), gd_inb (by omega) (by omega) (by omega), ii_nat (by omega) (by omega), Int.toNat_natCast, pI_d (by decide), pL_1, w2 q.1 i (by omega)]
    · rw [pI_2, pL_c, uL_c]
  · have ht : tX8_witness F (ii y) M = some exN := by
      unfold tX8_witness
      simp only [c0, c4]
      by_cases q1 : M.1 0 9 = 0
      · rw [if_pos q1]
      · rw [if_neg q1]
        by_cases q2 : y < 0
        · rw [if_pos q2]
        · rw [if_neg q2, if_neg (fun h4 => q ⟨q1, by omega, h4⟩)]
    refine ⟨1, M, 0, pI M 37 0 1, w_witness_N ht, ?_, p371 1, fun e => absurd e (by decide), h.inv.refuse 1⟩
    unfold fX9_witness fX9_witness_L22
    simp only [nm_eq, c0, c3]
    rw [p371, if_neg (show ¬ (1 : Int32) ≤ 0 by decide), ← w1]
    by_cases q1 : M.1 0 9 = 0
    · rw [if_pos q1]
    · rw [if_neg q1]
      by_cases q2 : y < 0
      · rw [if_pos q2]
      · rw [if_neg q2, if_neg (fun h4 => q ⟨q1, by omega, by omega⟩)]
theorem op_colour (x : Int32) : OPE c (fX8_colour F x) (fX9_colour F x) := by
  intro M h
  obtain ⟨s, n, fi, la, m, ls, ll, h⟩ := h
  obtain ⟨y, rfl, hy⟩ := ii_ex x
  obtain ⟨w1, w2⟩ := h.2.2.2.2.2.2.1
  have hg := h.1.1.b
  have fr : Fr [37] [0] M (pI M 37 0 0) := Fr.i (by decide) (by decide)
  have hn : Inv (c + 1) (pI M 37 0 0) := ⟨s, n, fi, la, m, ls, ll, h.same fr (by decide) (by decide) (fun j _ => by rw [pI_d (by decide)])⟩
  have hR := h.1.2.2.1.f fr (by decide)
  have e29 : (pI M 37 0 0).1 37 29 = M.1 0 11 := by rw [pI_c, up_d (by decide), w1]
  by_cases q1 : M.1 0 11 = 0
  · refine ⟨-1, M, pI M 37 0 0, ?_, ?_, hn⟩
    · unfold fX8_colour; rw [if_pos q1]
    · unfold fX9_colour; rw [nm_eq, e29, if_pos q1]
  · by_cases q2 : (fi : Int) ≤ y ∧ y ≤ la
    · obtain ⟨x, rfl⟩ : ∃ x : Nat, y = x := ⟨y.toNat, by omega⟩
      refine ⟨M.1 36 x, M, pI M 37 0 0, ?_, ?_, hn⟩
      · unfold fX8_colour
        rw [if_neg q1, contains_ii h.1.1 h.1.2.1 hy.1 hy.2, bd_eq, decide_eq_true q2, if_neg (by decide), gd_inb (by omega) (by omega) (by omega), ii_nat (by omega) (by omega), Int.toNat_natCast]
      · unfold fX9_colour
        rw [nm_eq, e29, if_neg q1, isIn9_ii h.1.1 hR hy.1 hy.2, bd_eq, decide_eq_true q2, if_neg (by decide), hR.2.2.2, ii_sub, gd_inb (by omega) (by omega) (by omega), ii_nat (by omega) (by omega), show ((x : Int) - fi).toNat = x - fi by omega, pI_d (by decide), w2 q1 x (by omega) (by omega)]
    · refine ⟨-1, M, pI M 37 0 0, ?_, ?_, hn⟩
      · unfold fX8_colour
        rw [if_neg q1, contains_ii h.1.1 h.1.2.1 hy.1 hy.2, bd_eq, decide_eq_false q2, if_pos (by decide)]
      · unfold fX9_colour
        rw [nm_eq, e29, if_neg q1, isIn9_ii h.1.1 hR hy.1 hy.2, bd_eq, decide_eq_false q2, if_pos (by decide)]
/-- the tape alone has changed -/
theorem IV.tape {s n fi la m : Nat} {ls : Nat → LawT} {ll : List (Nat → Bool)} {M N : Mem} (h : IV s n fi la m ls ll c M) (f : Fr [1, 2, 37, 38] [0, 2] M N) (hT : IT N) : IV s n fi la m ls ll (c + 1) N := by
  obtain ⟨h1, h2, h3, h4, h5, h6, h7, h8, h9⟩ := h
  have e0 := (f.1 0 (by decide)).1
  exact ⟨h1.tr f (by decide) (by decide), h2.tr f (by decide) (fun j _ => by rw [(f.1 39 (by decide)).1]), h3.tr f (by decide) (by decide), h4.tr f (by decide), hT, h6.tr f (by rw [e0]) (by decide) (by decide), h7.tr f (by rw [e0]) (by decide) (by decide), h8.tr f (by rw [e0]) (by decide), (h9.tr f (by decide)).up⟩
theorem op_end (x : Int32) : OPE c (fX8_end F x) (fX9_end F x) := by
  intro M h
  obtain ⟨s, n, fi, la, m, ls, ll, h⟩ := h
  obtain ⟨y, rfl, hy⟩ := ii_ex x
  obtain ⟨T, t0, t1, t2, t3⟩ := h.2.2.2.2.1
  have fr : Fr [37] [0] M (pI M 37 0 0) := Fr.i (by decide) (by decide)
  have hn : Inv (c + 1) (pI M 37 0 0) := ⟨s, n, fi, la, m, ls, ll, h.same fr (by decide) (by decide) (fun j _ => by rw [pI_d (by decide)])⟩
  have c0 : (ii y < 0) = (y < 0) := propext (by rw [ii_lit0]; exact ii_lt hy.1 hy.2 (by omega) (by omega))
  have cT : (ii y ≤ ii T) = (y ≤ T) := propext (ii_le hy.1 hy.2 (by omega) (by omega))
  unfold fX8_end fX9_end
  rw [t1]
  simp only [nm_eq, c0, cT]
  by_cases q1 : y < 0
  · rw [if_pos q1]
    exact ⟨0, M, pI M 37 0 0, rfl, if_pos q1, hn⟩
  · by_cases q2 : y ≤ T
    · rw [if_neg q1, if_pos q2]
      obtain ⟨U, rfl⟩ : ∃ U : Nat, y = U := ⟨y.toNat, by omega⟩
      have e2 : (pI (pI M 1 1 (ii U)) 37 0 0).1 37 2 = ii T := by simp [pI_at, t2]
      refine ⟨1, _, pI (pI (pI M 1 1 (ii U)) 37 0 0) 37 2 (ii U), rfl, ?_, s, n, fi, la, m, ls, ll, h.tape ?_ ?_⟩
      · rw [if_neg q1, e2]
        rw [if_pos (by rw [cT]; exact q2)]
      · exact ((Fr.mono (Fr.of (cs := [1]) (Sm.i (by decide)) (by decide)) (by decide) (by decide)).tr (Fr.i (by decide) (by decide))).tr (Fr.i (by decide) (by decide))
      · exact ⟨U, by omega, by simp [pI_at], by simp [pI_at], fun j hj => by
          rw [pI_d (by decide), pI_d (by decide), pI_d (by decide), pI_d (by decide), pI_d (by decide), pI_d (by decide)]
          exact t3 j (by omega)⟩
    · rw [if_neg q1, if_neg q2]
      have e2 : (pI M 37 0 0).1 37 2 = ii T := by simp [pI_at, t2]
      exact ⟨0, M, pI M 37 0 0, rfl, by rw [if_neg q1, e2, if_neg (by rw [cT]; exact q2)], hn⟩
theorem op_feed (hF : 100000 ≤ F) (v0 v1 v2 v3 v4 : Int32) : OPE c (fX8_feed F v0 v1 v2 v3 v4) (fX9_feed F v0 v1 v2 v3 v4) := by
  intro M h
  obtain ⟨s, n, fi, la, m, ls, ll, h⟩ := h
  obtain ⟨T, t0, t1, t2, t3⟩ := h.2.2.2.2.1
  by_cases q : T + 20 ≤ 500
  · obtain ⟨M1, a1, a2, a3, a4, a5⟩ := feedc_eq hF t1 q v0 v1 v2 v3 v4
    obtain ⟨M2, b1, b2, b3, b4, b5, b6⟩ := feedr_eq hF (M := M1) (T := T) (by rw [(a2 37 (by decide)).1]; exact t2) q v0 v1 v2 v3 v4
    have fr : Fr [1, 2, 37, 38] [0, 2] M M2 := (Fr.mono (Fr.of a2 (by decide)) (by decide) (by decide)).tr ⟨b2.mono (by decide), fun j hj => b6 j (fun e => hj (by rw [e]; decide)) (fun e => hj (by rw [e]; decide))⟩
    refine ⟨_, M1, M2, a1, b1, s, n, fi, la, m, ls, ll, h.tape fr ⟨T + 20, by omega, by rw [(b2 1 (by decide)).1]; exact a3, b3, fun j hj => ?_⟩⟩
    rw [(b2 2 (by decide)).1]
    rcases Nat.lt_or_ge j T with r | r
    · rw [a4 j r, b4 j r, (a2 38 (by decide)).1]; exact t3 j r
    · have e5 := a5 (j - T) (by omega)
      have f5 := b5 (j - T) (by omega)
      rw [show T + (j - T) = j by omega] at e5 f5
      rw [e5, f5]
      exact byr_i _ (by omega)
  · have fr : Fr [37] [0] M (pI M 37 0 0) := Fr.i (by decide) (by decide)
    refine ⟨-1, M, pI M 37 0 0, ?_, ?_, s, n, fi, la, m, ls, ll, h.same fr (by decide) (by decide) (fun j _ => by rw [pI_d (by decide)])⟩
    · unfold fX8_feed
      rw [t1, show (20 : Int32) = ii 20 from rfl, ii_add, if_neg (by rw [show (500 : Int32) = ii 500 from rfl, ii_le] <;> omega)]
    · unfold fX9_feed
      rw [nm_eq, show (pI M 37 0 0).1 37 2 = ii T by simp [pI_at, t2], show (20 : Int32) = ii 20 from rfl, ii_add, if_neg (by rw [show (500 : Int32) = ii 500 from rfl, ii_le] <;> omega)]
/-- the laws alone have changed -/
theorem IV.laws {s n fi la m m' : Nat} {ls ls' : Nat → LawT} {ll : List (Nat → Bool)} {M N : Mem} (h : IV s n fi la m ls ll c M) (f : Fr [4, 6, 7, 8, 9, 10, 11, 37, 40, 41, 42, 43, 44] [0, 13] M N) (hC : CLs N m' ls') (hL : RLs N m' ls') (h46 : N.1 4 6 = 0) : IV s n fi la m' ls' ll (c + 1) N := by
  obtain ⟨h1, h2, h3, h4, h5, h6, h7, h8, h9⟩ := h
  have e0 := (f.1 0 (by decide)).1
  exact ⟨⟨h1.1, h1.2.1.sm f.1 (by decide), h1.2.2.1.f f (by decide), hC, hL, fun e => absurd h46 e⟩, h2.tr f (by decide) (fun j _ => by rw [(f.1 39 (by decide)).1]), h3.tr f (by decide) (by decide), h4.tr f (by decide), h5.tr f (by decide) (by decide), h6.tr f (by rw [e0]) (by decide) (by decide), h7.tr f (by rw [e0]) (by decide) (by decide), h8.tr f (by rw [e0]) (by decide), (h9.tr f (by decide)).up⟩
theorem op_drop : OPE c (fX8_drop F) (fX9_drop F) := by
  intro M h
  obtain ⟨s, n, fi, la, m, ls, ll, h⟩ := h
  have hC := h.1.2.2.2.1
  have hL := h.1.2.2.2.2.1
  unfold fX8_drop fX3_clear
  simp only [nm_eq, bv_eq]
  refine ⟨_, _, pI (pI (pI (pI M 4 2 0) 4 6 0) 37 0 0) 37 13 0, rfl, ?_, s, n, fi, la, 0, ls, ll, h.laws ?_ ⟨?_, by omega, fun i hi => by omega⟩ ⟨?_, by omega, fun i hi => by omega⟩ ?_⟩
  · unfold fX9_drop
    simp only [nm_eq]
    rw [show (pI (pI (pI M 4 2 0) 4 6 0) 37 0 0).1 37 13 = M.1 37 13 by simp [pI_at], hL.1, hC.1]
  · exact ((Fr.mono (Fr.of (cs := [4]) ((Sm.i (by decide)).tr (Sm.i (by decide))) (by decide)) (by decide) (by decide)).tr (Fr.i (by decide) (by decide))).tr (Fr.i (by decide) (by decide))
  · simp [pI_at]; rfl
  · simp [pI_at]; rfl
  · simp [pI_at]
theorem op_law (k a b d : Int32) (u : Bool) : OPE c (fX8_law F k a b d (bi u)) (fX9_law F k a b d (bi u)) := by
  intro M h
  obtain ⟨s, n, fi, la, m, ls, ll, h⟩ := h
  obtain ⟨k, rfl, hk⟩ := ii_ex k
  obtain ⟨a, rfl, ha⟩ := ii_ex a
  obtain ⟨b, rfl, hb⟩ := ii_ex b
  obtain ⟨d, rfl, hd⟩ := ii_ex d
  have hC := h.1.2.2.2.1
  have hL := h.1.2.2.2.2.1
  have hm6 := hC.2.1
  have fr : Fr [37] [0] M (pI M 37 0 0) := Fr.i (by decide) (by decide)
  have hn : Inv (c + 1) (pI M 37 0 0) := ⟨s, n, fi, la, m, ls, ll, h.same fr (by decide) (by decide) (fun j _ => by rw [pI_d (by decide)])⟩
  by_cases q : m = 6
  · refine ⟨-1, M, pI M 37 0 0, ?_, ?_, hn⟩
    · unfold fX8_law
      rw [hC.1, q, if_pos (by decide)]
    · unfold fX9_law
      rw [nm_eq, show (pI M 37 0 0).1 37 13 = ii m by simp [pI_at, hL.1], q, if_pos (by decide)]
  · obtain ⟨r, r1, r2⟩ := fits2_eq (F := F) (M := M) hk ha hb hd
    have h8 : fX8_law F (ii k) (ii a) (ii b) (ii d) (bi u) M = (if bi r = 0 then some (-1, M) else bd (fX3_add F (ii k) (ii a) (ii b) (ii d) (bi u) M) (fun u8 N6 => some (u8, N6))) := by
      unfold fX8_law
      rw [hC.1, if_neg (by rw [show (6 : Int32) = ii 6 from rfl, ii_le] <;> omega), r1, bd_eq]
    by_cases q2 : LOk k a b d
    · have hr : r = true := r2.mpr q2
      obtain ⟨hV, hkk⟩ := q2.lv (u := u) ha
      obtain ⟨M1, g1, g2, g3, g4⟩ := add_eq (F := F) hC (by omega) hV
      have s1 : Fr [4, 6, 7, 8, 9, 10, 11, 37, 40, 41, 42, 43, 44] [0, 13] M (pI M1 37 0 0) := (Fr.mono (Fr.of g2 (by decide)) (by decide) (by decide)).tr (Fr.i (by decide) (by decide))
      have hL1 : RLs (pI M1 37 0 0) m ls := by
        unfold RLs
        rw [pI_d (show 40 ≠ 37 by decide), pI_d (show 41 ≠ 37 by decide), pI_d (show 42 ≠ 37 by decide), pI_d (show 43 ≠ 37 by decide), pI_d (show 44 ≠ 37 by decide), pI_c, up_d (by decide), (g2 37 (by decide)).1, (g2 40 (by decide)).1, (g2 41 (by decide)).1, (g2 42 (by decide)).1, (g2 43 (by decide)).1, (g2 44 (by decide)).1]
        exact hL
      obtain ⟨M2, j1, j2, j3, j4⟩ := lawr_eq (F := F) hL1 (by omega) hV
      have g1' : fX3_add F (ii k) (ii a) (ii b) (ii d) (bi u) M = some (ii m, M1) := by rw [← hkk]; exact g1
      have j1' : fX9_law_L105 F (ii k) (ii a) (ii b) (ii d) (bi u) (pI M1 37 0 0) = some (ii m, M2) := by rw [← hkk]; exact j1
      refine ⟨ii m, M1, M2, ?_, ?_, s, n, fi, la, m + 1, _, ll, h.laws (s1.tr ⟨j2.mono (by decide), fun j hj => j4 j (fun e => hj (by rw [e]; decide))⟩) (g3.sm (cs := [37, 40, 41, 42, 43, 44]) ((Sm.i (by decide)).tr j2) (fun c c1 c2 => by simp; omega)) j3 ?_⟩
      · rw [h8, hr, if_neg (by decide), g1', bd_eq]
      · rw [(law9_eq (F := F) (M := M1) hk ha hb hd (bi u) (by rw [(g2 37 (by decide)).1, hL.1, show (6 : Int32) = ii 6 from rfl, ne_eq, ii_eq (by omega) (by omega) (by omega) (by omega)]; omega)).1 q2]
        exact j1'
      · rw [(j2 4 (by decide)).1, pI_d (by decide)]; exact g4
    · have hr : r = false := by
        cases r with
        | false => rfl
        | true => exact absurd (r2.mp rfl) q2
      refine ⟨-1, M, pI M 37 0 0, ?_, ?_, hn⟩
      · rw [h8, hr, if_pos (by decide)]
      · exact (law9_eq (F := F) (M := M) hk ha hb hd (bi u) (by rw [hL.1, show (6 : Int32) = ii 6 from rfl, ne_eq, ii_eq (by omega) (by omega) (by omega) (by omega)]; omega)).2 q2
/-- one set alone has changed -/
theorem IS.put {fi la k : Nat} {M N : Mem} {w : Int64} (h : IS fi la M) (hk : k < 8) (h34 : N.2 34 = vp_updL (M.2 34) k w) (h39 : ∀ j, (j < 60 * k ∨ 60 * k + 60 ≤ j) → j < 480 → N.1 39 j = M.1 39 j) (hS : Sup fi la (bt w)) (hr : Row N fi k (bt w)) : IS fi la N := by
  intro i hi
  rw [h34]
  by_cases e : i = k
  · rw [e, uL_c]; exact ⟨hS, hr⟩
  · rw [uL_d e]
    exact ⟨(h i hi).1, (h i hi).2.cong (fun j h1 h2 => h39 j (by omega) (by omega))⟩
theorem IV.put {s n fi la m k : Nat} {ls : Nat → LawT} {ll : List (Nat → Bool)} {M N : Mem} {w : Int64} (h : IV s n fi la m ls ll c M) (f : Fr [30, 31, 32, 33, 34, 37, 39, 45, 47, 48, 51, 52, 53, 54, 55] [0] M N) (hR : IR (c + 1) N) (hk : k < 8) (h34 : N.2 34 = vp_updL (M.2 34) k w) (h39 : ∀ j, (j < 60 * k ∨ 60 * k + 60 ≤ j) → j < 480 → N.1 39 j = M.1 39 j) (hS : Sup fi la (bt w)) (hr : Row N fi k (bt w)) : IV s n fi la m ls ll (c + 1) N := by
  obtain ⟨h1, h2, h3, h4, h5, h6, h7, h8, h9⟩ := h
  have e0 := (f.1 0 (by decide)).1
  exact ⟨h1.tr f (by decide) (by decide), h2.put hk h34 h39 hS hr, h3.tr f (by decide) (by decide), h4.tr f (by decide), h5.tr f (by decide) (by decide), h6.tr f (by rw [e0]) (by decide) (by decide), h7.tr f (by rw [e0]) (by decide) (by decide), h8.tr f (by rw [e0]) (by decide), hR⟩
theorem xor_put (w : Int64) {x : Nat} {b : Bool} (hx : x < 64) (h : ¬ bt w x = b) : bt (w ^^^ one x) = put (bt w) x b := by
  funext y
  rw [bt_xor, bt_one hx]
  unfold put
  by_cases q : y = x
  · rw [q, if_pos rfl, decide_eq_true rfl]
    revert h
    cases bt w x <;> cases b <;> simp
  · rw [if_neg q, decide_eq_false q]; simp
theorem op_put (x y : Int32) (b : Bool) : OPB c (wL_put F x y (bi b)) (fX9_put F x y (bi b)) := by
  intro M h
  rcases set_cases x with ⟨k, hk, rfl⟩ | ⟨z, hz, hn, rfl⟩
  · obtain ⟨s, n, fi, la, m, ls, ll, h⟩ := h
    obtain ⟨y, rfl, hy⟩ := ii_ex y
    have hs := h.set hk
    have hR := h.1.2.2.1
    have hg := h.1.1.b
    have ht : tX8_put F (ii k) (ii y) (bi b) M = none := by unfold tX8_put; rw [(rs_1 hk).1, tor_n, (rs_1 hk).2.1]; rfl
    -- nothing is put
    have no : (∀ r, (r = false → fX8_put F (ii k) (ii y) (bi b) M = some (bi r, M))) → (∀ N, Fr [37, 55] [0] M N → fX9_put_L14 F (ii k) (ii y) (bi b) 0 N = some (0, pI N 37 0 0)) → ∃ u N v K, wL_put F (ii k) (ii y) (bi b) M = some (u, N) ∧ fX9_put F (ii k) (ii y) (bi b) N = some (v, K) ∧ K.1 37 0 = u ∧ (u = 0 → (v = 0 → K.2 55 0 = 0) ∧ (v ≠ 0 → K.2 55 0 = 1)) ∧ Inv (c + 1) K := by
      intro h1 h2
      have fr1 : Fr [37, 55] [0] M (pL M 55 0 (if false then 1 else 0)) := Fr.mono (Fr.of (cs := [55]) (Sm.l (by decide)) (by decide)) (by decide) (by decide)
      refine ⟨0, _, 0, pI (pL M 55 0 (if false then 1 else 0)) 37 0 0, w_put_ok ht (h1 false rfl), ?_, p370, fun _ => ⟨fun _ => by rw [pI_2, pL_c, uL_c]; rfl, fun e => absurd rfl e⟩, s, n, fi, la, m, ls, ll, h.same (fr1.tr (Fr.i (by decide) (by decide))) (by decide) (by decide) (fun j _ => by rw [pI_d (by decide), pL_1])⟩
      unfold fX9_put
      rw [(rs_1 hk).2.2, bd_eq, if_neg (by decide)]
      exact h2 _ fr1
    by_cases q : (fi : Int) ≤ y ∧ y ≤ la
    · obtain ⟨x, rfl⟩ : ∃ x : Nat, y = x := ⟨y.toNat, by omega⟩
      by_cases q2 : bt (M.2 34 k) x = b
      · refine no (fun r hr => ?_) (fun N fN => ?_)
        · unfold fX8_put
          rw [(rs_1 hk).2.1, bv_eq, contains_ii h.1.1 h.1.2.1 hy.1 hy.2, bd_eq, decide_eq_true q, if_neg (by decide), gd_inb (by omega) (by omega) (by omega), ii_nat (by omega) (by omega), Int.toNat_natCast, isIn_eq h.1.1 h.1.2.1 hs.1 hy.1 hy.2, bd_eq, mm_nat, q2, if_pos rfl, hr]
          rfl
        · have fr : Fr [37, 55] [0] M (pI N 37 0 0) := fN.tr (Fr.i (by decide) (by decide))
          unfold fX9_put_L14
          rw [nm_eq, p370, if_neg (by decide), isIn9_ii h.1.1 (hR.f fr (by decide)) hy.1 hy.2, bd_eq, decide_eq_true q, if_neg (by decide), in_eq h.1.1 (hR.f fr (by decide)) hs.1 (by omega) (hs.2.sm fr.1 (by decide)) hy.1 hy.2, bd_eq, mm_nat, q2, if_pos rfl]
      · have hw' := xor_put (M.2 34 k) (x := x) (by omega) q2
        have hSw : Sup fi la (bt (M.2 34 k ^^^ one x)) := by rw [hw']; exact hs.1.put (by omega) (by omega) b
        have hf : fX8_put F (ii k) (ii x) (bi b) M = some (bi true, pL M 34 k (M.2 34 k ^^^ one x)) := by
          unfold fX8_put
          rw [(rs_1 hk).2.1, bv_eq, contains_ii h.1.1 h.1.2.1 hy.1 hy.2, bd_eq, decide_eq_true q, if_neg (by decide), gd_inb (by omega) (by omega) (by omega), ii_nat (by omega) (by omega), Int.toNat_natCast, isIn_eq h.1.1 h.1.2.1 hs.1 hy.1 hy.2, bd_eq, mm_nat, if_neg (fun e => q2 (bi_inj e)), gd_inb (by omega) (by omega) (by omega), nm_eq, gd_inb (by omega) (by omega) (by omega), nm_eq, one_def]
          rfl
        have fr1 : Fr [30, 31, 32, 33, 34, 37, 39, 45, 47, 48, 51, 52, 53, 54, 55] [0] M (pI (pL (pL M 34 k (M.2 34 k ^^^ one x)) 55 0 (if true then 1 else 0)) 37 0 0) := ((Fr.mono (Fr.of (cs := [34, 55]) ((Sm.l (by decide)).tr (Sm.l (by decide))) (by decide)) (by decide) (by decide)).tr (Fr.i (by decide) (by decide)))
        have e39 : (pI (pL (pL M 34 k (M.2 34 k ^^^ one x)) 55 0 (if true then 1 else 0)) 37 0 0).1 39 = M.1 39 := by rw [pI_d (by decide), pL_1, pL_1]
        have hw1 : Row (pI (pL (pL M 34 k (M.2 34 k ^^^ one x)) 55 0 (if true then 1 else 0)) 37 0 0) fi k (bt (M.2 34 k)) := hs.2.cong (fun j _ _ => by rw [e39])
        have hR1 := hR.f fr1 (by decide)
        refine ⟨0, _, 1, pI (pI (pL (pL M 34 k (M.2 34 k ^^^ one x)) 55 0 (if true then 1 else 0)) 37 0 0) 39 (60 * k + (x - fi)) (bi b), w_put_ok ht hf, ?_, ?_, fun _ => ⟨fun e => absurd e (by decide), fun _ => ?_⟩, s, n, fi, la, m, ls, ll, h.put (k := k) (w := M.2 34 k ^^^ one x) ?_ ?_ hk ?_ ?_ hSw ?_⟩
        · unfold fX9_put fX9_put_L14
          rw [(rs_1 hk).2.2, bd_eq, if_neg (by decide), nm_eq, p370, if_neg (by decide), isIn9_ii h.1.1 hR1 hy.1 hy.2, bd_eq, decide_eq_true q, if_neg (by decide), in_eq h.1.1 hR1 hs.1 (by omega) hw1 hy.1 hy.2, bd_eq, mm_nat, if_neg (fun e => q2 (bi_inj e)), let_eq h.1.1 hR1 (by omega) (by omega) (by omega), bv_eq]
        · rw [pI_d (by decide)]; exact p370
        · rw [pI_2, pI_2, pL_c, uL_c]; rfl
        · exact fr1.tr (Fr.mono (Fr.of (cs := [39]) (Sm.i (by decide)) (by decide)) (by decide) (by decide))
        · exact (IR.tr (cs := [34, 37, 39, 55]) (fs := [0]) h.2.2.2.2.2.2.2.2 (((Fr.mono (Fr.of (cs := [34, 55]) ((Sm.l (by decide)).tr (Sm.l (by decide))) (by decide)) (by decide) (by decide)).tr (Fr.i (by decide) (by decide))).tr (Fr.mono (Fr.of (cs := [39]) (Sm.i (by decide)) (by decide)) (by decide) (by decide))) (by decide)).up
        · rw [pI_2, pI_2, pL_d (by decide), pL_c]
        · intro j hj _
          rw [pI_c, up_d (by omega), e39]
        · rw [hw']; exact hw1.put (by omega) (by omega) b
    · refine no (fun r hr => ?_) (fun N fN => ?_)
      · unfold fX8_put
        rw [(rs_1 hk).2.1, bv_eq, contains_ii h.1.1 h.1.2.1 hy.1 hy.2, bd_eq, decide_eq_false q, if_pos (by decide), hr]
        rfl
      · have fr : Fr [37, 55] [0] M (pI N 37 0 0) := fN.tr (Fr.i (by decide) (by decide))
        unfold fX9_put_L14
        rw [nm_eq, p370, if_neg (by decide), isIn9_ii h.1.1 (hR.f fr (by decide)) hy.1 hy.2, bd_eq, decide_eq_false q, if_pos (by decide)]
  · have ht : tX8_put F (ii z) y (bi b) M = some exI := by unfold tX8_put; rw [(rs_0 hz hn).1]; rfl
    refine ⟨1, M, 0, pI M 37 0 1, w_put_I ht, ?_, p371 1, fun e => absurd e (by decide), h.refuse 1⟩
    unfold fX9_put fX9_put_L14
    rw [(rs_0 hz hn).2, bd_eq, if_pos rfl, nm_eq, p371, if_pos (by decide)]
end OB
