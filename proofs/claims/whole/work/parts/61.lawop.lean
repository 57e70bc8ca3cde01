/-! a new law: both -/
/-- a law that may be told -/
def LOk (k a b c : Int) : Prop := (k = 0 ∧ 3 ≤ a ∧ a ≤ 6) ∨ k = 1 ∨ k = 2 ∨ k = 3 ∨ (k = 4 ∧ (-9 ≤ a ∧ a ≤ 9) ∧ (-9 ≤ b ∧ b ≤ 9) ∧ (-9 ≤ c ∧ c ≤ 9) ∧ ¬ (a = 0 ∧ b = 0) ∧ ¬ (a = 0 ∧ c = 0) ∧ ¬ (b = 0 ∧ c = 0))
abbrev I32 (z : Int) : Prop := -2147483648 ≤ z ∧ z < 2147483648
section LO
variable {F : Nat} {M : Mem}
theorem isFac_eq {z : Int} (h : I32 z) : fX2_isFactor F (ii z) M = some (bi (decide (-9 ≤ z ∧ z ≤ 9)), M) ∧ fX9_isSmall F (ii z) M = some (bi (decide (-9 ≤ z ∧ z ≤ 9)), M) := by
  have c1 : (ii z < (-9 : Int32)) = (z < -9) := propext (by rw [show (-9 : Int32) = ii (-9) from rfl]; exact ii_lt h.1 h.2 (by omega) (by omega))
  have c2 : ((9 : Int32) < ii z) = (9 < z) := propext (by rw [show (9 : Int32) = ii 9 from rfl]; exact ii_lt (by omega) (by omega) h.1 h.2)
  unfold fX2_isFactor fX9_isSmall
  simp only [c1, c2]
  by_cases q : z < -9
  · rw [if_pos q, decide_eq_false (by omega)]; exact ⟨rfl, rfl⟩
  · rw [if_neg q]
    by_cases q2 : 9 < z
    · rw [if_pos q2, decide_eq_false (by omega)]; exact ⟨rfl, rfl⟩
    · rw [if_neg q2, decide_eq_true (by omega)]; exact ⟨rfl, rfl⟩
theorem nought_eq {a b c : Int} (ha : I32 a) (hb : I32 b) (hc : I32 c) : fX2_noughts F (ii a) (ii b) (ii c) M = some (ii ((if a = 0 then 1 else 0) + (if b = 0 then 1 else 0) + (if c = 0 then 1 else 0)), M) := by
  unfold fX2_noughts fX2_noughts_L18
  have g1 : (ii a = 0) = (a = 0) := propext (by rw [ii_lit0]; exact ii_eq ha.1 ha.2 (by omega) (by omega))
  have g2 : (ii b = 0) = (b = 0) := propext (by rw [ii_lit0]; exact ii_eq hb.1 hb.2 (by omega) (by omega))
  have g3 : (ii c = 0) = (c = 0) := propext (by rw [ii_lit0]; exact ii_eq hc.1 hc.2 (by omega) (by omega))
  simp only [g1, g2, g3]
  by_cases t1 : a = 0 <;> by_cases t2 : b = 0 <;> by_cases t3 : c = 0 <;> simp only [t1, t2, t3, if_true, if_false] <;> rfl
theorem fits2_eq {k a b c : Int} (hk : I32 k) (ha : I32 a) (hb : I32 b) (hc : I32 c) : ∃ r, fX2_fits F (ii k) (ii a) (ii b) (ii c) M = some (bi r, M) ∧ (r = true ↔ LOk k a b c) := by
  unfold fX2_fits LOk
  have e0 : (ii k = 0) = (k = 0) := propext (by rw [ii_lit0]; exact ii_eq hk.1 hk.2 (by omega) (by omega))
  have e1 : (ii k = 1) = (k = 1) := propext (by rw [ii_lit1]; exact ii_eq hk.1 hk.2 (by omega) (by omega))
  have e2 : (ii k = 2) = (k = 2) := propext (by rw [show (2 : Int32) = ii 2 from rfl]; exact ii_eq hk.1 hk.2 (by omega) (by omega))
  have e3 : (ii k = 3) = (k = 3) := propext (by rw [show (3 : Int32) = ii 3 from rfl]; exact ii_eq hk.1 hk.2 (by omega) (by omega))
  have e4 : (ii k = 4) = (k = 4) := propext (by rw [show (4 : Int32) = ii 4 from rfl]; exact ii_eq hk.1 hk.2 (by omega) (by omega))
  have f3 : (ii a < 3) = (a < 3) := propext (by rw [show (3 : Int32) = ii 3 from rfl]; exact ii_lt ha.1 ha.2 (by omega) (by omega))
  have f6 : (6 < ii a) = (6 < a) := propext (by rw [show (6 : Int32) = ii 6 from rfl]; exact ii_lt (by omega) (by omega) ha.1 ha.2)
  simp only [e0, e1, e2, e3, e4, f3, f6]
  rw [(isFac_eq ha).1, bd_eq, (isFac_eq hb).1, bd_eq, (isFac_eq hc).1, bd_eq]
  by_cases q0 : k = 0
  · rw [if_pos q0]
    by_cases q1 : a < 3
    · rw [if_pos q1]; exact ⟨false, rfl, fun h => (by cases h), fun h => by omega⟩
    · rw [if_neg q1]
      by_cases q2 : 6 < a
      · rw [if_pos q2]; exact ⟨false, rfl, fun h => (by cases h), fun h => by omega⟩
      · rw [if_neg q2]; exact ⟨true, rfl, fun _ => by omega, fun _ => rfl⟩
  · rw [if_neg q0]
    by_cases q1 : k = 1
    · rw [if_pos q1]; exact ⟨true, rfl, fun _ => by omega, fun _ => rfl⟩
    · rw [if_neg q1]
      by_cases q2 : k = 2
      · rw [if_pos q2]; exact ⟨true, rfl, fun _ => by omega, fun _ => rfl⟩
      · rw [if_neg q2]
        by_cases q3 : k = 3
        · rw [if_pos q3]; exact ⟨true, rfl, fun _ => by omega, fun _ => rfl⟩
        · rw [if_neg q3]
          by_cases q4 : k = 4
          · rw [if_pos q4]
            by_cases r1 : -9 ≤ a ∧ a ≤ 9
            · rw [decide_eq_true r1, if_neg (by decide)]
              by_cases r2 : -9 ≤ b ∧ b ≤ 9
              · rw [decide_eq_true r2, if_neg (by decide)]
                by_cases r3 : -9 ≤ c ∧ c ≤ 9
                · rw [decide_eq_true r3, if_neg (by decide)]
                  rw [nought_eq ha hb hc, bd_eq]
                  by_cases t : ¬ (a = 0 ∧ b = 0) ∧ ¬ (a = 0 ∧ c = 0) ∧ ¬ (b = 0 ∧ c = 0)
                  · have hn : ¬ ((1 : Int32) < ii ((if a = 0 then 1 else 0) + (if b = 0 then 1 else 0) + (if c = 0 then 1 else 0))) := by
                      rw [ii_lit1]
                      split <;> split <;> split <;> first | decide | (exfalso; omega)
                    rw [if_neg hn]
                    exact ⟨true, rfl, fun _ => by omega, fun _ => rfl⟩
                  · have hn : ((1 : Int32) < ii ((if a = 0 then 1 else 0) + (if b = 0 then 1 else 0) + (if c = 0 then 1 else 0))) := by
                      rw [ii_lit1]
                      split <;> split <;> split <;> first | decide | (exfalso; omega)
                    rw [if_pos hn]
                    exact ⟨false, rfl, fun h => (by cases h), fun h => by omega⟩
                · rw [decide_eq_false r3, if_pos (by decide)]; exact ⟨false, rfl, fun h => (by cases h), fun h => by omega⟩
              · rw [decide_eq_false r2, if_pos (by decide)]; exact ⟨false, rfl, fun h => (by cases h), fun h => by omega⟩
            · rw [decide_eq_false r1, if_pos (by decide)]; exact ⟨false, rfl, fun h => (by cases h), fun h => by omega⟩
          · rw [if_neg q4]; exact ⟨false, rfl, fun h => (by cases h), fun h => by omega⟩
/-- the laws with one more -/
def lsn (m : Nat) (ls : Nat → LawT) (l : LawT) : Nat → LawT := fun i => if i = m then l else ls i
theorem write_eq {m : Nat} (hm : m < 6) {l : LawT} (hV : LV l) : ∃ M', fX2_write F (6 + m) (ii (lk l)) (ii (lA l)) (ii (lB l)) (ii (lC l)) (bi (lU l)) M = some M' ∧ Sm [6 + m] M M' ∧ CL M' (6 + m) (lk l) (lA l) (wa l) (wb l) (wc l) (wu l) := by
  have h4 := hV.1
  have key : ∀ (A B C U : Int32) (M1 : Mem), isb U = true → ∃ M', fX2_weigh F (6 + m) A B C U M1 = some M' ∧ Sm [6 + m] M1 M' ∧ M'.1 (6 + m) 0 = M1.1 (6 + m) 0 ∧ M'.1 (6 + m) 1 = M1.1 (6 + m) 1 ∧ M'.1 (6 + m) 2 = A ∧ M'.1 (6 + m) 3 = B ∧ M'.1 (6 + m) 4 = C ∧ M'.1 (6 + m) 5 = U := by
    intro A B C U M1 hU
    unfold fX2_weigh
    rw [isLaw_t (by omega) (by omega), gd_eq]
    simp only [nm_eq]
    rw [hU, gd_eq]
    refine ⟨_, rfl, (((Sm.i (by simp)).tr (Sm.i (by simp))).tr (Sm.i (by simp))).tr (Sm.i (by simp)), ?_, ?_, ?_, ?_, ?_, ?_⟩ <;> simp [pI_at]
  have done_ : ∀ (A B C : Int) (U : Bool), A = wa l → B = wb l → C = wc l → U = wu l → ∃ M', fX2_weigh F (6 + m) (ii A) (ii B) (ii C) (bi U) (pI (pI M (6 + m) 0 (ii (lk l))) (6 + m) 1 (ii (lA l))) = some M' ∧ Sm [6 + m] M M' ∧ CL M' (6 + m) (lk l) (lA l) (wa l) (wb l) (wc l) (wu l) := by
    intro A B C U eA eB eC eU
    obtain ⟨M', g1, g2, g3, g4, g5, g6, g7, g8⟩ := key (ii A) (ii B) (ii C) (bi U) (pI (pI M (6 + m) 0 (ii (lk l))) (6 + m) 1 (ii (lA l))) (bi_isb U)
    refine ⟨M', g1, ((Sm.i (by simp)).tr (Sm.i (by simp))).tr g2, ?_, ?_, by rw [g5, eA], by rw [g6, eB], by rw [g7, eC], by rw [g8, eU]⟩
    · rw [g3]; simp [pI_at]
    · rw [g4]; simp [pI_at]
  unfold fX2_write
  rw [isLaw_t (by omega) (by omega), gd_eq]
  simp only [nm_eq]
  rcases (by omega : lk l = 0 ∨ lk l = 1 ∨ lk l = 2 ∨ lk l = 3 ∨ lk l = 4) with q | q | q | q | q
  · rw [if_pos (by rw [q]; rfl)]
    obtain ⟨M', g1, g2⟩ := done_ 1 (-2) 1 true (by simp [wa, q]) (by simp [wb, q]) (by simp [wc, q]) (by simp [wu, q])
    exact ⟨M', by rw [show (1 : Int32) = ii 1 from rfl, show (-2 : Int32) = ii (-2) from rfl, show fX2_weigh F (6 + m) (ii 1) (ii (-2)) (ii 1) (ii 1) _ = some M' from g1]; rfl, g2⟩
  · rw [if_neg (by rw [q]; decide), if_pos (by rw [q]; rfl)]
    obtain ⟨M', g1, g2⟩ := done_ 1 1 (-1) (lU l) (by simp [wa, q]) (by simp [wb, q]) (by simp [wc, q]) (by simp [wu, q])
    exact ⟨M', by rw [show fX2_weigh F (6 + m) 1 1 (-1) (bi (lU l)) _ = some M' from g1]; rfl, g2⟩
  · rw [if_neg (by rw [q]; decide), if_neg (by rw [q]; decide), if_pos (by rw [q]; rfl)]
    obtain ⟨M', g1, g2⟩ := done_ 1 1 1 (lU l) (by simp [wa, q]) (by simp [wb, q]) (by simp [wc, q]) (by simp [wu, q])
    exact ⟨M', by rw [show fX2_weigh F (6 + m) 1 1 1 (bi (lU l)) _ = some M' from g1]; rfl, g2⟩
  · rw [if_neg (by rw [q]; decide), if_neg (by rw [q]; decide), if_neg (by rw [q]; decide), if_pos (by rw [q]; rfl)]
    obtain ⟨M', g1, g2⟩ := done_ 1 1 1 (lU l) (by simp [wa, q]) (by simp [wb, q]) (by simp [wc, q]) (by simp [wu, q])
    exact ⟨M', by rw [show fX2_weigh F (6 + m) 1 1 1 (bi (lU l)) _ = some M' from g1]; rfl, g2⟩
  · rw [if_neg (by rw [q]; decide), if_neg (by rw [q]; decide), if_neg (by rw [q]; decide), if_neg (by rw [q]; decide), if_pos (by rw [q]; rfl)]
    obtain ⟨M', g1, g2⟩ := done_ (lA l) (lB l) (lC l) (lU l) (by simp [wa, q]) (by simp [wb, q]) (by simp [wc, q]) (by simp [wu, q])
    exact ⟨M', by rw [g1]; rfl, g2⟩
theorem add_eq {m : Nat} {ls : Nat → LawT} (hL : CLs M m ls) (hm : m < 6) {l : LawT} (hV : LV l) : ∃ M', fX3_add F (ii (lk l)) (ii (lA l)) (ii (lB l)) (ii (lC l)) (bi (lU l)) M = some (ii m, M') ∧ Sm [4, 6, 7, 8, 9, 10, 11] M M' ∧ CLs M' (m + 1) (lsn m ls l) ∧ M'.1 4 6 = 0 := by
  obtain ⟨M1, w1, w2, w3⟩ := write_eq (F := F) (M := M) hm hV
  unfold fX3_add
  rw [hL.1, gd_inb (by omega) (by omega) (by omega)]
  simp only [nm_eq]
  rw [ii_nat (by omega) (by omega), Int.toNat_natCast, w1, bv_eq]
  have h42 : (pI M1 4 6 0).1 4 2 = ii m := by rw [pI_c, up_d (by decide), (w2 4 (by simp; omega)).1]; exact hL.1
  rw [h42, ii_lit1, ii_add, show ((m : Int) + 1) = ((m + 1 : Nat) : Int) by omega, pI_c, up_c, ii_sub, show (((m + 1 : Nat) : Int) - 1) = (m : Int) by omega]
  have s2 : Sm [4] M1 (pI (pI M1 4 6 0) 4 2 (ii ((m + 1 : Nat) : Int))) := (Sm.i (by decide)).tr (Sm.i (by decide))
  refine ⟨_, rfl, (w2.mono (by intro c hc; simp at hc; subst hc; simp; omega)).tr (s2.mono (by decide)), ⟨by rw [pI_c, up_c], by omega, fun i hi => ?_⟩, ?_⟩
  · unfold lsn
    by_cases e : i = m
    · rw [if_pos e, e]
      exact ⟨hV, w3.sm s2 (by simp; omega)⟩
    · rw [if_neg e]
      have := hL.2.2 i (by omega)
      exact ⟨this.1, (this.2.sm w2 (by simp; omega)).sm s2 (by simp; omega)⟩
  · rw [pI_c, up_d (by decide), pI_c, up_c]
theorem lawr_eq {m : Nat} {ls : Nat → LawT} (hL : RLs M m ls) (hm : m < 6) {l : LawT} (hV : LV l) : ∃ M', fX9_law_L105 F (ii (lk l)) (ii (lA l)) (ii (lB l)) (ii (lC l)) (bi (lU l)) M = some (ii m, M') ∧ Sm [37, 40, 41, 42, 43, 44] M M' ∧ RLs M' (m + 1) (lsn m ls l) ∧ (∀ j, j ≠ 13 → M'.1 37 j = M.1 37 j) := by
  unfold fX9_law_L105
  rw [hL.1, gd_inb (by omega) (by omega) (by omega)]
  simp only [nm_eq]
  rw [ii_nat (by omega) (by omega), Int.toNat_natCast]
  simp only [pI_d (show 37 ≠ 40 by decide), pI_d (show 37 ≠ 41 by decide), pI_d (show 37 ≠ 42 by decide), pI_d (show 37 ≠ 43 by decide), pI_d (show 37 ≠ 44 by decide)]
  rw [hL.1, ii_nat (by omega) (by omega), Int.toNat_natCast, gd_inb (by omega) (by omega) (by omega), gd_inb (by omega) (by omega) (by omega), gd_inb (by omega) (by omega) (by omega), gd_inb (by omega) (by omega) (by omega), bi_isb, gd_eq, ii_lit1, ii_add, show ((m : Int) + 1) = ((m + 1 : Nat) : Int) by omega, pI_c, up_c, ii_sub, show (((m + 1 : Nat) : Int) - 1) = (m : Int) by omega]
  refine ⟨_, rfl, (((((Sm.i (c := 40) (by decide)).tr (Sm.i (c := 41) (by decide))).tr (Sm.i (c := 42) (by decide))).tr (Sm.i (c := 43) (by decide))).tr (Sm.i (c := 44) (by decide))).tr (Sm.i (by decide)), ⟨by rw [pI_c, up_c], by omega, fun i hi => ?_⟩, fun j hj => ?_⟩
  · unfold lsn
    by_cases e : i = m
    · rw [if_pos e, e]
      exact ⟨hV, by simp [pI_at], by simp [pI_at], by simp [pI_at], by simp [pI_at], by simp [pI_at]⟩
    · rw [if_neg e]
      obtain ⟨b0, b1, b2, b3, b4, b5⟩ := hL.2.2 i (by omega)
      exact ⟨b0, by simpa [pI_at, e] using b1, by simpa [pI_at, e] using b2, by simpa [pI_at, e] using b3, by simpa [pI_at, e] using b4, by simpa [pI_at, e] using b5⟩
  · simp [pI_at, hj]
theorem law9_eq {k a b c : Int} (hk : I32 k) (ha : I32 a) (hb : I32 b) (hc : I32 c) (u : Int32) (h6 : M.1 37 13 ≠ 6) : (LOk k a b c → fX9_law F (ii k) (ii a) (ii b) (ii c) u M = fX9_law_L105 F (ii k) (ii a) (ii b) (ii c) u (pI M 37 0 0)) ∧ (¬ LOk k a b c → fX9_law F (ii k) (ii a) (ii b) (ii c) u M = some (-1, pI M 37 0 0)) := by
  unfold fX9_law fX9_law_L42 LOk
  rw [nm_eq, if_neg (by rw [pI_c, up_d (by decide)]; exact h6)]
  generalize pI M 37 0 0 = M1
  have e0 : (ii k = 0) = (k = 0) := propext (by rw [ii_lit0]; exact ii_eq hk.1 hk.2 (by omega) (by omega))
  have e4 : (ii k = 4) = (k = 4) := propext (by rw [show (4 : Int32) = ii 4 from rfl]; exact ii_eq hk.1 hk.2 (by omega) (by omega))
  have l0 : (ii k < 0) = (k < 0) := propext (by rw [ii_lit0]; exact ii_lt hk.1 hk.2 (by omega) (by omega))
  have l4 : (ii k ≤ 4) = (k ≤ 4) := propext (by rw [show (4 : Int32) = ii 4 from rfl]; exact ii_le hk.1 hk.2 (by omega) (by omega))
  have f3 : (ii a < 3) = (a < 3) := propext (by rw [show (3 : Int32) = ii 3 from rfl]; exact ii_lt ha.1 ha.2 (by omega) (by omega))
  have f6 : (ii a ≤ 6) = (a ≤ 6) := propext (by rw [show (6 : Int32) = ii 6 from rfl]; exact ii_le ha.1 ha.2 (by omega) (by omega))
  simp only [e0, e4, l0, l4, f3, f6]
  rw [(isFac_eq ha).2, bd_eq, (isFac_eq hb).2, bd_eq, (isFac_eq hc).2, bd_eq]
  by_cases q0 : k < 0
  · rw [if_pos q0]; exact ⟨fun h => by omega, fun _ => rfl⟩
  · rw [if_neg q0]
    by_cases q1 : k ≤ 4
    · rw [if_pos q1]
      by_cases q2 : k = 0
      · rw [if_pos q2]
        by_cases q3 : a < 3
        · rw [if_pos q3]; exact ⟨fun h => by omega, fun _ => rfl⟩
        · rw [if_neg q3]
          by_cases q4 : a ≤ 6
          · rw [if_pos q4, if_neg (by omega)]; exact ⟨fun _ => rfl, fun h => by omega⟩
          · rw [if_neg q4]; exact ⟨fun h => by omega, fun _ => rfl⟩
      · rw [if_neg q2]
        by_cases q4 : k = 4
        · rw [if_pos q4]
          by_cases r1 : -9 ≤ a ∧ a ≤ 9
          · rw [decide_eq_true r1, if_neg (by decide)]
            by_cases r2 : -9 ≤ b ∧ b ≤ 9
            · rw [decide_eq_true r2, if_neg (by decide)]
              by_cases r3 : -9 ≤ c ∧ c ≤ 9
              · rw [decide_eq_true r3, if_neg (by decide)]
                have g1 : (ii a = 0) = (a = 0) := propext (by rw [ii_lit0]; exact ii_eq ha.1 ha.2 (by omega) (by omega))
                have g2 : (ii b = 0) = (b = 0) := propext (by rw [ii_lit0]; exact ii_eq hb.1 hb.2 (by omega) (by omega))
                have g3 : (ii c = 0) = (c = 0) := propext (by rw [ii_lit0]; exact ii_eq hc.1 hc.2 (by omega) (by omega))
                have hn : ∀ K : Mem → Option (Int32 × Mem), (if ii a = 0 then (if ii b = 0 then (fX9_law_L87 F (ii k) (ii a) (ii b) (ii c) u K (1 : Int32) (1 : Int32) M1) else (fX9_law_L87 F (ii k) (ii a) (ii b) (ii c) u K (0 : Int32) (1 : Int32) M1)) else (if ii b = 0 then (fX9_law_L87 F (ii k) (ii a) (ii b) (ii c) u K (1 : Int32) (0 : Int32) M1) else (fX9_law_L87 F (ii k) (ii a) (ii b) (ii c) u K (0 : Int32) (0 : Int32) M1))) = if ¬ (a = 0 ∧ b = 0) ∧ ¬ (a = 0 ∧ c = 0) ∧ ¬ (b = 0 ∧ c = 0) then K M1 else some (-1, M1) := by
                  intro K
                  unfold fX9_law_L87
                  simp only [g1, g2, g3]
                  have n1 : ((1 : Int32) + 1 + 1 ≤ 1) = False := eq_false (by decide)
                  have n2 : ((1 : Int32) + 1 + 0 ≤ 1) = False := eq_false (by decide)
                  have n3 : ((1 : Int32) + 0 + 1 ≤ 1) = False := eq_false (by decide)
                  have n4 : ((1 : Int32) + 0 + 0 ≤ 1) = True := eq_true (by decide)
                  have n5 : ((0 : Int32) + 1 + 1 ≤ 1) = False := eq_false (by decide)
                  have n6 : ((0 : Int32) + 1 + 0 ≤ 1) = True := eq_true (by decide)
                  have n7 : ((0 : Int32) + 0 + 1 ≤ 1) = True := eq_true (by decide)
                  have n8 : ((0 : Int32) + 0 + 0 ≤ 1) = True := eq_true (by decide)
                  simp only [n1, n2, n3, n4, n5, n6, n7, n8, if_true, if_false]
                  by_cases t1 : a = 0 <;> by_cases t2 : b = 0 <;> by_cases t3 : c = 0 <;> simp [t1, t2, t3]
                rw [hn]
                by_cases t : ¬ (a = 0 ∧ b = 0) ∧ ¬ (a = 0 ∧ c = 0) ∧ ¬ (b = 0 ∧ c = 0)
                · rw [if_pos t]; exact ⟨fun _ => rfl, fun h => by omega⟩
                · rw [if_neg t]; exact ⟨fun h => by omega, fun _ => rfl⟩
              · rw [decide_eq_false r3, if_pos (by decide)]; exact ⟨fun h => by omega, fun _ => rfl⟩
            · rw [decide_eq_false r2, if_pos (by decide)]; exact ⟨fun h => by omega, fun _ => rfl⟩
          · rw [decide_eq_false r1, if_pos (by decide)]; exact ⟨fun h => by omega, fun _ => rfl⟩
        · rw [if_neg q4]; exact ⟨fun _ => rfl, fun h => by omega⟩
    · rw [if_neg q1]; exact ⟨fun h => by omega, fun _ => rfl⟩
theorem LOk.lv {k a b c : Int} {u : Bool} (h : LOk k a b c) (ha : I32 a) : LV (k.toNat, a, b, c, u) ∧ (k.toNat : Int) = k := by
  unfold LOk at h
  unfold LV
  refine ⟨⟨?_, ?_, ?_, ?_⟩, by omega⟩
  · show k.toNat ≤ 4; omega
  · exact ha
  · show k.toNat = 0 → 3 ≤ a ∧ a ≤ 6; omega
  · show k.toNat = 4 → (-9 ≤ a ∧ a ≤ 9) ∧ (-9 ≤ b ∧ b ≤ 9) ∧ (-9 ≤ c ∧ c ≤ 9) ∧ ¬ (a = 0 ∧ b = 0) ∧ ¬ (a = 0 ∧ c = 0) ∧ ¬ (b = 0 ∧ c = 0); omega
end LO
