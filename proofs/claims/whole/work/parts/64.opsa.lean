/-! calls that change little -/
section OA
variable {F c : Nat}
/-- the set k of both -/
theorem IV.set {s n fi la m : Nat} {ls : Nat → LawT} {ll : List (Nat → Bool)} {M : Mem} (h : IV s n fi la m ls ll c M) {k : Nat} (hk : k < 8) : Sup fi la (bt (M.2 34 k)) ∧ Row M fi k (bt (M.2 34 k)) := h.2.1 k hk
theorem set_cases (x : Int32) : (∃ k : Nat, k < 8 ∧ x = ii k) ∨ (∃ z : Int, I32 z ∧ ¬ (0 ≤ z ∧ z < 8) ∧ x = ii z) := by
  obtain ⟨z, rfl, hz⟩ := ii_ex x
  by_cases q : 0 ≤ z ∧ z < 8
  · exact Or.inl ⟨z.toNat, by omega, by rw [show ((z.toNat : Nat) : Int) = z by omega]⟩
  · exact Or.inr ⟨z, hz, q, rfl⟩
theorem p370 {M : Mem} : (pI M 37 0 0).1 37 0 = 0 := by rw [pI_c, up_c]
theorem p371 {M : Mem} (v : Int32) : (pI M 37 0 v).1 37 0 = v := by rw [pI_c, up_c]
theorem op_size (hF : 100000 ≤ F) (x : Int32) : OPI c (wL_size F x) (fX9_size F x) := by
  intro M h
  rcases set_cases x with ⟨k, hk, rfl⟩ | ⟨z, hz, hn, rfl⟩
  · obtain ⟨s, n, fi, la, m, ls, ll, h⟩ := h
    have hs := h.set hk
    have hR := h.1.2.2.1
    have ht : tX8_size F (ii k) M = none := by unfold tX8_size; rw [(rs_1 hk).1, tor_n, (rs_1 hk).2.1]; rfl
    have hf : fX8_size F (ii k) M = some (ii (ct (bt (M.2 34 k))), M) := by
      unfold fX8_size
      rw [(rs_1 hk).2.1, bv_eq, gd_inb (by omega) (by omega) (by omega), ii_nat (by omega) (by omega), Int.toNat_natCast, bitCount_eq, bd_eq]
      rfl
    have fr : Fr [37, 55] [0] M (pI (pL M 55 0 (ii (ct (bt (M.2 34 k)))).toInt64) 37 0 0) := (Fr.mono (Fr.of (cs := [55]) (Sm.l (by decide)) (by decide)) (by decide) (by decide)).tr (Fr.i (by decide) (by decide))
    refine ⟨0, _, ii (ct (bt (M.2 34 k))), pI (pL M 55 0 (ii (ct (bt (M.2 34 k)))).toInt64) 37 0 0, w_size_ok ht hf, ?_, p370, fun _ => ?_, s, n, fi, la, m, ls, ll, h.same fr (by decide) (by decide) (fun j _ => by rw [pI_d (by decide), pL_1])⟩
    · unfold fX9_size fX9_size_L14
      rw [(rs_1 hk).2.2, bd_eq, if_neg (by decide), nm_eq, p370, if_pos (by decide), size_eq hF h.1.1 (hR.f fr (by decide)) (by omega) hs.1 (hs.2.sm fr.1 (by decide)), bd_eq]
    · rw [pI_2, pL_c, uL_c]
  · have ht : tX8_size F (ii z) M = some exI := by unfold tX8_size; rw [(rs_0 hz hn).1]; rfl
    refine ⟨1, M, 0, pI M 37 0 1, w_size_I ht, ?_, p371 1, fun e => absurd e (by decide), h.refuse 1⟩
    unfold fX9_size fX9_size_L14
    rw [(rs_0 hz hn).2, bd_eq, if_pos rfl, nm_eq, p371, if_neg (by decide)]
theorem op_has (x y : Int32) : OPB c (wL_has F x y) (fX9_has F x y) := by
  intro M h
  rcases set_cases x with ⟨k, hk, rfl⟩ | ⟨z, hz, hn, rfl⟩
  · obtain ⟨s, n, fi, la, m, ls, ll, h⟩ := h
    obtain ⟨y, rfl, hy⟩ := ii_ex y
    have hs := h.set hk
    have hR := h.1.2.2.1
    have ht : tX8_has F (ii k) (ii y) M = none := by unfold tX8_has; rw [(rs_1 hk).1, tor_n, (rs_1 hk).2.1]; rfl
    have hf : fX8_has F (ii k) (ii y) M = some (bi (mm (bt (M.2 34 k)) y), M) := by
      unfold fX8_has
      rw [(rs_1 hk).2.1, bv_eq, gd_inb (by omega) (by omega) (by omega), ii_nat (by omega) (by omega), Int.toNat_natCast, isIn_eq h.1.1 h.1.2.1 hs.1 hy.1 hy.2, bd_eq, bi_isb, gd_eq]
    generalize hb : mm (bt (M.2 34 k)) y = b at *
    have fr : Fr [37, 55] [0] M (pI (pL M 55 0 (if b then 1 else 0)) 37 0 0) := (Fr.mono (Fr.of (cs := [55]) (Sm.l (by decide)) (by decide)) (by decide) (by decide)).tr (Fr.i (by decide) (by decide))
    refine ⟨0, _, bi b, pI (pL M 55 0 (if b then 1 else 0)) 37 0 0, w_has_ok ht hf, ?_, p370, fun _ => ?_, s, n, fi, la, m, ls, ll, h.same fr (by decide) (by decide) (fun j _ => by rw [pI_d (by decide), pL_1])⟩
    · unfold fX9_has fX9_has_L14
      rw [(rs_1 hk).2.2, bd_eq, if_neg (by decide), nm_eq, p370, if_pos rfl, in_eq h.1.1 (hR.f fr (by decide)) hs.1 (by omega) (hs.2.sm fr.1 (by decide)) hy.1 hy.2, bd_eq, hb]
      cases b <;> rfl
    · rw [pI_2, pL_c, uL_c]
      cases b
      · exact ⟨fun _ => rfl, fun e => absurd rfl e⟩
      · exact ⟨fun e => absurd e (by decide), fun _ => rfl⟩
  · have ht : tX8_has F (ii z) y M = some exI := by unfold tX8_has; rw [(rs_0 hz hn).1]; rfl
    refine ⟨1, M, 0, pI M 37 0 1, w_has_I ht, ?_, p371 1, fun e => absurd e (by decide), h.refuse 1⟩
    unfold fX9_has fX9_has_L14
    rw [(rs_0 hz hn).2, bd_eq, if_pos rfl, nm_eq, p371, if_neg (by decide)]
theorem op_at (hF : 100000 ≤ F) (x y : Int32) : OPI c (wL_at F x y) (fX9_at F x y) := by
  intro M h
  rcases set_cases x with ⟨k, hk, rfl⟩ | ⟨z, hz, hn, rfl⟩
  · obtain ⟨s, n, fi, la, m, ls, ll, h⟩ := h
    obtain ⟨y, rfl, hy⟩ := ii_ex y
    have hs := h.set hk
    have hR := h.1.2.2.1
    have hct := ct_le (bt (M.2 34 k))
    have hg := h.1.1.b
    by_cases q : 0 ≤ y ∧ y < (ct (bt (M.2 34 k)) : Int)
    · obtain ⟨i, rfl⟩ : ∃ i : Nat, y = i := ⟨y.toNat, by omega⟩
      obtain ⟨x0, x1, x2, x3, x4⟩ := numberAt_eq hF (w := M.2 34 k) (i := i) (by rw [cnt_ct]; omega) M
      have ht : tX8_at F (ii k) (ii i) M = none := by
        unfold tX8_at
        rw [(rs_1 hk).1, tor_n, (rs_1 hk).2.1, bv_eq, if_neg (by rw [ii_lit0, ii_lt] <;> omega), gd_inb (by omega) (by omega) (by omega), ii_nat (by omega) (by omega), Int.toNat_natCast, bitCount_eq, bd_eq, cnt_ct, if_pos (by rw [ii_lt] <;> omega)]
      have hf : fX8_at F (ii k) (ii i) M = some (ii x0, M) := by
        unfold fX8_at
        rw [(rs_1 hk).2.1, bv_eq, if_neg (by rw [ii_lit0, ii_lt] <;> omega), gd_inb (by omega) (by omega) (by omega), ii_nat (by omega) (by omega), Int.toNat_natCast, bitCount_eq, bd_eq, cnt_ct, if_pos (by rw [ii_lt] <;> omega), gd_inb (by omega) (by omega) (by omega), x4, bd_eq]
      have fr : Fr [37, 55] [0] M (pI (pL M 55 0 (ii x0).toInt64) 37 0 0) := (Fr.mono (Fr.of (cs := [55]) (Sm.l (by decide)) (by decide)) (by decide) (by decide)).tr (Fr.i (by decide) (by decide))
      have fr1 : Fr [37, 55] [0] M (pL M 55 0 (ii x0).toInt64) := Fr.mono (Fr.of (cs := [55]) (Sm.l (by decide)) (by decide)) (by decide) (by decide)
      refine ⟨0, _, ii x0, pI (pL M 55 0 (ii x0).toInt64) 37 0 0, w_at_ok ht hf, ?_, p370, fun _ => ?_, s, n, fi, la, m, ls, ll, h.same fr (by decide) (by decide) (fun j _ => by rw [pI_d (by decide), pL_1])⟩
      · have hxr := hs.1 x0 x2
        have hfi0 : fb_ct (bt (M.2 34 k)) fi = 0 := fb_ct_zero.mpr (fun y hy => by
          cases h : bt (M.2 34 k) y with
          | false => rfl
          | true => have := hs.1 y h; omega)
        have hat := at_L (F := F) h.1.1 (hR.f fr (by decide)) hs.1 (r := k) (by omega) (hs.2.sm fr.1 (by decide)) x2 x3 (ii i) (x0 - fi) F fi (by omega) (by omega) (by omega)
        rw [hfi0, show ((i : Int) - ((0 : Nat) : Int)) = (i : Int) by omega] at hat
        unfold fX9_at fX9_at_L31
        rw [(rs_1 hk).2.2, bd_eq, if_neg (by decide), if_neg (by rw [ii_lit0, ii_lt] <;> omega), size_eq hF h.1.1 (hR.f fr1 (by decide)) (by omega) hs.1 (hs.2.sm fr1.1 (by decide)), bd_eq, if_pos (by rw [ii_lt] <;> omega), nm_eq, p370, if_pos (by decide), nm_eq, (hR.f fr (by decide)).2.2.2]
        exact hat
      · rw [pI_2, pL_c, uL_c]
    · have ht : tX8_at F (ii k) (ii y) M = some exN := by
        unfold tX8_at
        rw [(rs_1 hk).1, tor_n, (rs_1 hk).2.1, bv_eq]
        by_cases q2 : y < 0
        · rw [if_pos (by rw [ii_lit0, ii_lt hy.1 hy.2 (by omega) (by omega)]; exact q2)]
        · rw [if_neg (by rw [ii_lit0, ii_lt hy.1 hy.2 (by omega) (by omega)]; exact q2), gd_inb (by omega) (by omega) (by omega), ii_nat (by omega) (by omega), Int.toNat_natCast, bitCount_eq, bd_eq, cnt_ct, if_neg (by rw [ii_lt hy.1 hy.2 (by omega) (by omega)]; omega)]
      have h' : Inv c M := ⟨s, n, fi, la, m, ls, ll, h⟩
      refine ⟨2, M, 0, pI M 37 0 2, w_at_N ht, ?_, p371 2, fun e => absurd e (by decide), h'.refuse 2⟩
      unfold fX9_at fX9_at_L31
      rw [(rs_1 hk).2.2, bd_eq, if_neg (by decide), size_eq hF h.1.1 hR (by omega) hs.1 hs.2, bd_eq]
      simp only [nm_eq]
      by_cases q2 : y < 0
      · rw [if_pos (by rw [ii_lit0, ii_lt hy.1 hy.2 (by omega) (by omega)]; exact q2), p371, if_neg (by decide)]
      · rw [if_neg (by rw [ii_lit0, ii_lt hy.1 hy.2 (by omega) (by omega)]; exact q2), if_neg (by rw [ii_lt hy.1 hy.2 (by omega) (by omega)]; omega), p371, if_neg (by decide)]
  · have ht : tX8_at F (ii z) y M = some exI := by unfold tX8_at; rw [(rs_0 hz hn).1]; rfl
    refine ⟨1, M, 0, pI M 37 0 1, w_at_I ht, ?_, p371 1, fun e => absurd e (by decide), h.refuse 1⟩
    unfold fX9_at fX9_at_L31
    rw [(rs_0 hz hn).2, bd_eq, if_pos rfl, nm_eq, p371, if_neg (by decide)]
theorem op_look (x : Int32) : OPE c (fX8_look F x) (fX9_look_ F x) := by
  intro M h
  obtain ⟨s, n, fi, la, m, ls, ll, h⟩ := h
  have fr : Fr [37] [0] M (pI M 37 0 0) := Fr.i (by decide) (by decide)
  have hn : Inv (c + 1) (pI M 37 0 0) := ⟨s, n, fi, la, m, ls, ll, h.same fr (by decide) (by decide) (fun j _ => by rw [pI_d (by decide)])⟩
  have hg := h.1.1.b
  have e37 : ∀ j, j ≠ 0 → (pI M 37 0 0).1 37 j = M.1 37 j := fun j hj => by rw [pI_c, up_d hj]
  obtain ⟨T, -, t1, t2, -⟩ := h.2.2.2.2.1
  have hfull : cnt (M.2 3 4) = la + 1 - fi := by
    rw [cnt_ct]
    rw [← ct_shift h.1.1 (S := bt (M.2 3 4)) (fun x hx => by rw [h.1.2.1.2.2.2.2 x] at hx; exact of_decide_eq_true hx)]
    apply fb_ct_all.mpr
    intro k hk
    rw [h.1.2.1.2.2.2.2]
    exact decide_eq_true (by omega)
  refine ⟨(if x = 0 then ii s else if x = 1 then ii n else if x = 2 then ii ((la + 1 - fi : Nat) : Int) else if x = 3 then ii m else if x = 4 then ii ll.length else if x = 5 then M.1 37 17 else if x = 6 then ii T else -1), M, pI M 37 0 0, ?_, ?_, hn⟩
  · unfold fX8_look
    rw [bitCount_eq, bd_eq, hfull, h.1.2.1.1, h.1.2.1.2.1, h.1.2.2.2.1.1, h.2.2.1.1.1, h.2.2.2.2.2.2.2.1, t1]
    by_cases h0 : x = 0
    · rw [if_pos h0, if_pos h0]
    · rw [if_neg h0, if_neg h0]
      by_cases h1 : x = 1
      · rw [if_pos h1, if_pos h1]
      · rw [if_neg h1, if_neg h1]
        by_cases h2 : x = 2
        · rw [if_pos h2, if_pos h2]
        · rw [if_neg h2, if_neg h2]
          by_cases h3 : x = 3
          · rw [if_pos h3, if_pos h3]
          · rw [if_neg h3, if_neg h3]
            by_cases h4 : x = 4
            · rw [if_pos h4, if_pos h4]
            · rw [if_neg h4, if_neg h4]
              by_cases h5 : x = 5
              · rw [if_pos h5, if_pos h5]
              · rw [if_neg h5, if_neg h5]
                by_cases h6 : x = 6
                · rw [if_pos h6, if_pos h6]
                · rw [if_neg h6, if_neg h6]
  · unfold fX9_look_
    simp only [nm_eq]
    rw [e37 3 (by decide), e37 4 (by decide), e37 5 (by decide), e37 13 (by decide), e37 23 (by decide), e37 17 (by decide), e37 2 (by decide), h.1.2.2.1.1, h.1.2.2.1.2.1, h.1.2.2.1.2.2.1, h.1.2.2.2.2.1.1, h.2.2.1.2.1.1, t2, show ((la : Int) - fi + 1) = ((la + 1 - fi : Nat) : Int) by omega]
    by_cases h0 : x = 0
    · rw [if_pos h0, if_pos h0]
    · rw [if_neg h0, if_neg h0]
      by_cases h1 : x = 1
      · rw [if_pos h1, if_pos h1]
      · rw [if_neg h1, if_neg h1]
        by_cases h2 : x = 2
        · rw [if_pos h2, if_pos h2]
        · rw [if_neg h2, if_neg h2]
          by_cases h3 : x = 3
          · rw [if_pos h3, if_pos h3]
          · rw [if_neg h3, if_neg h3]
            by_cases h4 : x = 4
            · rw [if_pos h4, if_pos h4]
            · rw [if_neg h4, if_neg h4]
              by_cases h5 : x = 5
              · rw [if_pos h5, if_pos h5]
              · rw [if_neg h5, if_neg h5]
                by_cases h6 : x = 6
                · rw [if_pos h6, if_pos h6]
                · rw [if_neg h6, if_neg h6]
end OA
