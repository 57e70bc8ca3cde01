/-! calls: ground, sheet, listed -/
section OE
variable {F c : Nat} {s n fi la m : Nat} {ls : Nat → LawT} {ll : List (Nat → Bool)} {M N : Mem}
theorem op_ground (hF : 100000 ≤ F) (x y : Int32) : OPE c (fX8_ground F x y) (fX9_ground F x y) := by
  intro M h
  obtain ⟨x, rfl, hx⟩ := ii_ex x
  obtain ⟨y, rfl, hy⟩ := ii_ex y
  obtain ⟨s, n, fi, la, m, ls, ll, h⟩ := h
  by_cases q : GOk x y
  · obtain ⟨s', rfl⟩ : ∃ s' : Nat, x = s' := ⟨x.toNat, by unfold GOk at q; omega⟩
    obtain ⟨n', rfl⟩ : ∃ n' : Nat, y = n' := ⟨y.toNat, by unfold GOk at q; omega⟩
    obtain ⟨la', N1, a1, a2, a3, a4⟩ := lay_eq hF q M
    generalize hfi : (if s' = 0 then 1 else 0) = fi' at a3 a4
    have h8 : fX8_ground F (ii s') (ii n') M = some (1, pI (pI (pLr (pI (pI (pI (pI N1 4 2 0) 4 6 0) 15 2 0) 15 3 (-1)) 34 (fun j => if j < 8 then 0 else (pI (pI (pI (pI N1 4 2 0) 4 6 0) 15 2 0) 15 3 (-1)).2 34 j)) 0 9 0) 0 11 0) := by
      unfold fX8_ground fX3_clear fX4_clear
      simp only [nm_eq]
      rw [a1, bd_eq, if_neg (by decide), bv_eq, bv_eq, fill34_eq hF, bv_eq]
    generalize hP : pI (pI (pLr (pI (pI (pI (pI N1 4 2 0) 4 6 0) 15 2 0) 15 3 (-1)) 34 (fun j => if j < 8 then 0 else (pI (pI (pI (pI N1 4 2 0) 4 6 0) 15 2 0) 15 3 (-1)).2 34 j)) 0 9 0) 0 11 0 = P at h8
    have sP : Sm [0, 4, 15, 34] N1 P := by
      rw [← hP]
      exact ((((((Sm.i (by decide)).tr (Sm.i (by decide))).tr (Sm.i (by decide))).tr (Sm.i (by decide))).tr (Sm.lr (by decide))).tr (Sm.i (by decide))).tr (Sm.i (by decide))
    obtain ⟨K, b1, b2, b3, b4, b5, b6, b7, b8, b9, b10, b11⟩ := ground9_eq hF q (by rw [hfi]; exact a3) P
    rw [hfi] at b3
    have sM : Sm [0, 3, 4, 15, 34, 37, 39] M K := ((a2.mono (by decide)).tr (sP.mono (by decide))).tr (b2.mono (by decide))
    have e37 : P.1 37 = M.1 37 := by rw [(sP 37 (by decide)).1, (a2 37 (by decide)).1]
    have k4 : K.1 4 = P.1 4 := (b2 4 (by decide)).1
    have k15 : K.1 15 = P.1 15 := (b2 15 (by decide)).1
    have k34 : K.2 34 = P.2 34 := (b2 34 (by decide)).2
    have k0 : K.1 0 = P.1 0 := (b2 0 (by decide)).1
    have p42 : P.1 4 2 = 0 := by rw [← hP]; simp [pI_at, pLr_1]
    have p46 : P.1 4 6 = 0 := by rw [← hP]; simp [pI_at, pLr_1]
    have p152 : P.1 15 2 = 0 := by rw [← hP]; simp [pI_at, pLr_1]
    have p153 : P.1 15 3 = -1 := by rw [← hP]; simp [pI_at, pLr_1]
    have p09 : P.1 0 9 = 0 := by rw [← hP]; simp [pI_at, pLr_1]
    have p011 : P.1 0 11 = 0 := by rw [← hP]; simp [pI_at, pLr_1]
    have p012 : P.1 0 12 = M.1 0 12 := by rw [← hP, pI_c, up_d (by decide), pI_c, up_d (by decide), pLr_1, pI_d (by decide), pI_d (by decide), pI_d (by decide), pI_d (by decide), (a2 0 (by decide)).1]
    have p34 : ∀ k, k < 8 → P.2 34 k = 0 := fun k hk => by rw [← hP, pI_2, pI_2, pLr_c, if_pos hk]
    obtain ⟨h1, h2, h3, h4, h5, h6, h7, h8', h9⟩ := h
    refine ⟨1, P, K, h8, b1, s', n', fi', la', 0, ls, [], ⟨a3, (a4.sm sP (by decide)).sm b2 (by decide), b3, ⟨by rw [k4, p42]; rfl, by omega, fun i hi => by omega⟩, ⟨b5, by omega, fun i hi => by omega⟩, fun e => absurd (by rw [k4, p46]) e⟩, fun k hk => ?_, ⟨⟨by rw [k15, p152]; rfl, by simp, fun i hi => by simp at hi⟩, ⟨b6, by simp, fun i hi => by simp at hi⟩, List.Pairwise.nil, fun S hS => by simp at hS, fun t ht e => ?_⟩, ?_, ?_, ?_, ?_, ?_, ?_⟩
    · rw [k34, p34 k hk, bt0]
      exact ⟨fun x hx => (by cases hx), fun j hj => (by rw [b4 _ (by omega)]; rfl)⟩
    · rw [k15, p153, show (-1 : Int32) = ii (-1) from rfl, ii_eq (by omega) (by omega) (by omega) (by omega)] at e
      omega
    · have h4' := h4
      unfold Agr at h4' ⊢
      rw [(sM 28 (by decide)).1, (sM 29 (by decide)).2]
      exact h4'
    · unfold IT
      rw [(sM 1 (by decide)).1, (sM 2 (by decide)).1, (sM 38 (by decide)).1, b10, e37]
      exact h5
    · exact ⟨by rw [k0, p09, b7], fun e => absurd (by rw [k0, p09]) e⟩
    · exact ⟨by rw [k0, p011, b8], fun e => absurd (by rw [k0, p011]) e⟩
    · unfold IK
      rw [k0, p012, b11, e37]
      exact h8'
    · have : IR c K := by
        unfold IR
        rw [(sM 30 (by decide)).1, (sM 31 (by decide)).1]
        exact h9
      exact this.up
  · obtain ⟨b, b1, b2⟩ := fits1_eq (F := F) (M := M) hx hy
    have hb : b = false := by
      cases b with
      | false => rfl
      | true => exact absurd (b2.mp rfl) q
    refine ⟨0, M, pI M 37 0 0, ?_, ground9_no hx hy q, h.inv.refuse 0⟩
    unfold fX8_ground fX1_lay
    rw [b1, hb, bd_eq, if_pos (by decide), bd_eq, if_pos rfl]
theorem listed_35 {a q : Nat} (ha : a < 8) (hq : q < 300) {S : Nat → Bool} : ∀ (k N j : Nat) (M : Mem), j + k = 60 → k < N → (∀ i, i < 60 → M.1 49 (60 * q + i) = bi (S (fi + i))) → (∀ i, i < j → M.1 39 (60 * a + i) = bi (S (fi + i))) →
    ∃ M', fX9_listed_L35 F (ii a) (ii q) N (ii j) M = bd (fX9_sizeOf F (ii a) M') (fun u9 N7 => some (u9, N7)) ∧ Sm [39] M M' ∧ Row M' fi a S ∧ ∀ i, (i < 60 * a ∨ 60 * a + 60 ≤ i) → M'.1 39 i = M.1 39 i
  | 0, N + 1, j, M, h1, h2, h3, h4 => ⟨M, by rw [fX9_listed_L35, if_pos (by rw [show (60 : Int32) = ii 60 from rfl, ii_le] <;> omega)], Sm.rf, fun i hi => h4 i (by omega), fun _ _ => rfl⟩
  | k + 1, N + 1, j, M, h1, h2, h3, h4 => by
    have s1 : Sm [39] M (pI M 39 (60 * a + j) (bi (S (fi + j)))) := Sm.i (by decide)
    obtain ⟨M', g1, g2, g3, g4⟩ := listed_35 ha hq (S := S) k N (j + 1) (pI M 39 (60 * a + j) (bi (S (fi + j)))) (by omega) (by omega) (fun i hi => by rw [pI_d (by decide)]; exact h3 i hi) (fun i hi => by
      rw [pI_c]
      by_cases e : i = j
      · rw [e, up_c]
      · rw [up_d (by omega)]; exact h4 i (by omega))
    refine ⟨M', ?_, s1.tr g2, g3, fun i hi => by rw [g4 i hi, pI_c, up_d (by omega)]⟩
    rw [fX9_listed_L35, if_neg (by rw [show (60 : Int32) = ii 60 from rfl, ii_le] <;> omega), show (60 : Int32) = ii 60 from rfl, ii_mul, ii_mul, ii_add, ii_add, gd_inb (by omega) (by omega) (by omega), gd_inb (by omega) (by omega) (by omega), ii_nat (by omega) (by omega), ii_nat (by omega) (by omega), show (60 * (q : Int) + (j : Int)).toNat = 60 * q + j by omega, show (60 * (a : Int) + (j : Int)).toNat = 60 * a + j by omega, h3 j (by omega), bi_isb, gd_eq, nm_eq, nm_eq, ii_suc, g1]
theorem op_listed (hF : 100000 ≤ F) (x y : Int32) : OPI c (wL_listed F x y) (fX9_listed F x y) := by
  intro M h
  rcases set_cases x with ⟨k, hk, rfl⟩ | ⟨z, hz, hn, rfl⟩
  · obtain ⟨s, n, fi, la, m, ls, ll, h⟩ := h
    obtain ⟨y, rfl, hy⟩ := ii_ex y
    have hG := h.1.1
    have hg := hG.b
    have hR := h.1.2.2.1
    obtain ⟨l1, l2, l3, l4, l5⟩ := h.2.2.1
    have ht : tX8_listed F (ii k) (ii y) M = none := by unfold tX8_listed; rw [(rs_1 hk).1, tor_n, (rs_1 hk).2.1]; rfl
    have c0 : (ii y < 0) = (y < 0) := propext (by rw [ii_lit0]; exact ii_lt hy.1 hy.2 (by omega) (by omega))
    have c1 : (ii y < ii ll.length) = (y < (ll.length : Int)) := propext (ii_lt hy.1 hy.2 (by omega) (by have := l1.2.1; omega))
    by_cases q : 0 ≤ y ∧ y < (ll.length : Int)
    · obtain ⟨i, rfl⟩ : ∃ i : Nat, y = i := ⟨y.toNat, by omega⟩
      have hi : i < ll.length := by omega
      have hll := l1.2.1
      have hb : bt (M.2 16 i) = ll[i] := l1.2.2 i hi
      have hS : Sup fi la ll[i] := l4 _ (List.getElem_mem hi)
      generalize hu : ii (ct ll[i]) = u
      have hf : fX8_listed F (ii k) (ii i) M = some (u, pL M 34 k (M.2 16 i)) := by
        unfold fX8_listed
        rw [(rs_1 hk).2.1, bv_eq, l1.1]
        simp only [c0, c1]
        rw [if_neg (by omega), if_pos q.2, gd_inb (by omega) (by omega) (by omega), gd_inb (by omega) (by omega) (by omega), nm_eq, gd_inb (by omega) (by omega) (by omega), ii_nat (by omega) (by omega), Int.toNat_natCast, ii_nat (by omega) (by omega), Int.toNat_natCast, pL_c, uL_c, bitCount_eq, bd_eq, cnt_ct, hb, hu]
      have fr : Fr [34, 37, 39, 55] [0] M (pI (pL (pL M 34 k (M.2 16 i)) 55 0 u.toInt64) 37 0 0) := (Fr.mono (Fr.of (cs := [34, 55]) ((Sm.l (by decide)).tr (Sm.l (by decide))) (by decide)) (by decide) (by decide)).tr (Fr.i (by decide) (by decide))
      generalize hP : pI (pL (pL M 34 k (M.2 16 i)) 55 0 u.toInt64) 37 0 0 = P at fr
      obtain ⟨K, b1, b2, b3, b4⟩ := listed_35 (F := F) (fi := fi) (a := k) (q := i) (S := ll[i]) hk (by omega) 60 F 0 P (by omega) (by omega) (fun j hj => by rw [(fr.1 49 (by decide)).1]; exact l2.2.2 i hi j hj) (fun j hj => by omega)
      have frk : Fr [34, 37, 39, 55] [0] M K := fr.tr (Fr.mono (Fr.of b2 (by decide)) (by decide) (by decide))
      refine opi_ok (w_listed_ok ht hf) (K := K) ?_ ?_ ?_ ⟨s, n, fi, la, m, ls, ll, h.put (k := k) (w := M.2 16 i) (frk.mono (by decide) (by decide)) (h.2.2.2.2.2.2.2.2.tr frk (by decide)).up hk ?_ ?_ (by rw [hb]; exact hS) (by rw [hb]; exact b3)⟩
      · unfold fX9_listed
        rw [(rs_1 hk).2.2, bd_eq, if_neg (by decide), nm_eq, hP]
        simp only [c0]
        rw [if_neg (by omega), fr.2 23 (by decide), l2.1]
        simp only [c1]
        rw [if_pos q.2]
        refine Eq.trans b1 ?_
        rw [size_eq hF hG (hR.f frk (by decide)) (by omega) hS b3, bd_eq, hu]
      · rw [(b2 37 (by decide)).1, ← hP, p370]
      · rw [(b2 55 (by decide)).2, ← hP, pI_2, pL_c, uL_c]
      · rw [(b2 34 (by decide)).2, ← hP, pI_2, pL_d (by decide), pL_c]
      · intro j hj _
        rw [b4 j hj, ← hP, pI_d (by decide), pL_1, pL_1]
    · have hf : fX8_listed F (ii k) (ii y) M = some (-1, M) := by
        unfold fX8_listed
        rw [(rs_1 hk).2.1, bv_eq, l1.1]
        simp only [c0, c1]
        by_cases q2 : y < 0
        · rw [if_pos q2]
        · rw [if_neg q2, if_neg (by omega)]
      have fr : Fr [37, 55] [0] M (pI (pL M 55 0 (-1 : Int32).toInt64) 37 0 0) := (Fr.mono (Fr.of (cs := [55]) (Sm.l (by decide)) (by decide)) (by decide) (by decide)).tr (Fr.i (by decide) (by decide))
      refine opi_ok (w_listed_ok ht hf) (K := pI (pL M 55 0 (-1 : Int32).toInt64) 37 0 0) ?_ p370 ?_ ⟨s, n, fi, la, m, ls, ll, h.same fr (by decide) (by decide) (fun j _ => by rw [(fr.1 39 (by decide)).1])⟩
      · unfold fX9_listed
        rw [(rs_1 hk).2.2, bd_eq, if_neg (by decide), nm_eq, fr.2 23 (by decide), l2.1]
        simp only [c0, c1]
        by_cases q2 : y < 0
        · rw [if_pos q2]
        · rw [if_neg q2, if_neg (by omega)]
      · rw [pI_2, pL_c, uL_c]
  · have ht : tX8_listed F (ii z) y M = some exI := by unfold tX8_listed; rw [(rs_0 hz hn).1]; rfl
    refine ⟨1, M, 0, pI M 37 0 1, w_listed_I ht, ?_, p371 1, fun e => absurd e (by decide), h.refuse 1⟩
    unfold fX9_listed
    rw [(rs_0 hz hn).2, bd_eq, if_pos rfl, refuse_eq, bd_eq]
theorem wid (b : Nat) (h : b < 4) : ∃ w : Nat, (1 ≤ w ∧ w ≤ 8) ∧ (1 : Int32) <<< (ii b &&& 31) = ii w := by
  have : b = 0 ∨ b = 1 ∨ b = 2 ∨ b = 3 := by omega
  rcases this with rfl | rfl | rfl | rfl
  · exact ⟨1, by omega, by decide⟩
  · exact ⟨2, by omega, by decide⟩
  · exact ⟨4, by omega, by decide⟩
  · exact ⟨8, by omega, by decide⟩
theorem op_sheet (hF : 100000 ≤ F) (x y : Int32) : OPI c (wL_sheet F x y) (fX9_sheet F x y) := by
  intro M h
  obtain ⟨y, rfl, hy⟩ := ii_ex y
  have c0 : (ii y < 0) = (y < 0) := propext (by rw [ii_lit0]; exact ii_lt hy.1 hy.2 (by omega) (by omega))
  have c1 : (ii y < 4) = (y < 4) := propext (by rw [show (4 : Int32) = ii 4 from rfl]; exact ii_lt hy.1 hy.2 (by omega) (by omega))
  have c2 : (ii y ≤ 3) = (y ≤ 3) := propext (by rw [show (3 : Int32) = ii 3 from rfl]; exact ii_le hy.1 hy.2 (by omega) (by omega))
  rcases set_cases x with ⟨k, hk, rfl⟩ | ⟨z, hz, hn, rfl⟩
  · by_cases q : 0 ≤ y ∧ y < 4
    · obtain ⟨b, rfl⟩ : ∃ b : Nat, y = b := ⟨y.toNat, by omega⟩
      obtain ⟨w, hw, ew⟩ := wid b (by omega)
      obtain ⟨s, n, fi, la, m, ls, ll, h⟩ := h
      have hG := h.1.1
      have hg := hG.b
      have hR := h.1.2.2.1
      obtain ⟨T, t0, t1, t2, t3⟩ := h.2.2.2.2.1
      have ht : tX8_sheet F (ii k) (ii b) M = none := by
        unfold tX8_sheet
        simp only [c0, c1]
        rw [(rs_1 hk).1, tor_n, (rs_1 hk).2.1, bv_eq, if_neg (by omega), if_pos q.2]
      obtain ⟨v', a1, a2, a3⟩ := sheetc_L hF hG (M := pI M 1 1 0) (h.1.2.1.sm (cs := [1]) (Sm.i (by decide)) (by decide)) (T := T) (w := w) (a := k) t0 hw hk (ii b) (T + 1) F 0 0 (by omega) (by omega) (by omega) (by rw [bt0]; intro x hx; cases hx)
      rw [bt0, shf_cong (M := M) (by rw [pI_d (by decide)])] at a1 a2
      generalize hr : shf M fi la T w (T + 1) 0 (fun _ => false) = r at a1 a2
      generalize hu : ii r.1 = u at a1
      generalize hP : (if r.2.2 then pL (pI M 1 1 0) 34 k v' else pI M 1 1 0) = P at a1
      have sP : Sm [1, 34] M P := by
        rw [← hP]
        split
        · exact (Sm.i (by decide)).tr (Sm.l (by decide))
        · exact Sm.i (by decide)
      have hf : fX8_sheet F (ii k) (ii b) M = some (u, P) := by
        unfold fX8_sheet
        simp only [c0, c1]
        rw [(rs_1 hk).2.1, bv_eq, if_neg (by omega), if_pos q.2, nm_eq, nm_eq, nm_eq, t1, ew]
        exact a1
      have fr : Fr [1, 34, 37, 39, 55] [0, 2] M (pI (pI (pL P 55 0 u.toInt64) 37 0 0) 37 2 0) := ((Fr.mono (Fr.of (cs := [1, 34, 55]) ((sP.mono (by decide)).tr (Sm.l (by decide))) (by decide)) (by decide) (by decide)).tr (Fr.i (by decide) (by decide))).tr (Fr.i (by decide) (by decide))
      generalize hQ : pI (pI (pL P 55 0 u.toInt64) 37 0 0) 37 2 0 = Q at fr
      obtain ⟨Q1, f1, f2, f3, f4⟩ := clear_eq (M := Q) (fi := fi) hF (r := 8) (by omega)
      have frb : Fr [1, 34, 37, 39, 55] [0, 2] M Q1 := fr.tr (Fr.mono (Fr.of f2 (by decide)) (by decide) (by decide))
      obtain ⟨K, g1, g2, g3, g4⟩ := sheetr_L hF hG (T := T) (w := w) (a := k) t0 hw hk (ii b) (T + 1) F 0 Q1 (fun _ => false) (by omega) (by omega) (by omega) (fun x hx => by cases hx) (hR.f frb (by decide)) f3 (fun j hj => by rw [(frb.1 2 (by decide)).1, (frb.1 38 (by decide)).1]; exact t3 j hj)
      rw [shf_cong (M := M) (by rw [(frb.1 2 (by decide)).1]), hr] at g1 g3 g4
      rw [hu] at g1
      have frk : Fr [1, 34, 37, 39, 55] [0, 2] M K := frb.tr (Fr.mono (Fr.of g2 (by decide)) (by decide) (by decide))
      have e39 : Q.1 39 = M.1 39 := by rw [← hQ, pI_d (by decide), pI_d (by decide), pL_1, (sP 39 (by decide)).1]
      have e34 : K.2 34 = P.2 34 := by rw [(g2 34 (by decide)).2, (f2 34 (by decide)).2, ← hQ, pI_2, pI_2, pL_d (by decide)]
      have e1 : K.1 1 = P.1 1 := by rw [(g2 1 (by decide)).1, (f2 1 (by decide)).1, ← hQ, pI_d (by decide), pI_d (by decide), pL_1]
      have e37 : K.1 37 = Q.1 37 := by rw [(g2 37 (by decide)).1, (f2 37 (by decide)).1]
      have hIS : IS fi la K := by
        cases q3 : r.2.2 with
        | true =>
          refine h.2.1.put hk (w := v') ?_ ?_ a3 (by rw [a2]; exact g3 q3)
          · rw [e34, ← hP, q3, if_pos rfl, pL_c, pI_2]
          · intro j hj hj2
            rw [g4 j (Or.inl hj2) (Or.inr hj), f4 j (by omega), e39]
        | false =>
          intro i hi
          have e : K.2 34 = M.2 34 := by rw [e34, ← hP, q3, if_neg (by decide), pI_2]
          rw [e]
          exact ⟨(h.2.1 i hi).1, (h.2.1 i hi).2.cong (fun j h1 h2 => by rw [g4 j (Or.inl (by omega)) (Or.inl q3), f4 j (by omega), e39])⟩
      obtain ⟨h1, h2, h3, h4, h5, h6, h7, h8, h9⟩ := h
      have e0 := (frk.1 0 (by decide)).1
      refine opi_ok (w_sheet_ok ht hf) (K := K) ?_ ?_ ?_ ⟨s, n, fi, la, m, ls, ll, h1.tr frk (by decide) (by decide), hIS, h3.tr frk (by decide) (by decide), h4.tr frk (by decide), ⟨0, by omega, ?_, ?_, fun j hj => by omega⟩, h6.tr frk (by rw [e0]) (by decide) (by decide), h7.tr frk (by rw [e0]) (by decide) (by decide), h8.tr frk (by rw [e0]) (by decide), (h9.tr frk (by decide)).up⟩
      · unfold fX9_sheet fX9_sheet_L27
        simp only [c0, c2]
        rw [(rs_1 hk).2.2, bd_eq, if_neg (by decide), if_neg (by omega), if_pos (by omega), nm_eq, p370, if_pos (by decide), nm_eq, nm_eq, nm_eq, hQ, ew, show (pI (pL P 55 0 u.toInt64) 37 0 0).1 37 2 = ii T by
          rw [pI_c, up_d (by decide), pL_1, (sP 37 (by decide)).1, t2]]
        have f1' : fX9_clear F 8 Q = some Q1 := f1
        rw [f1', bv_eq]
        exact g1
      · rw [e37, ← hQ, pI_c, up_d (by decide), p370]
      · rw [(g2 55 (by decide)).2, (f2 55 (by decide)).2, ← hQ, pI_2, pI_2, pL_c, uL_c]
      · rw [e1, ← hP]
        split
        · rw [pL_1, pI_c, up_c]; rfl
        · rw [pI_c, up_c]; rfl
      · rw [e37, ← hQ, pI_c, up_c]; rfl
    · have ht : tX8_sheet F (ii k) (ii y) M = some exA := by
        unfold tX8_sheet
        simp only [c0, c1]
        rw [(rs_1 hk).1, tor_n, (rs_1 hk).2.1, bv_eq]
        by_cases q2 : y < 0
        · rw [if_pos q2]
        · rw [if_neg q2, if_neg (by omega)]
      refine ⟨2, M, 0, pI M 37 0 2, w_sheet_A ht, ?_, p371 2, fun e => absurd e (by decide), h.refuse 2⟩
      unfold fX9_sheet fX9_sheet_L27
      simp only [c0, c2, nm_eq]
      rw [(rs_1 hk).2.2, bd_eq, if_neg (by decide), p371, if_neg (show ¬ (2 : Int32) ≤ 0 by decide)]
      by_cases q2 : y < 0
      · rw [if_pos q2]
      · rw [if_neg q2, if_neg (by omega)]
  · have ht : tX8_sheet F (ii z) (ii y) M = some exI := by unfold tX8_sheet; rw [(rs_0 hz hn).1]; rfl
    refine ⟨1, M, 0, pI M 37 0 1, w_sheet_I ht, ?_, p371 1, fun e => absurd e (by decide), h.refuse 1⟩
    unfold fX9_sheet fX9_sheet_L27
    rw [(rs_0 hz hn).2, bd_eq, if_pos rfl, nm_eq, p371, if_neg (by decide)]
end OE
