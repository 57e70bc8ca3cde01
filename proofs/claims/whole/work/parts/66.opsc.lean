/-! calls: energy, order, sums -/
section OC
variable {F c : Nat}
/-- both have answered -/
theorem opi_ok {W R : Mem → Option (Int32 × Mem)} {M N K : Mem} {u : Int32} (hW : W M = some (0, pL N 55 0 u.toInt64)) (hR : R (pL N 55 0 u.toInt64) = some (u, K)) (h0 : K.1 37 0 = 0) (h55 : K.2 55 0 = u.toInt64) (hI : Inv (c + 1) K) : ∃ u N v K, W M = some (u, N) ∧ R N = some (v, K) ∧ K.1 37 0 = u ∧ (u = 0 → K.2 55 0 = v.toInt64) ∧ Inv (c + 1) K :=
  ⟨0, _, u, K, hW, hR, h0, fun _ => h55, hI⟩
theorem refuse_eq (v : Int32) (M : Mem) : fX9_refuse F v M = some (0, pI M 37 0 v) := rfl
theorem op_energy (hF : 100000 ≤ F) (x : Int32) : OPI c (wL_energy F x) (fX9_energy F x) := by
  intro M h
  rcases set_cases x with ⟨k, hk, rfl⟩ | ⟨z, hz, hn, rfl⟩
  · obtain ⟨s, n, fi, la, m, ls, ll, h⟩ := h
    have hs := h.set hk
    have hR := h.1.2.2.1
    have ht : tX8_energy F (ii k) M = none := by unfold tX8_energy; rw [(rs_1 hk).1, tor_n, (rs_1 hk).2.1]; rfl
    obtain ⟨N, a1, a2⟩ := equalSums_eq hF h.1.1 hs.1 h.1.2.1
    generalize hu : ii (sq (cx (pe s n fi la) (bt (M.2 34 k)) (bt (M.2 34 k)) fi (la + 1 - fi) (la + 1 - fi)) 121) = u at a1
    have hf : fX8_energy F (ii k) M = some (u, N) := by
      unfold fX8_energy
      rw [(rs_1 hk).2.1, bv_eq, gd_inb (by omega) (by omega) (by omega), ii_nat (by omega) (by omega), Int.toNat_natCast, a1, bd_eq]
    have fr : Fr [32, 37, 53, 55] [0] M (pI (pL N 55 0 u.toInt64) 37 0 0) := (Fr.mono (Fr.of (cs := [32, 55]) ((a2.mono (by decide)).tr (Sm.l (by decide))) (by decide)) (by decide) (by decide)).tr (Fr.i (by decide) (by decide))
    obtain ⟨K, b1, b2⟩ := energy9_eq hF h.1.1 hs.1 (r := k) (by omega) (hR.f fr (by decide)) (hs.2.sm fr.1 (by decide))
    rw [hu] at b1
    have fr2 : Fr [32, 37, 53, 55] [0] M K := fr.tr (Fr.mono (Fr.of b2 (by decide)) (by decide) (by decide))
    refine opi_ok (w_energy_ok ht hf) (K := K) ?_ ?_ ?_ ⟨s, n, fi, la, m, ls, ll, h.same fr2 (by decide) (by decide) (fun j _ => by rw [(fr2.1 39 (by decide)).1])⟩
    · unfold fX9_energy
      rw [(rs_1 hk).2.2, bd_eq, if_neg (by decide), nm_eq, b1]
    · rw [(b2 37 (by decide)).1, p370]
    · rw [(b2 55 (by decide)).2, pI_2, pL_c, uL_c]
  · have ht : tX8_energy F (ii z) M = some exI := by unfold tX8_energy; rw [(rs_0 hz hn).1]; rfl
    refine ⟨1, M, 0, pI M 37 0 1, w_energy_I ht, ?_, p371 1, fun e => absurd e (by decide), h.refuse 1⟩
    unfold fX9_energy
    rw [(rs_0 hz hn).2, bd_eq, if_pos rfl, refuse_eq, bd_eq]
theorem op_order (hF : 100000 ≤ F) (x : Int32) : OPI c (wL_order F x) (fX9_order F x) := by
  intro M h
  rcases set_cases x with ⟨k, hk, rfl⟩ | ⟨z, hz, hn, rfl⟩
  · obtain ⟨s, n, fi, la, m, ls, ll, h⟩ := h
    have hs := h.set hk
    have hR := h.1.2.2.1
    have hg := h.1.1.b
    have ht : tX8_order F (ii k) M = none := by unfold tX8_order; rw [(rs_1 hk).1, tor_n, (rs_1 hk).2.1]; rfl
    have e3 : (M.1 3 0 = 0) = (s = 0) := propext (by rw [h.1.2.1.1, ii_lit0, ii_eq (by omega) (by omega) (by omega) (by omega)]; omega)
    by_cases q : s = 0
    · subst q
      have hii : fX1_isIn F (M.2 34 k) 1 M = some (bi (bt (M.2 34 k) 1), M) := by
        have := isIn_eq (F := F) (x := ((1 : Nat) : Int)) h.1.1 h.1.2.1 hs.1 (by omega) (by omega)
        rw [mm_nat] at this
        exact this
      have h8 : fX8_order F (ii k) M = (if bi (bt (M.2 34 k) 1) = 0 then some ((-1 : Int32), M) else bd (fX5_mostSummands F (M.2 34 k) M) (fun u12 N10 => some (u12, N10))) := by
        unfold fX8_order
        rw [(rs_1 hk).2.1, bv_eq]
        simp only [e3]
        rw [if_pos trivial, gd_inb (by omega) (by omega) (by omega), ii_nat (by omega) (by omega), Int.toNat_natCast, hii, bd_eq, gd_inb (by omega) (by omega) (by omega)]
      -- what the reference does
      have h9 : ∀ N, fX9_order F (ii k) N = fX9_order F (ii k) N := fun _ => rfl
      have go : ∀ (N : Mem) (u : Int32), Sm [33] M N → fX8_order F (ii k) M = some (u, N) → (∀ P, RG 0 n fi la P → Row P fi k (bt (M.2 34 k)) → P.1 53 0 = 0 → ∃ P', fX9_order_L39 F (ii k) F 0 1 P = some (u, P') ∧ Sm [53] P P') → ∃ u N v K, wL_order F (ii k) M = some (u, N) ∧ fX9_order F (ii k) N = some (v, K) ∧ K.1 37 0 = u ∧ (u = 0 → K.2 55 0 = v.toInt64) ∧ Inv (c + 1) K := by
        intro N u a2 hf hgo
        have fr : Fr [33, 37, 53, 55] [0] M (pI (pI (pL N 55 0 u.toInt64) 37 0 0) 53 0 0) := ((Fr.mono (Fr.of (cs := [33, 55]) ((a2.mono (by decide)).tr (Sm.l (by decide))) (by decide)) (by decide) (by decide)).tr (Fr.i (by decide) (by decide))).tr (Fr.mono (Fr.of (cs := [53]) (Sm.i (by decide)) (by decide)) (by decide) (by decide))
        obtain ⟨K, b1, b2⟩ := hgo _ (hR.f fr (by decide)) (hs.2.sm fr.1 (by decide)) (by rw [pI_c, up_c])
        have fr2 : Fr [33, 37, 53, 55] [0] M K := fr.tr (Fr.mono (Fr.of b2 (by decide)) (by decide) (by decide))
        refine opi_ok (w_order_ok ht hf) (K := K) ?_ ?_ ?_ ⟨0, n, fi, la, m, ls, ll, h.same fr2 (by decide) (by decide) (fun j _ => by rw [(fr2.1 39 (by decide)).1])⟩
        · unfold fX9_order
          rw [(rs_1 hk).2.2, bd_eq, if_neg (by decide), nm_eq, if_pos (by
            rw [pI_c, up_d (by decide), pL_1, (a2 37 (by decide)).1, hR.1]; rfl)]
          exact b1
        · rw [(b2 37 (by decide)).1, pI_d (by decide), p370]
        · rw [(b2 55 (by decide)).2, pI_2, pI_2, pL_c, uL_c]
      cases q1 : bt (M.2 34 k) 1 with
      | false =>
        rw [q1, if_pos (by decide)] at h8
        refine go M (-1) Sm.rf h8 (fun P hP hw _ => ?_)
        exact order_no hF h.1.1 hs.1 q1 (by omega) hP hw
      | true =>
        obtain ⟨N, a1, a2⟩ := most_eq hF h.1.1 hs.1 h.1.2.1
        rw [q1, if_neg (by decide), a1, bd_eq] at h8
        refine go N _ a2 h8 (fun P hP hw h0 => ?_)
        exact order_39 h.1.1 hs.1 q1 (by omega) hF n F 0 P (by omega) (by omega) hP hw (fun i hi => by
          rw [show i = 0 by omega, h0]; rfl)
    · have hf : fX8_order F (ii k) M = some (-1, M) := by
        unfold fX8_order
        rw [(rs_1 hk).2.1, bv_eq]
        simp only [e3]
        rw [if_neg q]
      have fr : Fr [37, 55] [0] M (pI (pL M 55 0 (-1 : Int32).toInt64) 37 0 0) := (Fr.mono (Fr.of (cs := [55]) (Sm.l (by decide)) (by decide)) (by decide) (by decide)).tr (Fr.i (by decide) (by decide))
      refine opi_ok (w_order_ok ht hf) (K := pI (pL M 55 0 (-1 : Int32).toInt64) 37 0 0) ?_ p370 ?_ ⟨s, n, fi, la, m, ls, ll, h.same fr (by decide) (by decide) (fun j _ => by rw [(fr.1 39 (by decide)).1])⟩
      · unfold fX9_order
        rw [(rs_1 hk).2.2, bd_eq, if_neg (by decide), nm_eq, if_neg (by
            rw [pI_c, up_d (by decide), pL_1, hR.1, ii_lit0, ii_eq (by omega) (by omega) (by omega) (by omega)]; omega)]
      · rw [pI_2, pL_c, uL_c]
  · have ht : tX8_order F (ii z) M = some exI := by unfold tX8_order; rw [(rs_0 hz hn).1]; rfl
    refine ⟨1, M, 0, pI M 37 0 1, w_order_I ht, ?_, p371 1, fun e => absurd e (by decide), h.refuse 1⟩
    unfold fX9_order
    rw [(rs_0 hz hn).2, bd_eq, if_pos rfl, refuse_eq, bd_eq]
theorem op_sums (hF : 100000 ≤ F) (hcc : c < 900000) (x y a t : Int32) : OPI c (wL_sums F x y a t) (fX9_sums F x y a t) := by
  intro M h
  rcases set_cases x with ⟨j, hj, rfl⟩ | ⟨z, hz, hn, rfl⟩
  · rcases set_cases y with ⟨k, hk, rfl⟩ | ⟨z, hz, hn, rfl⟩
    · rcases set_cases t with ⟨d, hd, rfl⟩ | ⟨z, hz, hn, rfl⟩
      · obtain ⟨s, n, fi, la, m, ls, ll, h⟩ := h
        obtain ⟨a, rfl, ha⟩ := ii_ex a
        have hsj := h.set hj
        have hsk := h.set hk
        have hR := h.1.2.2.1
        have ht : tX8_sums F (ii j) (ii k) (ii a) (ii d) M = none := by unfold tX8_sums; rw [(rs_1 hj).1, tor_n, (rs_1 hj).2.1, bv_eq, (rs_1 hk).1, tor_n, (rs_1 hk).2.1, bv_eq, (rs_1 hd).1, tor_n, (rs_1 hd).2.1]; rfl
        have c0 : (ii a < 0) = (a < 0) := propext (by rw [ii_lit0]; exact ii_lt ha.1 ha.2 (by omega) (by omega))
        have c2 : (ii a ≤ 2) = (a ≤ 2) := propext (by rw [show (2 : Int32) = ii 2 from rfl]; exact ii_le ha.1 ha.2 (by omega) (by omega))
        by_cases q : 0 ≤ a ∧ a ≤ 2
        · obtain ⟨b, rfl⟩ : ∃ b : Nat, a = b := ⟨a.toNat, by omega⟩
          obtain ⟨r, r1, r2, r3⟩ := h.2.2.2.2.2.2.2.2
          obtain ⟨N, a1, a2, a3⟩ := pair_eq hF h.1.1 (what := b) (by omega) hsj.1 hsk.1 h.1.2.1 (r := r) (by omega) r2 r3
          generalize hcx : cx (ps0 s n fi la b) (bt (M.2 34 j)) (bt (M.2 34 k)) fi (la + 1 - fi) (la + 1 - fi) = cx0 at a1 a3
          generalize hu : ii (fb_ct (sn cx0) 3661) = u at a1
          have hf : fX8_sums F (ii j) (ii k) (ii b) (ii d) M = some (u, pL N 34 d (N.2 30 3)) := by
            unfold fX8_sums
            simp only [c0, c2]
            rw [(rs_1 hj).2.1, bv_eq, (rs_1 hk).2.1, bv_eq, (rs_1 hd).2.1, bv_eq, if_neg (by omega), if_pos q.2, gd_inb (by omega) (by omega) (by omega), gd_inb (by omega) (by omega) (by omega), ii_nat (by omega) (by omega), Int.toNat_natCast, ii_nat (by omega) (by omega), Int.toNat_natCast, a1, bd_eq, gd_inb (by omega) (by omega) (by omega), nm_eq, ii_nat (by omega) (by omega), Int.toNat_natCast]
          have fr : Fr [30, 31, 34, 37, 55] [0] M (pI (pL (pL N 34 d (N.2 30 3)) 55 0 u.toInt64) 37 0 0) := (Fr.mono (Fr.of (cs := [30, 31, 34, 55]) (((a2.mono (by decide)).tr (Sm.l (by decide))).tr (Sm.l (by decide))) (by decide)) (by decide) (by decide)).tr (Fr.i (by decide) (by decide))
          obtain ⟨K, b1, b2, b3, b4⟩ := sums9_eq hF h.1.1 (what := b) (by omega) hsj.1 hsk.1 (r := j) (q := k) (to := d) (by omega) (by omega) (by omega) (hR.f fr (by decide)) (hsj.2.sm fr.1 (by decide)) (hsk.2.sm fr.1 (by decide))
          rw [hcx] at b1 b3
          rw [hu] at b1
          have hbt : bt (N.2 30 3) = fun x => fullB fi la x && sn cx0 (60 + x) := funext a3.2.2.2
          have fr2 : Fr [30, 31, 32, 33, 34, 37, 39, 45, 47, 48, 51, 52, 53, 54, 55] [0] M K := (fr.mono (by decide) (by decide)).tr (Fr.mono (Fr.of b2 (by decide)) (by decide) (by decide))
          refine opi_ok (w_sums_ok ht hf) (K := K) ?_ ?_ ?_ ⟨s, n, fi, la, m, ls, ll, h.put (k := d) (w := N.2 30 3) fr2 ?_ hd ?_ ?_ ?_ ?_⟩
          · unfold fX9_sums
            simp only [c0, c2]
            rw [(rs_1 hj).2.2, bd_eq, if_neg (by decide), (rs_1 hk).2.2, bd_eq, if_neg (by decide), (rs_1 hd).2.2, bd_eq, if_neg (by decide), nm_eq, if_neg (by omega), if_pos q.2, b1]
          · rw [(b2 37 (by decide)).1, p370]
          · rw [(b2 55 (by decide)).2, pI_2, pL_c, uL_c]
          · have e30 : K.1 30 = N.1 30 := by rw [(b2 30 (by decide)).1, pI_d (by decide), pL_1, pL_1]
            have e31 : K.1 31 = N.1 31 := by rw [(b2 31 (by decide)).1, pI_d (by decide), pL_1, pL_1]
            refine ⟨r + 1, by omega, by rw [e30]; exact a3.1, fun p hp => ?_⟩
            rw [e31]
            obtain ⟨g1, g2⟩ := a3.2.2.1 p hp
            by_cases qq : cx0 p = 0
            · obtain ⟨v, v1, v2⟩ := g2 qq
              exact ⟨v, by omega, v2⟩
            · exact ⟨r + 1, by omega, g1 (by omega)⟩
          · rw [(b2 34 (by decide)).2, pI_2, pL_d (by decide), pL_c, (a2 34 (by decide)).2]
          · intro i hi _
            rw [b4 i hi, (fr.1 39 (by decide)).1]
          · rw [hbt]
            intro x hx
            simp only [Bool.and_eq_true] at hx
            exact of_decide_eq_true hx.1
          · rw [hbt]; exact b3
        · have hf : fX8_sums F (ii j) (ii k) (ii a) (ii d) M = some (-1, M) := by
            unfold fX8_sums
            simp only [c0, c2]
            rw [(rs_1 hj).2.1, bv_eq, (rs_1 hk).2.1, bv_eq, (rs_1 hd).2.1, bv_eq]
            by_cases q2 : a < 0
            · rw [if_pos q2]
            · rw [if_neg q2, if_neg (by omega)]
          have fr : Fr [37, 55] [0] M (pI (pL M 55 0 (-1 : Int32).toInt64) 37 0 0) := (Fr.mono (Fr.of (cs := [55]) (Sm.l (by decide)) (by decide)) (by decide) (by decide)).tr (Fr.i (by decide) (by decide))
          refine opi_ok (w_sums_ok ht hf) (K := pI (pL M 55 0 (-1 : Int32).toInt64) 37 0 0) ?_ p370 ?_ ⟨s, n, fi, la, m, ls, ll, h.same fr (by decide) (by decide) (fun j _ => by rw [(fr.1 39 (by decide)).1])⟩
          · unfold fX9_sums
            simp only [c0, c2]
            rw [(rs_1 hj).2.2, bd_eq, if_neg (by decide), (rs_1 hk).2.2, bd_eq, if_neg (by decide), (rs_1 hd).2.2, bd_eq, if_neg (by decide), nm_eq]
            by_cases q2 : a < 0
            · rw [if_pos q2]
            · rw [if_neg q2, if_neg (by omega)]
          · rw [pI_2, pL_c, uL_c]
      · have ht : tX8_sums F (ii j) (ii k) a (ii z) M = some exI := by unfold tX8_sums; rw [(rs_1 hj).1, tor_n, (rs_1 hj).2.1, bv_eq, (rs_1 hk).1, tor_n, (rs_1 hk).2.1, bv_eq, (rs_0 hz hn).1]; rfl
        refine ⟨1, M, 0, pI M 37 0 1, w_sums_I ht, ?_, p371 1, fun e => absurd e (by decide), h.refuse 1⟩
        unfold fX9_sums
        rw [(rs_1 hj).2.2, bd_eq, if_neg (by decide), (rs_1 hk).2.2, bd_eq, if_neg (by decide), (rs_0 hz hn).2, bd_eq, if_pos rfl, refuse_eq, bd_eq]
    · have ht : tX8_sums F (ii j) (ii z) a t M = some exI := by unfold tX8_sums; rw [(rs_1 hj).1, tor_n, (rs_1 hj).2.1, bv_eq, (rs_0 hz hn).1]; rfl
      refine ⟨1, M, 0, pI M 37 0 1, w_sums_I ht, ?_, p371 1, fun e => absurd e (by decide), h.refuse 1⟩
      unfold fX9_sums
      rw [(rs_1 hj).2.2, bd_eq, if_neg (by decide), (rs_0 hz hn).2, bd_eq, if_pos rfl, refuse_eq, bd_eq]
  · have ht : tX8_sums F (ii z) y a t M = some exI := by unfold tX8_sums; rw [(rs_0 hz hn).1]; rfl
    refine ⟨1, M, 0, pI M 37 0 1, w_sums_I ht, ?_, p371 1, fun e => absurd e (by decide), h.refuse 1⟩
    unfold fX9_sums
    rw [(rs_0 hz hn).2, bd_eq, if_pos rfl, refuse_eq, bd_eq]
end OC
