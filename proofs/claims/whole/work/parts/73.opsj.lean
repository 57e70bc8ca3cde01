/-! the call forced -/
section OK
variable {F c : Nat} {s n fi la m : Nat} {ls : Nat → LawT} {ll : List (Nat → Bool)} {M N : Mem}
theorem op_forced (hF : 100000 ≤ F) (y x : Int32) : OPI c (wL_forced F y x) (fX9_forced F y x) := by
  intro M h
  obtain ⟨x, rfl, hx⟩ := ii_ex x
  obtain ⟨y, rfl, hy⟩ := ii_ex y
  by_cases qy : 1 ≤ y ∧ y ≤ 8
  · obtain ⟨b, rfl⟩ : ∃ b : Nat, y = b := ⟨y.toNat, by omega⟩
    have hb : 1 ≤ b ∧ b ≤ 8 := by omega
    by_cases q : 1 ≤ x ∧ x ≤ 50000
    · obtain ⟨k0, rfl⟩ : ∃ k0 : Nat, x = k0 := ⟨x.toNat, by omega⟩
      have hk0 : 1 ≤ k0 ∧ k0 ≤ 50000 := by omega
      obtain ⟨s, n, fi, la, m, ls, ll, h⟩ := h
      have hG := h.1.1
      have hg := hG.b
      have hR := h.1.2.2.1
      have hL := h.1.2.2.2.2.1
      have htt : tX8_forced F (ii b) (ii k0) M = none := by unfold tX8_forced; rw [(rc_1 hb).1, tor_n, (rc_1 hb).2.1, bv_eq, (rl_1 hk0).1, tor_n, (rl_1 hk0).2.1]; rfl
      have e3 : (M.1 3 0 = 0) = (s = 0) := propext (by rw [h.1.2.1.1, ii_lit0, ii_eq (by omega) (by omega) (by omega) (by omega)]; omega)
      by_cases qs : s = 0
      · subst qs
        obtain ⟨rfl, rfl⟩ : 1 = fi ∧ n = la := by unfold GV at hG; omega
        have sC : Sm [0] M (pI M 0 12 0) := Sm.i (by decide)
        obtain ⟨P, a1, a2, a3, a4, a5, a6, a7, a8⟩ := forcedc_L (F := F) hF hG hb hk0.2 n F 1 0 (pI M 0 12 0) (by omega) (by omega) (by omega) (h.1.2.1.sm sC (by decide)) (h.1.2.2.2.1.sm sC (fun c h1 h2 => by simp; omega)) (fun e => (h.1.2.2.2.2.2 (by rw [pI_d (by decide)] at e; exact e)).sm sC (by decide)) (h.2.2.2.1.tr (Fr.of sC (by decide)) (by decide)) (by rw [pI_c, up_c]; rfl)
        generalize hu : ii (frc (fun x => crun 1 (ky 0 n 1 n m ls) b x k0 [[]]) k0 n 1 0).1 = u at a1
        have hf : fX8_forced F (ii b) (ii k0) M = some (u, P) := by
          unfold fX8_forced
          rw [(rc_1 hb).2.1, bv_eq, (rl_1 hk0).2.1, bv_eq]
          simp only [e3]
          rw [if_pos trivial, nm_eq, show (1 : Int32) = ii ((1 : Nat) : Int) from rfl]
          exact a1
        have sP : Sm [0, 4, 13, 14, 24, 25, 26, 27, 28, 29] M P := (sC.mono (by decide)).tr a2
        have p0 : ∀ i, i ≠ 12 → P.1 0 i = M.1 0 i := fun i hi => by rw [a8 i hi, pI_c, up_d hi]
        have fr : Fr [0, 4, 13, 14, 24, 25, 26, 27, 28, 29, 37, 39, 51, 52, 55] [0, 17, 18] M (pI (pI (pL P 55 0 u.toInt64) 37 0 0) 37 17 0) := ((Fr.mono (Fr.of (cs := [0, 4, 13, 14, 24, 25, 26, 27, 28, 29, 55]) ((sP.mono (by decide)).tr (Sm.l (by decide))) (by decide)) (by decide) (by decide)).tr (Fr.i (by decide) (by decide))).tr (Fr.i (by decide) (by decide))
        obtain ⟨K, b1, b2, b3⟩ := forcedr_L (F := F) hF hG hb hk0.2 n F 1 0 (pI (pI (pL P 55 0 u.toInt64) 37 0 0) 37 17 0) (by omega) (by omega) (by omega) (hR.f fr (by decide)) (hL.f fr (by decide) (by decide)) (by rw [pI_c, up_c]; rfl)
        rw [hu] at b1
        have frk : Fr [0, 4, 13, 14, 24, 25, 26, 27, 28, 29, 37, 39, 51, 52, 55] [0, 17, 18] M K := fr.tr (b2.f.mono (by decide) (by decide))
        have sPK : Sm [37, 39, 51, 52, 55] P K := (((Sm.l (by decide)).tr (Sm.i (by decide))).tr (Sm.i (by decide))).tr (b2.1.mono (by decide))
        have e0 : K.1 0 = P.1 0 := (sPK 0 (by decide)).1
        have hIA : IA 0 n 1 n m ls K := ⟨hG, a3.sm sPK (by decide), hR.f frk (by decide), a4.sm sPK (fun c h1 h2 => by simp; omega), hL.f frk (by decide) (by decide), fun e => (a5 (by rw [(sPK 4 (by decide)).1] at e; exact e)).sm sPK (by decide)⟩
        refine opi_ok (w_forced_ok htt hf) (K := K) ?_ ?_ ?_ ⟨0, n, 1, n, m, ls, ll, h.upd frk hIA (h.2.1.tr frk (by decide) (fun j hj => ?_)) (h.2.2.1.tr frk (by decide) (by decide)) ?_ (h.2.2.2.2.2.2.1.tr frk (by rw [e0, p0 11 (by decide)]) (by decide) (by decide)) ?_ (by decide) (by decide) (by rw [e0, p0 9 (by decide)])⟩
        · unfold fX9_forced fX9_forced_L20
          rw [(rc_1 hb).2.2, bd_eq, if_neg (by decide), (rl_1 hk0).2.2, bd_eq, if_neg (by decide), nm_eq, p370, if_pos (by decide), if_pos (by rw [pI_c, up_d (by decide), pL_1, (sP 37 (by decide)).1, hR.1]; rfl), nm_eq, show (1 : Int32) = ii ((1 : Nat) : Int) from rfl]
          exact b1
        · rw [b2.2.1 0 (by decide) (by decide), pI_c, up_d (by decide), p370]
        · rw [(b2.1 55 (by decide)).2, pI_2, pI_2, pL_c, uL_c]
        · rw [b2.2.2 j (by omega), pI_d (by decide), pI_d (by decide), pL_1, (sP 39 (by decide)).1]
        · unfold Agr at a6 ⊢
          rw [(sPK 28 (by decide)).1, (sPK 29 (by decide)).2]
          exact a6
        · unfold IK
          rw [e0, a7, b3]
      · have hf : fX8_forced F (ii b) (ii k0) M = some (-2, M) := by
          unfold fX8_forced
          rw [(rc_1 hb).2.1, bv_eq, (rl_1 hk0).2.1, bv_eq]
          simp only [e3]
          rw [if_neg qs]
        have fr : Fr [37, 55] [0] M (pI (pL M 55 0 (-2 : Int32).toInt64) 37 0 0) := (Fr.mono (Fr.of (cs := [55]) (Sm.l (by decide)) (by decide)) (by decide) (by decide)).tr (Fr.i (by decide) (by decide))
        refine opi_ok (w_forced_ok htt hf) (K := pI (pL M 55 0 (-2 : Int32).toInt64) 37 0 0) ?_ p370 ?_ ⟨s, n, fi, la, m, ls, ll, h.same fr (by decide) (by decide) (fun j _ => by rw [(fr.1 39 (by decide)).1])⟩
        · unfold fX9_forced fX9_forced_L20
          rw [(rc_1 hb).2.2, bd_eq, if_neg (by decide), (rl_1 hk0).2.2, bd_eq, if_neg (by decide), nm_eq, p370, if_pos (by decide), if_neg (by
            rw [pI_c, up_d (by decide), pL_1, hR.1, ii_lit0, ii_eq (by omega) (by omega) (by omega) (by omega)]; omega)]
        · rw [pI_2, pL_c, uL_c]
    · have htt : tX8_forced F (ii b) (ii x) M = some exA := by unfold tX8_forced; rw [(rc_1 hb).1, tor_n, (rc_1 hb).2.1, bv_eq, (rl_0 hx q).1]; rfl
      refine ⟨1, M, 0, pI M 37 0 1, w_forced_A htt, ?_, p371 1, fun e => absurd e (by decide), h.refuse 1⟩
      unfold fX9_forced fX9_forced_L20
      rw [(rc_1 hb).2.2, bd_eq, if_neg (by decide), (rl_0 hx q).2, bd_eq, if_pos rfl, nm_eq, p371, if_neg (by decide)]
  · have htt : tX8_forced F (ii y) (ii x) M = some exA := by unfold tX8_forced; rw [(rc_0 hy qy).1]; rfl
    refine ⟨1, M, 0, pI M 37 0 1, w_forced_A htt, ?_, p371 1, fun e => absurd e (by decide), h.refuse 1⟩
    unfold fX9_forced fX9_forced_L20
    rw [(rc_0 hy qy).2, bd_eq, if_pos rfl, nm_eq, p371, if_neg (by decide)]
end OK
