/-! calls: list -/
section OI
variable {F c : Nat} {s n fi la m : Nat} {ls : Nat → LawT} {ll ll' : List (Nat → Bool)} {M N : Mem}
theorem list_fin (h : IV s n fi la m ls ll c M) {x u : Int32} {P : Mem} (htt : tX8_list F x M = none) (hf : fX8_list F x M = some (u, P)) (sP : Sm [0, 4, 13, 14, 15, 16, 21, 22, 23] M P) (hB : CB s n fi la m ls P) (hC : CLi P ll') (h3 : P.1 15 3 = -1) (h0 : ∀ j, j ≠ 12 → P.1 0 j = M.1 0 j) (hp : ll'.Pairwise ahd) (hs : ∀ S ∈ ll', Sup fi la S)
    (hr : ∀ R, RG s n fi la R → RLs R m ls → ∃ K, fX9_list F x R = some (u, K) ∧ Fr [37, 39, 47, 49] [0, 17, 18, 19, 23, 24, 25] R K ∧ (∀ j, j < 480 → K.1 39 j = R.1 39 j) ∧ K.1 37 0 = 0 ∧ RLi K fi ll' ∧ K.1 37 17 = P.1 0 12) : ∃ u N v K, wL_list F x M = some (u, N) ∧ fX9_list F x N = some (v, K) ∧ K.1 37 0 = u ∧ (u = 0 → K.2 55 0 = v.toInt64) ∧ Inv (c + 1) K := by
  have hR := h.1.2.2.1
  have hL := h.1.2.2.2.2.1
  have fr : Fr [0, 4, 13, 14, 15, 16, 21, 22, 23, 37, 39, 47, 49, 55] [0, 17, 18, 19, 23, 24, 25] M (pL P 55 0 u.toInt64) := Fr.mono (Fr.of (cs := [0, 4, 13, 14, 15, 16, 21, 22, 23, 55]) ((sP.mono (by decide)).tr (Sm.l (by decide))) (by decide)) (by decide) (by decide)
  obtain ⟨K, k1, k2, k3, k4, k5, k6⟩ := hr (pL P 55 0 u.toInt64) (hR.f fr (by decide)) (hL.f fr (by decide) (by decide))
  have frk : Fr [0, 4, 13, 14, 15, 16, 21, 22, 23, 37, 39, 47, 49, 55] [0, 17, 18, 19, 23, 24, 25] M K := fr.tr (k2.mono (by decide) (by decide))
  have sPK : Sm [37, 39, 47, 49, 55] P K := (Sm.l (by decide)).tr (k2.1.mono (by decide))
  have e0 : K.1 0 = P.1 0 := (sPK 0 (by decide)).1
  have e15 : K.1 15 = P.1 15 := (sPK 15 (by decide)).1
  have e0d : ∀ j, j ≠ 12 → K.1 0 j = M.1 0 j := fun j hj => by rw [e0, h0 j hj]
  have hB' : CB s n fi la m ls K := CB.sm (cs := [37, 39, 47, 49, 55]) hB sPK (fun c h1 h2 => by simp; omega)
  have hIL : IL s n fi la ll' K := by
    refine ⟨hC.cong (by rw [e15]) (by rw [(sPK 16 (by decide)).2]), k5, hp, hs, fun t ht e => ?_⟩
    rw [e15, h3, show (-1 : Int32) = ii (-1) from rfl, ii_eq (by omega) (by omega) (by omega) (by omega)] at e
    omega
  have hIK : IK K := by
    unfold IK
    rw [e0, k6]
  exact opi_ok (w_list_ok htt hf) (K := K) k1 k4 (by rw [(k2.1 55 (by decide)).2, pL_c, uL_c]) ⟨s, n, fi, la, m, ls, ll', h.upd frk (h.1.cb hB' frk (by decide) (by decide)) (h.2.1.tr frk (by decide) (fun j hj => by rw [k3 j hj, pL_1, (sP 39 (by decide)).1])) hIL (h.2.2.2.1.tr frk (by decide)) (h.2.2.2.2.2.2.1.tr frk (e0d 11 (by decide)) (by decide) (by decide)) hIK (by decide) (by decide) (e0d 9 (by decide))⟩
theorem cli0 {P : Mem} (h : P.1 15 2 = 0) : CLi P [] := ⟨by rw [h]; rfl, by simp, fun i hi => by simp at hi⟩
theorem rli0 {P : Mem} (h : P.1 37 23 = 0) : RLi P fi [] := ⟨by rw [h]; rfl, by simp, fun i hi => by simp at hi⟩
theorem op_list (hF : 100000 ≤ F) (x : Int32) : OPI c (wL_list F x) (fX9_list F x) := by
  intro M h
  obtain ⟨x, rfl, hx⟩ := ii_ex x
  by_cases q : 1 ≤ x ∧ x ≤ 50000
  · obtain ⟨k0, rfl⟩ : ∃ k0 : Nat, x = k0 := ⟨x.toNat, by omega⟩
    have hk0 : 1 ≤ k0 ∧ k0 ≤ 50000 := by omega
    obtain ⟨s, n, fi, la, m, ls, ll, h⟩ := h
    have hG := h.1.1
    have htt : tX8_list F (ii k0) M = none := by unfold tX8_list; rw [(rl_1 hk0).1, tor_n, (rl_1 hk0).2.1]; rfl
    have sC : Sm [15] M (pI (pI M 15 2 0) 15 3 (-1)) := (Sm.i (by decide)).tr (Sm.i (by decide))
    have c2 : (pI (pI M 15 2 0) 15 3 (-1)).1 15 2 = 0 := by simp [pI_at]
    have c3 : (pI (pI M 15 2 0) 15 3 (-1)).1 15 3 = -1 := by simp [pI_at]
    have h8 : fX8_list F (ii k0) M = bv (fX6_walk F 0 0 (ii k0) (pI (pI M 15 2 0) 15 3 (-1))) (fun N5 => nm (pI N5 0 12 (N5.1 21 11)) (fun N7 : Mem => if (N7.1 21 12) = 0 then (bv (fX6_walk F (1 : Int32) (N7.1 21 9) (ii k0) N7) (fun N9 => nm (pI N9 0 12 ((N9.1 0 12) + (N9.1 21 11))) (fun N11 : Mem => if (N11.1 21 12) = 0 then (if (N11.1 21 13) = 0 then (some (N11.1 15 2, N11)) else (fX8_list_L96 F (ii k0) N11)) else (fX8_list_L96 F (ii k0) N11)))) else (some ((-1 : Int32), N7)))) := by
      unfold fX8_list fX4_clear
      simp only [nm_eq]
      rw [(rl_1 hk0).2.1, bv_eq, bv_eq]
    generalize pI (pI M 15 2 0) 15 3 (-1) = C at *
    have hA : IA s n fi la m ls C := h.1.tr (Fr.of sC (by decide)) (by decide) (by decide)
    obtain ⟨N, p, a, k, a1, a2, a3, a4, a5, a6, a7, a8, a9, a10, a11⟩ := walk02 hF hG hA (what := 0) (Or.inl rfl) hk0.2 (cli0 c2) (fun S hS => by simp at hS)
    obtain ⟨g1, g2, g3, g4, g5, g6, g7, g8, g9, g10⟩ := a9
    obtain ⟨o1, o2, o3, o4, o5⟩ := a4
    have a5' : fX6_walk F 0 0 (ii k0) C = some N := a5
    rw [a2] at g9
    rw [a5', bv_eq, nm_eq, g10, pI_d (show 21 ≠ 0 by decide), a10, g5] at h8
    have sN : Sm [0, 4, 13, 14, 15, 16, 21, 22, 23] M (pI N 0 12 (ii ((k0 - k : Nat) : Int))) := ((sC.mono (by decide)).tr (a6.mono (by decide))).tr (Sm.i (by decide))
    have n12 : (pI N 0 12 (ii ((k0 - k : Nat) : Int))).1 0 12 = ii ((k0 - k : Nat) : Int) := by rw [pI_c, up_c]
    have n0 : ∀ j, j ≠ 12 → (pI N 0 12 (ii ((k0 - k : Nat) : Int))).1 0 j = M.1 0 j := fun j hj => by rw [pI_c, up_d hj, (a6 0 (by decide)).1, (sC 0 (by decide)).1]
    have n3 : (pI N 0 12 (ii ((k0 - k : Nat) : Int))).1 15 3 = -1 := by rw [pI_d (by decide), a7 3 (by decide), c3]
    have nB : CB s n fi la m ls (pI N 0 12 (ii ((k0 - k : Nat) : Int))) := CB.sm (cs := [0]) a8 (Sm.i (by decide)) (fun c h1 h2 => by simp; omega)
    have nC : CLi (pI N 0 12 (ii ((k0 - k : Nat) : Int))) [] := g9.cong (by rw [pI_d (by decide)]) (by rw [pI_2])
    generalize pI N 0 12 (ii ((k0 - k : Nat) : Int)) = N' at *
    -- the reference begins
    have h9 : ∀ R, RG s n fi la R → RLs R m ls → ∃ K, Fr [37, 39, 47, 49] [0, 17, 18, 19, 23, 24, 25] R K ∧ (∀ j, j < 480 → K.1 39 j = R.1 39 j) ∧ K.1 37 0 = 0 ∧ RAc 0 0 k0 fi K a k ∧ fX9_list F (ii k0) R = (if p = [] then (nm (pI K 37 25 (K.1 37 19)) (fun N9 : Mem => bd (fX9_search F (1 : Int32) (ii k0) N9) (fun u12 N10 => if u12 = 0 then (some (N10.1 37 23, N10)) else (nm (pI N10 37 23 (0 : Int32)) (fun N14 : Mem => if u12 = (2 : Int32) then (some ((-1 : Int32), N14)) else (some ((-2 : Int32), N14))))))) else (some ((-1 : Int32), K))) := by
      intro R r1 r2
      have f0 : Fr [37, 39, 47, 49] [0, 17, 18, 19, 23, 24, 25] R (pI (pI (pI R 37 0 0) 37 17 0) 37 23 0) := ((Fr.i (by decide) (by decide)).tr (Fr.i (by decide) (by decide))).tr (Fr.i (by decide) (by decide))
      have q0 : (pI (pI (pI R 37 0 0) 37 17 0) 37 23 0).1 37 0 = 0 := by simp [pI_at]
      have q17 : (pI (pI (pI R 37 0 0) 37 17 0) 37 23 0).1 37 17 = 0 := by simp [pI_at]
      have q23 : (pI (pI (pI R 37 0 0) 37 17 0) 37 23 0).1 37 23 = 0 := by simp [pI_at]
      have q39 : (pI (pI (pI R 37 0 0) 37 17 0) 37 23 0).1 39 = R.1 39 := by rw [pI_d (by decide), pI_d (by decide), pI_d (by decide)]
      have e9 : fX9_list F (ii k0) R = bd (fX9_search F 0 (ii k0) (pI (pI (pI R 37 0 0) 37 17 0) 37 23 0)) (fun u7 N5 => if u7 = 0 then (nm (pI N5 37 25 (N5.1 37 19)) (fun N9 : Mem => bd (fX9_search F (1 : Int32) (ii k0) N9) (fun u12 N10 => if u12 = 0 then (some (N10.1 37 23, N10)) else (nm (pI N10 37 23 (0 : Int32)) (fun N14 : Mem => if u12 = (2 : Int32) then (some ((-1 : Int32), N14)) else (some ((-2 : Int32), N14))))))) else (some ((-1 : Int32), N5))) := by
        unfold fX9_list fX9_list_L13
        rw [(rl_1 hk0).2.2, bd_eq, if_neg (by decide), nm_eq, p370, if_pos (by decide), nm_eq, nm_eq]
      obtain ⟨K, d1, d2, d3⟩ := a11 _ (r1.f f0 (by decide)) (r2.f f0 (by decide) (by decide)) q17 (rli0 q23)
      refine ⟨K, f0.tr (d1.f.mono (by decide) (by decide)), fun j hj => by rw [d1.2.2 j (Or.inl hj), q39], by rw [d1.2.1 0 (by decide) (by decide) (by decide) (by decide) (by decide), q0], d2, ?_⟩
      have d3' : fX9_search F 0 (ii k0) (pI (pI (pI R 37 0 0) 37 17 0) 37 23 0) = some (ii (scode p a), K) := d3
      rw [e9, d3', bd_eq]
      simp only [scode_f a3]
    by_cases qp : p = []
    · -- all walked: list
      rw [if_pos (by rw [qp]; rfl)] at h8
      obtain ⟨N2, p2, a2', k2, z0, z1, z2, z3, z4, z5, z6, z7, z8, z9⟩ := walk_eq hF hG nB.1 nB.2.1 (fun _ => nB.2.2) (what := 1) (by omega) (fl0 := aS a) (by omega) hk0.2 nC (fun S hS => by simp at hS)
      have z2' : fX6_walk F 1 (ii (aS a)) (ii k0) N' = some N2 := z2
      obtain ⟨y1, y2, y3, y4, y5, y6, y7, y8, y9, y10⟩ := z7
      have hpair : (aL a2').Pairwise ahd := by
        have := JJ_run (what := 1) (la := la) (fl0 := aS a) (kf := ky s n fi la m ls) k0 (p0 fi) (a0 []) (JJ_0 fi)
        rw [z0] at this
        exact this
      have e12 : N2.1 0 12 = ii ((k0 - k : Nat) : Int) := by rw [(z3 0 (by decide)).1, n12]
      rw [z2', bv_eq, nm_eq, e12, y10, ii_add, pI_d (show 21 ≠ 0 by decide), pI_d (show 15 ≠ 0 by decide), z9, y8] at h8
      simp only [spent_f] at h8
      have sN2 : Sm [0, 4, 13, 14, 15, 16, 21, 22, 23] M (pI N2 0 12 (ii (((k0 - k : Nat) : Int) + ((k0 - k2 : Nat) : Int)))) := (sN.tr (z3.mono (by decide))).tr (Sm.i (by decide))
      have m12 : (pI N2 0 12 (ii (((k0 - k : Nat) : Int) + ((k0 - k2 : Nat) : Int)))).1 0 12 = ii (((k0 - k : Nat) : Int) + ((k0 - k2 : Nat) : Int)) := by rw [pI_c, up_c]
      have m0 : ∀ j, j ≠ 12 → (pI N2 0 12 (ii (((k0 - k : Nat) : Int) + ((k0 - k2 : Nat) : Int)))).1 0 j = M.1 0 j := fun j hj => by rw [pI_c, up_d hj, (z3 0 (by decide)).1, n0 j hj]
      have m3 : (pI N2 0 12 (ii (((k0 - k : Nat) : Int) + ((k0 - k2 : Nat) : Int)))).1 15 3 = -1 := by rw [pI_d (by decide), z4 3 (by decide), n3]
      have mB : CB s n fi la m ls (pI N2 0 12 (ii (((k0 - k : Nat) : Int) + ((k0 - k2 : Nat) : Int)))) := CB.sm (cs := [0]) z5 (Sm.i (by decide)) (fun c h1 h2 => by simp; omega)
      have mC : CLi (pI N2 0 12 (ii (((k0 - k : Nat) : Int) + ((k0 - k2 : Nat) : Int)))) (aL a2') := y9.cong (by rw [pI_d (by decide)]) (by rw [pI_2])
      have m13 : (pI N2 0 12 (ii (((k0 - k : Nat) : Int) + ((k0 - k2 : Nat) : Int)))).1 21 13 = bi (aO a2') := by rw [pI_d (by decide), y8]
      generalize pI N2 0 12 (ii (((k0 - k : Nat) : Int) + ((k0 - k2 : Nat) : Int))) = N2' at *
      -- the reference goes on
      have h9b : ∀ R, RG s n fi la R → RLs R m ls → ∃ K, Fr [37, 39, 47, 49] [0, 17, 18, 19, 23, 24, 25] R K ∧ (∀ j, j < 480 → K.1 39 j = R.1 39 j) ∧ K.1 37 0 = 0 ∧ RLi K fi (aL a2') ∧ K.1 37 17 = N2'.1 0 12 ∧ fX9_list F (ii k0) R = (if ii (scode p2 a2') = 0 then (some (K.1 37 23, K)) else (if ii (scode p2 a2') = (2 : Int32) then (some ((-1 : Int32), pI K 37 23 0)) else (some ((-2 : Int32), pI K 37 23 0)))) := by
        intro R r1 r2
        obtain ⟨K, t1, t2, t3, t4, t5⟩ := h9 R r1 r2
        obtain ⟨v1, v2, v3, v4, v5, v6, v7⟩ := t4
        have f1 : Fr [37, 39, 47, 49] [0, 17, 18, 19, 23, 24, 25] R (pI K 37 25 (K.1 37 19)) := t1.tr (Fr.i (by decide) (by decide))
        rw [a2] at v5
        obtain ⟨K2, p', a', k', w0, w1, w2, w3⟩ := search_eq hF hG (what := 1) (by omega) (fl0 := aS a) (by omega) (fun e => by omega) hk0.2 (r1.f f1 (by decide)) (r2.f f1 (by decide) (by decide)) (L0 := (k0 : Int) - k) (by rw [pI_c, up_d (by decide), v2]) (v5.cong (by rw [pI_c, up_d (by decide)]) (by rw [pI_d (by decide)])) (fun S hS => by simp at hS) (fun _ => by rw [pI_c, up_c, v3])
        rw [z0] at w0
        obtain ⟨rfl, w0'⟩ := Prod.mk.inj w0
        obtain ⟨rfl, rfl⟩ := Prod.mk.inj w0'
        obtain ⟨x1, x2, x3, x4, x5, x6, x7⟩ := w2
        refine ⟨K2, f1.tr (w1.f.mono (by decide) (by decide)), fun j hj => by rw [w1.2.2 j (Or.inl hj), pI_d (by decide), t2 j hj], ?_, x5, ?_, ?_⟩
        · rw [w1.2.1 0 (by decide) (by decide) (by decide) (by decide) (by decide), pI_c, up_d (by decide), t3]
        · rw [x2, m12]
          congr 1; omega
        · have w3' : fX9_search F 1 (ii k0) (pI K 37 25 (K.1 37 19)) = some (ii (scode p2 a2'), K2) := w3
          rw [t5, if_pos qp, nm_eq, w3', bd_eq]
          rfl
      by_cases q1 : aO a2' = false
      · have hsc := scode_f (p := p2) q1
        by_cases q2 : p2 = []
        · rw [if_pos q2, q1, if_pos (by decide), y9.1] at h8
          refine list_fin h htt h8 sN2 mB mC m3 m0 hpair z8.2.2.2.2 (fun R r1 r2 => ?_)
          obtain ⟨K, t1, t2, t3, t4, t5, t6⟩ := h9b R r1 r2
          refine ⟨K, ?_, t1, t2, t3, t4, t5⟩
          rw [t6, if_pos (by rw [hsc]; exact q2), t4.1]
        · rw [if_neg q2] at h8
          unfold fX8_list_L96 fX4_clear at h8
          simp only [nm_eq] at h8
          rw [bv_eq, pI_d (show 21 ≠ 15 by decide), pI_d (show 21 ≠ 15 by decide), m13, q1, if_pos (by decide)] at h8
          refine list_fin (ll' := []) h htt h8 (sN2.tr ((Sm.i (by decide)).tr (Sm.i (by decide)))) ?_ (cli0 (by simp [pI_at])) (by simp [pI_at]) (fun j hj => by rw [pI_d (by decide), pI_d (by decide), m0 j hj]) List.Pairwise.nil (fun S hS => by simp at hS) (fun R r1 r2 => ?_)
          · exact CB.sm (cs := [15]) mB ((Sm.i (by decide)).tr (Sm.i (by decide))) (fun c h1 h2 => by simp; omega)
          · obtain ⟨K, t1, t2, t3, t4, t5, t6⟩ := h9b R r1 r2
            refine ⟨pI K 37 23 0, ?_, t1.tr (Fr.i (by decide) (by decide)), fun j hj => by rw [pI_d (by decide), t2 j hj], by rw [pI_c, up_d (by decide), t3], rli0 (by rw [pI_c, up_c]), by rw [pI_c, up_d (by decide), t5, pI_d (by decide), pI_d (by decide)]⟩
            rw [t6, if_neg (by rw [hsc]; exact q2), if_pos (by unfold scode; rw [q1, if_neg (by decide), if_neg q2]; rfl)]
      · have q1' : aO a2' = true := by revert q1; cases aO a2' <;> simp
        have h8' : fX8_list F (ii k0) M = fX8_list_L96 F (ii k0) N2' := by
          rw [h8, q1']
          split
          · rw [if_neg (by decide)]
          · rfl
        unfold fX8_list_L96 fX4_clear at h8'
        simp only [nm_eq] at h8'
        rw [bv_eq, pI_d (show 21 ≠ 15 by decide), pI_d (show 21 ≠ 15 by decide), m13, q1', if_neg (by decide)] at h8'
        refine list_fin (ll' := []) h htt h8' (sN2.tr ((Sm.i (by decide)).tr (Sm.i (by decide)))) ?_ (cli0 (by simp [pI_at])) (by simp [pI_at]) (fun j hj => by rw [pI_d (by decide), pI_d (by decide), m0 j hj]) List.Pairwise.nil (fun S hS => by simp at hS) (fun R r1 r2 => ?_)
        · exact CB.sm (cs := [15]) mB ((Sm.i (by decide)).tr (Sm.i (by decide))) (fun c h1 h2 => by simp; omega)
        · obtain ⟨K, t1, t2, t3, t4, t5, t6⟩ := h9b R r1 r2
          refine ⟨pI K 37 23 0, ?_, t1.tr (Fr.i (by decide) (by decide)), fun j hj => by rw [pI_d (by decide), t2 j hj], by rw [pI_c, up_d (by decide), t3], rli0 (by rw [pI_c, up_c]), by rw [pI_c, up_d (by decide), t5, pI_d (by decide), pI_d (by decide)]⟩
          rw [t6]
          unfold scode
          rw [q1', if_pos rfl, if_neg (by decide), if_neg (by decide)]
    · rw [if_neg (by rw [decide_eq_true qp]; decide)] at h8
      refine list_fin (ll' := []) h htt h8 sN nB nC n3 n0 List.Pairwise.nil (fun S hS => by simp at hS) (fun R r1 r2 => ?_)
      obtain ⟨K, t1, t2, t3, t4, t5⟩ := h9 R r1 r2
      obtain ⟨v1, v2, v3, v4, v5, v6, v7⟩ := t4
      rw [a2] at v5
      exact ⟨K, by rw [t5, if_neg qp], t1, t2, t3, v5, by rw [v2, n12]; congr 1; omega⟩
  · have htt : tX8_list F (ii x) M = some exA := by unfold tX8_list; rw [(rl_0 hx q).1]; rfl
    refine ⟨1, M, 0, pI M 37 0 1, w_list_A htt, ?_, p371 1, fun e => absurd e (by decide), h.refuse 1⟩
    unfold fX9_list fX9_list_L13
    rw [(rl_0 hx q).2, bd_eq, if_pos rfl, nm_eq, p371, if_neg (by decide)]
end OI
