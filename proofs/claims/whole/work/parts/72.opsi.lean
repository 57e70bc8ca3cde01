/-! calls: colours, forced -/
section OJ
variable {F c : Nat} {s n fi la m : Nat} {ls : Nat → LawT} {ll : List (Nat → Bool)} {M N : Mem}
theorem RFp.f (h : RFp M N) : Fr [37, 39, 51, 52] [17, 18] M N := ⟨h.1, fun j hj => h.2.1 j (fun e => hj (by rw [e]; decide)) (fun e => hj (by rw [e]; decide))⟩
theorem agr_atr {many : Nat} : ∀ (R : Cs), Agr fi M R → Atr many N R → ∀ j, j < R.length → M.1 27 (j + 1) = N.1 51 j
  | [], _, _, j, hj => by simp at hj
  | c :: R, h, h', j, hj => by
    by_cases e : j = R.length
    · rw [e, h.1, h'.1]
    · exact agr_atr R h.2.2.2 h'.2.2 j (by simp at hj; omega)
theorem crun_code {kf : (Nat → Bool) → Nat → Bool} {many places : Nat} : ∀ (k : Nat) (pl : List Cs), (crun fi kf many places k pl).1 ≤ 2
  | 0, [] => by rw [crun]; decide
  | 0, _ :: _ => by rw [crun]; decide
  | k + 1, [] => by rw [crun]; show 1 ≤ 2; decide
  | k + 1, cs :: pl => by
    rw [crun]
    split
    · exact Nat.zero_le _
    · exact crun_code k _
theorem copyTo_L (hG : GV s n fi la) : ∀ (k N x : Nat) (M : Mem), CG s n fi la M → x + k = la + 1 → fi ≤ x → k < N → (∀ y, fi ≤ y → y < x → M.1 36 y = M.1 27 (y - fi + 1)) →
    ∃ M', fX0_copyTo_L8 F N (ii x) M = some M' ∧ Sm [36] M M' ∧ ∀ y, fi ≤ y → y ≤ la → M'.1 36 y = M.1 27 (y - fi + 1)
  | 0, N + 1, x, M, hC, h1, h2, h3, h4 => by
    have hg := hG.b
    exact ⟨M, by rw [fX0_copyTo_L8, hC.2.2.2.1, if_pos (by rw [ii_lt] <;> omega)], Sm.rf, fun y y1 y2 => h4 y y1 (by omega)⟩
  | k + 1, N + 1, x, M, hC, h1, h2, h3, h4 => by
    have hg := hG.b
    have s1 : Sm [36] M (pI M 36 x (M.1 27 (x - fi + 1))) := Sm.i (by decide)
    obtain ⟨M', g1, g2, g3⟩ := copyTo_L hG k N (x + 1) (pI M 36 x (M.1 27 (x - fi + 1))) (hC.sm s1 (by decide)) (by omega) (by omega) (by omega) (fun y y1 y2 => by
      rw [pI_c, pI_d (by decide)]
      by_cases e : y = x
      · rw [e, up_c]
      · rw [up_d e]; exact h4 y y1 (by omega))
    refine ⟨M', ?_, s1.tr g2, fun y y1 y2 => by rw [g3 y y1 y2, pI_d (by decide)]⟩
    rw [fX0_copyTo_L8, hC.2.2.2.1, if_neg (by rw [ii_lt] <;> omega), hC.2.2.1, ii_sub, ii_lit1, ii_add, gd_inb (by omega) (by omega) (by omega), gd_inb (by omega) (by omega) (by omega), nm_eq, nm_eq, ii_add, ii_nat (by omega) (by omega), ii_nat (by omega) (by omega), Int.toNat_natCast, show ((x : Int) - (fi : Int) + 1).toNat = x - fi + 1 by omega, show ((x : Int) + 1) = ((x + 1 : Nat) : Int) by omega, g1]
theorem colours_62 (a1 a2 : Int32) {p : Nat} (hp : p ≤ 60) : ∀ (k N x : Nat) (M : Mem), M.1 37 5 = ii p → x + k = p → k < N → (∀ y, y < x → M.1 50 y = M.1 51 y) →
    ∃ M', fX9_colours_L62 F a1 a2 N (ii x) M = some (0, M') ∧ Sm [50] M M' ∧ ∀ y, y < p → M'.1 50 y = M.1 51 y
  | 0, N + 1, x, M, hC, h1, h2, h4 => ⟨M, by rw [fX9_colours_L62, hC, if_pos (by rw [ii_le] <;> omega)], Sm.rf, fun y y1 => h4 y (by omega)⟩
  | k + 1, N + 1, x, M, hC, h1, h2, h4 => by
    have s1 : Sm [50] M (pI M 50 x (M.1 51 x)) := Sm.i (by decide)
    obtain ⟨M', g1, g2, g3⟩ := colours_62 a1 a2 hp k N (x + 1) (pI M 50 x (M.1 51 x)) (by rw [pI_d (by decide)]; exact hC) (by omega) (by omega) (fun y y1 => by
      rw [pI_c, pI_d (by decide)]
      by_cases e : y = x
      · rw [e, up_c]
      · rw [up_d e]; exact h4 y (by omega))
    refine ⟨M', ?_, s1.tr g2, fun y y1 => by rw [g3 y y1, pI_d (by decide)]⟩
    rw [fX9_colours_L62, hC, if_neg (by rw [ii_le] <;> omega), gd_inb (by omega) (by omega) (by omega), gd_inb (by omega) (by omega) (by omega), nm_eq, nm_eq, ii_nat (by omega) (by omega), Int.toNat_natCast, ii_suc, g1]
theorem op_colours (hF : 100000 ≤ F) (y x : Int32) : OPI c (wL_colours F y x) (fX9_colours F y x) := by
  intro M h
  obtain ⟨x, rfl, hx⟩ := ii_ex x
  obtain ⟨y, rfl, hy⟩ := ii_ex y
  by_cases qy : 1 ≤ y ∧ y ≤ 8
  · obtain ⟨b, rfl⟩ : ∃ b : Nat, y = b := ⟨y.toNat, by omega⟩
    have hb : 1 ≤ b ∧ b ≤ 8 := by omega
    by_cases q : 1 ≤ x ∧ x ≤ 50000
    · obtain ⟨k0, rfl⟩ : ∃ k0 : Nat, x = k0 := ⟨x.toNat, by omega⟩
      have hk0 : 1 ≤ k0 ∧ k0 ≤ 50000 := by omega
      obtain ⟨s, n, fi, la, m, ls, ll, h⟩ := h
      have hG := h.1.1
      have hg := hG.b
      have hR := h.1.2.2.1
      have hL := h.1.2.2.2.2.1
      have htt : tX8_colours F (ii b) (ii k0) M = none := by unfold tX8_colours; rw [(rc_1 hb).1, tor_n, (rc_1 hb).2.1, bv_eq, (rl_1 hk0).1, tor_n, (rl_1 hk0).2.1]; rfl
      obtain ⟨N, code, cs, k, e, a1, a2, a3, a4, a5, a6, a7, a8, a9⟩ := part_eq hF hG h.1.2.1 h.1.2.2.2.1 h.1.2.2.2.2.2 hb (last := la) (by omega) hk0.2 h.2.2.2.1
      have cc0 : (ii code = 0) = (code = 0) := propext (by rw [ii_lit0, ii_eq (by omega) (by omega) (by omega) (by omega)]; omega)
      have cc1 : (ii code ≤ 0) = (code = 0) := propext (by rw [ii_lit0, ii_le (by omega) (by omega) (by omega) (by omega)]; omega)
      have h8 : fX8_colours F (ii b) (ii k0) M = (if code = 0 then (bv (fX0_copyTo F (pI N 0 12 (ii ((k0 - k : Nat) : Int)))) (fun N10 => nm (pI N10 0 11 (1 : Int32)) (fun N12 : Mem => some (ii code, N12)))) else (some (ii code, pI N 0 12 (ii ((k0 - k : Nat) : Int))))) := by
        unfold fX8_colours
        rw [(rc_1 hb).2.1, bv_eq, (rl_1 hk0).2.1, bv_eq, h.1.2.1.2.2.2.1, a3, bd_eq, nm_eq, a7]
        simp only [cc0]
      have sN : Sm [0, 4, 13, 14, 24, 25, 26, 27, 28, 29] M (pI N 0 12 (ii ((k0 - k : Nat) : Int))) := (a4.mono (by decide)).tr (Sm.i (by decide))
      have n0 : ∀ j, j ≠ 12 → (pI N 0 12 (ii ((k0 - k : Nat) : Int))).1 0 j = M.1 0 j := fun j hj => by rw [pI_c, up_d hj, (a4 0 (by decide)).1]
      have n12 : (pI N 0 12 (ii ((k0 - k : Nat) : Int))).1 0 12 = ii ((k0 - k : Nat) : Int) := by rw [pI_c, up_c]
      have nB : CB s n fi la m ls (pI N 0 12 (ii ((k0 - k : Nat) : Int))) := CB.sm (cs := [0]) a5 (Sm.i (by decide)) (fun c h1 h2 => by simp; omega)
      have nA : Agr fi (pI N 0 12 (ii ((k0 - k : Nat) : Int))) [] := a8.tr (cs := [0]) (fs := []) (Fr.of (Sm.i (by decide)) (by decide)) (by decide)
      have nA2 : code = 0 → Agr fi (pI N 0 12 (ii ((k0 - k : Nat) : Int))) cs := fun e => (a9 e).1.cong _ (fun j _ _ => by rw [pI_d (by decide)]) (fun j _ => by rw [pI_d (by decide)]) (fun j _ => by rw [pI_2])
      generalize pI N 0 12 (ii ((k0 - k : Nat) : Int)) = N' at *
      -- the reference
      have h9 : ∀ R, RG s n fi la R → RLs R m ls → ∃ K, Fr [37, 39, 51, 52] [0, 17, 18] R K ∧ (∀ j, j < 480 → K.1 39 j = R.1 39 j) ∧ K.1 37 0 = 0 ∧ K.1 37 17 = ii ((k0 - k : Nat) : Int) ∧ (code = 0 → Atr b K cs) ∧ fX9_colours F (ii b) (ii k0) R = (if code = 0 then (nm (pI K 37 29 (1 : Int32)) (fun N8 : Mem => fX9_colours_L62 F (ii b) (ii k0) F (0 : Int32) N8)) else (some (ii code, K))) := by
        intro R r1 r2
        have f0 : Fr [37, 39, 51, 52] [0, 17, 18] R (pI (pI R 37 0 0) 37 17 0) := (Fr.i (by decide) (by decide)).tr (Fr.i (by decide) (by decide))
        have e5 : (pI (pI R 37 0 0) 37 17 0).1 37 5 = ii ((la + 1 - fi : Nat) : Int) := by
          rw [(r1.f f0 (by decide)).2.2.1, show ((la : Int) - fi + 1) = ((la + 1 - fi : Nat) : Int) by omega]
        obtain ⟨K, code', cs', k', w0, w1, w2, w3, w4⟩ := parted_eq hF hG (r1.f f0 (by decide)) (r2.f f0 (by decide) (by decide)) hb (places := la + 1 - fi) (by omega) hk0.2 (L0 := 0) (by rw [pI_c, up_c]; rfl)
        rw [e] at w0
        obtain ⟨rfl, w0'⟩ := Prod.mk.inj w0
        obtain ⟨rfl, rfl⟩ := Prod.mk.inj w0'
        refine ⟨K, f0.tr (w2.f.mono (by decide) (by decide)), fun j hj => by rw [w2.2.2 j (by omega), pI_d (by decide), pI_d (by decide)], ?_, ?_, fun e => (w4 e).1, ?_⟩
        · rw [w2.2.1 0 (by decide) (by decide), pI_c, up_d (by decide), p370]
        · rw [w3]; congr 1; omega
        · unfold fX9_colours fX9_colours_L20
          rw [(rc_1 hb).2.2, bd_eq, if_neg (by decide), (rl_1 hk0).2.2, bd_eq, if_neg (by decide), nm_eq, p370, if_pos (by decide), nm_eq, e5, w1, bd_eq]
          simp only [cc1]
      by_cases qc : code = 0
      · obtain ⟨P0, c1, c2, c3⟩ := copyTo_L (F := F) hG (la + 1 - fi) F fi N' nB.1 (by omega) (by omega) (by omega) (fun y y1 y2 => by omega)
        have hf : fX8_colours F (ii b) (ii k0) M = some (0, pI P0 0 11 1) := by
          rw [h8, if_pos qc]
          unfold fX0_copyTo
          rw [nm_eq, nB.1.2.2.1, c1, bv_eq, nm_eq, qc]; rfl
        have sP : Sm [0, 4, 13, 14, 24, 25, 26, 27, 28, 29, 36] M (pI P0 0 11 1) := ((sN.mono (by decide)).tr (c2.mono (by decide))).tr (Sm.i (by decide))
        have fr : Fr [0, 4, 13, 14, 24, 25, 26, 27, 28, 29, 36, 37, 39, 50, 51, 52, 55] [0, 17, 18, 29] M (pL (pI P0 0 11 1) 55 0 (0 : Int32).toInt64) := Fr.mono (Fr.of (cs := [0, 4, 13, 14, 24, 25, 26, 27, 28, 29, 36, 55]) ((sP.mono (by decide)).tr (Sm.l (by decide))) (by decide)) (by decide) (by decide)
        obtain ⟨K0, t1, t2, t3, t4, t5, t6⟩ := h9 _ (hR.f fr (by decide)) (hL.f fr (by decide) (by decide))
        have fr0 : Fr [0, 4, 13, 14, 24, 25, 26, 27, 28, 29, 36, 37, 39, 50, 51, 52, 55] [0, 17, 18, 29] M (pI K0 37 29 1) := (fr.tr (t1.mono (by decide) (by decide))).tr (Fr.i (by decide) (by decide))
        obtain ⟨K, u1, u2, u3⟩ := colours_62 (F := F) (ii b) (ii k0) (p := la + 1 - fi) (by omega) (la + 1 - fi) F 0 (pI K0 37 29 1) (by rw [(hR.f fr0 (by decide)).2.2.1, show ((la : Int) - fi + 1) = ((la + 1 - fi : Nat) : Int) by omega]) (by omega) (by omega) (fun y y1 => by omega)
        have frk : Fr [0, 4, 13, 14, 24, 25, 26, 27, 28, 29, 36, 37, 39, 50, 51, 52, 55] [0, 17, 18, 29] M K := fr0.tr (Fr.mono (Fr.of u2 (by decide)) (by decide) (by decide))
        have sPK : Sm [37, 39, 50, 51, 52, 55] (pI P0 0 11 1) K := (((Sm.l (by decide)).tr (t1.1.mono (by decide))).tr (Sm.i (by decide))).tr (u2.mono (by decide))
        have e0 : K.1 0 = (pI P0 0 11 1).1 0 := (sPK 0 (by decide)).1
        have e09 : K.1 0 9 = M.1 0 9 := by rw [e0, pI_c, up_d (by decide), (c2 0 (by decide)).1, n0 9 (by decide)]
        have e012 : K.1 0 12 = ii ((k0 - k : Nat) : Int) := by rw [e0, pI_c, up_d (by decide), (c2 0 (by decide)).1, n12]
        have e011 : K.1 0 11 = 1 := by rw [e0, pI_c, up_c]
        have e29 : K.1 37 29 = 1 := by rw [(u2 37 (by decide)).1, pI_c, up_c]
        have sNK : Sm [0, 36, 37, 39, 50, 51, 52, 55] N' K := ((c2.mono (by decide)).tr (Sm.i (by decide))).tr (sPK.mono (by decide))
        have hB : CB s n fi la m ls K := CB.sm nB sNK (fun c h1 h2 => by simp; omega)
        refine opi_ok (w_colours_ok htt hf) (K := K) ?_ ?_ ?_ ⟨s, n, fi, la, m, ls, ll, h.upd frk (h.1.cb hB frk (by decide) (by decide)) (h.2.1.tr frk (by decide) (fun j hj => ?_)) (h.2.2.1.tr frk (by decide) (by decide)) ?_ ⟨by rw [e011, e29], fun _ y y1 y2 => ?_⟩ ?_ (by decide) (by decide) e09⟩
        · rw [t6, if_pos qc, nm_eq]
          exact u1
        · rw [(u2 37 (by decide)).1, pI_c, up_d (by decide), t3]
        · rw [(u2 55 (by decide)).2, pI_2, (t1.1 55 (by decide)).2, pL_c, uL_c]
        · rw [(u2 39 (by decide)).1, pI_d (by decide), t2 j hj, pL_1, pI_d (by decide), (c2 39 (by decide)).1, (sN 39 (by decide)).1]
        · unfold Agr at nA ⊢
          rw [(sNK 28 (by decide)).1, (sNK 29 (by decide)).2]
          exact nA
        · have e36 : K.1 36 = P0.1 36 := by rw [(sPK 36 (by decide)).1, pI_d (by decide)]
          have := agr_atr cs (nA2 qc) (t5 qc) (y - fi) (by rw [(a9 qc).2.1]; omega)
          rw [e36, c3 y y1 y2, u3 (y - fi) (by omega), pI_d (by decide), this]
        · unfold IK
          rw [e012, (u2 37 (by decide)).1, pI_c, up_d (by decide), t4]
      · rw [if_neg qc] at h8
        generalize hu : ii (code : Int) = u at h8 h9
        have fr : Fr [0, 4, 13, 14, 24, 25, 26, 27, 28, 29, 37, 39, 51, 52, 55] [0, 17, 18] M (pL N' 55 0 u.toInt64) := Fr.mono (Fr.of (cs := [0, 4, 13, 14, 24, 25, 26, 27, 28, 29, 55]) ((sN.mono (by decide)).tr (Sm.l (by decide))) (by decide)) (by decide) (by decide)
        obtain ⟨K, t1, t2, t3, t4, t5, t6⟩ := h9 _ (hR.f fr (by decide)) (hL.f fr (by decide) (by decide))
        have frk : Fr [0, 4, 13, 14, 24, 25, 26, 27, 28, 29, 37, 39, 51, 52, 55] [0, 17, 18] M K := fr.tr (t1.mono (by decide) (by decide))
        have sNK : Sm [37, 39, 51, 52, 55] N' K := (Sm.l (by decide)).tr (t1.1.mono (by decide))
        have e0 : K.1 0 = N'.1 0 := (sNK 0 (by decide)).1
        have hB : CB s n fi la m ls K := CB.sm nB sNK (fun c h1 h2 => by simp; omega)
        refine opi_ok (w_colours_ok htt h8) (K := K) (by rw [t6, if_neg qc]) t3 (by rw [(t1.1 55 (by decide)).2, pL_c, uL_c]) ⟨s, n, fi, la, m, ls, ll, h.upd frk (h.1.cb hB frk (by decide) (by decide)) (h.2.1.tr frk (by decide) (fun j hj => by rw [t2 j hj, pL_1, (sN 39 (by decide)).1])) (h.2.2.1.tr frk (by decide) (by decide)) ?_ (h.2.2.2.2.2.2.1.tr frk (by rw [e0, n0 11 (by decide)]) (by decide) (by decide)) ?_ (by decide) (by decide) (by rw [e0, n0 9 (by decide)])⟩
        · unfold Agr at nA ⊢
          rw [(sNK 28 (by decide)).1, (sNK 29 (by decide)).2]
          exact nA
        · unfold IK
          rw [e0, n12, t4]
    · have htt : tX8_colours F (ii b) (ii x) M = some exA := by unfold tX8_colours; rw [(rc_1 hb).1, tor_n, (rc_1 hb).2.1, bv_eq, (rl_0 hx q).1]; rfl
      refine ⟨1, M, 0, pI M 37 0 1, w_colours_A htt, ?_, p371 1, fun e => absurd e (by decide), h.refuse 1⟩
      unfold fX9_colours fX9_colours_L20
      rw [(rc_1 hb).2.2, bd_eq, if_neg (by decide), (rl_0 hx q).2, bd_eq, if_pos rfl, nm_eq, p371, if_neg (by decide)]
  · have htt : tX8_colours F (ii y) (ii x) M = some exA := by unfold tX8_colours; rw [(rc_0 hy qy).1]; rfl
    refine ⟨1, M, 0, pI M 37 0 1, w_colours_A htt, ?_, p371 1, fun e => absurd e (by decide), h.refuse 1⟩
    unfold fX9_colours fX9_colours_L20
    rw [(rc_0 hy qy).2, bd_eq, if_pos rfl, nm_eq, p371, if_neg (by decide)]
/-- the least ground that is not parted -/
def frc (run : Nat → Nat × Cs × Nat) (looks : Nat) : Nat → Nat → Int → Int × Int
  | 0, x, L => (x, L)
  | j + 1, x, L => if (run x).1 = 0 then frc run looks j (x + 1) (L + looks - (run x).2.2) else if (run x).1 = 2 then (-1, L + looks - (run x).2.2) else (x, L + looks - (run x).2.2)
theorem forcedc_L (hF : 100000 ≤ F) (hG : GV 0 n 1 n) {many : Nat} (hm : 1 ≤ many ∧ many ≤ 8) {looks : Nat} (hlk : looks ≤ 50000) : ∀ (j N x : Nat) (L : Int) (M : Mem), x + j = n + 1 → 1 ≤ x → j < N → CG 0 n 1 n M → CLs M m ls → (M.1 4 6 ≠ 0 → TH 0 n 1 n m ls M) → Agr 1 M [] → M.1 0 12 = ii L →
    ∃ M', fX8_forced_L28 F (ii many) (ii looks) N (ii x) M = some (ii (frc (fun x => crun 1 (ky 0 n 1 n m ls) many x looks [[]]) looks j x L).1, M') ∧ Sm [0, 4, 13, 14, 24, 25, 26, 27, 28, 29] M M' ∧ CG 0 n 1 n M' ∧ CLs M' m ls ∧ (M'.1 4 6 ≠ 0 → TH 0 n 1 n m ls M') ∧ Agr 1 M' [] ∧ M'.1 0 12 = ii (frc (fun x => crun 1 (ky 0 n 1 n m ls) many x looks [[]]) looks j x L).2 ∧ ∀ i, i ≠ 12 → M'.1 0 i = M.1 0 i
  | 0, N + 1, x, L, M, h1, h2, h3, hC, hL, hT, hA, h12 => by
    have hg := hG.b
    refine ⟨M, ?_, Sm.rf, hC, hL, hT, hA, h12, fun _ _ => rfl⟩
    rw [fX8_forced_L28, hC.2.1, if_pos (by rw [ii_lt] <;> omega), ii_lit1, ii_add, frc, show ((n : Int) + 1) = (x : Int) by omega]
  | j + 1, N + 1, x, L, M, h1, h2, h3, hC, hL, hT, hA, h12 => by
    have hg := hG.b
    obtain ⟨M1, code, cs, k, e, a1, a2, a3, a4, a5, a6, a7, a8, a9⟩ := part_eq hF hG hC hL hT hm (last := x) (by omega) hlk hA
    rw [show x + 1 - 1 = x by omega] at e
    have c0 : (ii code = 0) = (code = 0) := propext (by rw [ii_lit0, ii_eq (by omega) (by omega) (by omega) (by omega)]; omega)
    have c2 : (ii code = 2) = (code = 2) := propext (by rw [show (2 : Int32) = ii 2 from rfl, ii_eq (by omega) (by omega) (by omega) (by omega)]; omega)
    have s1 : Sm [0, 4, 13, 14, 24, 25, 26, 27, 28, 29] M (pI M1 0 12 (ii (L + looks - k))) := (a4.mono (by decide)).tr (Sm.i (by decide))
    have n12 : (pI M1 0 12 (ii (L + looks - k))).1 0 12 = ii (L + looks - k) := by rw [pI_c, up_c]
    have n0 : ∀ i, i ≠ 12 → (pI M1 0 12 (ii (L + looks - k))).1 0 i = M.1 0 i := fun i hi => by rw [pI_c, up_d hi, (a4 0 (by decide)).1]
    have nB : CB 0 n 1 n m ls (pI M1 0 12 (ii (L + looks - k))) := CB.sm (cs := [0]) a5 (Sm.i (by decide)) (fun c h1 h2 => by simp; omega)
    have nA : Agr 1 (pI M1 0 12 (ii (L + looks - k))) [] := a8.tr (cs := [0]) (fs := []) (Fr.of (Sm.i (by decide)) (by decide)) (by decide)
    have h8 : fX8_forced_L28 F (ii many) (ii looks) (N + 1) (ii x) M = (if code = 0 then fX8_forced_L28 F (ii many) (ii looks) N (ii ((x + 1 : Nat) : Int)) (pI M1 0 12 (ii (L + looks - k))) else if code = 2 then some (-1, pI M1 0 12 (ii (L + looks - k))) else some (ii x, pI M1 0 12 (ii (L + looks - k)))) := by
      rw [fX8_forced_L28, hC.2.1, if_neg (by rw [ii_lt] <;> omega), a3, bd_eq, nm_eq, nm_eq, (a4 0 (by decide)).1, h12, a7, ii_add, ii_suc, show (L + ((looks - k : Nat) : Int)) = L + looks - k by omega]
      simp only [c0, c2]
    rw [h8, frc]
    try dsimp only
    rw [e]
    try dsimp only
    by_cases q : code = 0
    · rw [if_pos q, if_pos q]
      obtain ⟨M', g1, g2, g3, g4, g5, g6, g7, g8⟩ := forcedc_L hF hG hm hlk j N (x + 1) (L + looks - k) (pI M1 0 12 (ii (L + looks - k))) (by omega) (by omega) (by omega) nB.1 nB.2.1 (fun _ => nB.2.2) nA n12
      exact ⟨M', g1, s1.tr g2, g3, g4, g5, g6, g7, fun i hi => by rw [g8 i hi, n0 i hi]⟩
    · rw [if_neg q, if_neg q]
      by_cases q2 : code = 2
      · rw [if_pos q2, if_pos q2]
        exact ⟨_, rfl, s1, nB.1, nB.2.1, fun _ => nB.2.2, nA, n12, n0⟩
      · rw [if_neg q2, if_neg q2]
        exact ⟨_, rfl, s1, nB.1, nB.2.1, fun _ => nB.2.2, nA, n12, n0⟩
theorem forcedr_L (hF : 100000 ≤ F) (hG : GV 0 n 1 n) {many : Nat} (hm : 1 ≤ many ∧ many ≤ 8) {looks : Nat} (hlk : looks ≤ 50000) : ∀ (j N x : Nat) (L : Int) (M : Mem), x + j = n + 1 → 1 ≤ x → j < N → RG 0 n 1 n M → RLs M m ls → M.1 37 17 = ii L →
    ∃ M', fX9_forced_L49 F (ii many) (ii looks) N (ii x) M = some (ii (frc (fun x => crun 1 (ky 0 n 1 n m ls) many x looks [[]]) looks j x L).1, M') ∧ RFp M M' ∧ M'.1 37 17 = ii (frc (fun x => crun 1 (ky 0 n 1 n m ls) many x looks [[]]) looks j x L).2
  | 0, N + 1, x, L, M, h1, h2, h3, hR, hL, h17 => by
    have hg := hG.b
    refine ⟨M, ?_, RFp.rf, h17⟩
    rw [fX9_forced_L49, hR.2.1, if_pos (by rw [ii_lt] <;> omega), ii_lit1, ii_add, frc, show ((n : Int) + 1) = (x : Int) by omega]
  | j + 1, N + 1, x, L, M, h1, h2, h3, hR, hL, h17 => by
    have hg := hG.b
    obtain ⟨K, code, cs, k, e, w1, w2, w3, w4⟩ := parted_eq hF hG hR hL hm (places := x) (by omega) hlk h17
    have hcode : code ≤ 2 := by
      have := crun_code (fi := 1) (kf := ky 0 n 1 n m ls) (many := many) (places := x) looks [[]]
      rw [e] at this
      exact this
    have c1 : (ii code = 1) = (code = 1) := propext (by rw [ii_lit1, ii_eq (by omega) (by omega) (by omega) (by omega)]; omega)
    have c2 : (ii code = 2) = (code = 2) := propext (by rw [show (2 : Int32) = ii 2 from rfl, ii_eq (by omega) (by omega) (by omega) (by omega)]; omega)
    have h9 : fX9_forced_L49 F (ii many) (ii looks) (N + 1) (ii x) M = (if code = 2 then some (-1, K) else if code = 1 then some (ii x, K) else fX9_forced_L49 F (ii many) (ii looks) N (ii ((x + 1 : Nat) : Int)) K) := by
      rw [fX9_forced_L49, hR.2.1, if_neg (by rw [ii_lt] <;> omega), w1, bd_eq, nm_eq, ii_suc]
      simp only [c1, c2]
    rw [h9, frc]
    try dsimp only
    rw [e]
    try dsimp only
    by_cases q : code = 0
    · rw [if_neg (by omega), if_neg (by omega), if_pos q]
      obtain ⟨M', g1, g2, g3⟩ := forcedr_L hF hG hm hlk j N (x + 1) (L + looks - k) K (by omega) (by omega) (by omega) (hR.f w2.f (by decide)) (hL.f w2.f (by decide) (by decide)) w3
      exact ⟨M', g1, w2.tr g2, g3⟩
    · rw [if_neg q]
      by_cases q2 : code = 2
      · rw [if_pos q2, if_pos q2]
        exact ⟨K, rfl, w2, w3⟩
      · rw [if_neg q2, if_neg q2, if_pos (by omega)]
        exact ⟨K, rfl, w2, w3⟩
end OJ
