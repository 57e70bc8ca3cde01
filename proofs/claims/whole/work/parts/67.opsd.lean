/-! calls: keep, room, clash -/
section OD
variable {F c : Nat} {cs fs : List Nat} {s n fi la m : Nat} {ls : Nat → LawT} {ll ll' : List (Nat → Bool)} {M N : Mem}
theorem IA.cb (h : IA s n fi la m ls M) (hB : CB s n fi la m ls N) (f : Fr cs fs M N) (hc : ∀ c ∈ [40, 41, 42, 43, 44], c ∉ cs) (hf : ∀ j ∈ [3, 4, 5, 6, 13], j ∉ fs) : IA s n fi la m ls N :=
  ⟨h.1, hB.1, h.2.2.1.f f (fun j hj => hf j (by simp at hj ⊢; omega)), hB.2.1, h.2.2.2.2.1.f f hc (hf 13 (by decide)), fun _ => hB.2.2⟩
theorem IV.upd (h : IV s n fi la m ls ll c M) (f : Fr cs fs M N) (hA : IA s n fi la m ls N) (hS : IS fi la N) (hL : IL s n fi la ll' N) (hG : Agr fi N []) (hC : IC fi la N) (hK : IK N) (hcs : ∀ c ∈ [1, 2, 30, 31, 35, 38, 46], c ∉ cs) (hfs : ∀ j ∈ [2, 16], j ∉ fs) (h09 : N.1 0 9 = M.1 0 9) : IV s n fi la m ls ll' (c + 1) N := by
  obtain ⟨h1, h2, h3, h4, h5, h6, h7, h8, h9⟩ := h
  exact ⟨hA, hS, hL, hG, h5.tr f ⟨hcs 1 (by decide), hcs 2 (by decide), hcs 38 (by decide)⟩ (hfs 2 (by decide)), h6.tr f h09 ⟨hcs 35 (by decide), hcs 46 (by decide)⟩ (hfs 16 (by decide)), hC, hK, (h9.tr f ⟨hcs 30 (by decide), hcs 31 (by decide)⟩).up⟩
theorem ii_suc (x : Nat) : ii x + 1 = ii ((x + 1 : Nat) : Int) := by rw [ii_lit1, ii_add]; rfl
theorem bt0 : bt 0 = fun _ => false := funext bt_0
theorem CG.cnt (h : CG s n fi la M) (hG : GV s n fi la) : cnt (M.2 3 4) = la + 1 - fi ∧ bt (M.2 3 4) = fullB fi la := by
  have hg := hG.b
  have e : bt (M.2 3 4) = fullB fi la := funext (fun x => h.2.2.2.2 x)
  refine ⟨?_, e⟩
  rw [cnt_ct, e, ← ct_shift hG (S := fullB fi la) (fun x hx => of_decide_eq_true hx)]
  exact fb_ct_all.mpr (fun k hk => decide_eq_true (by omega))
theorem op_keep (hF : 100000 ≤ F) (x y : Int32) : OPI c (wL_keep F x y) (fX9_keep F x y) := by
  intro M h
  obtain ⟨y, rfl, hy⟩ := ii_ex y
  have c0 : (ii y < 0) = (y < 0) := propext (by rw [ii_lit0]; exact ii_lt hy.1 hy.2 (by omega) (by omega))
  have c1 : (ii y < 65536) = (y < 65536) := propext (by rw [show (65536 : Int32) = ii 65536 from rfl]; exact ii_lt hy.1 hy.2 (by omega) (by omega))
  have c2 : (ii y ≤ 65535) = (y ≤ 65535) := propext (by rw [show (65535 : Int32) = ii 65535 from rfl]; exact ii_le hy.1 hy.2 (by omega) (by omega))
  rcases set_cases x with ⟨k, hk, rfl⟩ | ⟨z, hz, hn, rfl⟩
  · by_cases q : 0 ≤ y ∧ y < 65536
    · obtain ⟨b, rfl⟩ : ∃ b : Nat, y = b := ⟨y.toNat, by omega⟩
      obtain ⟨s, n, fi, la, m, ls, ll, h⟩ := h
      have hs := h.set hk
      have hG := h.1.1
      have hg := hG.b
      have hR := h.1.2.2.1
      have hL := h.1.2.2.2.2.1
      have ht : tX8_keep F (ii k) (ii b) M = none := by
        unfold tX8_keep
        simp only [c0, c1]
        rw [(rs_1 hk).1, tor_n, (rs_1 hk).2.1, bv_eq, if_neg (by omega), if_pos q.2]
      obtain ⟨N, a1, a2, a3, a4, a5, a6, a7⟩ := ready_eq hF hG h.1.2.1 h.1.2.2.2.1 h.1.2.2.2.2.2
      obtain ⟨d1, d2⟩ := CG.cnt a7 hG
      obtain ⟨w', e1, e2, e3⟩ := keepc_L hF hG ⟨a7, a6, a5⟩ hk (ii b) (la + 1 - fi) F b 0 (N.2 3 4) (by omega) (by omega) d1 (by rw [bt0]; intro x hx; cases hx) (by rw [d2]; intro x hx; exact of_decide_eq_true hx)
      rw [bt0, d2] at e1 e2
      generalize hu : ii (ct (kpr (ky s n fi la m ls) (la + 1 - fi) b (fullB fi la) (fun _ => false))) = u at e1
      have hf : fX8_keep F (ii k) (ii b) M = some (u, pL N 34 k w') := by
        unfold fX8_keep
        simp only [c0, c1]
        rw [(rs_1 hk).2.1, bv_eq, if_neg (by omega), if_pos q.2, a1, bv_eq, nm_eq, bitCount_eq, bd_eq, d1, e1]
      have fr : Fr [4, 13, 14, 34, 37, 39, 54, 55] [0] M (pI (pL (pL N 34 k w') 55 0 u.toInt64) 37 0 0) := (Fr.mono (Fr.of (cs := [4, 13, 14, 34, 55]) (((a2.mono (by decide)).tr (Sm.l (by decide))).tr (Sm.l (by decide))) (by decide)) (by decide) (by decide)).tr (Fr.i (by decide) (by decide))
      generalize hP : pI (pL (pL N 34 k w') 55 0 u.toInt64) 37 0 0 = P at fr
      obtain ⟨P1, f1, f2, f3, f4⟩ := clear_eq (M := P) (fi := fi) hF (r := k) (by omega)
      obtain ⟨P2, g1, g2, g3⟩ := keep_48 (F := F) (ii k) (ii b) 60 F 0 P1 (by omega) (by omega) (fun i hi => by omega)
      have frb : Fr [4, 13, 14, 34, 37, 39, 54, 55] [0] M P2 := (fr.tr (Fr.mono (Fr.of f2 (by decide)) (by decide) (by decide))).tr (Fr.mono (Fr.of g2 (by decide)) (by decide) (by decide))
      have hR2 := hR.f frb (by decide)
      obtain ⟨K, i1, i2, i3, i4⟩ := keepr_L hF hG hk (ii b) (la + 1 - fi) F b P2 (fun _ => false) (fullB fi la) (by omega) (by omega) (by rw [← d2, ← cnt_ct, d1]) (fun x hx => by cases hx) (fun x hx => of_decide_eq_true hx) (fun _ _ => rfl) hR2 (hL.f frb (by decide) (by decide)) (f3.sm g2 (by decide)) (fun j hj1 hj2 => by
        rw [g3 j hj1, show fullB fi la (fi + j) = true from decide_eq_true ⟨by omega, hj2⟩]; rfl)
      rw [hu] at i1
      have frk : Fr [4, 13, 14, 34, 37, 39, 54, 55] [0] M K := frb.tr (Fr.mono (Fr.of i2 (by decide)) (by decide) (by decide))
      have sP : Sm [37, 39, 54, 55] (pL N 34 k w') K := ((Sm.l (by decide)).tr ((by rw [hP]; exact Sm.rf : Sm [37, 39, 54, 55] (pI (pL (pL N 34 k w') 55 0 u.toInt64) 37 0 0) P) |> (Sm.i (by decide)).tr)).tr (((f2.mono (by decide)).tr (g2.mono (by decide))).tr (i2.mono (by decide)))
      have hB : CB s n fi la m ls K := (CB.sm (cs := [34]) ⟨a7, a6, a5⟩ (Sm.l (by decide)) (fun c h1 h2 => by simp; omega)).sm sP (fun c h1 h2 => by simp; omega)
      refine opi_ok (w_keep_ok ht hf) (K := K) ?_ ?_ ?_ ⟨s, n, fi, la, m, ls, ll, h.upd frk (h.1.cb hB frk (by decide) (by decide)) (h.2.1.put hk ?_ ?_ e3 (by rw [e2]; exact i3)) (h.2.2.1.tr frk (by decide) (by decide)) (h.2.2.2.1.tr frk (by decide)) (h.2.2.2.2.2.2.1.tr frk (by rw [(frk.1 0 (by decide)).1]) (by decide) (by decide)) (h.2.2.2.2.2.2.2.1.tr frk (by rw [(frk.1 0 (by decide)).1]) (by decide)) (by decide) (by decide) (by rw [(frk.1 0 (by decide)).1])⟩
      · unfold fX9_keep fX9_keep_L29
        simp only [c0, c2]
        rw [(rs_1 hk).2.2, bd_eq, if_neg (by decide), if_neg (by omega), if_pos (by omega), nm_eq, p370, if_pos (by decide), hP, f1, bv_eq]
        refine Eq.trans g1 ?_
        rw [hR2.2.2.1, show ((la : Int) - fi + 1) = ((la + 1 - fi : Nat) : Int) by omega, i1]
      · rw [(i2 37 (by decide)).1, (g2 37 (by decide)).1, (f2 37 (by decide)).1, ← hP, p370]
      · rw [(i2 55 (by decide)).2, (g2 55 (by decide)).2, (f2 55 (by decide)).2, ← hP, pI_2, pL_c, uL_c]
      · rw [(sP 34 (by decide)).2, pL_c, (a2 34 (by decide)).2]
      · intro j hj _
        rw [i4 j hj, (g2 39 (by decide)).1, f4 j hj, ← hP, pI_d (by decide), pL_1, pL_1, (a2 39 (by decide)).1]
    · have ht : tX8_keep F (ii k) (ii y) M = some exA := by
        unfold tX8_keep
        simp only [c0, c1]
        rw [(rs_1 hk).1, tor_n, (rs_1 hk).2.1, bv_eq]
        by_cases q2 : y < 0
        · rw [if_pos q2]
        · rw [if_neg q2, if_neg (by omega)]
      refine ⟨2, M, 0, pI M 37 0 2, w_keep_A ht, ?_, p371 2, fun e => absurd e (by decide), h.refuse 2⟩
      unfold fX9_keep fX9_keep_L29
      simp only [c0, c2, nm_eq]
      rw [(rs_1 hk).2.2, bd_eq, if_neg (by decide), p371, if_neg (show ¬ (2 : Int32) ≤ 0 by decide)]
      by_cases q2 : y < 0
      · rw [if_pos q2]
      · rw [if_neg q2, if_neg (by omega)]
  · have ht : tX8_keep F (ii z) (ii y) M = some exI := by unfold tX8_keep; rw [(rs_0 hz hn).1]; rfl
    refine ⟨1, M, 0, pI M 37 0 1, w_keep_I ht, ?_, p371 1, fun e => absurd e (by decide), h.refuse 1⟩
    unfold fX9_keep fX9_keep_L29
    rw [(rs_0 hz hn).2, bd_eq, if_pos rfl, nm_eq, p371, if_neg (by decide)]
/-- the first that may come -/
def rmv (T : Nat → Bool) : Nat → Nat → Int
  | 0, _ => -1
  | k + 1, x => if T x then x else rmv T k (x + 1)
theorem rmv_rng (T : Nat → Bool) : ∀ k x : Nat, -1 ≤ rmv T k x ∧ rmv T k x < (x + k : Nat)
  | 0, x => by unfold rmv; omega
  | k + 1, x => by
    unfold rmv
    have := rmv_rng T k (x + 1)
    split <;> omega
theorem pI_pI {M : Mem} {c j : Nat} {v w : Int32} : pI (pI M c j v) c j w = pI M c j w := by
  rw [pI_r, pI_r, pI_r, pIr_r, pIr_c]
  congr 1
  funext i
  by_cases h : i = j
  · rw [h, up_c, up_c]
  · rw [up_d h, up_d h, up_d h]
theorem roomc_L (hF : 100000 ≤ F) (hG : GV s n fi la) (hB : CB s n fi la m ls M) {a : Nat} (ha : a < 8) (hS : Sup fi la (bt (M.2 34 a))) : ∀ (k N x : Nat), x + k = la + 1 → fi ≤ x → k < N →
    fX8_room_L39 F (ii a) N (ii x) M = some (ii (rmv (fun x => !bt (M.2 34 a) x && ky s n fi la m ls (put (bt (M.2 34 a)) x true) x) k x), M)
  | 0, N + 1, x, h1, h2, h3 => by
    have hg := hG.b
    rw [fX8_room_L39, hB.1.2.2.2.1, if_pos (by rw [ii_lt] <;> omega)]; rfl
  | k + 1, N + 1, x, h1, h2, h3 => by
    have hg := hG.b
    have ih := roomc_L hF hG hB ha hS k N (x + 1) (by omega) (by omega) (by omega)
    rw [fX8_room_L39, hB.1.2.2.2.1, if_neg (by rw [ii_lt] <;> omega), gd_inb (by omega) (by omega) (by omega), ii_nat (by omega) (by omega), Int.toNat_natCast, isIn_eq hG hB.1 hS (by omega) (by omega), bd_eq, mm_nat, rmv]
    cases q : bt (M.2 34 a) x with
    | true =>
      rw [if_neg (by decide), nm_eq, ii_suc, ih, if_neg (by simp)]
    | false =>
      rw [if_pos (by decide), gd_inb (by omega) (by omega) (by omega), keep_eq hF hG hB.1 hB.2.1 hB.2.2 hS h2 (by omega), bd_eq]
      cases q2 : ky s n fi la m ls (put (bt (M.2 34 a)) x true) x with
      | true => rw [if_neg (by decide), if_pos (by simp)]
      | false => rw [if_pos (by decide), nm_eq, ii_suc, ih, if_neg (by simp)]
theorem roomr_L (hF : 100000 ≤ F) (hG : GV s n fi la) (hR : RG s n fi la M) (hL : RLs M m ls) {S : Nat → Bool} (hS : Sup fi la S) {a : Nat} (ha : a < 8) (hw : Row M fi a S) : ∀ (k N x : Nat), x + k = la + 1 → fi ≤ x → k < N →
    fX9_room_L36 F (ii a) N (ii x) M = some (ii (rmv (fun x => !S x && ky s n fi la m ls (put S x true) x) k x), M)
  | 0, N + 1, x, h1, h2, h3 => by
    have hg := hG.b
    rw [fX9_room_L36, hR.2.2.2, hR.2.2.1, ii_add, if_pos (by rw [ii_le] <;> omega)]; rfl
  | k + 1, N + 1, x, h1, h2, h3 => by
    have hg := hG.b
    have ih := roomr_L hF hG hR hL hS ha hw k N (x + 1) (by omega) (by omega) (by omega)
    rw [fX9_room_L36, hR.2.2.2, hR.2.2.1, ii_add, if_neg (by rw [ii_le] <;> omega), in_eq hG hR hS (by omega) hw (by omega) (by omega), bd_eq, mm_nat, rmv]
    cases q : S x with
    | true =>
      rw [if_neg (by decide), nm_eq, ii_suc, ih, if_neg (by simp)]
    | false =>
      have hv : M.1 39 (60 * a + (x - fi)) = bi false := by
        rw [hw (x - fi) (by omega), show fi + (x - fi) = x by omega, q]
      rw [if_pos (by decide), comes_eq hF hG hR hL hS (by omega) hw ⟨h2, by omega⟩, bd_eq]
      cases q2 : ky s n fi la m ls (put S x true) x with
      | true =>
        have hR' : RG s n fi la (pI M 39 (60 * a + (x - fi)) (bi true)) := hR.f (cs := [39]) (fs := []) (Fr.of (Sm.i (by decide)) (by decide)) (by decide)
        rw [if_neg (by decide), show (0 : Int32) = bi false from rfl, let_eq hG hR' (by omega) h2 (by omega), bv_eq, pI_pI, pI_same hv, if_pos (by simp)]
      | false => rw [if_pos (by decide), nm_eq, ii_suc, pI_same hv, ih, if_neg (by simp)]
theorem op_room (hF : 100000 ≤ F) (x : Int32) : OPI c (wL_room F x) (fX9_room F x) := by
  intro M h
  rcases set_cases x with ⟨k, hk, rfl⟩ | ⟨z, hz, hn, rfl⟩
  · obtain ⟨s, n, fi, la, m, ls, ll, h⟩ := h
    have hs := h.set hk
    have hG := h.1.1
    have hg := hG.b
    have hR := h.1.2.2.1
    have hL := h.1.2.2.2.2.1
    have ht : tX8_room F (ii k) M = none := by unfold tX8_room; rw [(rs_1 hk).1, tor_n, (rs_1 hk).2.1]; rfl
    obtain ⟨N, j, x, y, z, v, a1, a2, -, a4⟩ := first3_eq hF hG h.1.2.1 h.1.2.2.2.1 hs.1
    have rj := a2.rng h.1.2.2.2.1.2.1
    have cj : (ii j = (-1 : Int32)) = (j = -1) := propext (by rw [show (-1 : Int32) = ii (-1) from rfl, ii_eq (by omega) (by omega) (by omega) (by omega)])
    have h8 : fX8_room F (ii k) M = (if j = -1 then (bv (fX3_makeReady F N) (fun N8 => nm (N8.1 3 2) (fun v10 : Int32 => fX8_room_L39 F (ii k) F v10 N8))) else (some ((-2 : Int32), N))) := by
      unfold fX8_room
      rw [(rs_1 hk).2.1, bv_eq, gd_inb (by omega) (by omega) (by omega), ii_nat (by omega) (by omega), Int.toNat_natCast, a4, bd_eq]
      simp only [cj]
    have go : ∀ (P : Mem) (u : Int32), Sm [4, 12, 13, 14] M P → IA s n fi la m ls P → fX8_room F (ii k) M = some (u, P) → (∀ Q, RG s n fi la Q → RLs Q m ls → Row Q fi k (bt (M.2 34 k)) → ∃ Q', fX9_room F (ii k) Q = some (u, Q') ∧ Fr [37, 45] [0] Q Q' ∧ Q'.1 37 0 = 0) → ∃ u N v K, wL_room F (ii k) M = some (u, N) ∧ fX9_room F (ii k) N = some (v, K) ∧ K.1 37 0 = u ∧ (u = 0 → K.2 55 0 = v.toInt64) ∧ Inv (c + 1) K := by
      intro P u p1 p2 hf p4
      have fr1 : Fr [4, 12, 13, 14, 37, 45, 55] [0] M (pL P 55 0 u.toInt64) := Fr.mono (Fr.of (cs := [4, 12, 13, 14, 55]) ((p1.mono (by decide)).tr (Sm.l (by decide))) (by decide)) (by decide) (by decide)
      obtain ⟨K, b1, b2, b3⟩ := p4 (pL P 55 0 u.toInt64) (hR.f fr1 (by decide)) (hL.f fr1 (by decide) (by decide)) (hs.2.sm fr1.1 (by decide))
      have frk : Fr [4, 12, 13, 14, 37, 45, 55] [0] M K := fr1.tr (b2.mono (by decide) (by decide))
      have frp : Fr [37, 45, 55] [0] P K := (Fr.mono (Fr.of (cs := [55]) (Sm.l (by decide)) (by decide)) (by decide) (by decide)).tr (b2.mono (by decide) (by decide))
      exact opi_ok (w_room_ok ht hf) (K := K) b1 b3 (by rw [(b2.1 55 (by decide)).2, pL_c, uL_c]) ⟨s, n, fi, la, m, ls, ll, h.upd frk (p2.tr frp (by decide) (by decide)) (h.2.1.tr frk (by decide) (fun j _ => by rw [(frk.1 39 (by decide)).1])) (h.2.2.1.tr frk (by decide) (by decide)) (h.2.2.2.1.tr frk (by decide)) (h.2.2.2.2.2.2.1.tr frk (by rw [(frk.1 0 (by decide)).1]) (by decide) (by decide)) (h.2.2.2.2.2.2.2.1.tr frk (by rw [(frk.1 0 (by decide)).1]) (by decide)) (by decide) (by decide) (by rw [(frk.1 0 (by decide)).1])⟩
    -- the reference
    have h9 : ∀ Q, RG s n fi la Q → RLs Q m ls → Row Q fi k (bt (M.2 34 k)) → ∃ Q', Fr [37, 45] [0] Q Q' ∧ Q'.1 37 0 = 0 ∧ fX9_room F (ii k) Q = (if j = -1 then some (ii (rmv (fun x => !bt (M.2 34 k) x && ky s n fi la m ls (put (bt (M.2 34 k)) x true) x) (la + 1 - fi) fi), Q') else some (-2, Q')) := by
      intro Q q1 q2 q3
      have f0 : Fr [37, 45] [0] Q (pI Q 37 0 0) := Fr.i (by decide) (by decide)
      obtain ⟨Q', j', x', y', z', v', b1, b2, -, b4⟩ := first9_eq hF hG (q1.f f0 (by decide)) (q2.f f0 (by decide) (by decide)) hs.1 (r := k) (by omega) (q3.sm f0.1 (by decide))
      have hj := (a2.one b2).1
      subst hj
      have f1 : Fr [37, 45] [0] Q Q' := f0.tr (Fr.mono (Fr.of b1 (by decide)) (by decide) (by decide))
      refine ⟨Q', f1, by rw [(b1 37 (by decide)).1, p370], ?_⟩
      unfold fX9_room
      rw [(rs_1 hk).2.2, bd_eq, if_neg (by decide), nm_eq, b4, bd_eq]
      simp only [cj]
      by_cases q : j = -1
      · rw [if_pos q, if_pos q, nm_eq, (q1.f f1 (by decide)).2.2.2, roomr_L hF hG (q1.f f1 (by decide)) (q2.f f1 (by decide) (by decide)) hs.1 hk (q3.sm f1.1 (by decide)) (la + 1 - fi) F fi (by omega) (by omega) (by omega)]
      · rw [if_neg q, if_neg q]
    by_cases q : j = -1
    · rw [if_pos q] at h8
      simp only [if_pos q] at h9
      have f3 : Fr [12, 13] [] M N := Fr.of a1 (by decide)
      have i3 : IA s n fi la m ls N := h.1.tr f3 (by decide) (by decide)
      obtain ⟨P, b1, b2, b3, b4, b5, b6, b7⟩ := ready_eq hF hG i3.2.1 i3.2.2.2.1 i3.2.2.2.2.2
      have hS : bt (P.2 34 k) = bt (M.2 34 k) := by rw [(b2 34 (by decide)).2, (a1 34 (by decide)).2]
      have hc := roomc_L (F := F) hF hG ⟨b7, b6, b5⟩ hk (by rw [hS]; exact hs.1) (la + 1 - fi) F fi (by omega) (by omega) (by omega)
      rw [b1, bv_eq, nm_eq, b7.2.2.1, hc, hS] at h8
      refine go P _ ((a1.mono (by decide)).tr (b2.mono (by decide))) ?_ h8 (fun Q q1 q2 q3 => ?_)
      · exact i3.cb ⟨b7, b6, b5⟩ (Fr.of b2 (by decide)) (by decide) (by decide)
      · obtain ⟨Q', e1, e2, e3⟩ := h9 Q q1 q2 q3
        exact ⟨Q', e3, e1, e2⟩
    · rw [if_neg q] at h8
      simp only [if_neg q] at h9
      refine go N _ (a1.mono (by decide)) (h.1.tr (Fr.of a1 (by decide)) (by decide) (by decide)) h8 (fun Q q1 q2 q3 => ?_)
      obtain ⟨Q', e1, e2, e3⟩ := h9 Q q1 q2 q3
      exact ⟨Q', e3, e1, e2⟩
  · have ht : tX8_room F (ii z) M = some exI := by unfold tX8_room; rw [(rs_0 hz hn).1]; rfl
    refine ⟨1, M, 0, pI M 37 0 1, w_room_I ht, ?_, p371 1, fun e => absurd e (by decide), h.refuse 1⟩
    unfold fX9_room
    rw [(rs_0 hz hn).2, bd_eq, if_pos rfl, refuse_eq, bd_eq]
/-- the reference tells the numbers -/
theorem told_L (a1 u : Int32) : ∀ (k N x : Nat) (M : Mem), x + k = 4 → k < N → (∀ i, i < x → M.1 46 i = M.1 45 i) →
    ∃ M', fX9_clash_L39 F a1 N u (ii x) M = some (u, M') ∧ Sm [46] M M' ∧ ∀ i, i < 4 → M'.1 46 i = M.1 45 i
  | 0, N + 1, x, M, h1, h2, h3 => ⟨M, by rw [fX9_clash_L39, if_pos (by rw [show (4 : Int32) = ii 4 from rfl, ii_le] <;> omega)], Sm.rf, fun i hi => h3 i (by omega)⟩
  | k + 1, N + 1, x, M, h1, h2, h3 => by
    have s1 : Sm [46] M (pI M 46 x (M.1 45 x)) := Sm.i (by decide)
    obtain ⟨M', g1, g2, g3⟩ := told_L a1 u k N (x + 1) (pI M 46 x (M.1 45 x)) (by omega) (by omega) (fun i hi => by
      rw [pI_c, pI_d (by decide)]
      by_cases e : i = x
      · rw [e, up_c]
      · rw [up_d e]; exact h3 i (by omega))
    refine ⟨M', ?_, s1.tr g2, fun i hi => by rw [g3 i hi, pI_d (by decide)]⟩
    rw [fX9_clash_L39, if_neg (by rw [show (4 : Int32) = ii 4 from rfl, ii_le] <;> omega), gd_inb (by omega) (by omega) (by omega), gd_inb (by omega) (by omega) (by omega), nm_eq, nm_eq, ii_nat (by omega) (by omega), Int.toNat_natCast, ii_suc, g1]
theorem op_clash (hF : 100000 ≤ F) (x : Int32) : OPI c (wL_clash F x) (fX9_clash F x) := by
  intro M h
  rcases set_cases x with ⟨k, hk, rfl⟩ | ⟨z, hz, hn, rfl⟩
  · obtain ⟨s, n, fi, la, m, ls, ll, h⟩ := h
    have hs := h.set hk
    have hG := h.1.1
    have hg := hG.b
    have hR := h.1.2.2.1
    have hL := h.1.2.2.2.2.1
    have ht : tX8_clash F (ii k) M = none := by unfold tX8_clash; rw [(rs_1 hk).1, tor_n, (rs_1 hk).2.1]; rfl
    obtain ⟨N, j, x, y, z, v, a1, a2, a3, a4⟩ := first3_eq hF hG h.1.2.1 h.1.2.2.2.1 hs.1
    have rj := a2.rng h.1.2.2.2.1.2.1
    have cj : (ii j = (-1 : Int32)) = (j = -1) := propext (by rw [show (-1 : Int32) = ii (-1) from rfl, ii_eq (by omega) (by omega) (by omega) (by omega)])
    by_cases q : j = -1
    · have hf : fX8_clash F (ii k) M = some (ii j, N) := by
        unfold fX8_clash
        rw [(rs_1 hk).2.1, bv_eq, gd_inb (by omega) (by omega) (by omega), ii_nat (by omega) (by omega), Int.toNat_natCast, a4, bd_eq]
        simp only [cj]
        rw [if_pos q]
      have fr : Fr [12, 13, 37, 45, 55] [0] M (pI (pL N 55 0 (ii j).toInt64) 37 0 0) := (Fr.mono (Fr.of (cs := [12, 13, 55]) ((a1.mono (by decide)).tr (Sm.l (by decide))) (by decide)) (by decide) (by decide)).tr (Fr.i (by decide) (by decide))
      obtain ⟨K, j', x', y', z', v', b1, b2, -, b4⟩ := first9_eq hF hG (hR.f fr (by decide)) (hL.f fr (by decide) (by decide)) hs.1 (r := k) (by omega) (hs.2.sm fr.1 (by decide))
      have hj := (a2.one b2).1
      subst hj
      have frk : Fr [12, 13, 37, 45, 55] [0] M K := fr.tr (Fr.mono (Fr.of b1 (by decide)) (by decide) (by decide))
      refine opi_ok (w_clash_ok ht hf) (K := K) ?_ ?_ ?_ ⟨s, n, fi, la, m, ls, ll, h.same frk (by decide) (by decide) (fun j _ => by rw [(frk.1 39 (by decide)).1])⟩
      · unfold fX9_clash
        rw [(rs_1 hk).2.2, bd_eq, if_neg (by decide), nm_eq, b4, bd_eq]
        simp only [cj]
        rw [if_pos q, q]; rfl
      · rw [(b1 37 (by decide)).1, p370]
      · rw [(b1 55 (by decide)).2, pI_2, pL_c, uL_c]
    · have hf : fX8_clash F (ii k) M = some (ii j, pI (pIr N 35 (va_cpy (N.1 12) (N.1 35) 0 0 4)) 0 9 1) := by
        unfold fX8_clash
        rw [(rs_1 hk).2.1, bv_eq, gd_inb (by omega) (by omega) (by omega), ii_nat (by omega) (by omega), Int.toNat_natCast, a4, bd_eq]
        simp only [cj]
        rw [if_neg q]
        rfl
      generalize hP : pI (pIr N 35 (va_cpy (N.1 12) (N.1 35) 0 0 4)) 0 9 1 = P at hf
      have sP : Sm [0, 12, 13, 35] M P := by rw [← hP]; exact ((a1.mono (by decide)).tr (Sm.ir (by decide))).tr (Sm.i (by decide))
      have fr : Fr [0, 12, 13, 35, 37, 45, 46, 55] [0, 16] M (pI (pL P 55 0 (ii j).toInt64) 37 0 0) := (Fr.mono (Fr.of (cs := [0, 12, 13, 35, 55]) ((sP.mono (by decide)).tr (Sm.l (by decide))) (by decide)) (by decide) (by decide)).tr (Fr.i (by decide) (by decide))
      obtain ⟨K1, j', x', y', z', v', b1, b2, b3, b4⟩ := first9_eq hF hG (hR.f fr (by decide)) (hL.f fr (by decide) (by decide)) hs.1 (r := k) (by omega) (hs.2.sm fr.1 (by decide))
      obtain ⟨rfl, rfl, rfl, rfl, rfl⟩ := a2.one b2
      obtain ⟨K, e1, e2, e3⟩ := told_L (F := F) (ii k) (ii j) 4 F 0 (pI K1 37 16 1) (by omega) (by omega) (fun i hi => by omega)
      have frk : Fr [0, 12, 13, 35, 37, 45, 46, 55] [0, 16] M K := (fr.tr (Fr.mono (Fr.of b1 (by decide)) (by decide) (by decide))).tr ((Fr.i (by decide) (by decide)).tr (Fr.mono (Fr.of e2 (by decide)) (by decide) (by decide)))
      have e0 : K.1 0 = P.1 0 := by rw [(e2 0 (by decide)).1, pI_d (by decide), (b1 0 (by decide)).1, pI_d (by decide), pL_1]
      have e0d : ∀ i, i ≠ 9 → K.1 0 i = M.1 0 i := fun i hi => by rw [e0, ← hP, pI_c, up_d hi, pIr_d (by decide), (a1 0 (by decide)).1]
      obtain ⟨h1, h2, h3, h4, h5, h6, h7, h8, h9⟩ := h
      refine opi_ok (w_clash_ok ht hf) (K := K) ?_ ?_ ?_ ⟨s, n, fi, la, m, ls, ll, h1.tr frk (by decide) (by decide), h2.tr frk (by decide) (fun j _ => by rw [(frk.1 39 (by decide)).1]), h3.tr frk (by decide) (by decide), h4.tr frk (by decide), h5.tr frk (by decide) (by decide), ⟨?_, fun _ i hi => ?_⟩, h7.tr frk (e0d 11 (by decide)) (by decide) (by decide), h8.tr frk (e0d 12 (by decide)) (by decide), (h9.tr frk (by decide)).up⟩
      · unfold fX9_clash
        rw [(rs_1 hk).2.2, bd_eq, if_neg (by decide), nm_eq, b4, bd_eq]
        simp only [cj]
        rw [if_neg q, nm_eq]
        exact e1
      · rw [(e2 37 (by decide)).1, pI_c, up_d (by decide), (b1 37 (by decide)).1, p370]
      · rw [(e2 55 (by decide)).2, pI_2, (b1 55 (by decide)).2, pI_2, pL_c, uL_c]
      · rw [e0, ← hP, pI_c, up_c, (e2 37 (by decide)).1, pI_c, up_c]
      · rw [e3 i hi, pI_d (by decide), (e2 35 (by decide)).1, pI_d (by decide), (b1 35 (by decide)).1, pI_d (by decide), pL_1, ← hP, pI_d (by decide), pIr_c]
        obtain ⟨g0, g1, g2, g3⟩ := a3 q
        obtain ⟨k0, k1, k2, k3⟩ := b3 q
        have : va_cpy (N.1 12) (N.1 35) 0 0 4 i = N.1 12 i := by
          unfold va_cpy
          rw [if_pos (by omega), show 0 + (i - 0) = i by omega]
        rw [this]
        have hi4 : i = 0 ∨ i = 1 ∨ i = 2 ∨ i = 3 := by omega
        rcases hi4 with rfl | rfl | rfl | rfl
        · rw [g0, k0]
        · rw [g1, k1]
        · rw [g2, k2]
        · rw [g3, k3]
  · have ht : tX8_clash F (ii z) M = some exI := by unfold tX8_clash; rw [(rs_0 hz hn).1]; rfl
    refine ⟨1, M, 0, pI M 37 0 1, w_clash_I ht, ?_, p371 1, fun e => absurd e (by decide), h.refuse 1⟩
    unfold fX9_clash
    rw [(rs_0 hz hn).2, bd_eq, if_pos rfl, refuse_eq, bd_eq]
end OD
