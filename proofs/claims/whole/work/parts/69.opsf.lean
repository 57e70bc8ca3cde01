/-! calls: kinds, kind -/
section OG
variable {F c : Nat} {s n fi la m : Nat} {ls : Nat → LawT} {ll : List (Nat → Bool)} {M N : Mem}
theorem ldr_cong {len : Nat} {L L' : Nat → Nat} (h : ∀ q, q < len → L q = L' q) {k : Nat} (hk : k ≤ len) : fb_ct (ldr L) k = fb_ct (ldr L') k :=
  fb_ct_cong (fun q hq => by unfold ldr; rw [h q (by omega)])
/-- sets sorted out anew -/
theorem IV.kd (h : IV s n fi la m ls ll c M) {t : Nat} (ht : t < 8) {K : Mem} (s1 : Sm [15, 17, 18, 19, 20] M N) (hL : CLi N ll) (h3 : N.1 15 3 = ii t) (hK : CKd s n fi la t ll N) (f : Fr [37, 48, 55] [0] N K) : IV s n fi la m ls ll (c + 1) K := by
  have frk : Fr [15, 17, 18, 19, 20, 37, 48, 55] [0] M K := (Fr.mono (Fr.of s1 (by decide)) (by decide) (by decide)).tr (f.mono (by decide) (by decide))
  obtain ⟨l1, l2, l3, l4, l5⟩ := h.2.2.1
  have hN : IL s n fi la ll N := ⟨hL, l2.cong (by rw [(s1 37 (by decide)).1]) (by rw [(s1 49 (by decide)).1]), l3, l4, fun t' ht' e => by
    rw [h3, ii_eq (by omega) (by omega) (by omega) (by omega)] at e
    have e' : t = t' := by omega
    rw [← e']; exact hK⟩
  have e0 := (frk.1 0 (by decide)).1
  exact h.upd frk (h.1.tr frk (by decide) (by decide)) (h.2.1.tr frk (by decide) (fun j _ => by rw [(frk.1 39 (by decide)).1])) (hN.tr f (by decide) (by decide)) (h.2.2.2.1.tr frk (by decide)) (h.2.2.2.2.2.2.1.tr frk (by rw [e0]) (by decide) (by decide)) (h.2.2.2.2.2.2.2.1.tr frk (by rw [e0]) (by decide)) (by decide) (by decide) (by rw [e0])
theorem op_kinds (hF : 100000 ≤ F) (x : Int32) : OPI c (wL_kinds F x) (fX9_kinds F x) := by
  intro M h
  obtain ⟨x, rfl, hx⟩ := ii_ex x
  have c0 : (ii x < 0) = (x < 0) := propext (by rw [ii_lit0]; exact ii_lt hx.1 hx.2 (by omega) (by omega))
  have c1 : (ii x ≤ 7) = (x ≤ 7) := propext (by rw [show (7 : Int32) = ii 7 from rfl]; exact ii_le hx.1 hx.2 (by omega) (by omega))
  by_cases q : 0 ≤ x ∧ x ≤ 7
  · obtain ⟨t, rfl⟩ : ∃ t : Nat, x = t := ⟨x.toNat, by omega⟩
    have ht : t < 8 := by omega
    obtain ⟨s, n, fi, la, m, ls, ll, h⟩ := h
    have hG := h.1.1
    have hR := h.1.2.2.1
    obtain ⟨l1, l2, l3, l4, l5⟩ := h.2.2.1
    obtain ⟨N, a1, a2, a3, a4, a5⟩ := sortOut_eq hF hG l3 l4 ht h.1.2.1 l1 l5
    have a5' := a5
    obtain ⟨L, L1, L2, L3⟩ := a5
    have htt : tX8_kinds F (ii t) M = none := by unfold tX8_kinds; rw [(rt_1 ht).1, tor_n, (rt_1 ht).2]; rfl
    have hf : fX8_kinds F (ii t) M = some (ii (fb_ct (ldr L) ll.length), N) := by
      unfold fX8_kinds
      rw [(rt_1 ht).2, bv_eq, a1, bv_eq, L2]
    generalize hu : ii (fb_ct (ldr L) ll.length) = u at hf
    have fr : Fr [37, 48, 55] [0] N (pI (pL N 55 0 u.toInt64) 37 0 0) := (Fr.mono (Fr.of (cs := [55]) (Sm.l (by decide)) (by decide)) (by decide) (by decide)).tr (Fr.i (by decide) (by decide))
    have fm : Fr [15, 17, 18, 19, 20, 37, 48, 55] [0] M (pI (pL N 55 0 u.toInt64) 37 0 0) := (Fr.mono (Fr.of a2 (by decide)) (by decide) (by decide)).tr (fr.mono (by decide) (by decide))
    obtain ⟨K, L', k1, k2, k3, k4⟩ := kindsOf_eq hF hG ht l4 (hR.f fm (by decide)) (l2.cong (fm.2 23 (by decide)) (by rw [(fm.1 49 (by decide)).1]))
    rw [← ldr_cong (L1.one k1) (Nat.le_refl _), hu] at k4
    refine opi_ok (w_kinds_ok htt hf) (K := K) ?_ ?_ ?_ ⟨s, n, fi, la, m, ls, ll, h.kd ht a2 a3 a4 a5' (fr.tr (Fr.mono (Fr.of k3 (by decide)) (by decide) (by decide)))⟩
    · unfold fX9_kinds fX9_kinds_L16
      simp only [c0, c1]
      rw [if_neg (by omega), if_pos q.2, nm_eq, p370, if_pos (by decide), k4, bd_eq]
    · rw [(k3 37 (by decide)).1, p370]
    · rw [(k3 55 (by decide)).2, pI_2, pL_c, uL_c]
  · have htt : tX8_kinds F (ii x) M = some exA := by unfold tX8_kinds; rw [rt_0 hx (by omega)]; rfl
    refine ⟨1, M, 0, pI M 37 0 1, w_kinds_A htt, ?_, p371 1, fun e => absurd e (by decide), h.refuse 1⟩
    unfold fX9_kinds fX9_kinds_L16
    simp only [c0, c1, nm_eq]
    rw [p371, if_neg (show ¬ (1 : Int32) ≤ 0 by decide)]
    by_cases q2 : x < 0
    · rw [if_pos q2]
    · rw [if_neg q2, if_neg (by omega)]
theorem op_kind (hF : 100000 ≤ F) (x y w : Int32) : OPI c (wL_kind F x y w) (fX9_kind F x y w) := by
  intro M h
  obtain ⟨x, rfl, hx⟩ := ii_ex x
  obtain ⟨y, rfl, hy⟩ := ii_ex y
  obtain ⟨w, rfl, hw⟩ := ii_ex w
  have c0 : (ii x < 0) = (x < 0) := propext (by rw [ii_lit0]; exact ii_lt hx.1 hx.2 (by omega) (by omega))
  have c1 : (ii x ≤ 7) = (x ≤ 7) := propext (by rw [show (7 : Int32) = ii 7 from rfl]; exact ii_le hx.1 hx.2 (by omega) (by omega))
  have d0 : (ii y < 0) = (y < 0) := propext (by rw [ii_lit0]; exact ii_lt hy.1 hy.2 (by omega) (by omega))
  have e0 : (ii w = 0) = (w = 0) := propext (by rw [ii_lit0]; exact ii_eq hw.1 hw.2 (by omega) (by omega))
  have e1 : (ii w = 1) = (w = 1) := propext (by rw [ii_lit1]; exact ii_eq hw.1 hw.2 (by omega) (by omega))
  have e2 : (ii w = 2) = (w = 2) := propext (by rw [show (2 : Int32) = ii 2 from rfl]; exact ii_eq hw.1 hw.2 (by omega) (by omega))
  have e3 : (ii w < 0) = (w < 0) := propext (by rw [ii_lit0]; exact ii_lt hw.1 hw.2 (by omega) (by omega))
  have e4 : ((2 : Int32) < ii w) = (2 < w) := propext (by rw [show (2 : Int32) = ii 2 from rfl]; exact ii_lt (by omega) (by omega) hw.1 hw.2)
  by_cases q : 0 ≤ x ∧ x ≤ 7
  · obtain ⟨t, rfl⟩ : ∃ t : Nat, x = t := ⟨x.toNat, by omega⟩
    have ht : t < 8 := by omega
    obtain ⟨s, n, fi, la, m, ls, ll, h⟩ := h
    have hG := h.1.1
    have hR := h.1.2.2.1
    obtain ⟨l1, l2, l3, l4, l5⟩ := h.2.2.1
    have hlen := l1.2.1
    obtain ⟨N, a1, a2, a3, a4, a5⟩ := sortOut_eq hF hG l3 l4 ht h.1.2.1 l1 l5
    have a5' := a5
    obtain ⟨L, L1, L2, L3⟩ := a5
    have hcl : fb_ct (ldr L) ll.length ≤ ll.length := fb_ct_le _ _
    have d1 : (ii y < ii (fb_ct (ldr L) ll.length)) = (y < (fb_ct (ldr L) ll.length : Int)) := propext (ii_lt hy.1 hy.2 (by omega) (by omega))
    have htt : tX8_kind F (ii t) (ii y) (ii w) M = none := by unfold tX8_kind; rw [(rt_1 ht).1, tor_n, (rt_1 ht).2]; rfl
    have go : ∀ u : Int32, fX8_kind F (ii t) (ii y) (ii w) M = some (u, N) → (∀ P, Fr [15, 17, 18, 19, 20, 37, 48, 55] [0] M P → ∃ P', fX9_kind_L16 F (ii t) (ii y) (ii w) 0 P = some (u, P') ∧ Sm [48] (pI P 37 0 0) P') → ∃ u N v K, wL_kind F (ii t) (ii y) (ii w) M = some (u, N) ∧ fX9_kind F (ii t) (ii y) (ii w) N = some (v, K) ∧ K.1 37 0 = u ∧ (u = 0 → K.2 55 0 = v.toInt64) ∧ Inv (c + 1) K := by
      intro u hf hgo
      have fr : Fr [37, 48, 55] [0] N (pL N 55 0 u.toInt64) := Fr.mono (Fr.of (cs := [55]) (Sm.l (by decide)) (by decide)) (by decide) (by decide)
      have fm : Fr [15, 17, 18, 19, 20, 37, 48, 55] [0] M (pL N 55 0 u.toInt64) := (Fr.mono (Fr.of a2 (by decide)) (by decide) (by decide)).tr (fr.mono (by decide) (by decide))
      obtain ⟨K, k1, k2⟩ := hgo _ fm
      refine opi_ok (w_kind_ok htt hf) (K := K) ?_ ?_ ?_ ⟨s, n, fi, la, m, ls, ll, h.kd ht a2 a3 a4 a5' ((fr.tr (Fr.i (by decide) (by decide))).tr (Fr.mono (Fr.of k2 (by decide)) (by decide) (by decide)))⟩
      · unfold fX9_kind
        simp only [c0, c1]
        rw [if_neg (by omega), if_pos q.2, k1]
      · rw [(k2 37 (by decide)).1, p370]
      · rw [(k2 55 (by decide)).2, pI_2, pL_c, uL_c]
    by_cases qy : 0 ≤ y ∧ y < (fb_ct (ldr L) ll.length : Int)
    · obtain ⟨i, rfl⟩ : ∃ i : Nat, y = i := ⟨y.toNat, by omega⟩
      obtain ⟨j0, j1, j2, j3⟩ := fb_ct_kth (p := ldr L) (k := i) (n := ll.length) (by omega)
      obtain ⟨g1, g2, g3⟩ := L3 j0 j1 (of_decide_eq_true j2)
      rw [j3] at g1 g2 g3
      have h8 : fX8_kind F (ii t) (ii i) (ii w) M = (if w = 0 then some (ii j0, N) else if w = 1 then some (ii (fb_ct (fun q => decide (L q = j0)) ll.length), N) else if w = 2 then some (ii (wys s n fi la t (gl ll j0) (gl ll j0) (fcN s n)), N) else some (-1, N)) := by
        unfold fX8_kind
        rw [(rt_1 ht).2, bv_eq, a1, bv_eq, L2]
        simp only [d0, d1, e0, e1, e2]
        rw [if_neg (by omega), if_pos qy.2, gd_inb (by omega) (by omega) (by omega), gd_inb (by omega) (by omega) (by omega), gd_inb (by omega) (by omega) (by omega), ii_nat (by omega) (by omega), Int.toNat_natCast, g1, g2, g3]
      -- the reference
      have h9 : ∀ P, Fr [15, 17, 18, 19, 20, 37, 48, 55] [0] M P → ∃ P', Sm [48] (pI P 37 0 0) P' ∧ (0 ≤ w ∧ w ≤ 2 → fX9_kind_L16 F (ii t) (ii i) (ii w) 0 P = (if w = 0 then some (ii j0, P') else if w = 2 then some (ii (wys s n fi la t (gl ll j0) (gl ll j0) (fcN s n)), P') else some (ii (fb_ct (fun q => decide (L q = j0)) ll.length), P'))) := by
        intro P fP
        have fP1 : Fr [15, 17, 18, 19, 20, 37, 48, 55] [0] M (pI P 37 0 0) := fP.tr (Fr.i (by decide) (by decide))
        have lP : RLi (pI P 37 0 0) fi ll := l2.cong (fP1.2 23 (by decide)) (by rw [(fP1.1 49 (by decide)).1])
        obtain ⟨K, L', k1, k2, k3, k4⟩ := kindsOf_eq hF hG ht l4 (hR.f fP1 (by decide)) lP
        have hone := L1.one k1
        refine ⟨K, k3, fun hw2 => ?_⟩
        have fK : Fr [15, 17, 18, 19, 20, 37, 48, 55] [0] M K := fP1.tr (Fr.mono (Fr.of k3 (by decide)) (by decide) (by decide))
        have lK : RLi K fi ll := l2.cong (fK.2 23 (by decide)) (by rw [(fK.1 49 (by decide)).1])
        have hLe : ∀ q, q < ll.length → L' q ≤ q := fun q hq => by
          rcases k1 q hq with ⟨z1, -⟩ | ⟨z1, -⟩ <;> omega
        have hj3 : fb_ct (ldr L') j0 = i := by rw [← ldr_cong hone (by omega)]; exact j3
        have hj2 : ldr L' j0 = true := by
          have := of_decide_eq_true j2
          exact decide_eq_true (by rw [← hone j0 j1]; exact this)
        have key := kind_58 (F := F) hF hlen hLe k2 j1 hj2 hj3 (ii t) (ii i) (ii w) j0 F 0 (by omega) (by omega)
        rw [show ((i : Int) - ((fb_ct (ldr L') 0 : Nat) : Int)) = (i : Int) by
          rw [show fb_ct (ldr L') 0 = 0 from rfl]; omega] at key
        have key2 := kind_125 (F := F) lK hLe k2 j1 (ii t) (ii i) (ii w) ll.length F 0 (by omega) (by omega)
        obtain ⟨v, v1, v2, -⟩ := ways_eq hF hG (hR.f fK (by decide)) ht lK l4 j1 j1 false
        rw [v2 rfl] at v1
        have hcc : fb_ct (fun q => decide (L' q = j0)) ll.length = fb_ct (fun q => decide (L q = j0)) ll.length := fb_ct_cong (fun q hq => by rw [hone q hq])
        unfold fX9_kind_L16
        rw [nm_eq, p370, if_pos (by decide), k4, bd_eq, ← ldr_cong hone (Nat.le_refl _)]
        simp only [d0, d1, e3, e4]
        rw [if_neg (by omega), if_neg (by omega), if_neg (by omega), if_pos qy.2]
        refine Eq.trans key ?_
        simp only [e0, e2]
        have key2' : fX9_kind_L125 F (ii t) (ii i) (ii w) F (ii j0) 0 0 K = some (ii (fb_ct (fun q => decide (L q = j0)) ll.length), K) := by
          rw [← hcc]; exact key2
        rw [key2', show (0 : Int32) = bi false from rfl, v1, bd_eq]
      by_cases w0 : w = 0
      · rw [if_pos w0] at h8
        refine go _ h8 (fun P fP => ?_)
        obtain ⟨P', p1, p2⟩ := h9 P fP
        refine ⟨P', ?_, p1⟩
        rw [p2 (by omega), if_pos w0]
      · by_cases w1 : w = 1
        · rw [if_neg w0, if_pos w1] at h8
          refine go _ h8 (fun P fP => ?_)
          obtain ⟨P', p1, p2⟩ := h9 P fP
          refine ⟨P', ?_, p1⟩
          rw [p2 (by omega), if_neg w0, if_neg (by omega)]
        · by_cases w2 : w = 2
          · rw [if_neg w0, if_neg w1, if_pos w2] at h8
            refine go _ h8 (fun P fP => ?_)
            obtain ⟨P', p1, p2⟩ := h9 P fP
            refine ⟨P', ?_, p1⟩
            rw [p2 (by omega), if_neg w0, if_pos w2]
          · rw [if_neg w0, if_neg w1, if_neg w2] at h8
            refine go _ h8 (fun P fP => ⟨pI P 37 0 0, ?_, Sm.rf⟩)
            unfold fX9_kind_L16
            rw [nm_eq, p370, if_pos (by decide)]
            simp only [e3, e4]
            by_cases w3 : w < 0
            · rw [if_pos w3]
            · rw [if_neg w3, if_pos (by omega)]
    · have h8 : fX8_kind F (ii t) (ii y) (ii w) M = some (-1, N) := by
        unfold fX8_kind
        rw [(rt_1 ht).2, bv_eq, a1, bv_eq, L2]
        simp only [d0, d1]
        by_cases q2 : y < 0
        · rw [if_pos q2]
        · rw [if_neg q2, if_neg (by omega)]
      refine go _ h8 (fun P fP => ?_)
      have fP1 : Fr [15, 17, 18, 19, 20, 37, 48, 55] [0] M (pI P 37 0 0) := fP.tr (Fr.i (by decide) (by decide))
      have lP : RLi (pI P 37 0 0) fi ll := l2.cong (fP1.2 23 (by decide)) (by rw [(fP1.1 49 (by decide)).1])
      obtain ⟨K, L', k1, k2, k3, k4⟩ := kindsOf_eq hF hG ht l4 (hR.f fP1 (by decide)) lP
      have hone := L1.one k1
      have h9 : fX9_kind_L16 F (ii t) (ii y) (ii w) 0 P = (if w < 0 then some (-1, pI P 37 0 0) else if 2 < w then some (-1, pI P 37 0 0) else if y < 0 then some (-1, pI P 37 0 0) else some (-1, K)) := by
        unfold fX9_kind_L16
        rw [nm_eq, p370, if_pos (by decide), k4, bd_eq, ← ldr_cong hone (Nat.le_refl _)]
        simp only [d0, d1, e3, e4]
        by_cases q2 : y < 0
        · rw [if_pos q2, if_pos q2]
        · rw [if_neg q2, if_neg q2, if_neg (fun e => qy ⟨by omega, e⟩)]
      by_cases w3 : w < 0
      · exact ⟨_, by rw [h9, if_pos w3], Sm.rf⟩
      · by_cases w4 : 2 < w
        · exact ⟨_, by rw [h9, if_neg w3, if_pos w4], Sm.rf⟩
        · by_cases q2 : y < 0
          · exact ⟨_, by rw [h9, if_neg w3, if_neg w4, if_pos q2], Sm.rf⟩
          · exact ⟨K, by rw [h9, if_neg w3, if_neg w4, if_neg q2], k3⟩
  · have htt : tX8_kind F (ii x) (ii y) (ii w) M = some exA := by unfold tX8_kind; rw [rt_0 hx (by omega)]; rfl
    refine ⟨1, M, 0, pI M 37 0 1, w_kind_A htt, ?_, p371 1, fun e => absurd e (by decide), h.refuse 1⟩
    unfold fX9_kind fX9_kind_L16
    simp only [c0, c1, nm_eq]
    rw [p371, if_neg (show ¬ (1 : Int32) ≤ 0 by decide)]
    by_cases q2 : x < 0
    · rw [if_pos q2]
    · rw [if_neg q2, if_neg (by omega)]
end OG
