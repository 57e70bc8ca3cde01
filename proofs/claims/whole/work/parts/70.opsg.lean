/-! calls: greatest, list, count -/
section OH
variable {F c : Nat} {s n fi la m : Nat} {ls : Nat → LawT} {ll : List (Nat → Bool)} {M N : Mem}
theorem RFr.f (h : RFr M N) : Fr [37, 39, 47, 49] [17, 18, 19, 23, 24] M N := ⟨h.1, fun j hj => h.2.1 j (fun e => hj (by rw [e]; decide)) (fun e => hj (by rw [e]; decide)) (fun e => hj (by rw [e]; decide)) (fun e => hj (by rw [e]; decide)) (fun e => hj (by rw [e]; decide))⟩
theorem CKd.cong {t : Nat} (h : CKd s n fi la t ll M) (h1 : N.1 15 4 = M.1 15 4) (h2 : N.1 18 = M.1 18) (h3 : N.1 19 = M.1 19) (h4 : N.1 20 = M.1 20) : CKd s n fi la t ll N := by
  obtain ⟨L, l1, l2, l3⟩ := h
  exact ⟨L, l1, by rw [h1]; exact l2, fun f hf hL => by rw [h2, h3, h4]; exact l3 f hf hL⟩
theorem atk_keep {what : Nat} (h : what ≠ 1) (S : Nat → Bool) (p : Pl) (a : Ac) : aL (atk what S p a).2 = aL a ∧ aO (atk what S p a).2 = aO a := by
  unfold atk
  split
  · exact ⟨rfl, rfl⟩
  · first | exact ⟨rfl, rfl⟩ | (rw [if_neg h]; exact ⟨rfl, rfl⟩)
theorem arun_keep {what : Nat} (h : what ≠ 1) {fl0 : Int} {kf : (Nat → Bool) → Nat → Bool} : ∀ (k : Nat) (p : Pl) (a : Ac), aL (arun what fl0 la kf k p a).2.1 = aL a ∧ aO (arun what fl0 la kf k p a).2.1 = aO a
  | 0, p, a => ⟨rfl, rfl⟩
  | k + 1, [], a => ⟨rfl, rfl⟩
  | k + 1, (S, x) :: p, a => by
    have ih := arun_keep h (fl0 := fl0) (kf := kf) k (astep what fl0 la kf S x p a).1 (astep what fl0 la kf S x p a).2
    have st : aL (astep what fl0 la kf S x p a).2 = aL a ∧ aO (astep what fl0 la kf S x p a).2 = aO a := by
      unfold astep
      split
      · exact ⟨rfl, rfl⟩
      · split
        · exact atk_keep h S p a
        · exact ⟨rfl, rfl⟩
    rw [arun, ih.1, ih.2]
    exact st
/-- a walk of the class and a search of the reference, neither of them listing -/
theorem walk02 (hF : 100000 ≤ F) (hG : GV s n fi la) (hA : IA s n fi la m ls M) {what : Nat} (hw : what = 0 ∨ what = 2) {looks : Nat} (hlk : looks ≤ 50000) (hll : CLi M ll) (hls : ∀ S ∈ ll, Sup fi la S) :
    ∃ (M' : Mem) (p : Pl) (a : Ac) (k : Nat), k ≤ looks ∧ aL a = ll ∧ aO a = false ∧ oka fi la a looks ∧ fX6_walk F (ii what) 0 (ii looks) M = some M' ∧ Sm [4, 13, 14, 15, 16, 21, 22, 23] M M' ∧ (∀ j, j ≠ 2 → M'.1 15 j = M.1 15 j) ∧ CB s n fi la m ls M' ∧ CSr what 0 M' p a (looks - k) ∧ M'.1 21 12 = bi (decide (p ≠ [])) ∧
      (∀ Q, RG s n fi la Q → RLs Q m ls → Q.1 37 17 = 0 → RLi Q fi ll → ∃ Q', RFr Q Q' ∧ RAc what 0 looks fi Q' a k ∧ fX9_search F (ii what) (ii looks) Q = some (ii (scode p a), Q')) := by
  obtain ⟨M', p, a, k, e, b1, b2, b3, b4, b5, b6, b7, b8, b9⟩ := walk_eq hF hG hA.2.1 hA.2.2.2.1 hA.2.2.2.2.2 (what := what) (by omega) (fl0 := 0) (by omega) hlk hll hls
  have hk := arun_keep (what := what) (fl0 := 0) (la := la) (kf := ky s n fi la m ls) (by omega) looks (p0 fi) (a0 ll)
  rw [e] at hk
  refine ⟨M', p, a, k, b1, hk.1, hk.2, b8, ?_, b3, b4, b5, b7, b9, fun Q q1 q2 q3 q4 => ?_⟩
  · rcases hw with rfl | rfl
    · exact b2
    · exact b2
  · obtain ⟨Q', p', a', k', e', d1, d2, d3⟩ := search_eq hF hG (what := what) (by omega) (fl0 := 0) (by omega) (fun _ => rfl) hlk q1 q2 (L0 := 0) q3 q4 hls (fun h => by omega)
    rw [e] at e'
    obtain ⟨rfl, e''⟩ := Prod.mk.inj e'
    obtain ⟨rfl, rfl⟩ := Prod.mk.inj e''
    rw [show (0 : Int) + (looks : Int) = looks by omega] at d2
    exact ⟨Q', d1, d2, d3⟩
theorem scode_f {p : Pl} {a : Ac} (h : aO a = false) : (ii (scode p a) = 0) = (p = []) := by
  unfold scode
  rw [h, if_neg (by decide)]
  by_cases q : p = []
  · rw [if_pos q]; simp [q]; rfl
  · rw [if_neg q]
    exact propext ⟨fun e => absurd e (by decide), fun e => absurd e q⟩
theorem spent_f {p : Pl} : (bi (decide (p ≠ [])) = 0) = (p = []) := by
  by_cases q : p = []
  · rw [decide_eq_false (by simp [q])]; simp [q]; rfl
  · rw [decide_eq_true q]; exact propext ⟨fun e => absurd e (by decide), fun e => absurd e q⟩
theorem op_count (hF : 100000 ≤ F) (x : Int32) : OPI c (wL_count F x) (fX9_count F x) := by
  intro M h
  obtain ⟨x, rfl, hx⟩ := ii_ex x
  by_cases q : 1 ≤ x ∧ x ≤ 50000
  · obtain ⟨k0, rfl⟩ : ∃ k0 : Nat, x = k0 := ⟨x.toNat, by omega⟩
    have hk0 : 1 ≤ k0 ∧ k0 ≤ 50000 := by omega
    obtain ⟨s, n, fi, la, m, ls, ll, h⟩ := h
    have hG := h.1.1
    have hR := h.1.2.2.1
    have hL := h.1.2.2.2.2.1
    obtain ⟨l1, l2, l3, l4, l5⟩ := h.2.2.1
    have htt : tX8_count F (ii k0) M = none := by unfold tX8_count; rw [(rl_1 hk0).1, tor_n, (rl_1 hk0).2.1]; rfl
    obtain ⟨N, p, a, k, a1, a2, a3, a4, a5, a6, a7, a8, a9, a10, a11⟩ := walk02 hF hG h.1 (what := 2) (Or.inr rfl) hk0.2 l1 l4
    obtain ⟨g1, g2, g3, g4, g5, g6, g7, g8, g9, g10⟩ := a9
    have hf : ∃ u, fX8_count F (ii k0) M = some (u, pI N 0 12 (ii ((k0 - k : Nat) : Int))) ∧ u = (if p = [] then ii (aC a) else -1) := by
      refine ⟨_, ?_, rfl⟩
      unfold fX8_count
      have a5' : fX6_walk F 2 0 (ii k0) M = some N := a5
      rw [(rl_1 hk0).2.1, bv_eq, a5', bv_eq, nm_eq, g10, pI_d (by decide), a10, g7]
      simp only [spent_f]
      split <;> rfl
    obtain ⟨u, hf, hu⟩ := hf
    generalize hP : pI N 0 12 (ii ((k0 - k : Nat) : Int)) = P at hf
    have sP : Sm [0, 4, 13, 14, 15, 16, 21, 22, 23] M P := by rw [← hP]; exact (a6.mono (by decide)).tr (Sm.i (by decide))
    have fr : Fr [0, 4, 13, 14, 15, 16, 21, 22, 23, 37, 39, 47, 49, 55] [0, 17, 18, 19, 23, 24] M (pI (pI (pL P 55 0 u.toInt64) 37 0 0) 37 17 0) := ((Fr.mono (Fr.of (cs := [0, 4, 13, 14, 15, 16, 21, 22, 23, 55]) ((sP.mono (by decide)).tr (Sm.l (by decide))) (by decide)) (by decide) (by decide)).tr (Fr.i (by decide) (by decide))).tr (Fr.i (by decide) (by decide))
    generalize hQ : pI (pI (pL P 55 0 u.toInt64) 37 0 0) 37 17 0 = Q at fr
    have q17 : Q.1 37 17 = 0 := by rw [← hQ, pI_c, up_c]
    have q23 : Q.1 37 23 = M.1 37 23 := by rw [← hQ, pI_c, up_d (by decide), pI_c, up_d (by decide), pL_1, (sP 37 (by decide)).1]
    have q49 : Q.1 49 = M.1 49 := by rw [← hQ, pI_d (by decide), pI_d (by decide), pL_1, (sP 49 (by decide)).1]
    have q39 : Q.1 39 = M.1 39 := by rw [← hQ, pI_d (by decide), pI_d (by decide), pL_1, (sP 39 (by decide)).1]
    obtain ⟨K, d1, d2, d3⟩ := a11 Q (hR.f fr (by decide)) (hL.f fr (by decide) (by decide)) q17 (l2.cong q23 q49)
    have frk : Fr [0, 4, 13, 14, 15, 16, 21, 22, 23, 37, 39, 47, 49, 55] [0, 17, 18, 19, 23, 24] M K := fr.tr (d1.f.mono (by decide) (by decide))
    obtain ⟨r1, r2, r3, r4, r5, r6, r7⟩ := d2
    have sPQ : Sm [37, 39, 47, 49, 55] P Q := by rw [← hQ]; exact ((Sm.l (by decide)).tr (Sm.i (by decide))).tr (Sm.i (by decide))
    have sPK : Sm [37, 39, 47, 49, 55] P K := sPQ.tr (d1.1.mono (by decide))
    have eP15 : P.1 15 = N.1 15 := by rw [← hP, pI_d (by decide)]
    have e15 : K.1 15 = N.1 15 := by rw [(sPK 15 (by decide)).1, eP15]
    have e0 : K.1 0 = P.1 0 := (sPK 0 (by decide)).1
    have e0d : ∀ j, j ≠ 12 → K.1 0 j = M.1 0 j := fun j hj => by rw [e0, ← hP, pI_c, up_d hj, (a6 0 (by decide)).1]
    have hB : CB s n fi la m ls K := by
      refine CB.sm (cs := [37, 39, 47, 49, 55]) ?_ sPK (fun c h1 h2 => by simp; omega)
      rw [← hP]
      exact CB.sm (cs := [0]) a8 (Sm.i (by decide)) (fun c h1 h2 => by simp; omega)
    have hIL : IL s n fi la ll K := by
      rw [a2] at g9 r5
      refine ⟨g9.cong (by rw [e15]) (by rw [(sPK 16 (by decide)).2, ← hP, pI_2]), r5, l3, l4, fun t ht e => ?_⟩
      rw [e15, a7 3 (by decide)] at e
      exact (l5 t ht e).cong (by rw [e15, a7 4 (by decide)]) (by rw [(frk.1 18 (by decide)).1]) (by rw [(frk.1 19 (by decide)).1]) (by rw [(frk.1 20 (by decide)).1])
    have hIK : IK K := by
      unfold IK
      rw [e0, ← hP, pI_c, up_c, r2]
      congr 1; omega
    refine opi_ok (w_count_ok htt hf) (K := K) ?_ ?_ ?_ ⟨s, n, fi, la, m, ls, ll, h.upd frk (h.1.cb hB frk (by decide) (by decide)) (h.2.1.tr frk (by decide) (fun j hj => by rw [d1.2.2 j (Or.inl hj), q39])) hIL (h.2.2.2.1.tr frk (by decide)) (h.2.2.2.2.2.2.1.tr frk (e0d 11 (by decide)) (by decide) (by decide)) hIK (by decide) (by decide) (e0d 9 (by decide))⟩
    · unfold fX9_count fX9_count_L13
      have d3' : fX9_search F 2 (ii k0) Q = some (ii (scode p a), K) := d3
      rw [(rl_1 hk0).2.2, bd_eq, if_neg (by decide), nm_eq, p370, if_pos (by decide), nm_eq, hQ, d3', bd_eq, r4, hu]
      simp only [scode_f a3]
      split <;> rfl
    · rw [d1.2.1 0 (by decide) (by decide) (by decide) (by decide) (by decide), ← hQ, pI_c, up_d (by decide), p370]
    · rw [(d1.1 55 (by decide)).2, ← hQ, pI_2, pI_2, pL_c, uL_c]
  · have htt : tX8_count F (ii x) M = some exA := by unfold tX8_count; rw [(rl_0 hx q).1]; rfl
    refine ⟨1, M, 0, pI M 37 0 1, w_count_A htt, ?_, p371 1, fun e => absurd e (by decide), h.refuse 1⟩
    unfold fX9_count fX9_count_L13
    rw [(rl_0 hx q).2, bd_eq, if_pos rfl, nm_eq, p371, if_neg (by decide)]
theorem op_greatest (hF : 100000 ≤ F) (y x : Int32) : OPI c (wL_greatest F y x) (fX9_greatest F y x) := by
  intro M h
  obtain ⟨x, rfl, hx⟩ := ii_ex x
  rcases set_cases y with ⟨b, hb, rfl⟩ | ⟨z, hz, hn, rfl⟩
  · by_cases q : 1 ≤ x ∧ x ≤ 50000
    · obtain ⟨k0, rfl⟩ : ∃ k0 : Nat, x = k0 := ⟨x.toNat, by omega⟩
      have hk0 : 1 ≤ k0 ∧ k0 ≤ 50000 := by omega
      obtain ⟨s, n, fi, la, m, ls, ll, h⟩ := h
      have hG := h.1.1
      have hR := h.1.2.2.1
      have hL := h.1.2.2.2.2.1
      obtain ⟨l1, l2, l3, l4, l5⟩ := h.2.2.1
      have htt : tX8_greatest F (ii b) (ii k0) M = none := by unfold tX8_greatest; rw [(rs_1 hb).1, tor_n, (rs_1 hb).2.1, bv_eq, (rl_1 hk0).1, tor_n, (rl_1 hk0).2.1]; rfl
      obtain ⟨N, p, a, k, a1, a2, a3, a4, a5, a6, a7, a8, a9, a10, a11⟩ := walk02 hF hG h.1 (what := 0) (Or.inl rfl) hk0.2 l1 l4
      obtain ⟨g1, g2, g3, g4, g5, g6, g7, g8, g9, g10⟩ := a9
      obtain ⟨o1, o2, o3, o4, o5⟩ := a4
      have cb : (ii (aS a) = (-1 : Int32)) = (aS a = -1) := propext (by rw [show (-1 : Int32) = ii (-1) from rfl, ii_eq (by omega) (by omega) (by omega) (by omega)])
      have hf : ∃ u, fX8_greatest F (ii b) (ii k0) M = some (u, if aS a = -1 then pI N 0 12 (ii ((k0 - k : Nat) : Int)) else pL (pI N 0 12 (ii ((k0 - k : Nat) : Int))) 34 b (N.2 21 8)) ∧ u = (if aS a = -1 then -1 else if p = [] then ii (aS a) else -1 - ii (aS a)) := by
        refine ⟨_, ?_, rfl⟩
        unfold fX8_greatest
        have a5' : fX6_walk F 0 0 (ii k0) M = some N := a5
        rw [(rs_1 hb).2.1, bv_eq, (rl_1 hk0).2.1, bv_eq, a5', bv_eq, nm_eq, g10, pI_d (by decide), g5, gd_inb (by omega) (by omega) (by omega), nm_eq, pL_1, pI_d (by decide), a10, g5, ii_nat (by omega) (by omega), Int.toNat_natCast, pI_2]
        simp only [spent_f, cb]
        by_cases z1 : aS a = -1
        · rw [if_pos z1, if_pos z1, if_pos z1]
        · rw [if_neg z1, if_neg z1, if_neg z1]
          split <;> rfl
      obtain ⟨u, hf, hu⟩ := hf
      generalize hP : (if aS a = -1 then pI N 0 12 (ii ((k0 - k : Nat) : Int)) else pL (pI N 0 12 (ii ((k0 - k : Nat) : Int))) 34 b (N.2 21 8)) = P at hf
      have sNP : Sm [0, 34] N P := by
        rw [← hP]
        split
        · exact Sm.i (by decide)
        · exact (Sm.i (by decide)).tr (Sm.l (by decide))
      have eP0 : P.1 0 = upd (N.1 0) 12 (ii ((k0 - k : Nat) : Int)) := by
        rw [← hP]
        split
        · rw [pI_c]
        · rw [pL_1, pI_c]
      have sP : Sm [0, 4, 13, 14, 15, 16, 21, 22, 23, 34] M P := (a6.mono (by decide)).tr (sNP.mono (by decide))
      have fr : Fr [0, 4, 13, 14, 15, 16, 21, 22, 23, 34, 37, 39, 47, 49, 55] [0, 17, 18, 19, 23, 24] M (pI (pI (pL P 55 0 u.toInt64) 37 0 0) 37 17 0) := ((Fr.mono (Fr.of (cs := [0, 4, 13, 14, 15, 16, 21, 22, 23, 34, 55]) ((sP.mono (by decide)).tr (Sm.l (by decide))) (by decide)) (by decide) (by decide)).tr (Fr.i (by decide) (by decide))).tr (Fr.i (by decide) (by decide))
      generalize hQ : pI (pI (pL P 55 0 u.toInt64) 37 0 0) 37 17 0 = Q at fr
      have q17 : Q.1 37 17 = 0 := by rw [← hQ, pI_c, up_c]
      have q23 : Q.1 37 23 = M.1 37 23 := by rw [← hQ, pI_c, up_d (by decide), pI_c, up_d (by decide), pL_1, (sP 37 (by decide)).1]
      have q49 : Q.1 49 = M.1 49 := by rw [← hQ, pI_d (by decide), pI_d (by decide), pL_1, (sP 49 (by decide)).1]
      have q39 : Q.1 39 = M.1 39 := by rw [← hQ, pI_d (by decide), pI_d (by decide), pL_1, (sP 39 (by decide)).1]
      obtain ⟨K0, d1, d2, d3⟩ := a11 Q (hR.f fr (by decide)) (hL.f fr (by decide) (by decide)) q17 (l2.cong q23 q49)
      obtain ⟨r1, r2, r3, r4, r5, r6, r7⟩ := d2
      -- the best set is copied
      have hcp : ∃ K, Sm [39] K0 K ∧ (aS a = -1 → K = K0) ∧ (aS a ≠ -1 → fX9_copy F 9 (ii b) K0 = some K ∧ Row K fi b (aB a) ∧ ∀ j, (j < 60 * b ∨ 60 * b + 60 ≤ j) → K.1 39 j = K0.1 39 j) := by
        by_cases z1 : aS a = -1
        · exact ⟨K0, Sm.rf, fun _ => rfl, fun e => absurd z1 e⟩
        · obtain ⟨K, y1, y2, y3, y4⟩ := copy_eq (F := F) hF (r := 9) (q := b) (by omega) (by omega) (by omega) (r7 (by omega))
          exact ⟨K, y2, fun e => absurd e z1, fun _ => ⟨y1, y3, y4⟩⟩
      obtain ⟨K, y2, y0, y1⟩ := hcp
      have frk : Fr [0, 4, 13, 14, 15, 16, 21, 22, 23, 34, 37, 39, 47, 49, 55] [0, 17, 18, 19, 23, 24] M K := (fr.tr (d1.f.mono (by decide) (by decide))).tr (Fr.mono (Fr.of y2 (by decide)) (by decide) (by decide))
      have sPQ : Sm [37, 39, 47, 49, 55] P Q := by rw [← hQ]; exact ((Sm.l (by decide)).tr (Sm.i (by decide))).tr (Sm.i (by decide))
      have sPK : Sm [37, 39, 47, 49, 55] P K := (sPQ.tr (d1.1.mono (by decide))).tr (y2.mono (by decide))
      have eP15 : P.1 15 = N.1 15 := (sNP 15 (by decide)).1
      have e15 : K.1 15 = N.1 15 := by rw [(sPK 15 (by decide)).1, eP15]
      have e0 : K.1 0 = P.1 0 := (sPK 0 (by decide)).1
      have e0d : ∀ j, j ≠ 12 → K.1 0 j = M.1 0 j := fun j hj => by rw [e0, eP0, up_d hj, (a6 0 (by decide)).1]
      have e37 : K.1 37 = K0.1 37 := (y2 37 (by decide)).1
      have hB : CB s n fi la m ls K := CB.sm (cs := [37, 39, 47, 49, 55]) (CB.sm (cs := [0, 34]) a8 sNP (fun c h1 h2 => by simp; omega)) sPK (fun c h1 h2 => by simp; omega)
      have hIL : IL s n fi la ll K := by
        rw [a2] at g9 r5
        refine ⟨g9.cong (by rw [e15]) (by rw [(sPK 16 (by decide)).2, (sNP 16 (by decide)).2]), r5.cong (by rw [e37]) (by rw [(y2 49 (by decide)).1]), l3, l4, fun t ht e => ?_⟩
        rw [e15, a7 3 (by decide)] at e
        exact (l5 t ht e).cong (by rw [e15, a7 4 (by decide)]) (by rw [(frk.1 18 (by decide)).1]) (by rw [(frk.1 19 (by decide)).1]) (by rw [(frk.1 20 (by decide)).1])
      have hIK : IK K := by
        unfold IK
        rw [e0, eP0, up_c, e37, r2]
        congr 1; omega
      have hIS : IS fi la K := by
        by_cases z1 : aS a = -1
        · have e34 : K.2 34 = M.2 34 := by rw [(sPK 34 (by decide)).2, ← hP, if_pos z1, pI_2, (a6 34 (by decide)).2]
          intro i hi
          rw [e34]
          refine ⟨(h.2.1 i hi).1, (h.2.1 i hi).2.cong (fun j h1 h2 => ?_)⟩
          rw [y0 z1, d1.2.2 j (Or.inl (by omega)), q39]
        · obtain ⟨y3, y4, y5⟩ := y1 z1
          have hbb : bt (N.2 21 8) = aB a := g6 (by omega)
          refine h.2.1.put hb (w := N.2 21 8) ?_ ?_ (by rw [hbb]; exact o4 (by omega)) (by rw [hbb]; exact y4)
          · rw [(sPK 34 (by decide)).2, ← hP, if_neg z1, pL_c, pI_2, (a6 34 (by decide)).2]
          · intro j hj hj2
            rw [y5 j hj, d1.2.2 j (Or.inl hj2), q39]
      refine opi_ok (w_greatest_ok htt hf) (K := K) ?_ ?_ ?_ ⟨s, n, fi, la, m, ls, ll, h.upd frk (h.1.cb hB frk (by decide) (by decide)) hIS hIL (h.2.2.2.1.tr frk (by decide)) (h.2.2.2.2.2.2.1.tr frk (e0d 11 (by decide)) (by decide) (by decide)) hIK (by decide) (by decide) (e0d 9 (by decide))⟩
      · unfold fX9_greatest fX9_greatest_L25 fX9_greatest_L64
        have d3' : fX9_search F 0 (ii k0) Q = some (ii (scode p a), K0) := d3
        rw [(rs_1 hb).2.2, bd_eq, if_neg (by decide), (rl_1 hk0).2.2, bd_eq, if_neg (by decide), nm_eq, p370, if_pos (by decide), nm_eq, hQ, d3', bd_eq, r3, hu]
        simp only [scode_f a3, cb]
        by_cases z1 : aS a = -1
        · rw [if_pos z1, if_pos z1, y0 z1, z1]
          by_cases z2 : p = []
          · rw [if_pos z2]; rfl
          · rw [if_neg z2, if_pos rfl]
        · obtain ⟨y3, y4, y5⟩ := y1 z1
          rw [if_neg z1, if_neg z1, y3, bv_eq, e37, r3]
          simp only [cb]
          rw [if_neg z1]
          split <;> rfl
      · rw [e37, d1.2.1 0 (by decide) (by decide) (by decide) (by decide) (by decide), ← hQ, pI_c, up_d (by decide), p370]
      · rw [(y2 55 (by decide)).2, (d1.1 55 (by decide)).2, ← hQ, pI_2, pI_2, pL_c, uL_c]
    · have htt : tX8_greatest F (ii b) (ii x) M = some exA := by unfold tX8_greatest; rw [(rs_1 hb).1, tor_n, (rs_1 hb).2.1, bv_eq, (rl_0 hx q).1]; rfl
      refine ⟨2, M, 0, pI M 37 0 2, w_greatest_A htt, ?_, p371 2, fun e => absurd e (by decide), h.refuse 2⟩
      unfold fX9_greatest fX9_greatest_L25
      rw [(rs_1 hb).2.2, bd_eq, if_neg (by decide), (rl_0 hx q).2, bd_eq, if_pos rfl, nm_eq, p371, if_neg (by decide)]
  · have htt : tX8_greatest F (ii z) (ii x) M = some exI := by unfold tX8_greatest; rw [(rs_0 hz hn).1]; rfl
    refine ⟨1, M, 0, pI M 37 0 1, w_greatest_I htt, ?_, p371 1, fun e => absurd e (by decide), h.refuse 1⟩
    unfold fX9_greatest fX9_greatest_L25
    rw [(rs_0 hz hn).2, bd_eq, if_pos rfl, nm_eq, p371, if_neg (by decide)]
end OH
