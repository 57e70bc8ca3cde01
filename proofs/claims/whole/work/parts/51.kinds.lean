/-! KINDS: the class -/
def MSk (ll : List (Nat → Bool)) (M : Mem) (K : Nat) (k0 : Nat → Int) (W : Nat → Nat) (i : Nat) : Prop := M.1 15 4 = ii K ∧ (∀ q, q < ll.length → M.1 17 q = ii (if k0 q = -1 ∧ 0 < W q then (K : Int) else k0 q)) ∧ M.1 19 K = ii (fb_ct (fun q => decide (k0 q = -1 ∧ 0 < W q)) ll.length) ∧ M.1 20 K = ii (W i)
theorem MSk.cong {ll : List (Nat → Bool)} {M : Mem} {K : Nat} {k0 : Nat → Int} {W W' : Nat → Nat} {i : Nat} (h : MSk ll M K k0 W i) (hi : i < ll.length) (hw : ∀ q, q < ll.length → W q = W' q) : MSk ll M K k0 W' i := by
  refine ⟨h.1, fun q hq => ?_, ?_, ?_⟩
  · rw [h.2.1 q hq, hw q hq]
  · rw [h.2.2.1, fb_ct_cong (fun q hq => by rw [hw q hq])]
  · rw [h.2.2.2, hw i hi]
/-- what kinds leave as it is, while one is open -/
def KF (M N : Mem) (K : Nat) : Prop := Sm [17, 19, 20] M N ∧ (∀ k, k ≠ K → N.1 19 k = M.1 19 k ∧ N.1 20 k = M.1 20 k)
theorem KF.rf {M : Mem} {K : Nat} : KF M M K := ⟨Sm.rf, fun _ _ => ⟨rfl, rfl⟩⟩
theorem KF.tr {M N P : Mem} {K : Nat} (h : KF M N K) (h2 : KF N P K) : KF M P K := ⟨h.1.tr h2.1, fun k hk => ⟨(h2.2 k hk).1.trans (h.2 k hk).1, (h2.2 k hk).2.trans (h.2 k hk).2⟩⟩
section KC
variable {F s n fi la : Nat}
theorem meet_eq (hF : 100000 ≤ F) {ll : List (Nat → Bool)} (hs : ll.Pairwise ahd) {M : Mem} (hL : CLi M ll) {K : Nat} (hK : K < 300) {k0 : Nat → Int} (hk0 : ∀ q, q < ll.length → -1 ≤ k0 q ∧ k0 q < 300) {W : Nat → Nat} {i : Nat} (hi : i < ll.length) (hM : MSk ll M K k0 W i) {v : Int64} {mf : Nat → Bool} (hm : ∀ q, q < ll.length → (mf q = true ↔ gl ll q = bt v)) {W' : Nat → Nat} (hW : ∀ q, q < ll.length → W' q = W q + (if mf q then 1 else 0)) :
    ∃ M', fX4_meet F v (ii i) M = some M' ∧ KF M M' K ∧ MSk ll M' K k0 W' i := by
  have hlen := hL.2.1
  obtain ⟨m1, m2, m3, m4⟩ := hM
  -- the set itself
  have hself : (lg_cmp v (M.2 16 i) = 0) ↔ mf i = true := by
    rw [lg_cmp_eq, hm i hi, gl_lt hi, ← hL.2.2 i hi]
    exact ⟨fun e => by rw [e], fun e => (bt_ext (fun x _ => by rw [e])).symm⟩
  have h24 : ∀ M1, Sm [20] M M1 → (∀ k, k ≠ K → M1.1 20 k = M.1 20 k) → M1.1 20 K = ii (W' i) → ∃ M', fX4_meet_L24 F v (ii i) M1 = some M' ∧ KF M M' K ∧ MSk ll M' K k0 W' i := by
    intro M1 s1 h20 h20K
    have hL1 : CLi M1 ll := hL.cong (by rw [(s1 15 (by decide)).1]) (by rw [(s1 16 (by decide)).2])
    have e15 : M1.1 15 4 = ii K := by rw [(s1 15 (by decide)).1]; exact m1
    have e17 : ∀ q, q < ll.length → M1.1 17 q = ii (if k0 q = -1 ∧ 0 < W q then (K : Int) else k0 q) := fun q hq => by rw [(s1 17 (by decide)).1]; exact m2 q hq
    have e19 : M1.1 19 K = ii (fb_ct (fun q => decide (k0 q = -1 ∧ 0 < W q)) ll.length) := by rw [(s1 19 (by decide)).1]; exact m3
    have f1 : KF M M1 K := ⟨s1.mono (by decide), fun k hk => ⟨by rw [(s1 19 (by decide)).1], h20 k hk⟩⟩
    unfold fX4_meet_L24
    rcases place_eq hF hL1 hs v with ⟨p, p1, p2, p3⟩ | ⟨p1, p2⟩
    · have hmp : ∀ q, q < ll.length → (mf q = true ↔ q = p) := fun q hq => by
        rw [hm q hq]
        exact ⟨fun e => gl_inj hs hq p1 (e.trans p2.symm), fun e => by rw [e]; exact p2⟩
      have hmpp : mf p = true := (hmp p p1).mpr rfl
      have hmn : ∀ q, q < ll.length → q ≠ p → mf q = false := fun q hq hne => by
        cases h : mf q with
        | false => rfl
        | true => exact absurd ((hmp q hq).mp h) hne
      rw [p3, bd_eq, if_neg (by rw [show (-1 : Int32) = ii (-1) from rfl, ii_eq (by omega) (by omega) (by omega) (by omega)]; omega), gd_inb (by omega) (by omega) (by omega), ii_nat (by omega) (by omega), Int.toNat_natCast, e17 p p1]
      have hk := hk0 p p1
      by_cases q : k0 p = -1 ∧ W p = 0
      · rw [if_neg (show ¬ (k0 p = -1 ∧ 0 < W p) by omega), q.1, if_pos (by decide), gd_inb (by omega) (by omega) (by omega)]
        simp only [nm_eq]
        rw [e15, pI_d (show 15 ≠ 17 by decide), e15, gd_inb (by omega) (by omega) (by omega), gd_inb (by omega) (by omega) (by omega), ii_nat (by omega) (by omega), Int.toNat_natCast, pI_d (show 19 ≠ 17 by decide), e19, ii_lit1, ii_add]
        refine ⟨_, rfl, f1.tr ⟨(Sm.i (c := 17) (by decide)).tr (Sm.i (by decide)), fun k hk => ⟨?_, ?_⟩⟩, ?_, fun r hr => ?_, ?_, ?_⟩
        · rw [pI_c, up_d hk, pI_d (by decide)]
        · rw [pI_d (by decide), pI_d (by decide)]
        · rw [pI_d (by decide), pI_d (by decide)]; exact e15
        · rw [pI_d (by decide), pI_c]
          by_cases e : r = p
          · rw [e, up_c, if_pos ⟨q.1, by rw [hW p p1, hmpp, if_pos rfl]; omega⟩]
          · rw [up_d e, e17 r hr, hW r hr, hmn r hr e, if_neg (show ¬ (false = true) by decide), Nat.add_zero]
        · rw [pI_c, up_c]
          have hu := fb_ct_upd (fun q => decide (k0 q = -1 ∧ 0 < W q)) true p1
          have e : fb_ct (fun q => decide (k0 q = -1 ∧ 0 < W' q)) ll.length = fb_ct (fun k => if k = p then true else decide (k0 k = -1 ∧ 0 < W k)) ll.length := fb_ct_cong (fun r hr => by
            by_cases e : r = p
            · rw [e, if_pos rfl, decide_eq_true ⟨q.1, by rw [hW p p1, hmpp, if_pos rfl]; omega⟩]
            · rw [if_neg e]
              exact decide_eq_decide.mpr (by rw [hW r hr, hmn r hr e, if_neg (show ¬ (false = true) by decide), Nat.add_zero]))
          rw [e]
          rw [decide_eq_false (show ¬ (k0 p = -1 ∧ 0 < W p) by omega), if_neg (by decide), if_pos rfl] at hu
          congr 1
          omega
        · rw [pI_d (by decide), pI_d (by decide)]; exact h20K
      · rw [if_neg ?_]
        · refine ⟨M1, rfl, f1, e15, fun r hr => ?_, ?_, h20K⟩
          · rw [e17 r hr]
            by_cases e : r = p
            · rw [e]
              by_cases q2 : k0 p = -1
              · rw [if_pos ⟨q2, by omega⟩, if_pos ⟨q2, by rw [hW p p1, hmpp, if_pos rfl]; omega⟩]
              · rw [if_neg (fun h => q2 h.1), if_neg (fun h => q2 h.1)]
            · rw [hW r hr, hmn r hr e, if_neg (show ¬ (false = true) by decide), Nat.add_zero]
          · rw [e19]
            congr 2
            exact fb_ct_cong (fun r hr => by
              by_cases e : r = p
              · rw [e]
                by_cases q2 : k0 p = -1
                · rw [decide_eq_true ⟨q2, by omega⟩, decide_eq_true ⟨q2, by rw [hW p p1, hmpp, if_pos rfl]; omega⟩]
                · rw [decide_eq_false (fun h => q2 h.1), decide_eq_false (fun h => q2 h.1)]
              · exact decide_eq_decide.mpr (by rw [hW r hr, hmn r hr e, if_neg (show ¬ (false = true) by decide), Nat.add_zero]))
        · rw [show (-1 : Int32) = ii (-1) from rfl]
          split
          · rw [ii_eq (by omega) (by omega) (by omega) (by omega)]; omega
          · rw [ii_eq (by omega) (by omega) (by omega) (by omega)]; omega
    · have hmn : ∀ q, q < ll.length → mf q = false := fun q hq => by
        cases h : mf q with
        | false => rfl
        | true => exact absurd ((hm q hq).mp h) (p1 q hq)
      rw [p2, bd_eq, if_pos (by decide)]
      refine ⟨M1, rfl, f1, e15, fun r hr => ?_, ?_, h20K⟩
      · rw [e17 r hr, hW r hr, hmn r hr, if_neg (show ¬ (false = true) by decide), Nat.add_zero]
      · rw [e19]
        congr 2
        exact fb_ct_cong (fun r hr => decide_eq_decide.mpr (by rw [hW r hr, hmn r hr, if_neg (show ¬ (false = true) by decide), Nat.add_zero]))
  unfold fX4_meet
  rw [gd_inb (by omega) (by omega) (by omega), ii_nat (by omega) (by omega), Int.toNat_natCast]
  by_cases q : mf i = true
  · rw [if_pos (hself.mpr q)]
    simp only [nm_eq]
    rw [m1, gd_inb (by omega) (by omega) (by omega), gd_inb (by omega) (by omega) (by omega), ii_nat (by omega) (by omega), Int.toNat_natCast, m4, ii_lit1, ii_add]
    exact h24 _ (Sm.i (by decide)) (fun k hk => by rw [pI_c, up_d hk]) (by rw [pI_c, up_c, hW i hi, q, if_pos rfl]; rfl)
  · rw [if_neg (fun e => q (hself.mp e))]
    exact h24 M Sm.rf (fun _ _ => rfl) (by rw [m4, hW i hi, if_neg q]; rfl)
/-- TURNS with one factor -/
theorem turnBy_eq (hF : 100000 ≤ F) (hG : GV s n fi la) {ll : List (Nat → Bool)} (hs : ll.Pairwise ahd) (hS : ∀ S ∈ ll, Sup fi la S) {t : Nat} (ht : t < 8) {a : Nat} (ha : 1 ≤ a + 1 ∧ a + 1 ≤ fcN s n) (hfa : fcb s n t (a + 1) = true) {M : Mem} (hC : CG s n fi la M) (hL : CLi M ll) {K : Nat} (hK : K < 300) {k0 : Nat → Int} (hk0 : ∀ q, q < ll.length → -1 ≤ k0 q ∧ k0 q < 300) {i : Nat} (hi : i < ll.length) (hM : MSk ll M K k0 (fun q => wys s n fi la t (gl ll i) (gl ll q) a) i) :
    ∃ M', fX4_turnBy F (ii (cfa s (a + 1))) (ii i) (ii t) M = some M' ∧ KF M M' K ∧ MSk ll M' K k0 (fun q => wys s n fi la t (gl ll i) (gl ll q) (a + 1)) i := by
  have hg := hG.b
  have hlen := hL.2.1
  have hSi : Sup fi la (bt (M.2 16 i)) := by rw [hL.2.2 i hi]; exact hS _ (List.getElem_mem hi)
  have hgi : bt (M.2 16 i) = gl ll i := by rw [hL.2.2 i hi, gl_lt hi]
  obtain ⟨v, v1, v2⟩ := base_eq hF hG hC ha hSi
  unfold fX4_turnBy
  rw [gd_inb (by omega) (by omega) (by omega), ii_nat (by omega) (by omega), Int.toNat_natCast, v1, bd_eq, hC.1]
  obtain ⟨-, -, t2, -⟩ := tbit t ht
  have hw1 : ∀ q, wys s n fi la t (gl ll i) (gl ll q) (a + 1) = wys s n fi la t (gl ll i) (gl ll q) a + fb_ct (fun b => mk s n fi la (a + 1) b (gl ll i) (gl ll q)) (shN s fi la t) := fun q => by rw [wys, hfa, if_pos rfl]
  -- with no move
  have hone : shN s fi la t = 1 → ∃ M', (bv (fX4_meet F v (ii i) M) (fun N => some N)) = some M' ∧ KF M M' K ∧ MSk ll M' K k0 (fun q => wys s n fi la t (gl ll i) (gl ll q) (a + 1)) i := by
    intro h1
    obtain ⟨σ, hT⟩ := TB_all hG hfa ha (b := 0) (by omega)
    have hv := img_base hG hT hSi v2
    rw [hgi] at hv
    obtain ⟨M', g1, g2, g3⟩ := meet_eq hF hs hL hK hk0 hi hM (v := v) (mf := fun q => mk s n fi la (a + 1) 0 (gl ll i) (gl ll q)) (fun q hq => by rw [mk_of hT, hv]; exact ⟨Eq.symm, Eq.symm⟩) (W' := fun q => wys s n fi la t (gl ll i) (gl ll q) (a + 1)) (fun q hq => by
      rw [hw1 q, h1, fb_ct_succ]
      show _ + (0 + _) = _
      rw [Nat.zero_add])
    exact ⟨M', by rw [g1]; rfl, g2, g3⟩
  by_cases q0 : s = 0
  · rw [if_pos (by rw [q0]; rfl)]
    exact hone (by unfold shN; rw [if_neg (fun h => h.1 q0)])
  · rw [if_neg (by rw [ii_lit0, ii_eq (by omega) (by omega) (by omega) (by omega)]; omega)]
    by_cases q2 : t / 2 % 2 = 1
    · rw [if_neg (fun e => t2.mp e q2), nm_eq, hC.2.2.1]
      have hfi : fi = 0 := by unfold GV at hG; omega
      have hsh : shN s fi la t = la + 1 := by unfold shN; rw [if_pos ⟨q0, q2⟩]; omega
      have hvs := img_v_sup hG q0 hSi v2
      have loop : ∀ (k N b : Nat) (M1 : Mem), b + k = la + 1 → k < N → CG s n fi la M1 → CLi M1 ll → MSk ll M1 K k0 (fun q => wys s n fi la t (gl ll i) (gl ll q) a + fb_ct (fun b => mk s n fi la (a + 1) b (gl ll i) (gl ll q)) b) i → ∃ M', fX4_turnBy_L46 F (ii (cfa s (a + 1))) (ii i) (ii t) N v (ii b) M1 = some M' ∧ KF M1 M' K ∧ MSk ll M' K k0 (fun q => wys s n fi la t (gl ll i) (gl ll q) (a + 1)) i := by
        intro k
        induction k with
        | zero =>
          intro N b M1 h1 h2 hC1 hL1 hM1
          obtain ⟨N, rfl⟩ : ∃ N', N = N' + 1 := ⟨N - 1, by omega⟩
          refine ⟨M1, ?_, KF.rf, hM1.cong hi (fun q hq => ?_)⟩
          · rw [fX4_turnBy_L46, hC1.2.2.2.1, if_pos (by rw [ii_lt] <;> omega)]
          · rw [hw1 q, hsh, show b = la + 1 by omega]
        | succ k ih =>
          intro N b M1 h1 h2 hC1 hL1 hM1
          obtain ⟨N, rfl⟩ : ∃ N', N = N' + 1 := ⟨N - 1, by omega⟩
          have hd : VD s n la (b : Int) := by unfold GV at hG; unfold VD; omega
          obtain ⟨v', e1, e2⟩ := moved_eq hF hG hC1 hd hvs
          obtain ⟨σ, hT⟩ := TB_all hG hfa ha (b := b) (by omega)
          have hv := img_moved hG q0 (by omega) hT hSi v2 e2
          rw [hgi] at hv
          obtain ⟨M2, g1, g2, g3⟩ := meet_eq hF hs hL1 hK hk0 hi hM1 (v := v') (mf := fun q => mk s n fi la (a + 1) b (gl ll i) (gl ll q)) (fun q hq => by rw [mk_of hT, hv]; exact ⟨Eq.symm, Eq.symm⟩) (W' := fun q => wys s n fi la t (gl ll i) (gl ll q) a + fb_ct (fun b => mk s n fi la (a + 1) b (gl ll i) (gl ll q)) (b + 1)) (fun q hq => by rw [fb_ct_succ, Nat.add_assoc])
          rw [fX4_turnBy_L46, hC1.2.2.2.1, if_neg (by rw [ii_lt] <;> omega), e1, bd_eq, g1, bv_eq, nm_eq, ii_lit1, ii_add, show ((b : Int) + 1) = ((b + 1 : Nat) : Int) by omega]
          obtain ⟨M', r1, r2, r3⟩ := ih N (b + 1) M2 (by omega) (by omega) (hC1.sm g2.1 (by decide)) (hL1.cong (by rw [(g2.1 15 (by decide)).1]) (by rw [(g2.1 16 (by decide)).2])) g3
          exact ⟨M', r1, g2.tr r2, r3⟩
      rw [show ii (fi : Int) = ii ((0 : Nat) : Int) by rw [hfi]]
      exact loop (la + 1) F 0 M (by omega) (by omega) hC hL (hM.cong hi (fun q hq => rfl))
    · rw [if_pos (t2.mpr q2)]
      exact hone (by unfold shN; rw [if_neg (fun h => q2 h.2)])
end KC
