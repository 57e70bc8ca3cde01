/-! KINDS: the class, kind by kind -/
section KB
variable {F s n fi la : Nat}
theorem fcb_1 (s n t : Nat) : fcb s n t 1 = true := decide_eq_true (Or.inl rfl)
theorem open_L (hF : 100000 ≤ F) (hG : GV 1 n fi la) {ll : List (Nat → Bool)} (hs : ll.Pairwise ahd) (hS : ∀ S ∈ ll, Sup fi la S) {t : Nat} (ht : t < 8) {K : Nat} (hK : K < 300) {k0 : Nat → Int} (hk0 : ∀ q, q < ll.length → -1 ≤ k0 q ∧ k0 q < 300) {i : Nat} (hi : i < ll.length) : ∀ (k N a : Nat) (M : Mem), a + 1 + k = n → 1 ≤ a → k < N → CG 1 n fi la M → CLi M ll → MSk ll M K k0 (fun q => wys 1 n fi la t (gl ll i) (gl ll q) a) i →
    ∃ M1, fX4_openKind_L50 F (ii i) (ii t) N (ii ((a + 1 : Nat) : Int)) M = some (pI M1 15 4 (ii ((K + 1 : Nat) : Int))) ∧ KF M M1 K ∧ MSk ll M1 K k0 (fun q => wys 1 n fi la t (gl ll i) (gl ll q) (n - 1)) i
  | 0, N + 1, a, M, h1, h0, h2, hC, hL, hM => by
    have hg := hG.b
    refine ⟨M, ?_, KF.rf, ?_⟩
    · rw [fX4_openKind_L50, hC.2.1, if_pos (by rw [ii_le] <;> omega), nm_eq, hM.1, ii_lit1, ii_add]; rfl
    · rw [show n - 1 = a by omega]; exact hM
  | k + 1, N + 1, a, M, h1, h0, h2, hC, hL, hM => by
    have hg := hG.b
    rw [fX4_openKind_L50, hC.2.1, if_neg (by rw [ii_le] <;> omega), isStretch_eq hF hG hC ht (by omega), bd_eq]
    simp only [nm_eq]
    rw [ii_lit1, ii_add, show (((a + 1 : Nat) : Int) + 1) = ((a + 1 + 1 : Nat) : Int) by omega]
    cases hf : fcb 1 n t (a + 1) with
    | false =>
      rw [if_pos (by decide)]
      exact open_L hF hG hs hS ht hK hk0 hi k N (a + 1) M (by omega) (by omega) (by omega) hC hL (hM.cong hi (fun q hq => by rw [wys, hf, if_neg (by decide), Nat.add_zero]))
    | true =>
      rw [if_neg (by decide)]
      have hfc : fcN 1 n = n - 1 := by unfold fcN; rw [if_pos rfl]
      obtain ⟨M1, g1, g2, g3⟩ := turnBy_eq hF hG hs hS ht (a := a) (by omega) hf hC hL hK hk0 hi hM
      have hcf : cfa 1 (a + 1) = ((a + 1 : Nat) : Int) := by unfold cfa; rw [if_neg (by omega), if_pos rfl]
      rw [hcf] at g1
      rw [g1, bv_eq]
      obtain ⟨M2, r1, r2, r3⟩ := open_L hF hG hs hS ht hK hk0 hi k N (a + 1) M1 (by omega) (by omega) (by omega) (hC.sm g2.1 (by decide)) (hL.cong (by rw [(g2.1 15 (by decide)).1]) (by rw [(g2.1 16 (by decide)).2])) g3
      exact ⟨M2, r1, g2.tr r2, r3⟩
theorem open_eq (hF : 100000 ≤ F) (hG : GV s n fi la) {ll : List (Nat → Bool)} (hs : ll.Pairwise ahd) (hS : ∀ S ∈ ll, Sup fi la S) {t : Nat} (ht : t < 8) {M : Mem} (hC : CG s n fi la M) (hL : CLi M ll) {K : Nat} (hK : K < 300) (h15 : M.1 15 4 = ii K) {k0 : Nat → Int} (hk0 : ∀ q, q < ll.length → -1 ≤ k0 q ∧ k0 q < 300) (h17 : ∀ q, q < ll.length → M.1 17 q = ii (k0 q)) {i : Nat} (hi : i < ll.length) :
    ∃ M1, fX4_openKind F (ii i) (ii t) M = some (pI M1 15 4 (ii ((K + 1 : Nat) : Int))) ∧ Sm [17, 18, 19, 20] M M1 ∧ (∀ k, k ≠ K → M1.1 18 k = M.1 18 k ∧ M1.1 19 k = M.1 19 k ∧ M1.1 20 k = M.1 20 k) ∧ M1.1 18 K = ii i ∧ MSk ll M1 K k0 (fun q => wys s n fi la t (gl ll i) (gl ll q) (fcN s n)) i := by
  have hg := hG.b
  have hlen := hL.2.1
  have t1 : (ii (t : Int) &&& ii 1 = 0 ↔ ¬ t % 2 = 1) := (tbit t ht).1
  unfold fX4_openKind
  rw [h15, gd_inb (by omega) (by omega) (by omega)]
  simp only [nm_eq]
  rw [ii_nat (by omega) (by omega), Int.toNat_natCast, pI_d (show 15 ≠ 18 by decide), h15, gd_inb (by omega) (by omega) (by omega), ii_nat (by omega) (by omega), Int.toNat_natCast, pI_d (show 15 ≠ 19 by decide), pI_d (show 15 ≠ 18 by decide), h15, gd_inb (by omega) (by omega) (by omega), ii_nat (by omega) (by omega), Int.toNat_natCast]
  have s1 : Sm [17, 18, 19, 20] M (pI (pI (pI M 18 K (ii i)) 19 K 0) 20 K 0) := ((Sm.i (c := 18) (by decide)).tr (Sm.i (c := 19) (by decide))).tr (Sm.i (by decide))
  have hfr : ∀ k, k ≠ K → (pI (pI (pI M 18 K (ii i)) 19 K 0) 20 K 0).1 18 k = M.1 18 k ∧ (pI (pI (pI M 18 K (ii i)) 19 K 0) 20 K 0).1 19 k = M.1 19 k ∧ (pI (pI (pI M 18 K (ii i)) 19 K 0) 20 K 0).1 20 k = M.1 20 k := fun k hk => by simp [pI_at, hk]
  have h18 : (pI (pI (pI M 18 K (ii i)) 19 K 0) 20 K 0).1 18 K = ii i := by simp [pI_at]
  have hM1 : MSk ll (pI (pI (pI M 18 K (ii i)) 19 K 0) 20 K 0) K k0 (fun q => wys s n fi la t (gl ll i) (gl ll q) 0) i := by
    refine ⟨by simpa [pI_at] using h15, fun q hq => ?_, ?_, ?_⟩
    · rw [pI_d (by decide), pI_d (by decide), pI_d (by decide), h17 q hq, if_neg (fun h => absurd h.2 (by simp [wys]))]
    · rw [pI_d (by decide), pI_c, up_c]
      rw [show fb_ct (fun q => decide (k0 q = -1 ∧ 0 < (fun q => wys s n fi la t (gl ll i) (gl ll q) 0) q)) ll.length = 0 from fb_ct_zero.mpr (fun q _ => decide_eq_false (fun h => absurd h.2 (by simp [wys])))]
      rfl
    · rw [pI_c, up_c]; rfl
  have hC1 := hC.sm s1 (by decide)
  have hL1 : CLi (pI (pI (pI M 18 K (ii i)) 19 K 0) 20 K 0) ll := hL.cong (by simp [pI_at]) (by rw [pI_2, pI_2, pI_2])
  generalize pI (pI (pI M 18 K (ii i)) 19 K 0) 20 K 0 = M1 at *
  have hfN : 1 ≤ fcN s n := by
    unfold fcN
    split
    · unfold GV at hG; omega
    · omega
  obtain ⟨M2, g1, g2, g3⟩ := turnBy_eq hF hG hs hS ht (a := 0) ⟨by omega, hfN⟩ (fcb_1 s n t) hC1 hL1 hK hk0 hi hM1
  have hcf : cfa s (0 + 1) = 1 := by unfold cfa; rw [if_pos rfl]
  rw [hcf] at g1
  have hC2 := hC1.sm g2.1 (by decide)
  have hL2 : CLi M2 ll := hL1.cong (by rw [(g2.1 15 (by decide)).1]) (by rw [(g2.1 16 (by decide)).2])
  rw [show (1 : Int32) = ii 1 from rfl, g1, bv_eq, hC2.1, hC2.2.2.1, hC2.2.2.2.1]
  -- all that stays
  have done_ : ∀ M3, KF M2 M3 K → MSk ll M3 K k0 (fun q => wys s n fi la t (gl ll i) (gl ll q) (fcN s n)) i → Sm [17, 18, 19, 20] M M3 ∧ (∀ k, k ≠ K → M3.1 18 k = M.1 18 k ∧ M3.1 19 k = M.1 19 k ∧ M3.1 20 k = M.1 20 k) ∧ M3.1 18 K = ii i ∧ MSk ll M3 K k0 (fun q => wys s n fi la t (gl ll i) (gl ll q) (fcN s n)) i := by
    intro M3 f h
    have f13 := g2.tr f
    refine ⟨s1.tr (f13.1.mono (by decide)), fun k hk => ⟨?_, ?_, ?_⟩, ?_, h⟩
    · rw [(f13.1 18 (by decide)).1]; exact (hfr k hk).1
    · rw [(f13.2 k hk).1]; exact (hfr k hk).2.1
    · rw [(f13.2 k hk).2]; exact (hfr k hk).2.2
    · rw [(f13.1 18 (by decide)).1]; exact h18
  by_cases q1 : s = 1
  · subst q1
    rw [if_pos (by decide)]
    have h2n : 2 ≤ n := by unfold GV at hG; omega
    obtain ⟨M3, r1, r2, r3⟩ := open_L hF hG hs hS ht hK hk0 hi (n - 2) F 1 M2 (by omega) (by omega) (by omega) hC2 hL2 g3
    refine ⟨M3, r1, done_ M3 r2 ?_⟩
    rw [show fcN 1 n = n - 1 by unfold fcN; rw [if_pos rfl]]
    exact r3
  · rw [if_neg (by rw [ii_eq (by omega) (by omega) (by omega) (by omega)]; omega)]
    have hfc : fcN s n = 2 := by unfold fcN; rw [if_neg q1]
    have e15 : M2.1 15 4 = ii K := g3.1
    have hno : fcb s n t 2 = false → MSk ll M2 K k0 (fun q => wys s n fi la t (gl ll i) (gl ll q) (fcN s n)) i := fun hf => by
      rw [hfc]
      exact g3.cong hi (fun q hq => by
        show wys s n fi la t (gl ll i) (gl ll q) 1 = wys s n fi la t (gl ll i) (gl ll q) 1 + (if fcb s n t 2 then fb_ct (fun b => mk s n fi la (1 + 1) b (gl ll i) (gl ll q)) (shN s fi la t) else 0)
        rw [hf, if_neg (by decide), Nat.add_zero])
    by_cases q2 : t % 2 = 1
    · rw [if_neg (fun e => t1.mp e q2)]
      by_cases q3 : la ≤ fi
      · rw [if_pos (by rw [ii_le] <;> omega), e15, ii_add]
        have hf : fcb s n t 2 = false := decide_eq_false (by unfold GV at hG; omega)
        exact ⟨M2, rfl, done_ M2 KF.rf (hno hf)⟩
      · rw [if_neg (by rw [ii_le] <;> omega)]
        have hf : fcb s n t (1 + 1) = true := decide_eq_true (by unfold GV at hG; omega)
        obtain ⟨M3, r1, r2, r3⟩ := turnBy_eq hF hG hs hS ht (a := 1) ⟨by omega, by omega⟩ hf hC2 hL2 hK hk0 hi g3
        have hcf2 : cfa s (1 + 1) = -1 := by unfold cfa; rw [if_neg (by omega), if_neg q1]
        rw [hcf2] at r1
        rw [ii_neg, r1, bv_eq, r3.1, ii_add]
        refine ⟨M3, rfl, done_ M3 r2 ?_⟩
        rw [hfc]; exact r3
    · rw [if_pos (t1.mpr q2), e15, ii_add]
      have hf : fcb s n t 2 = false := decide_eq_false (by omega)
      exact ⟨M2, rfl, done_ M2 KF.rf (hno hf)⟩
theorem rch_self (hG : GV s n fi la) (t : Nat) {S : Nat → Bool} (hS : Sup fi la S) : 0 < wys s n fi la t S S (fcN s n) := by
  have hg := hG.b
  have hT : TB s n fi la 1 0 (fun x => x) := by
    have e : ∀ x : Nat, x ≤ la → tu s n 1 0 x = x := by
      intro x hx
      unfold tu
      by_cases q : s = 0
      · rw [if_pos q, if_neg (by decide)]
      · rw [if_neg q]
        have h2 : ∀ z : Int, mx s n 1 z 1 ((0 : Nat) : Int) = mx s n 1 z 0 0 := by intro z; unfold mx t3; simp
        rw [h2, mx_self hG (Ca.mx hG _ _ _ _)]
        exact mx_self hG (Ca.g hG (by omega) (by omega))
    exact fun x x1 x2 => ⟨⟨x, e x x2, x1, x2, rfl⟩, x1, x2, e x x2⟩
  have hmk : mk s n fi la 1 0 S S = true := (mk_of hT).mpr (by
    funext y
    unfold img
    cases h : S y with
    | false => simp
    | true => have := hS y h; rw [full_t this.1 this.2]; rfl)
  have h1 : 0 < wys s n fi la t S S 1 := by
    rw [wys, fcb_1, if_pos rfl]
    have : 0 < fb_ct (fun b => mk s n fi la (0 + 1) b S S) (shN s fi la t) := fb_ct_pos.mpr ⟨0, (shN_le hG t).1, hmk⟩
    omega
  have hmono : ∀ d, wys s n fi la t S S 1 ≤ wys s n fi la t S S (1 + d) := by
    intro d
    induction d with
    | zero => exact Nat.le_refl _
    | succ d ih =>
      refine Nat.le_trans ih ?_
      show wys s n fi la t S S (1 + d) ≤ wys s n fi la t S S (1 + d + 1)
      rw [wys]; exact Nat.le_add_right _ _
  have hfN : 1 ≤ fcN s n := by
    unfold fcN
    split
    · unfold GV at hG; omega
    · omega
  have := hmono (fcN s n - 1)
  rw [show 1 + (fcN s n - 1) = fcN s n by omega] at this
  omega
/-- the KINDS as the class keeps them -/
def CKd (s n fi la t : Nat) (ll : List (Nat → Bool)) (M : Mem) : Prop := ∃ L, IsL ll.length (rch s n fi la t ll) L ∧ M.1 15 4 = ii (fb_ct (ldr L) ll.length) ∧ ∀ f, f < ll.length → L f = f → M.1 18 (fb_ct (ldr L) f) = ii f ∧ M.1 19 (fb_ct (ldr L) f) = ii (fb_ct (fun q => decide (L q = f)) ll.length) ∧ M.1 20 (fb_ct (ldr L) f) = ii (wys s n fi la t (gl ll f) (gl ll f) (fcN s n))
/-- while sets are sorted out: the kinds opened, f the first of each, k0 the kind of each set -/
def KI (s n fi la t : Nat) (ll : List (Nat → Bool)) (M : Mem) (i K : Nat) (f : Nat → Nat) (k0 : Nat → Int) : Prop :=
  M.1 15 4 = ii K ∧ K ≤ i ∧ (∀ q, q < ll.length → M.1 17 q = ii (k0 q)) ∧ (∀ q, q < ll.length → k0 q = -1 ∨ ∃ k, k < K ∧ k0 q = (k : Int)) ∧ (∀ k, k < K → f k < i ∧ k0 (f k) = k ∧ M.1 18 k = ii (f k) ∧ M.1 19 k = ii (fb_ct (fun q => decide (k0 q = k)) ll.length) ∧ M.1 20 k = ii (wys s n fi la t (gl ll (f k)) (gl ll (f k)) (fcN s n))) ∧ (∀ k k', k < k' → k' < K → f k < f k') ∧ (∀ q, q < ll.length → k0 q = -1 → ∀ k, k < K → ¬ rch s n fi la t ll (f k) q) ∧ (∀ q, q < ll.length → ∀ k : Nat, k0 q = k → rch s n fi la t ll (f k) q ∧ f k ≤ q ∧ ∀ k', k' < k → ¬ rch s n fi la t ll (f k') q) ∧ (∀ q, q < i → k0 q ≠ -1) ∧ (∃ p : Nat → Bool, fb_ct p i = K ∧ (∀ k, k < K → fb_ct p (f k) = k) ∧ ∀ q, q < i → (p q = true ↔ ∃ k, k < K ∧ f k = q))
theorem KI.open_ {t : Nat} (hG : GV s n fi la) {ll : List (Nat → Bool)} (hS : ∀ S ∈ ll, Sup fi la S) {M M1 : Mem} {i K : Nat} {f : Nat → Nat} {k0 : Nat → Int} (hi : i < ll.length) (h : KI s n fi la t ll M i K f k0) (hk : k0 i = -1) (s1 : Sm [17, 18, 19, 20] M M1) (hfr : ∀ k, k ≠ K → M1.1 18 k = M.1 18 k ∧ M1.1 19 k = M.1 19 k ∧ M1.1 20 k = M.1 20 k) (h18 : M1.1 18 K = ii i) (hM : MSk ll M1 K k0 (fun q => wys s n fi la t (gl ll i) (gl ll q) (fcN s n)) i) :
    KI s n fi la t ll (pI M1 15 4 (ii ((K + 1 : Nat) : Int))) (i + 1) (K + 1) (fun k => if k = K then i else f k) (fun q => if k0 q = -1 ∧ 0 < wys s n fi la t (gl ll i) (gl ll q) (fcN s n) then (K : Int) else k0 q) := by
  obtain ⟨a1, a2, a3, a4, a5, a6, a7, a8, a9, p, b1, b2, b3⟩ := h
  have hSi : Sup fi la (gl ll i) := by rw [gl_lt hi]; exact hS _ (List.getElem_mem hi)
  have hself := rch_self hG t hSi
  have hgi : ∀ q, q < i → ¬ (k0 q = -1 ∧ 0 < wys s n fi la t (gl ll i) (gl ll q) (fcN s n)) := fun q hq e => a9 q hq e.1
  have hfk : ∀ k, k < K → (if k = K then i else f k) = f k := fun k hk => if_neg (by omega)
  have hKk : ∀ q, q < ll.length → k0 q ≠ (K : Int) := fun q hq e => by
    rcases a4 q hq with h1 | ⟨k, h1, h2⟩ <;> omega
  refine ⟨by rw [pI_c, up_c], by omega, fun q hq => ?_, fun q hq => ?_, fun k hk => ?_, fun k k' h1 h2 => ?_, fun q hq he k hk => ?_, fun q hq k he => ?_, fun q hq => ?_, fun q => if q = i then true else p q, ?_, fun k hk => ?_, fun q hq => ?_⟩
  · rw [pI_d (by decide)]; exact hM.2.1 q hq
  · dsimp only
    split
    · exact Or.inr ⟨K, by omega, rfl⟩
    · rcases a4 q hq with h1 | ⟨k, h1, h2⟩
      · exact Or.inl h1
      · exact Or.inr ⟨k, by omega, h2⟩
  · dsimp only
    by_cases e : k = K
    · subst e
      rw [if_pos rfl, if_pos ⟨by assumption, hself⟩]
      refine ⟨by omega, rfl, by rw [pI_d (by decide)]; exact h18, ?_, by rw [pI_d (by decide)]; exact hM.2.2.2⟩
      rw [pI_d (by decide), hM.2.2.1]
      congr 2
      apply fb_ct_cong
      intro q hq
      apply decide_eq_decide.mpr
      try dsimp only
      have := hKk q hq
      split <;> omega
    · obtain ⟨c1, c2, c3, c4, c5⟩ := a5 k (by omega)
      have hf := hfr k e
      rw [if_neg e, if_neg (fun h => by have := h.1; omega)]
      refine ⟨by omega, c2, by rw [pI_d (by decide), hf.1]; exact c3, ?_, by rw [pI_d (by decide), hf.2.2]; exact c5⟩
      rw [pI_d (by decide), hf.2.1, c4]
      congr 2
      apply fb_ct_cong
      intro q hq
      apply decide_eq_decide.mpr
      try dsimp only
      split <;> omega
  · dsimp only
    rw [if_neg (show ¬ k = K by omega)]
    by_cases e : k' = K
    · rw [if_pos e]; exact (a5 k (by omega)).1
    · rw [if_neg e]; exact a6 k k' h1 (by omega)
  · dsimp only at he ⊢
    have hn : ¬ (k0 q = -1 ∧ 0 < wys s n fi la t (gl ll i) (gl ll q) (fcN s n)) := fun h => by rw [if_pos h] at he; omega
    rw [if_neg hn] at he
    by_cases e : k = K
    · rw [if_pos e]
      exact fun h => hn ⟨he, h⟩
    · rw [if_neg e]; exact a7 q hq he k (by omega)
  · dsimp only at he ⊢
    by_cases hn : k0 q = -1 ∧ 0 < wys s n fi la t (gl ll i) (gl ll q) (fcN s n)
    · rw [if_pos hn] at he
      have hkK : k = K := by omega
      rw [if_pos hkK]
      refine ⟨hn.2, ?_, fun k' hk' => ?_⟩
      · rcases Nat.lt_or_ge q i with r | r
        · exact absurd hn.1 (a9 q r)
        · exact r
      · rw [if_neg (by omega)]
        exact a7 q hq hn.1 k' (by omega)
    · rw [if_neg hn] at he
      have hkK : k < K := by
        rcases a4 q hq with h1 | ⟨k', h1, h2⟩ <;> omega
      obtain ⟨d1, d2, d3⟩ := a8 q hq k he
      rw [if_neg (by omega)]
      refine ⟨d1, d2, fun k' hk' => ?_⟩
      rw [if_neg (by omega)]
      exact d3 k' hk'
  · dsimp only
    by_cases e : q = i
    · rw [e, if_pos ⟨hk, hself⟩]; omega
    · rw [if_neg (hgi q (by omega))]
      exact a9 q (by omega)
  · rw [fb_ct_succ, fb_ct_out p true (Nat.le_refl i), b1, if_pos rfl]; rfl
  · dsimp only
    by_cases e : k = K
    · rw [if_pos e, fb_ct_out p true (Nat.le_refl i), b1, e]
    · rw [if_neg e, fb_ct_out p true (Nat.le_of_lt (a5 k (by omega)).1)]
      exact b2 k (by omega)
  · dsimp only
    by_cases e : q = i
    · rw [if_pos e]
      exact ⟨fun _ => ⟨K, by omega, by rw [if_pos rfl, e]⟩, fun _ => rfl⟩
    · rw [if_neg e, b3 q (by omega)]
      constructor
      · rintro ⟨k, k1, k2⟩; exact ⟨k, by omega, by rw [if_neg (by omega)]; exact k2⟩
      · rintro ⟨k, k1, k2⟩
        by_cases e2 : k = K
        · rw [if_pos e2] at k2; omega
        · rw [if_neg e2] at k2; exact ⟨k, by omega, k2⟩
theorem KI.skip {t : Nat} {ll : List (Nat → Bool)} {M : Mem} {i K : Nat} {f : Nat → Nat} {k0 : Nat → Int} (hi : i < ll.length) (h : KI s n fi la t ll M i K f k0) (hk : k0 i ≠ -1) : KI s n fi la t ll M (i + 1) K f k0 := by
  obtain ⟨a1, a2, a3, a4, a5, a6, a7, a8, a9, p, b1, b2, b3⟩ := h
  refine ⟨a1, by omega, a3, a4, fun k hk => ⟨by have := (a5 k hk).1; omega, (a5 k hk).2⟩, a6, a7, a8, fun q hq => ?_, fun q => if q = i then false else p q, ?_, fun k hk => ?_, fun q hq => ?_⟩
  · by_cases e : q = i
    · rw [e]; exact hk
    · exact a9 q (by omega)
  · rw [fb_ct_succ, fb_ct_out p false (Nat.le_refl i), b1, if_pos rfl]; rfl
  · rw [fb_ct_out p false (Nat.le_of_lt (a5 k hk).1)]
    exact b2 k hk
  · dsimp only
    by_cases e : q = i
    · rw [if_pos e]
      refine ⟨fun h => (by cases h), fun ⟨k, k1, k2⟩ => ?_⟩
      have := (a5 k k1).1
      omega
    · rw [if_neg e]; exact b3 q (by omega)
theorem KI.end_ {t : Nat} {ll : List (Nat → Bool)} {M : Mem} {K : Nat} {f : Nat → Nat} {k0 : Nat → Int} (h : KI s n fi la t ll M ll.length K f k0) : CKd s n fi la t ll M := by
  obtain ⟨a1, a2, a3, a4, a5, a6, a7, a8, a9, p, b1, b2, b3⟩ := h
  have hko : ∀ q, q < ll.length → ∃ k, k < K ∧ k0 q = (k : Int) := fun q hq => by
    rcases a4 q hq with h1 | h1
    · exact absurd h1 (a9 q hq)
    · exact h1
  have hLk : ∀ q k : Nat, k0 q = (k : Int) → f (k0 q).toNat = f k := fun q k e => by rw [e, Int.toNat_natCast]
  have hmono : ∀ k k', k < K → k' < K → f k < f k' → k < k' := fun k k' h1 h2 h3 => by
    rcases Nat.lt_trichotomy k k' with r | r | r
    · exact r
    · rw [r] at h3; omega
    · have := a6 k' k r h1; omega
  have hL : IsL ll.length (rch s n fi la t ll) (fun q => f (k0 q).toNat) := by
    intro q hq
    obtain ⟨k, k1, k2⟩ := hko q hq
    obtain ⟨d1, d2, d3⟩ := a8 q hq k k2
    dsimp only
    rw [hLk q k k2]
    have hlead : ∀ i, i < f k → f (k0 i).toNat = i → ¬ rch s n fi la t ll i q := by
      intro i hi hLi
      obtain ⟨k', k1', k2'⟩ := hko i (by have := (a5 k k1).1; omega)
      rw [hLk i k' k2'] at hLi
      have := hmono k' k k1' k1 (by omega)
      rw [← hLi]
      exact d3 k' this
    by_cases e : f k = q
    · left
      exact ⟨e, fun i hi hLi => hlead i (by omega) hLi⟩
    · right
      refine ⟨by omega, ?_, d1, hlead⟩
      exact hLk (f k) k (a5 k k1).2.1
  have hldr : ∀ q, q < ll.length → ldr (fun q => f (k0 q).toNat) q = p q := fun q hq => by
    obtain ⟨k, k1, k2⟩ := hko q hq
    rw [Bool.eq_iff_iff, b3 q hq]
    unfold ldr
    rw [decide_eq_true_eq]
    show f (k0 q).toNat = q ↔ _
    rw [hLk q k k2]
    constructor
    · intro e; exact ⟨k, k1, e⟩
    · rintro ⟨k', k1', k2'⟩
      have := (a5 k' k1').2.1
      rw [k2'] at this
      have : k = k' := by omega
      rw [this]; exact k2'
  refine ⟨_, hL, ?_, fun x hx hLx => ?_⟩
  · rw [a1, fb_ct_cong hldr, b1]
  · obtain ⟨k, k1, k2⟩ := hko x hx
    have hLx : f (k0 x).toNat = x := hLx
    rw [hLk x k k2] at hLx
    have hc : fb_ct (ldr (fun q => f (k0 q).toNat)) x = k := by
      rw [fb_ct_cong (fun q hq => hldr q (by omega)), ← hLx]
      exact b2 k k1
    obtain ⟨c1, c2, c3, c4, c5⟩ := a5 k k1
    rw [hc]
    refine ⟨by rw [c3, hLx], ?_, by rw [c5, hLx]⟩
    rw [c4]
    congr 2
    apply fb_ct_cong
    intro q hq
    apply decide_eq_decide.mpr
    obtain ⟨k', k1', k2'⟩ := hko q hq
    rw [hLk q k' k2']
    constructor
    · intro e
      have : k' = k := by omega
      rw [this]; exact hLx
    · intro e
      have : k' = k := by
        rcases Nat.lt_trichotomy k' k with r | r | r
        · have := a6 k' k r k1; omega
        · exact r
        · have := a6 k k' r k1'; omega
      rw [k2', this]
theorem sort_L (hF : 100000 ≤ F) (hG : GV s n fi la) {ll : List (Nat → Bool)} (hs : ll.Pairwise ahd) (hS : ∀ S ∈ ll, Sup fi la S) {t : Nat} (ht : t < 8) : ∀ (k N i : Nat) (M : Mem) (K : Nat) (f : Nat → Nat) (k0 : Nat → Int), i + k = ll.length → k < N → CG s n fi la M → CLi M ll → KI s n fi la t ll M i K f k0 →
    ∃ M', fX4_sortOut_L24 F (ii t) N (ii i) M = some (pI M' 15 3 (ii t)) ∧ Sm [15, 17, 18, 19, 20] M M' ∧ (∀ j, j ≠ 4 → M'.1 15 j = M.1 15 j) ∧ CKd s n fi la t ll M'
  | 0, N + 1, i, M, K, f, k0, h1, h2, hC, hL, hI => by
    have hlen := hL.2.1
    have e : i = ll.length := by omega
    subst e
    refine ⟨M, ?_, Sm.rf, fun _ _ => rfl, hI.end_⟩
    rw [fX4_sortOut_L24, hL.1, if_pos (by rw [ii_le] <;> omega), nm_eq]
  | k + 1, N + 1, i, M, K, f, k0, h1, h2, hC, hL, hI => by
    have hlen := hL.2.1
    have hk : ∀ q, q < ll.length → -1 ≤ k0 q ∧ k0 q < 300 := fun q hq => by
      have := hI.2.1
      rcases hI.2.2.2.1 q hq with h3 | ⟨k', h3, h4⟩ <;> omega
    have hki := hk i (by omega)
    have hKi := hI.2.1
    rw [fX4_sortOut_L24, hL.1, if_neg (by rw [ii_le] <;> omega), gd_inb (by omega) (by omega) (by omega), ii_nat (by omega) (by omega), Int.toNat_natCast, hI.2.2.1 i (by omega)]
    simp only [nm_eq]
    rw [ii_lit1, ii_add, show ((i : Int) + 1) = ((i + 1 : Nat) : Int) by omega]
    by_cases q : k0 i = -1
    · rw [if_pos (by rw [q]; rfl)]
      obtain ⟨M1, g1, g2, g3, g4, g5⟩ := open_eq hF hG hs hS ht hC hL (K := K) (by omega) hI.1 hk hI.2.2.1 (i := i) (by omega)
      rw [g1, bv_eq]
      have s2 : Sm [15, 17, 18, 19, 20] M (pI M1 15 4 (ii ((K + 1 : Nat) : Int))) := (g2.mono (by decide)).tr (Sm.i (by decide))
      have h15 : ∀ j, j ≠ 4 → (pI M1 15 4 (ii ((K + 1 : Nat) : Int))).1 15 j = M.1 15 j := fun j hj => by rw [pI_c, up_d hj, (g2 15 (by decide)).1]
      obtain ⟨M', r1, r2, r3, r4⟩ := sort_L hF hG hs hS ht k N (i + 1) _ _ _ _ (by omega) (by omega) (hC.sm s2 (by decide)) (hL.cong (h15 2 (by decide)) (by rw [(s2 16 (by decide)).2])) (hI.open_ hG hS (by omega) q g2 g3 g4 g5)
      exact ⟨M', r1, s2.tr r2, fun j hj => (r3 j hj).trans (h15 j hj), r4⟩
    · rw [if_neg (by rw [show -ii 1 = ii (-1) from ii_neg 1, ii_eq (by omega) (by omega) (by omega) (by omega)]; omega)]
      exact sort_L hF hG hs hS ht k N (i + 1) M K f k0 (by omega) (by omega) hC hL (hI.skip (by omega) q)
theorem sortOut_eq (hF : 100000 ≤ F) (hG : GV s n fi la) {ll : List (Nat → Bool)} (hs : ll.Pairwise ahd) (hS : ∀ S ∈ ll, Sup fi la S) {t : Nat} (ht : t < 8) {M : Mem} (hC : CG s n fi la M) (hL : CLi M ll) (hK : ∀ t' : Nat, t' < 8 → M.1 15 3 = ii t' → CKd s n fi la t' ll M) :
    ∃ M', fX4_sortOut F (ii t) M = some M' ∧ Sm [15, 17, 18, 19, 20] M M' ∧ CLi M' ll ∧ M'.1 15 3 = ii t ∧ CKd s n fi la t ll M' := by
  have hlen := hL.2.1
  unfold fX4_sortOut
  by_cases q : M.1 15 3 = ii t
  · rw [if_pos q.symm]
    exact ⟨M, rfl, Sm.rf, hL, q, hK t ht q⟩
  · rw [if_neg (fun e => q e.symm), nm_eq, fill17_eq hF, bv_eq]
    have s1 : Sm [15, 17, 18, 19, 20] M (pIr (pI M 15 4 0) 17 (fun j => if j < 300 then (-1 : Int32) else (pI M 15 4 0).1 17 j)) := (Sm.i (c := 15) (by decide)).tr (Sm.ir (by decide))
    have h15 : ∀ j, j ≠ 4 → (pIr (pI M 15 4 0) 17 (fun j => if j < 300 then (-1 : Int32) else (pI M 15 4 0).1 17 j)).1 15 j = M.1 15 j := fun j hj => by rw [pIr_d (by decide), pI_c, up_d hj]
    have hI : KI s n fi la t ll (pIr (pI M 15 4 0) 17 (fun j => if j < 300 then (-1 : Int32) else (pI M 15 4 0).1 17 j)) 0 0 (fun _ => 0) (fun _ => -1) := by
      refine ⟨by rw [pIr_d (by decide), pI_c, up_c]; rfl, Nat.le_refl _, fun q hq => ?_, fun q hq => Or.inl rfl, fun k hk => by omega, fun k k' h1 h2 => by omega, fun q hq he k hk => by omega, fun q hq k he => (by have he : (-1 : Int) = (k : Int) := he; omega), fun q hq => by omega, fun _ => false, rfl, fun k hk => by omega, fun q hq => by omega⟩
      rw [pIr_c, if_pos (by omega)]; rfl
    obtain ⟨M', r1, r2, r3, r4⟩ := sort_L hF hG hs hS ht ll.length F 0 _ 0 _ _ (by omega) (by omega) (hC.sm s1 (by decide)) (hL.cong (h15 2 (by decide)) (by rw [(s1 16 (by decide)).2])) hI
    refine ⟨_, r1, (s1.tr r2).tr (Sm.i (by decide)), ?_, by rw [pI_c, up_c], ?_⟩
    · refine hL.cong ?_ ?_
      · rw [pI_c, up_d (by decide), r3 2 (by decide), h15 2 (by decide)]
      · rw [pI_2, (r2 16 (by decide)).2, (s1 16 (by decide)).2]
    · obtain ⟨L, l1, l2, l3⟩ := r4
      refine ⟨L, l1, by rw [pI_c, up_d (by decide)]; exact l2, fun f hf hLf => ?_⟩
      rw [pI_d (by decide), pI_d (by decide), pI_d (by decide)]
      exact l3 f hf hLf
end KB
