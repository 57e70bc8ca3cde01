/-! a new ground and a new law: both -/
section LY
variable {F : Nat}
/-- a ground that may be laid -/
def GOk (z1 z2 : Int) : Prop := (z1 = 0 ∧ 1 ≤ z2 ∧ z2 ≤ 60) ∨ (z1 = 1 ∧ 2 ≤ z2 ∧ z2 ≤ 60) ∨ (z1 = 2 ∧ 1 ≤ z2 ∧ z2 ≤ 3)
theorem fits1_eq {M : Mem} {z1 z2 : Int} (h1 : -2147483648 ≤ z1 ∧ z1 < 2147483648) (h2 : -2147483648 ≤ z2 ∧ z2 < 2147483648) : ∃ b, fX1_fits F (ii z1) (ii z2) M = some (bi b, M) ∧ (b = true ↔ GOk z1 z2) := by
  unfold fX1_fits GOk
  simp (disch := omega) only [ii_lit, ii_eq, ii_lt]
  rw [show ii 0 = bi false from rfl, show ii 1 = bi true from rfl]
  by_cases q0 : z1 = 0
  · rw [if_pos q0]
    by_cases q1 : z2 < 1
    · rw [if_pos q1]; exact ⟨false, rfl, fun h => (by cases h), fun h => by omega⟩
    · rw [if_neg q1]
      by_cases q2 : 60 < z2
      · rw [if_pos q2]; exact ⟨false, rfl, fun h => (by cases h), fun h => by omega⟩
      · rw [if_neg q2]; exact ⟨true, rfl, fun _ => by omega, fun _ => rfl⟩
  · rw [if_neg q0]
    by_cases q1 : z1 = 1
    · rw [if_pos q1]
      by_cases q1 : z2 < 2
      · rw [if_pos q1]; exact ⟨false, rfl, fun h => (by cases h), fun h => by omega⟩
      · rw [if_neg q1]
        by_cases q2 : 60 < z2
        · rw [if_pos q2]; exact ⟨false, rfl, fun h => (by cases h), fun h => by omega⟩
        · rw [if_neg q2]; exact ⟨true, rfl, fun _ => by omega, fun _ => rfl⟩
    · rw [if_neg q1]
      by_cases q2 : z1 = 2
      · rw [if_pos q2]
        by_cases q1 : z2 < 1
        · rw [if_pos q1]; exact ⟨false, rfl, fun h => (by cases h), fun h => by omega⟩
        · rw [if_neg q1]
          by_cases q2 : 3 < z2
          · rw [if_pos q2]; exact ⟨false, rfl, fun h => (by cases h), fun h => by omega⟩
          · rw [if_neg q2]; exact ⟨true, rfl, fun _ => by omega, fun _ => rfl⟩
      · rw [if_neg q2]; exact ⟨false, rfl, fun h => (by cases h), fun h => by omega⟩
theorem lay_55 {M : Mem} {fi la : Nat} (hla : la ≤ 60) (h3 : M.1 3 3 = ii la) (a1 a2 : Int32) : ∀ (k N x : Nat) (w : Int64), x + k = la + 1 → k < N → ∃ w', fX1_lay_L55 F a1 a2 N (ii x) (pL M 3 4 w) = some (1, pL M 3 4 w') ∧ ∀ y, bt w' y = (bt w y || decide (x ≤ y ∧ y ≤ la))
  | 0, N + 1, x, w, h1, h2 => by
    refine ⟨w, ?_, fun y => ?_⟩
    · rw [fX1_lay_L55, pL_1, h3, if_pos (by rw [ii_lt] <;> omega)]
    · rw [decide_eq_false (by omega)]; simp
  | k + 1, N + 1, x, w, h1, h2 => by
    rw [fX1_lay_L55, pL_1, h3, if_neg (by rw [ii_lt] <;> omega), nm_eq, nm_eq, pL_c, uL_c, one_def, ii_lit1, ii_add, show ((x : Int) + 1) = ((x + 1 : Nat) : Int) by omega]
    have e : pL (pL M 3 4 w) 3 4 (w ||| one x) = pL M 3 4 (w ||| one x) := by
      rw [pL_r, pL_r, pL_r, pLr_r, pLr_c]
      congr 1
      funext i
      unfold vp_updL
      split <;> rfl
    rw [e]
    obtain ⟨w', r1, r2⟩ := lay_55 (fi := fi) hla h3 a1 a2 k N (x + 1) (w ||| one x) (by omega) (by omega)
    refine ⟨w', r1, fun y => ?_⟩
    rw [r2 y, bt_or, bt_one (by omega), Bool.or_assoc]
    congr 1
    rw [Bool.eq_iff_iff, Bool.or_eq_true, decide_eq_true_eq, decide_eq_true_eq, decide_eq_true_eq]
    omega
theorem lastOf_eq (hF : 100000 ≤ F) {s n : Nat} (h : GOk s n) (M : Mem) : ∃ la : Nat, fX1_lastOf F (ii s) (ii n) M = some (ii la, M) ∧ GV s n (if s = 0 then 1 else 0) la := by
  unfold fX1_lastOf
  rcases h with ⟨h0, h1, h2⟩ | ⟨h0, h1, h2⟩ | ⟨h0, h1, h2⟩
  · have : s = 0 := by omega
    subst this
    rw [if_pos (by decide)]
    exact ⟨n, rfl, Or.inl ⟨rfl, by omega, by omega, rfl, rfl⟩⟩
  · have : s = 1 := by omega
    subst this
    rw [if_neg (by decide), if_pos (by decide), ii_lit1, ii_sub]
    exact ⟨n - 1, by rw [show ((n : Int) - 1) = ((n - 1 : Nat) : Int) by omega], Or.inr (Or.inl ⟨rfl, by omega, by omega, rfl, by omega⟩)⟩
  · have : s = 2 := by omega
    subst this
    rw [if_neg (by decide), if_neg (by decide)]
    obtain ⟨F', hF'⟩ : ∃ F', F = F' + 1 + 1 + 1 + 1 := ⟨F - 4, by omega⟩
    have key : ∀ G : Nat, ∃ la : Nat, fX1_lastOf_L19 F (ii (2 : Nat)) (ii n) (G + 1 + 1 + 1 + 1) 1 0 M = some (ii la, M) ∧ GV 2 n 0 la := by
      intro G
      rcases (by omega : n = 1 ∨ n = 2 ∨ n = 3) with rfl | rfl | rfl
      · exact ⟨2, rfl, Or.inr (Or.inr ⟨rfl, by omega, rfl⟩)⟩
      · exact ⟨8, rfl, Or.inr (Or.inr ⟨rfl, by omega, rfl⟩)⟩
      · exact ⟨26, rfl, Or.inr (Or.inr ⟨rfl, by omega, rfl⟩)⟩
    obtain ⟨la, l1, l2⟩ := key F'
    rw [← hF'] at l1
    exact ⟨la, l1, l2⟩
theorem lay_eq (hF : 100000 ≤ F) {s n : Nat} (h : GOk s n) (M : Mem) : ∃ (la : Nat) (M' : Mem), fX1_lay F (ii s) (ii n) M = some (1, M') ∧ Sm [3] M M' ∧ GV s n (if s = 0 then 1 else 0) la ∧ CG s n (if s = 0 then 1 else 0) la M' := by
  have hr : s ≤ 2 ∧ n ≤ 60 := by unfold GOk at h; omega
  obtain ⟨b, b1, b2⟩ := fits1_eq (F := F) (M := M) (z1 := s) (z2 := n) (by omega) (by omega)
  unfold fX1_lay
  rw [b1, bd_eq, b2.mpr h, if_neg (by decide)]
  simp only [nm_eq]
  obtain ⟨la, l1, l2⟩ := lastOf_eq hF h (pI (pI (pI M 3 0 (ii s)) 3 1 (ii n)) 3 2 (ii ((if s = 0 then 1 else 0 : Nat) : Int)))
  have hg := l2.b
  have e : (if (pI (pI M 3 0 (ii s)) 3 1 (ii n)).1 3 0 = 0 then (fX1_lay_L33 F (ii s) (ii n) (1 : Int32) (pI (pI M 3 0 (ii s)) 3 1 (ii n))) else (fX1_lay_L33 F (ii s) (ii n) (0 : Int32) (pI (pI M 3 0 (ii s)) 3 1 (ii n)))) = fX1_lay_L33 F (ii s) (ii n) (ii ((if s = 0 then 1 else 0 : Nat) : Int)) (pI (pI M 3 0 (ii s)) 3 1 (ii n)) := by
    rw [show (pI (pI M 3 0 (ii s)) 3 1 (ii n)).1 3 0 = ii s by simp [pI_at]]
    by_cases q : s = 0
    · rw [if_pos (by rw [q]; rfl), if_pos q]; rfl
    · rw [if_neg (by rw [ii_lit0, ii_eq (by omega) (by omega) (by omega) (by omega)]; omega), if_neg q]; rfl
  rw [e]
  unfold fX1_lay_L33
  simp only [nm_eq]
  rw [l1, bd_eq]
  generalize hfi : (if s = 0 then 1 else 0 : Nat) = fi at *
  have e2 : (pL (pI (pI (pI (pI M 3 0 (ii s)) 3 1 (ii n)) 3 2 (ii (fi : Int))) 3 3 (ii la)) 3 4 0).1 3 2 = ii fi := by rw [pL_1]; simp [pI_at]
  rw [e2]
  obtain ⟨w', r1, r2⟩ := lay_55 (F := F) (M := pI (pI (pI (pI M 3 0 (ii s)) 3 1 (ii n)) 3 2 (ii (fi : Int))) 3 3 (ii la)) (fi := fi) (la := la) (by omega) (by simp [pI_at]) (ii s) (ii n) (la + 1 - fi) F fi 0 (by omega) (by omega)
  rw [r1]
  refine ⟨la, _, rfl, ((((Sm.i (by decide)).tr (Sm.i (by decide))).tr (Sm.i (by decide))).tr (Sm.i (by decide))).tr (Sm.l (by decide)), l2, ?_, ?_, ?_, ?_, fun x => ?_⟩
  · rw [pL_1]; simp [pI_at]
  · rw [pL_1]; simp [pI_at]
  · rw [pL_1]; simp [pI_at]
  · rw [pL_1]; simp [pI_at]
  · rw [pL_c, uL_c, r2 x, bt_0]; simp
theorem ground_109 (a1 a2 : Int32) : ∀ (k N i : Nat) (M : Mem), i + k = 480 → k < N → (∀ j, j < i → M.1 39 j = 0) → ∃ M', fX9_ground_L109 F a1 a2 N (ii i) M = some (1, pI (pI (pI M' 37 23 0) 37 16 0) 37 29 0) ∧ Sm [39] M M' ∧ (∀ j, j < 480 → M'.1 39 j = 0)
  | 0, N + 1, i, M, h1, h2, h3 => by
    refine ⟨M, ?_, Sm.rf, fun j hj => h3 j (by omega)⟩
    rw [fX9_ground_L109, if_pos (by rw [show (480 : Int32) = ii 480 from rfl, ii_le] <;> omega)]
    rfl
  | k + 1, N + 1, i, M, h1, h2, h3 => by
    rw [fX9_ground_L109, if_neg (by rw [show (480 : Int32) = ii 480 from rfl, ii_le] <;> omega), gd_inb (by omega) (by omega) (by omega), nm_eq, nm_eq, ii_nat (by omega) (by omega), Int.toNat_natCast]
    have e1 : ii (i : Int) + 1 = ii ((i + 1 : Nat) : Int) := by rw [ii_lit1, ii_add]; rfl
    rw [e1]
    obtain ⟨M', g1, g2, g3⟩ := ground_109 a1 a2 k N (i + 1) (pI M 39 i 0) (by omega) (by omega) (fun j hj => by
      rw [pI_c]
      by_cases e : j = i
      · rw [e, up_c]
      · rw [up_d e]; exact h3 j (by omega))
    exact ⟨M', g1, (Sm.i (by decide)).tr g2, g3⟩
theorem ground9_no {M : Mem} {z1 z2 : Int} (h1 : -2147483648 ≤ z1 ∧ z1 < 2147483648) (h2 : -2147483648 ≤ z2 ∧ z2 < 2147483648) (h : ¬ GOk z1 z2) : fX9_ground F (ii z1) (ii z2) M = some (0, pI M 37 0 0) := by
  unfold fX9_ground fX9_ground_L25 fX9_ground_L40
  rw [nm_eq]
  generalize pI M 37 0 0 = M1
  unfold GOk at h
  rw [show (1 : Int32) = ii 1 from rfl, show (2 : Int32) = ii 2 from rfl, show (3 : Int32) = ii 3 from rfl, show (60 : Int32) = ii 60 from rfl]
  have c0 : (ii z1 < 0) = (z1 < 0) := propext (by rw [ii_lit0]; exact ii_lt (by omega) (by omega) (by omega) (by omega))
  have c1 : (ii 2 < ii z1) = (2 < z1) := propext (ii_lt (by omega) (by omega) (by omega) (by omega))
  have c2 : (ii z1 = ii 1) = (z1 = 1) := propext (ii_eq (by omega) (by omega) (by omega) (by omega))
  have c3 : (ii z2 < ii 2) = (z2 < 2) := propext (ii_lt (by omega) (by omega) (by omega) (by omega))
  have c4 : (ii z2 < ii 1) = (z2 < 1) := propext (ii_lt (by omega) (by omega) (by omega) (by omega))
  have c5 : (ii z1 = ii 2) = (z1 = 2) := propext (ii_eq (by omega) (by omega) (by omega) (by omega))
  have c6 : (ii z2 ≤ ii 3) = (z2 ≤ 3) := propext (ii_le (by omega) (by omega) (by omega) (by omega))
  have c7 : (ii z2 ≤ ii 60) = (z2 ≤ 60) := propext (ii_le (by omega) (by omega) (by omega) (by omega))
  simp only [c0, c1, c2, c3, c4, c5, c6, c7]
  by_cases q0 : z1 < 0
  · rw [if_pos q0]
  · rw [if_neg q0]
    by_cases q1 : 2 < z1
    · rw [if_pos q1]
    · rw [if_neg q1]
      rcases (by omega : z1 = 0 ∨ z1 = 1 ∨ z1 = 2) with q | q | q
      · rw [if_neg (by omega)]
        by_cases r : z2 < 1
        · rw [if_pos r]
        · rw [if_neg r, if_neg (by omega), if_neg (by omega)]
      · rw [if_pos q]
        by_cases r : z2 < 2
        · rw [if_pos r]
        · rw [if_neg r, if_neg (by omega), if_neg (by omega)]
      · rw [if_neg (by omega)]
        by_cases r : z2 < 1
        · rw [if_pos r]
        · rw [if_neg r, if_pos q, if_neg (by omega)]
theorem ground9_eq (hF : 100000 ≤ F) {s n la : Nat} (h : GOk s n) (hG : GV s n (if s = 0 then 1 else 0) la) (M : Mem) : ∃ M', fX9_ground F (ii s) (ii n) M = some (1, M') ∧ Sm [37, 39] M M' ∧ RG s n (if s = 0 then 1 else 0) la M' ∧ (∀ j, j < 480 → M'.1 39 j = 0) ∧ M'.1 37 13 = 0 ∧ M'.1 37 23 = 0 ∧ M'.1 37 16 = 0 ∧ M'.1 37 29 = 0 ∧ M'.1 37 0 = 0 ∧ M'.1 37 2 = M.1 37 2 ∧ M'.1 37 17 = M.1 37 17 := by
  have hg := hG.b
  have h86 : ∀ (M1 : Mem) (v : Int32), v = ii ((la : Int) - ((if s = 0 then 1 else 0 : Nat) : Int) + 1) → M1.1 37 3 = ii s → M1.1 37 4 = ii n → ∃ M', fX9_ground_L86 F (ii s) (ii n) v M1 = some (1, M') ∧ Sm [37, 39] M1 M' ∧ RG s n (if s = 0 then 1 else 0) la M' ∧ (∀ j, j < 480 → M'.1 39 j = 0) ∧ M'.1 37 13 = 0 ∧ M'.1 37 23 = 0 ∧ M'.1 37 16 = 0 ∧ M'.1 37 29 = 0 ∧ M'.1 37 0 = M1.1 37 0 ∧ M'.1 37 2 = M1.1 37 2 ∧ M'.1 37 17 = M1.1 37 17 := by
    intro M1 v hv e3 e4
    subst hv
    unfold fX9_ground_L86
    simp only [nm_eq]
    have key : ∀ f : Int32, f = ii ((if s = 0 then 1 else 0 : Nat) : Int) → ∃ M', fX9_ground_L109 F (ii s) (ii n) F 0 (pI (pI (pI M1 37 5 (ii ((la : Int) - ((if s = 0 then 1 else 0 : Nat) : Int) + 1))) 37 6 f) 37 13 0) = some (1, M') ∧ Sm [37, 39] M1 M' ∧ RG s n (if s = 0 then 1 else 0) la M' ∧ (∀ j, j < 480 → M'.1 39 j = 0) ∧ M'.1 37 13 = 0 ∧ M'.1 37 23 = 0 ∧ M'.1 37 16 = 0 ∧ M'.1 37 29 = 0 ∧ M'.1 37 0 = M1.1 37 0 ∧ M'.1 37 2 = M1.1 37 2 ∧ M'.1 37 17 = M1.1 37 17 := by
      intro f hf
      subst hf
      obtain ⟨M2, g1, g2, g3⟩ := ground_109 (F := F) (ii s) (ii n) 480 F 0 (pI (pI (pI M1 37 5 (ii ((la : Int) - ((if s = 0 then 1 else 0 : Nat) : Int) + 1))) 37 6 (ii ((if s = 0 then 1 else 0 : Nat) : Int))) 37 13 0) (by omega) (by omega) (fun j hj => by omega)
      have h37 : ∀ j, M2.1 37 j = (pI (pI (pI M1 37 5 (ii ((la : Int) - ((if s = 0 then 1 else 0 : Nat) : Int) + 1))) 37 6 (ii ((if s = 0 then 1 else 0 : Nat) : Int))) 37 13 0).1 37 j := fun j => by rw [(g2 37 (by decide)).1]
      refine ⟨_, g1, ?_, ⟨?_, ?_, ?_, ?_⟩, fun j hj => ?_, ?_, ?_, ?_, ?_, ?_, ?_, ?_⟩
      · exact (((((Sm.i (c := 37) (by decide)).tr (Sm.i (by decide))).tr (Sm.i (by decide))).tr (g2.mono (by decide))).tr (Sm.i (by decide))).tr ((Sm.i (by decide)).tr (Sm.i (by decide)))
      · simp [pI_at, h37, e3]
      · simp [pI_at, h37, e4]
      · simp [pI_at, h37]
      · simp [pI_at, h37]
      · rw [pI_d (by decide), pI_d (by decide), pI_d (by decide)]; exact g3 j hj
      · simp [pI_at, h37]
      · simp [pI_at, h37]
      · simp [pI_at, h37]
      · simp [pI_at, h37]
      · simp [pI_at, h37]
      · simp [pI_at, h37]
      · simp [pI_at, h37]
    by_cases q : s = 0
    · rw [if_pos (by rw [q]; rfl)]
      exact key 1 (by rw [if_pos q]; rfl)
    · rw [if_neg (by rw [ii_lit0, ii_eq (by omega) (by omega) (by omega) (by omega)]; omega)]
      exact key 0 (by rw [if_neg q]; rfl)
  unfold fX9_ground fX9_ground_L25 fX9_ground_L40
  rw [nm_eq]
  simp only [nm_eq]
  have s0 : Sm [37, 39] M (pI (pI (pI M 37 0 0) 37 3 (ii s)) 37 4 (ii n)) := ((Sm.i (by decide)).tr (Sm.i (by decide))).tr (Sm.i (by decide))
  have go : ∀ v : Int32, v = ii ((la : Int) - ((if s = 0 then 1 else 0 : Nat) : Int) + 1) → ∃ M', fX9_ground_L86 F (ii s) (ii n) v (pI (pI (pI M 37 0 0) 37 3 (ii s)) 37 4 (ii n)) = some (1, M') ∧ Sm [37, 39] M M' ∧ RG s n (if s = 0 then 1 else 0) la M' ∧ (∀ j, j < 480 → M'.1 39 j = 0) ∧ M'.1 37 13 = 0 ∧ M'.1 37 23 = 0 ∧ M'.1 37 16 = 0 ∧ M'.1 37 29 = 0 ∧ M'.1 37 0 = 0 ∧ M'.1 37 2 = M.1 37 2 ∧ M'.1 37 17 = M.1 37 17 := by
    intro v hv
    obtain ⟨M', a1, a2, a3, a4, a5, a6, a7, a8, a9, a10, a11⟩ := h86 (pI (pI (pI M 37 0 0) 37 3 (ii s)) 37 4 (ii n)) v hv (by simp [pI_at]) (by simp [pI_at])
    refine ⟨M', a1, s0.tr a2, a3, a4, a5, a6, a7, a8, ?_, ?_, ?_⟩
    · rw [a9]; simp [pI_at]
    · rw [a10]; simp [pI_at]
    · rw [a11]; simp [pI_at]
  unfold GV at hG
  rcases h with ⟨h0, h1, h2⟩ | ⟨h0, h1, h2⟩ | ⟨h0, h1, h2⟩
  · have : s = 0 := by omega
    subst this
    have hc := hG
    rw [if_neg (by decide), if_neg (by decide), if_neg (by decide), if_neg (by rw [ii_lit1, ii_lt] <;> omega), if_neg (by decide), if_pos (by rw [show (60 : Int32) = ii 60 from rfl, ii_le] <;> omega), if_neg (by decide)]
    exact go (ii n) (by congr 1; rw [if_pos rfl] at hc ⊢; omega)
  · have : s = 1 := by omega
    subst this
    have hc := hG
    rw [if_neg (by decide), if_neg (by decide), if_pos (by decide), if_neg (by rw [show (2 : Int32) = ii 2 from rfl, ii_lt] <;> omega), if_neg (by decide), if_pos (by rw [show (60 : Int32) = ii 60 from rfl, ii_le] <;> omega), if_neg (by decide)]
    exact go (ii n) (by congr 1; rw [if_neg (by decide)] at hc ⊢; omega)
  · have : s = 2 := by omega
    subst this
    have hc := hG
    rw [if_neg (by decide), if_neg (by decide), if_neg (by decide), if_neg (by rw [ii_lit1, ii_lt] <;> omega), if_pos (by decide), if_pos (by rw [show (3 : Int32) = ii 3 from rfl, ii_le] <;> omega), if_pos (by decide)]
    rw [if_neg (by decide)] at hc
    rcases (by omega : n = 1 ∨ n = 2 ∨ n = 3) with rfl | rfl | rfl
    · rw [if_pos (by decide)]
      exact go 3 (by rw [show la = 2 by omega]; rfl)
    · rw [if_neg (by decide), if_pos (by decide)]
      exact go 9 (by rw [show la = 8 by omega]; rfl)
    · rw [if_neg (by decide), if_neg (by decide)]
      exact go 27 (by rw [show la = 26 by omega]; rfl)
end LY
