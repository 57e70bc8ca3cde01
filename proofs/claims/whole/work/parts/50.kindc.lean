/-! TURNS: the class -/
def cfa (s a : Nat) : Int := if a = 1 then 1 else if s = 1 then (a : Int) else -1
def tb (s n a : Nat) (x : Int) : Int := if s = 0 then (if a = 2 then n + 1 - x else x) else mx s n a x 0 0
section TC
variable {F s n fi la : Nat} {M : Mem}
theorem mix_w (hF : 100000 ≤ F) (hG : GV s n fi la) (hC : CG s n fi la M) (hs : s ≠ 0) {a : Nat} (ha : 2 ≤ a ∧ a ≤ fcN s n) {x : Nat} (hx : x ≤ la) : fX1_mix F (ii (cfa s a)) (ii x) (ii 0) (ii 0) M = some (ii (mx s n a x 0 0), M) := by
  have hg := hG.b
  unfold fcN at ha
  unfold cfa
  rw [if_neg (by omega)]
  rcases (by omega : s = 1 ∨ s = 2) with rfl | rfl
  · rw [if_pos rfl] at ha ⊢
    have r1 := mul_rng 60 60 (a := (a : Int)) (x := (x : Int)) (by omega) (by omega) (by omega) (by omega)
    unfold fX1_mix
    rw [hC.1, if_pos (by decide), hC.2.1, ii_mul, ii_mul, ii_add, floorMod_eq (by omega) (by omega) (by omega) (by omega), bd_eq, mx_1]
  · rw [if_neg (by decide)] at ha ⊢
    rw [mix_eq hF hG hC (by omega) (by omega) (VA.g hG (by omega) (by omega)) (VA.z hG)]
    have : (a : Int) = 2 := by omega
    rw [this]
    have hla : la < 27 := by unfold GV at hG; omega
    obtain ⟨p, q, r, h1, h2, h3, h4⟩ := dg_ex (x := (x : Int)) (by omega)
    have md : ∀ d : Int, 0 ≤ d ∧ d < 3 → (-1 * d) % 3 = (2 * d) % 3 := fun d hd => by omega
    rw [h4, mx_d0 n (-1) h1 h2 h3, mx_d0 n 2 h1 h2 h3, md p h1, md q h2, md r h3]
theorem stretch_L (hF : 100000 ≤ F) (hG : GV s n fi la) (hC : CG s n fi la M) (hs : s ≠ 0) {a : Nat} (ha : 2 ≤ a ∧ a ≤ fcN s n) {w : Int64} : ∀ (m N x : Nat) (v : Int64), x + m = la + 1 → m < N →
    ∃ v', fX1_stretched_L9 F w (ii (cfa s a)) N v (ii x) M = some (v', M) ∧ ∀ t : Nat, bt v' t = true ↔ bt v t = true ∨ ∃ y, x ≤ y ∧ y ≤ la ∧ bt w y = true ∧ mx s n a y 0 0 = t
  | 0, N + 1, x, v, h1, h2 => by
    have hg := hG.b
    refine ⟨v, ?_, fun t => ⟨Or.inl, ?_⟩⟩
    · rw [fX1_stretched_L9, hC.2.2.2.1, if_pos (by rw [ii_lt] <;> omega)]
    · rintro (h | ⟨y, y1, y2, -⟩)
      · exact h
      · omega
  | m + 1, N + 1, x, v, h1, h2 => by
    have hg := hG.b
    rw [fX1_stretched_L9, hC.2.2.2.1, if_neg (by rw [ii_lt] <;> omega)]
    simp only [nm_eq]
    rw [sr_def, ii_lit1, ii_add, show ((x : Int) + 1) = ((x + 1 : Nat) : Int) by omega]
    have hsr := sr_cmp (x := x) (by omega) w
    cases hb : bt w x with
    | false =>
      rw [if_pos (hsr.mpr hb)]
      obtain ⟨v', e1, e2⟩ := stretch_L hF hG hC hs ha m N (x + 1) v (by omega) (by omega)
      refine ⟨v', e1, fun t => ?_⟩
      rw [e2 t]
      constructor
      · rintro (h | ⟨y, y1, y2⟩)
        · exact Or.inl h
        · exact Or.inr ⟨y, by omega, y2⟩
      · rintro (h | ⟨y, y1, y2, y3, y4⟩)
        · exact Or.inl h
        · refine Or.inr ⟨y, ?_, y2, y3, y4⟩
          rcases Nat.lt_or_ge x y with q | q
          · exact q
          · rw [show y = x by omega, hb] at y3; cases y3
    | true =>
      have hi := mx_g hG hs a 0 (x := x) (y := 0) (by omega) (by omega)
      obtain ⟨z, hz⟩ : ∃ z : Nat, mx s n a x 0 0 = z := ⟨(mx s n a x 0 0).toNat, by omega⟩
      rw [if_neg (fun e => by rw [hsr.mp e] at hb; cases hb), show (0 : Int32) = ii 0 from rfl, mix_w hF hG hC hs ha (by omega), bd_eq, hz, one_def]
      obtain ⟨v', e1, e2⟩ := stretch_L hF hG hC hs ha m N (x + 1) (v ||| one z) (by omega) (by omega)
      refine ⟨v', e1, fun t => ?_⟩
      rw [e2 t, bt_or, bt_one (by omega), Bool.or_eq_true, decide_eq_true_eq]
      constructor
      · rintro ((h | h) | ⟨y, y1, y2⟩)
        · exact Or.inl h
        · exact Or.inr ⟨x, Nat.le_refl _, by omega, hb, by rw [hz, h]⟩
        · exact Or.inr ⟨y, by omega, y2⟩
      · rintro (h | ⟨y, y1, y2, y3, y4⟩)
        · exact Or.inl (Or.inl h)
        · by_cases e : y = x
          · rw [e, hz] at y4; exact Or.inl (Or.inr (by omega))
          · exact Or.inr ⟨y, by omega, y2, y3, y4⟩
theorem mirror_L (hG : GV 0 n fi la) (hC : CG 0 n fi la M) {w : Int64} : ∀ (m N x : Nat) (v : Int64), x + m = la + 1 → fi ≤ x → m < N →
    ∃ v', fX1_mirrored_L8 F w N v (ii x) M = some (v', M) ∧ ∀ t : Nat, bt v' t = true ↔ bt v t = true ∨ ∃ y, x ≤ y ∧ y ≤ la ∧ bt w y = true ∧ n + 1 - y = t
  | 0, N + 1, x, v, h1, h0, h2 => by
    have hg := hG.b
    refine ⟨v, ?_, fun t => ⟨Or.inl, ?_⟩⟩
    · rw [fX1_mirrored_L8, hC.2.2.2.1, if_pos (by rw [ii_lt] <;> omega)]
    · rintro (h | ⟨y, y1, y2, -⟩)
      · exact h
      · omega
  | m + 1, N + 1, x, v, h1, h0, h2 => by
    have hg := hG.b
    have hG' := hG
    unfold GV at hG'
    rw [fX1_mirrored_L8, hC.2.2.2.1, if_neg (by rw [ii_lt] <;> omega)]
    simp only [nm_eq]
    rw [sr_def, hC.2.1, ii_lit1, ii_add, ii_add, ii_sub, show ((x : Int) + 1) = ((x + 1 : Nat) : Int) by omega, show ((n : Int) + 1 - x) = ((n + 1 - x : Nat) : Int) by omega]
    have hsr := sr_cmp (x := x) (by omega) w
    cases hb : bt w x with
    | false =>
      rw [if_pos (hsr.mpr hb)]
      obtain ⟨v', e1, e2⟩ := mirror_L hG hC m N (x + 1) v (by omega) (by omega) (by omega)
      refine ⟨v', e1, fun t => ?_⟩
      rw [e2 t]
      constructor
      · rintro (h | ⟨y, y1, y2⟩)
        · exact Or.inl h
        · exact Or.inr ⟨y, by omega, y2⟩
      · rintro (h | ⟨y, y1, y2, y3, y4⟩)
        · exact Or.inl h
        · refine Or.inr ⟨y, ?_, y2, y3, y4⟩
          rcases Nat.lt_or_ge x y with q | q
          · exact q
          · rw [show y = x by omega, hb] at y3; cases y3
    | true =>
      rw [if_neg (fun e => by rw [hsr.mp e] at hb; cases hb), one_def]
      obtain ⟨v', e1, e2⟩ := mirror_L hG hC m N (x + 1) (v ||| one (n + 1 - x : Nat)) (by omega) (by omega) (by omega)
      refine ⟨v', e1, fun t => ?_⟩
      rw [e2 t, bt_or, bt_one (by omega), Bool.or_eq_true, decide_eq_true_eq]
      constructor
      · rintro ((h | h) | ⟨y, y1, y2⟩)
        · exact Or.inl h
        · exact Or.inr ⟨x, Nat.le_refl _, by omega, hb, by omega⟩
        · exact Or.inr ⟨y, by omega, y2⟩
      · rintro (h | ⟨y, y1, y2, y3, y4⟩)
        · exact Or.inl (Or.inl h)
        · by_cases e : y = x
          · exact Or.inl (Or.inr (by omega))
          · exact Or.inr ⟨y, by omega, y2, y3, y4⟩
theorem base_eq (hF : 100000 ≤ F) (hG : GV s n fi la) (hC : CG s n fi la M) {a : Nat} (ha : 1 ≤ a ∧ a ≤ fcN s n) {w : Int64} (hS : Sup fi la (bt w)) :
    ∃ v, fX4_timesFactor F w (ii (cfa s a)) M = some (v, M) ∧ ∀ y : Nat, bt v y = true ↔ ∃ x : Nat, bt w x = true ∧ tb s n a x = y := by
  have hg := hG.b
  have hf60 : a ≤ 60 := by unfold fcN at ha; split at ha <;> omega
  unfold fX4_timesFactor
  by_cases q1 : a = 1
  · have : cfa s a = 1 := by unfold cfa; rw [if_pos q1]
    rw [this, if_pos (by decide)]
    refine ⟨w, rfl, fun y => ?_⟩
    have htb : ∀ x : Nat, bt w x = true → tb s n a x = x := by
      intro x hx
      have hr := hS x hx
      unfold tb
      by_cases q : s = 0
      · rw [if_pos q, if_neg (by omega)]
      · rw [if_neg q, q1]
        exact mx_self hG (Ca.g hG (by omega) (by omega))
    constructor
    · intro h; exact ⟨y, h, htb y h⟩
    · rintro ⟨x, hx, e⟩
      rw [htb x hx] at e
      rw [show y = x by omega]; exact hx
  · have hc1 : cfa s a ≠ 1 ∧ -1 ≤ cfa s a ∧ cfa s a ≤ 60 := by
      unfold cfa
      rw [if_neg q1]
      split <;> omega
    rw [if_neg (by rw [ii_lit1, ii_eq (by omega) (by omega) (by omega) (by omega)]; exact hc1.1), hC.1]
    by_cases q : s = 0
    · subst q
      rw [if_pos (by decide)]
      unfold fX1_mirrored
      rw [hC.2.2.1, nm_eq]
      obtain ⟨v, v1, v2⟩ := mirror_L (F := F) hG hC (w := w) (la + 1 - fi) F fi 0 (by omega) (by omega) (by omega)
      rw [v1, bd_eq]
      refine ⟨v, rfl, fun y => ?_⟩
      rw [v2 y, bt_0]
      unfold fcN at ha
      rw [if_neg (by decide)] at ha
      have htb : ∀ x : Int, tb 0 n a x = n + 1 - x := fun x => by unfold tb; rw [if_pos rfl, if_pos (by omega)]
      simp only [htb]
      have hG' := hG
      unfold GV at hG'
      constructor
      · rintro (h | ⟨x, x1, x2, x3, x4⟩)
        · cases h
        · exact ⟨x, x3, by omega⟩
      · rintro ⟨x, x1, x2⟩
        have hr := hS x x1
        exact Or.inr ⟨x, hr.1, hr.2, x1, by omega⟩
    · rw [if_neg (by rw [ii_lit0, ii_eq (by omega) (by omega) (by omega) (by omega)]; omega)]
      unfold fX1_stretched
      rw [hC.2.2.1, nm_eq]
      obtain ⟨v, v1, v2⟩ := stretch_L hF hG hC q (a := a) (by omega) (w := w) (la + 1 - fi) F fi 0 (by omega) (by omega)
      rw [v1, bd_eq]
      refine ⟨v, rfl, fun y => ?_⟩
      rw [v2 y, bt_0]
      have htb : ∀ x : Int, tb s n a x = mx s n a x 0 0 := fun x => by unfold tb; rw [if_neg q]
      simp only [htb]
      constructor
      · rintro (h | ⟨x, x1, x2, x3, x4⟩)
        · cases h
        · exact ⟨x, x3, x4⟩
      · rintro ⟨x, x1, x2⟩
        have hr := hS x x1
        exact Or.inr ⟨x, hr.1, hr.2, x1, x2⟩
/-- the base is the image by the TURN with no shift; moved, it is that by the TURN with this shift -/
theorem img_base {a : Nat} {σ : Nat → Nat} (hG : GV s n fi la) (h : TB s n fi la a 0 σ) {w v : Int64} (hS : Sup fi la (bt w)) (hv : ∀ y : Nat, bt v y = true ↔ ∃ x : Nat, bt w x = true ∧ tb s n a x = y) : bt v = img fi la σ (bt w) := by
  have hg := hG.b
  funext y
  rw [Bool.eq_iff_iff, hv, TB_mem h hS]
  have e : ∀ x : Nat, bt w x = true → tu s n a 0 x = tb s n a x := by
    intro x hx
    have hr := hS x hx
    unfold tu tb
    by_cases q : s = 0
    · rw [if_pos q, if_pos q]
    · rw [if_neg q, if_neg q]
      have : ∀ z : Int, mx s n 1 z 1 ((0 : Nat) : Int) = mx s n 1 z 0 0 := by intro z; unfold mx t3; simp
      rw [this, mx_self hG (Ca.mx hG _ _ _ _)]
  constructor
  · rintro ⟨x, x1, x2⟩; exact ⟨x, x1, by rw [e x x1]; exact x2⟩
  · rintro ⟨x, x1, x2⟩; exact ⟨x, x1, by rw [← e x x1]; exact x2⟩
theorem img_moved {a b : Nat} {σ : Nat → Nat} (hG : GV s n fi la) (hs : s ≠ 0) (hb : b ≤ la) (h : TB s n fi la a b σ) {w v v' : Int64} (hS : Sup fi la (bt w)) (hv : ∀ y : Nat, bt v y = true ↔ ∃ x : Nat, bt w x = true ∧ tb s n a x = y) (hm : ∀ t : Nat, bt v' t = (fullB fi la t && mm (bt v) (mx s n 1 t (-1) b))) : bt v' = img fi la σ (bt w) := by
  have hg := hG.b
  have cb := Ca.g hG (x := (b : Int)) (by omega) (by omega)
  funext y
  rw [Bool.eq_iff_iff, hm, TB_mem h hS, Bool.and_eq_true]
  have e : ∀ x : Nat, tu s n a b x = mx s n 1 (tb s n a x) 1 b := by
    intro x
    unfold tu tb
    rw [if_neg hs, if_neg hs]
  have ct : ∀ x : Nat, Ca s n (tb s n a x) := fun x => by unfold tb; rw [if_neg hs]; exact Ca.mx hG _ _ _ _
  constructor
  · rintro ⟨h1, h2⟩
    have hr := of_decide_eq_true h1
    have hin := mx_g hG hs 1 (-1) (x := y) (y := b) (by omega) (by omega)
    obtain ⟨z, hz⟩ : ∃ z : Nat, mx s n 1 y (-1) b = z := ⟨(mx s n 1 y (-1) b).toNat, by omega⟩
    rw [hz, mm_nat, hv] at h2
    obtain ⟨x, x1, x2⟩ := h2
    refine ⟨x, x1, ?_⟩
    rw [e, x2, ← hz, mx_ii hG (Ca.g hG (by omega) (by omega)) cb (-1) 1 (by omega)]
  · rintro ⟨x, x1, x2⟩
    have hr := hS x x1
    obtain ⟨⟨z, z1, z2, z3, -⟩, -⟩ := h x hr.1 hr.2
    have hzy : z = y := by omega
    subst hzy
    refine ⟨full_t z2 z3, ?_⟩
    rw [e] at x2
    rw [← x2, mx_ii hG (ct x) cb 1 (-1) (by omega)]
    have hin : 0 ≤ tb s n a x ∧ tb s n a x ≤ la := by
      unfold tb; rw [if_neg hs]
      exact mx_g hG hs a 0 (x := x) (y := 0) (by omega) (by omega)
    obtain ⟨u, hu⟩ : ∃ u : Nat, tb s n a x = u := ⟨(tb s n a x).toNat, by omega⟩
    rw [hu, mm_nat, hv]
    exact ⟨x, x1, hu⟩
theorem img_v_sup {a : Nat} (hG : GV s n fi la) (hs : s ≠ 0) {w v : Int64} (hS : Sup fi la (bt w)) (hv : ∀ y : Nat, bt v y = true ↔ ∃ x : Nat, bt w x = true ∧ tb s n a x = y) : Sup fi la (bt v) := by
  intro y hy
  obtain ⟨x, x1, x2⟩ := (hv y).mp hy
  have hr := hS x x1
  have hin : 0 ≤ tb s n a x ∧ tb s n a x ≤ la := by
    unfold tb; rw [if_neg hs]
    exact mx_g hG hs a 0 (x := x) (y := 0) (by omega) (by omega)
  have : fi = 0 := by unfold GV at hG; omega
  omega
theorem shareNo_eq (hF : 100000 ≤ F) {a n : Nat} (ha : 2 ≤ a ∧ a ≤ 60) (hn : 1 ≤ n ∧ n ≤ 60) : fX4_shareNoFactor F (ii a) (ii n) M = some (bi (decide (Nat.gcd a n = 1)), M) := by
  have key := scan1 (L := fun N d => fX4_shareNoFactor_L2 F (ii a) (ii n) N (ii (d : Nat)) M) (fun d => a % d = 0 ∧ n % d = 0) (A := some (bi true, M)) (B := some (bi false, M)) (lo := 2) (hi := a + 1) (N := F) (x := 2) ?_ ?_ ?_ (by omega) (by omega) (by omega)
  · unfold fX4_shareNoFactor
    rcases key with ⟨⟨d, d1, d2, d3, d4⟩, h⟩ | ⟨h1, h⟩
    · have : ¬ Nat.gcd a n = 1 := by
        intro e
        have h5 := Nat.dvd_gcd (Nat.dvd_of_mod_eq_zero d3) (Nat.dvd_of_mod_eq_zero d4)
        rw [e] at h5
        have := Nat.le_of_dvd (by omega) h5
        omega
      rw [decide_eq_false this]; exact h
    · have : Nat.gcd a n = 1 := by
        apply Classical.byContradiction
        intro hn1
        have hp : 0 < Nat.gcd a n := Nat.gcd_pos_of_pos_left n (by omega)
        have hle : Nat.gcd a n ≤ a := Nat.gcd_le_left n (by omega)
        exact h1 ⟨Nat.gcd a n, by omega, by omega, Nat.mod_eq_zero_of_dvd (Nat.gcd_dvd_left a n), Nat.mod_eq_zero_of_dvd (Nat.gcd_dvd_right a n)⟩
      rw [decide_eq_true this]; exact h
  · intro N
    show fX4_shareNoFactor_L2 _ _ _ _ _ _ = _
    rw [fX4_shareNoFactor_L2, if_pos (by rw [ii_lt] <;> omega)]; rfl
  · intro N d d1 d2 hp
    show fX4_shareNoFactor_L2 _ _ _ _ _ _ = _
    have e : ∀ z : Nat, ((z : Int).tmod d) = ((z % d : Nat) : Int) := fun z => by rw [Int.tmod_eq_emod_of_nonneg (by omega)]; rfl
    rw [fX4_shareNoFactor_L2, if_neg (by rw [ii_lt] <;> omega), gd_nz (by omega) (by omega) (by omega), nm_eq, ii_rem (by omega) (by omega) (by omega) (by omega), e, hp.1, if_pos (by decide), gd_nz (by omega) (by omega) (by omega), nm_eq, ii_rem (by omega) (by omega) (by omega) (by omega), e, hp.2, if_pos (by decide)]
    rfl
  · intro N d d1 d2 hp
    show fX4_shareNoFactor_L2 _ _ _ _ _ _ = fX4_shareNoFactor_L2 _ _ _ _ _ _
    have e : ∀ z : Nat, ((z : Int).tmod d) = ((z % d : Nat) : Int) := fun z => by rw [Int.tmod_eq_emod_of_nonneg (by omega)]; rfl
    have r1 := Nat.mod_lt a (show d > 0 by omega)
    have r2 := Nat.mod_lt n (show d > 0 by omega)
    rw [fX4_shareNoFactor_L2, if_neg (by rw [ii_lt] <;> omega), gd_nz (by omega) (by omega) (by omega), nm_eq, ii_rem (by omega) (by omega) (by omega) (by omega), e, gd_nz (by omega) (by omega) (by omega), nm_eq, ii_rem (by omega) (by omega) (by omega) (by omega), e]
    simp only [nm_eq]
    rw [ii_lit0, ii_lit1, ii_add, show ((d : Int) + 1) = ((d + 1 : Nat) : Int) by omega]
    simp (disch := omega) only [ii_eq]
    by_cases q : a % d = 0
    · rw [if_pos (by omega), if_neg (by omega)]
    · rw [if_neg (by omega)]
theorem isStretch_eq (hF : 100000 ≤ F) (hG : GV 1 n fi la) (hC : CG 1 n fi la M) {t a : Nat} (ht : t < 8) (ha : 2 ≤ a ∧ a < n) : fX4_isStretch F (ii a) (ii t) M = some (bi (fcb 1 n t a), M) := by
  have hg := hG.b
  obtain ⟨t1, -, -, -, t4, -⟩ := tbit t ht
  have k21 : ¬ (t % 2 = 1 ∧ a + 1 = n) → fX4_isStretch_L21 F (ii a) (ii t) M = some (bi (fcb 1 n t a), M) := by
    intro hn
    unfold fX4_isStretch_L21 fcb
    rw [hC.2.1, shareNo_eq hF (by omega) (by omega), bd_eq]
    by_cases q4 : t / 4 % 2 = 1
    · rw [if_neg (fun e => t4.mp e q4)]
      by_cases q5 : Nat.gcd a n = 1
      · rw [decide_eq_true q5, if_neg (by decide), decide_eq_true (by omega)]; rfl
      · rw [decide_eq_false q5, if_pos (by decide), decide_eq_false (by omega)]; rfl
    · rw [if_pos (t4.mpr q4), decide_eq_false (by omega)]; rfl
  unfold fX4_isStretch
  by_cases q2 : t % 2 = 1
  · rw [if_neg (fun e => t1.mp e q2), hC.2.1, ii_lit1, ii_sub]
    by_cases q3 : a + 1 = n
    · rw [if_pos (by congr 1; omega)]
      unfold fcb
      rw [decide_eq_true (by omega)]; rfl
    · rw [if_neg (by rw [ii_eq (by omega) (by omega) (by omega) (by omega)]; omega)]
      exact k21 (by omega)
  · rw [if_pos (t1.mpr q2)]
    exact k21 (by omega)
end TC
