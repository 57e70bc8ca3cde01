/-! rows filled with one value; the law in hand: what z make a CLASH with x and y -/
theorem fill14_L {F : Nat} {v : Int64} : ∀ (k n i : Nat) (M : Mem), i + k = 3721 → k < n → fJ7_fill_d0a16_14_L6 F v n (ii i) (ii 3721) M = some (pLr M 14 (fun j => if i ≤ j ∧ j < 3721 then v else M.2 14 j))
  | 0, n + 1, i, M, h1, h2 => by
    rw [fJ7_fill_d0a16_14_L6, if_pos (by rw [ii_le] <;> omega)]
    congr 1
    refine (pLr_id M 14).symm.trans (congrArg (pLr M 14) ?_)
    funext j
    rw [if_neg (by omega)]
  | k + 1, n + 1, i, M, h1, h2 => by
    rw [fJ7_fill_d0a16_14_L6, if_neg (by rw [ii_le] <;> omega)]
    simp (disch := omega) only [gd_inb, nm_eq, ii_nat, ii_lit, ii_add]
    rw [show ((i : Int) + 1) = ((i + 1 : Nat) : Int) by omega, fill14_L k n (i + 1) _ (by omega) (by omega), pL_r, pLr_r]
    congr 2
    funext j
    rw [pLr_c]
    by_cases e : j = i
    · subst e
      rw [if_neg (by omega), if_pos (by omega)]
      simp [vp_updL]
    · by_cases e2 : i + 1 ≤ j ∧ j < 3721
      · rw [if_pos e2, if_pos (by omega)]
      · rw [if_neg e2, if_neg (by omega)]
        simp [vp_updL, e]
theorem fill14_eq {F : Nat} (hF : 100000 ≤ F) (v : Int64) (M : Mem) : fJ7_fill_d0a16_14 F v M = some (pLr M 14 (fun j => if j < 3721 then v else M.2 14 j)) := by
  unfold fJ7_fill_d0a16_14
  have := fill14_L (F := F) (v := v) 3721 F 0 M (by omega) (by omega)
  simp only [Nat.zero_le, true_and] at this
  exact this
theorem fill13_L {F : Nat} {v : Int64} : ∀ (k n i : Nat) (M : Mem), i + k = 1081 → k < n → fJ7_fill_d0a16_13_L6 F v n (ii i) (ii 1081) M = some (pLr M 13 (fun j => if i ≤ j ∧ j < 1081 then v else M.2 13 j))
  | 0, n + 1, i, M, h1, h2 => by
    rw [fJ7_fill_d0a16_13_L6, if_pos (by rw [ii_le] <;> omega)]
    congr 1
    refine (pLr_id M 13).symm.trans (congrArg (pLr M 13) ?_)
    funext j
    rw [if_neg (by omega)]
  | k + 1, n + 1, i, M, h1, h2 => by
    rw [fJ7_fill_d0a16_13_L6, if_neg (by rw [ii_le] <;> omega)]
    simp (disch := omega) only [gd_inb, nm_eq, ii_nat, ii_lit, ii_add]
    rw [show ((i : Int) + 1) = ((i + 1 : Nat) : Int) by omega, fill13_L k n (i + 1) _ (by omega) (by omega), pL_r, pLr_r]
    congr 2
    funext j
    rw [pLr_c]
    by_cases e : j = i
    · subst e
      rw [if_neg (by omega), if_pos (by omega)]
      simp [vp_updL]
    · by_cases e2 : i + 1 ≤ j ∧ j < 1081
      · rw [if_pos e2, if_pos (by omega)]
      · rw [if_neg e2, if_neg (by omega)]
        simp [vp_updL, e]
theorem fill13_eq {F : Nat} (hF : 100000 ≤ F) (v : Int64) (M : Mem) : fJ7_fill_d0a16_13 F v M = some (pLr M 13 (fun j => if j < 1081 then v else M.2 13 j)) := by
  unfold fJ7_fill_d0a16_13
  have := fill13_L (F := F) (v := v) 1081 F 0 M (by omega) (by omega)
  simp only [Nat.zero_le, true_and] at this
  exact this
theorem fill34_L {F : Nat} {v : Int64} : ∀ (k n i : Nat) (M : Mem), i + k = 8 → k < n → fJ7_fill_d0a16_34_L6 F v n (ii i) (ii 8) M = some (pLr M 34 (fun j => if i ≤ j ∧ j < 8 then v else M.2 34 j))
  | 0, n + 1, i, M, h1, h2 => by
    rw [fJ7_fill_d0a16_34_L6, if_pos (by rw [ii_le] <;> omega)]
    congr 1
    refine (pLr_id M 34).symm.trans (congrArg (pLr M 34) ?_)
    funext j
    rw [if_neg (by omega)]
  | k + 1, n + 1, i, M, h1, h2 => by
    rw [fJ7_fill_d0a16_34_L6, if_neg (by rw [ii_le] <;> omega)]
    simp (disch := omega) only [gd_inb, nm_eq, ii_nat, ii_lit, ii_add]
    rw [show ((i : Int) + 1) = ((i + 1 : Nat) : Int) by omega, fill34_L k n (i + 1) _ (by omega) (by omega), pL_r, pLr_r]
    congr 2
    funext j
    rw [pLr_c]
    by_cases e : j = i
    · subst e
      rw [if_neg (by omega), if_pos (by omega)]
      simp [vp_updL]
    · by_cases e2 : i + 1 ≤ j ∧ j < 8
      · rw [if_pos e2, if_pos (by omega)]
      · rw [if_neg e2, if_neg (by omega)]
        simp [vp_updL, e]
theorem fill34_eq {F : Nat} (hF : 100000 ≤ F) (v : Int64) (M : Mem) : fJ7_fill_d0a16_34 F v M = some (pLr M 34 (fun j => if j < 8 then v else M.2 34 j)) := by
  unfold fJ7_fill_d0a16_34
  have := fill34_L (F := F) (v := v) 8 F 0 M (by omega) (by omega)
  simp only [Nat.zero_le, true_and] at this
  exact this
theorem fill17_L {F : Nat} {v : Int32} : ∀ (k n i : Nat) (M : Mem), i + k = 300 → k < n → fJ7_fill_53178_17_L5 F v n (ii i) (ii 300) M = some (pIr M 17 (fun j => if i ≤ j ∧ j < 300 then v else M.1 17 j))
  | 0, n + 1, i, M, h1, h2 => by
    rw [fJ7_fill_53178_17_L5, if_pos (by rw [ii_le] <;> omega)]
    congr 1
    refine (pIr_id M 17).symm.trans (congrArg (pIr M 17) ?_)
    funext j
    rw [if_neg (by omega)]
  | k + 1, n + 1, i, M, h1, h2 => by
    rw [fJ7_fill_53178_17_L5, if_neg (by rw [ii_le] <;> omega)]
    simp (disch := omega) only [gd_inb, nm_eq, ii_nat, ii_lit, ii_add]
    rw [show ((i : Int) + 1) = ((i + 1 : Nat) : Int) by omega, fill17_L k n (i + 1) _ (by omega) (by omega), pI_r, pIr_r]
    congr 2
    funext j
    rw [pIr_c]
    by_cases e : j = i
    · subst e
      rw [if_neg (by omega), if_pos (by omega)]
      simp [upd]
    · by_cases e2 : i + 1 ≤ j ∧ j < 300
      · rw [if_pos e2, if_pos (by omega)]
      · rw [if_neg e2, if_neg (by omega)]
        simp [upd, e]
theorem fill17_eq {F : Nat} (hF : 100000 ≤ F) (v : Int32) (M : Mem) : fJ7_fill_53178_17 F v M = some (pIr M 17 (fun j => if j < 300 then v else M.1 17 j)) := by
  unfold fJ7_fill_53178_17
  have := fill17_L (F := F) (v := v) 300 F 0 M (by omega) (by omega)
  simp only [Nat.zero_le, true_and] at this
  exact this
theorem fill32_L {F : Nat} {v : Int32} : ∀ (k n i : Nat) (M : Mem), i + k = 121 → k < n → fJ7_fill_53178_32_L5 F v n (ii i) (ii 121) M = some (pIr M 32 (fun j => if i ≤ j ∧ j < 121 then v else M.1 32 j))
  | 0, n + 1, i, M, h1, h2 => by
    rw [fJ7_fill_53178_32_L5, if_pos (by rw [ii_le] <;> omega)]
    congr 1
    refine (pIr_id M 32).symm.trans (congrArg (pIr M 32) ?_)
    funext j
    rw [if_neg (by omega)]
  | k + 1, n + 1, i, M, h1, h2 => by
    rw [fJ7_fill_53178_32_L5, if_neg (by rw [ii_le] <;> omega)]
    simp (disch := omega) only [gd_inb, nm_eq, ii_nat, ii_lit, ii_add]
    rw [show ((i : Int) + 1) = ((i + 1 : Nat) : Int) by omega, fill32_L k n (i + 1) _ (by omega) (by omega), pI_r, pIr_r]
    congr 2
    funext j
    rw [pIr_c]
    by_cases e : j = i
    · subst e
      rw [if_neg (by omega), if_pos (by omega)]
      simp [upd]
    · by_cases e2 : i + 1 ≤ j ∧ j < 121
      · rw [if_pos e2, if_pos (by omega)]
      · rw [if_neg e2, if_neg (by omega)]
        simp [upd, e]
theorem fill32_eq {F : Nat} (hF : 100000 ≤ F) (v : Int32) (M : Mem) : fJ7_fill_53178_32 F v M = some (pIr M 32 (fun j => if j < 121 then v else M.1 32 j)) := by
  unfold fJ7_fill_53178_32
  have := fill32_L (F := F) (v := v) 121 F 0 M (by omega) (by omega)
  simp only [Nat.zero_le, true_and] at this
  exact this

/-- a law of the class, in cell k -/
def CL (M : Mem) (k kd : Nat) (len a b c : Int) (u : Bool) : Prop := M.1 k 0 = ii kd ∧ M.1 k 1 = ii len ∧ M.1 k 2 = ii a ∧ M.1 k 3 = ii b ∧ M.1 k 4 = ii c ∧ M.1 k 5 = bi u
theorem CL.sm {cs : List Nat} {M N : Mem} {k kd : Nat} {len a b c : Int} {u : Bool} (h : CL M k kd len a b c u) (hs : Sm cs M N) (hc : k ∉ cs) : CL N k kd len a b c u := by
  unfold CL
  rw [(hs k hc).1]
  exact h
def fullB (fi la : Nat) : Nat → Bool := fun x => decide (fi ≤ x ∧ x ≤ la)
/-- what a place of an equation may be -/
def chb (c : Int) (S : Nat → Bool) : Nat → Bool := fun z => if c = 0 then decide (z = 0) else S z
def chs (c : Int) (w : Int64) : Int64 := if c = 0 then 1 else w
theorem bt_chs (c : Int) (w : Int64) (z : Nat) : bt (chs c w) z = chb c (bt w) z := by
  unfold chs chb
  by_cases h : c = 0
  · rw [if_pos h, if_pos h, bt_1]
  · rw [if_neg h, if_neg h]
theorem isLaw_t {k : Nat} (h1 : 6 ≤ k) (h2 : k < 12) : isLaw k = true := by simp [isLaw, h1, h2]
theorem choices_eq {F : Nat} {c : Int} (h : -9 ≤ c ∧ c ≤ 9) (w : Int64) (M : Mem) : fX3_choices F (ii c) w M = some (chs c w, M) := by
  unfold fX3_choices chs
  simp (disch := omega) only [ii_lit, ii_eq]
  by_cases e : c = 0
  · rw [if_pos e, if_pos e]
  · rw [if_neg e, if_neg e]
/-- the row of answers is right for - c z -/
def Ans (s n fi la : Nat) (c : Int) (g : Nat → Int64) : Prop := ∀ v : Int, -540 ≤ v → v ≤ 540 → ∀ t, bt (g (540 + v).toNat) t = (chb c (fullB fi la) t && decide (mx s n (-c) t 0 0 = v))
theorem chb_le {fi la : Nat} {c : Int} {t : Nat} (h : chb c (fullB fi la) t = true) : t ≤ la := by
  unfold chb fullB at h
  split at h
  · have := of_decide_eq_true h; omega
  · exact (of_decide_eq_true h).2
theorem mxc_rng {s n fi la : Nat} (hG : GV s n fi la) {c : Int} (hc : -9 ≤ c ∧ c ≤ 9) {t : Nat} (ht : t ≤ la) : -540 ≤ mx s n (-c) t 0 0 ∧ mx s n (-c) t 0 0 ≤ 540 := by
  have hg := hG.b
  by_cases h0 : s = 0
  · subst h0
    rw [mx_0]
    have := mul_rng 9 60 (a := -c) (x := t) (by omega) (by omega) (by omega) (by omega)
    omega
  · have := mx_g hG h0 (-c) 0 (x := t) (y := 0) (by omega) (by omega)
    omega
section HD
variable {F s n fi la k kd : Nat} {M : Mem} {len a b c : Int} {u : Bool}
theorem take_L (hF : 100000 ≤ F) (hG : GV s n fi la) (hC : CG s n fi la M) (hk : 6 ≤ k ∧ k < 12) (hL : M.1 k 4 = ii c) (hc : -9 ≤ c ∧ c ≤ 9) : ∀ (m N z : Nat) (f : Nat → Int64), z + m = la + 1 → m < N →
    ∃ g, fX3_takeInHand_L26 F k N (chs c (M.2 3 4)) (ii z) (pLr M 13 f) = some (pLr M 13 g) ∧ ∀ v : Int, -540 ≤ v → v ≤ 540 → ∀ t, bt (g (540 + v).toNat) t = (bt (f (540 + v).toNat) t || (decide (z ≤ t) && (chb c (fullB fi la) t && decide (mx s n (-c) t 0 0 = v))))
  | 0, N + 1, z, f, h1, h2 => by
    have hg := hG.b
    refine ⟨f, ?_, ?_⟩
    · rw [fX3_takeInHand_L26, pLr_1, hC.2.2.2.1, if_pos (by rw [ii_lt] <;> omega)]
    · intro v _ _ t
      cases hb : chb c (fullB fi la) t with
      | false => simp
      | true =>
        have := chb_le hb
        rw [decide_eq_false (show ¬ z ≤ t by omega)]; simp
  | m + 1, N + 1, z, f, h1, h2 => by
    have hg := hG.b
    have hcz : bt (chs c (M.2 3 4)) z = chb c (fullB fi la) z := by
      rw [bt_chs]
      unfold chb fullB
      rw [hC.2.2.2.2 z]
    rw [fX3_takeInHand_L26, pLr_1, hC.2.2.2.1, if_neg (by rw [ii_lt] <;> omega)]
    simp only [nm_eq]
    rw [sr_def]
    have hs := sr_cmp (x := z) (by omega) (chs c (M.2 3 4))
    cases hb : chb c (fullB fi la) z with
    | false =>
      rw [if_pos (hs.mpr (by rw [hcz, hb])), ii_lit1, ii_add, show ((z : Int) + 1) = ((z + 1 : Nat) : Int) by omega]
      obtain ⟨g, g1, g2⟩ := take_L hF hG hC hk hL hc m N (z + 1) f (by omega) (by omega)
      refine ⟨g, g1, fun v v1 v2 t => ?_⟩
      rw [g2 v v1 v2 t]
      by_cases e : t = z
      · subst e; rw [hb]; simp
      · rw [show decide (z + 1 ≤ t) = decide (z ≤ t) from decide_eq_decide.mpr (by omega)]
    | true =>
      rw [if_neg (fun e => by rw [hs.mp e] at hcz; rw [← hcz] at hb; cases hb)]
      have hr := mxc_rng hG hc (t := z) (by omega)
      rw [hL, ii_neg, ii_lit0, mix_eq hF hG (hC.sm (Sm.lr (c := 13) (cs := [13]) (by decide)) (by decide)) (by omega) (by omega) (VA.g hG (by omega) (by omega)) (VA.z hG), bd_eq]
      simp (disch := omega) only [ii_lit, ii_add, gd_inb, nm_eq, ii_nat]
      rw [pLr_c, one_def, pL_r, pLr_r, pLr_c, show ((z : Int) + 1) = ((z + 1 : Nat) : Int) by omega]
      obtain ⟨g, g1, g2⟩ := take_L hF hG hC hk hL hc m N (z + 1) (vp_updL f (540 + mx s n (-c) z 0 0).toNat (f (540 + mx s n (-c) z 0 0).toNat ||| one z)) (by omega) (by omega)
      refine ⟨g, g1, fun v v1 v2 t => ?_⟩
      rw [g2 v v1 v2 t]
      by_cases ev : v = mx s n (-c) z 0 0
      · rw [← ev, uL_c, bt_or, bt_one (by omega)]
        by_cases e : t = z
        · subst e; rw [hb, ← ev]; simp
        · rw [show decide (z + 1 ≤ t) = decide (z ≤ t) from decide_eq_decide.mpr (by omega), decide_eq_false e]; simp
      · rw [uL_d (by omega)]
        by_cases e : t = z
        · subst e; rw [decide_eq_false (show ¬ mx s n (-c) t 0 0 = v from fun q => ev q.symm)]; simp
        · rw [show decide (z + 1 ≤ t) = decide (z ≤ t) from decide_eq_decide.mpr (by omega)]
theorem take_eq (hF : 100000 ≤ F) (hG : GV s n fi la) (hC : CG s n fi la M) (hk : 6 ≤ k ∧ k < 12) (hL : M.1 k 4 = ii c) (hc : -9 ≤ c ∧ c ≤ 9) : ∃ g, fX3_takeInHand F k M = some (pLr M 13 g) ∧ Ans s n fi la c g := by
  unfold fX3_takeInHand
  have hg := hG.b
  rw [isLaw_t hk.1 hk.2, gd_eq, fill13_eq hF, bv_eq, pLr_1, hL, choices_eq hc, bd_eq, pLr_d (by decide), ii_lit0]
  obtain ⟨g, g1, g2⟩ := take_L hF hG hC hk hL hc (la + 1) F 0 (fun j => if j < 1081 then 0 else M.2 13 j) (by omega) (by omega)
  refine ⟨g, g1, fun v v1 v2 t => ?_⟩
  rw [g2 v v1 v2 t, if_pos (by omega), bt_0]
  simp
theorem answersTo_eq (hG : GV s n fi la) (hc : -9 ≤ c ∧ c ≤ 9) (hA : Ans s n fi la c (M.2 13)) {v : Int} (h1 : -1000000 ≤ v) (h2 : v ≤ 1000000) : ∃ w, fX3_answersTo F (ii v) M = some (w, M) ∧ ∀ t, bt w t = (chb c (fullB fi la) t && decide (mx s n (-c) t 0 0 = v)) := by
  unfold fX3_answersTo
  simp (disch := omega) only [ii_lit, ii_lt, ii_neg, ii_add]
  by_cases q1 : v < -540
  · rw [if_pos q1]
    refine ⟨_, rfl, fun t => ?_⟩
    rw [bt_0]
    cases hb : chb c (fullB fi la) t with
    | false => rfl
    | true => have := mxc_rng hG hc (chb_le hb); rw [decide_eq_false (by omega)]; rfl
  · rw [if_neg q1]
    by_cases q2 : 540 < v
    · rw [if_pos q2]
      refine ⟨_, rfl, fun t => ?_⟩
      rw [bt_0]
      cases hb : chb c (fullB fi la) t with
      | false => rfl
      | true => have := mxc_rng hG hc (chb_le hb); rw [decide_eq_false (by omega)]; rfl
    · rw [if_neg q2]
      simp (disch := omega) only [gd_inb, ii_nat]
      exact ⟨_, rfl, fun t => hA v (by omega) (by omega) t⟩
theorem alone_eq (hG : GV s n fi la) (hC : CG s n fi la M) {v : Int} (h1 : -1000000 ≤ v) (h2 : v ≤ 1000000) : ∃ w, fX3_alone F (ii v) M = some (w, M) ∧ ∀ t : Nat, bt w t = (fullB fi la t && decide (v = t)) := by
  have hg := hG.b
  unfold fX3_alone
  rw [contains_ii hG hC (by omega) (by omega), bd_eq]
  by_cases q : (fi : Int) ≤ v ∧ v ≤ la
  · rw [decide_eq_true q, if_neg (by decide), one_def]
    refine ⟨_, rfl, fun t => ?_⟩
    obtain ⟨y, rfl⟩ : ∃ y : Nat, v = y := ⟨v.toNat, by omega⟩
    rw [bt_one (by omega)]
    unfold fullB
    rw [Bool.eq_iff_iff]
    simp only [Bool.and_eq_true, decide_eq_true_eq]
    omega
  · rw [decide_eq_false q, if_pos (by decide)]
    refine ⟨_, rfl, fun t => ?_⟩
    rw [bt_0]
    unfold fullB
    symm
    rw [Bool.and_eq_false_iff, decide_eq_false_iff_not, decide_eq_false_iff_not]
    omega
/-- of the law with these weights: x, y and z are a CLASH -/
def T3 (s n fi la kd : Nat) (a b c : Int) (u : Bool) (x y z : Nat) : Bool :=
  (if kd = 2 then fullB fi la z && decide (tm s n x y = z) else chb c (fullB fi la) z && decide (mx s n (-c) z 0 0 = mx s n a x b y)) && (!u || (!(decide (x = y ∧ a ≠ 0 ∧ b ≠ 0)) && (decide (c = 0) || (decide (a = 0 ∨ z ≠ x) && decide (b = 0 ∨ z ≠ y)))))
theorem bt_not {w : Int64} {t : Nat} (h : t < 64) : bt (w ^^^ -1) t = !bt w t := by rw [bt_xor, bt_m1 h]; cases bt w t <;> rfl
theorem T3_le {x y z : Nat} (h : T3 s n fi la kd a b c u x y z = true) : z ≤ la := by
  unfold T3 at h
  rw [Bool.and_eq_true] at h
  have h := h.1
  split at h
  · rw [Bool.and_eq_true] at h; exact (of_decide_eq_true h.1).2
  · rw [Bool.and_eq_true] at h; exact chb_le h.1
theorem fit_L {x y : Nat} {w : Int64} {Q : Nat → Bool} (hG : GV s n fi la) (hL : CL M k kd len a b c u) (ha : -9 ≤ a ∧ a ≤ 9) (hb : -9 ≤ b ∧ b ≤ 9) (hc : -9 ≤ c ∧ c ≤ 9) (hx : x ≤ la) (hy : y ≤ la) (hw : ∀ t, bt w t = Q t) :
    ∃ w', fX3_fittingWith_L45 F k (ii x) (ii y) w M = some (w', M) ∧ ∀ t, bt w' t = (Q t && (!u || (!(decide (x = y ∧ a ≠ 0 ∧ b ≠ 0)) && (decide (c = 0) || (decide (a = 0 ∨ t ≠ x) && decide (b = 0 ∨ t ≠ y)))))) := by
  have hg := hG.b
  obtain ⟨-, -, l2, l3, l4, l5⟩ := hL
  unfold fX3_fittingWith_L45
  rw [l5]
  cases u with
  | false =>
    rw [if_pos (by decide)]
    exact ⟨w, rfl, fun t => by rw [hw]; simp⟩
  | true =>
    rw [if_neg (by decide), l2, l3]
    have h78 : ¬ (x = y ∧ a ≠ 0 ∧ b ≠ 0) → ∃ w', fX3_fittingWith_L78 F k (ii x) (ii y) w M = some (w', M) ∧ ∀ t, bt w' t = (Q t && (!true || (!(decide (x = y ∧ a ≠ 0 ∧ b ≠ 0)) && (decide (c = 0) || (decide (a = 0 ∨ t ≠ x) && decide (b = 0 ∨ t ≠ y)))))) := by
      intro hn
      unfold fX3_fittingWith_L78
      rw [l4, l2]
      simp (disch := omega) only [ii_lit, ii_eq]
      by_cases c0 : c = 0
      · rw [if_pos c0]
        exact ⟨w, rfl, fun t => by rw [hw, decide_eq_false hn, decide_eq_true c0]; simp⟩
      · rw [if_neg c0]
        have h104 : ∀ v0 : Int64, (∀ t, t < 64 → bt v0 t = decide (a ≠ 0 ∧ t = x)) → ∃ w', fX3_fittingWith_L104 F k (ii x) (ii y) v0 w M = some (w', M) ∧ ∀ t, bt w' t = (Q t && (!true || (!(decide (x = y ∧ a ≠ 0 ∧ b ≠ 0)) && (decide (c = 0) || (decide (a = 0 ∨ t ≠ x) && decide (b = 0 ∨ t ≠ y)))))) := by
          intro v0 hv
          unfold fX3_fittingWith_L104
          rw [l3]
          simp (disch := omega) only [ii_lit, ii_eq, nm_eq]
          by_cases b0 : b = 0
          · rw [if_pos b0]
            refine ⟨_, rfl, fun t => ?_⟩
            rcases Nat.lt_or_ge t 64 with q | q
            · rw [bt_and, bt_and, bt_not q, bt_not q, hv t q, hw, bt_0, decide_eq_false hn, decide_eq_false c0]
              by_cases a0 : a = 0 <;> by_cases tx : t = x <;> simp [a0, b0, tx]
            · rw [bt_big q, ← hw, bt_big q]; rfl
          · rw [if_neg b0, one_def]
            refine ⟨_, rfl, fun t => ?_⟩
            rcases Nat.lt_or_ge t 64 with q | q
            · rw [bt_and, bt_and, bt_not q, bt_not q, hv t q, hw, bt_one (by omega), decide_eq_false hn, decide_eq_false c0]
              by_cases a0 : a = 0 <;> by_cases tx : t = x <;> by_cases ty : t = y <;> simp [a0, b0, tx, ty] <;> omega
            · rw [bt_big q, ← hw, bt_big q]; rfl
        by_cases a0 : a = 0
        · rw [if_pos a0]
          exact h104 _ (fun t _ => by rw [bt_0]; simp [a0])
        · rw [if_neg a0, one_def]
          exact h104 _ (fun t _ => by rw [bt_one (by omega)]; simp [a0])
    simp (disch := omega) only [ii_lit, ii_eq]
    by_cases e : x = y
    · rw [if_pos (by omega)]
      by_cases a0 : a = 0
      · rw [if_pos a0]; exact h78 (by omega)
      · rw [if_neg a0]
        by_cases b0 : b = 0
        · rw [if_pos b0]; exact h78 (by omega)
        · rw [if_neg b0]
          exact ⟨0, rfl, fun t => by rw [bt_0, decide_eq_true ⟨e, a0, b0⟩]; simp⟩
    · rw [if_neg (by omega)]; exact h78 (by omega)
theorem fitting_eq (hF : 100000 ≤ F) (hG : GV s n fi la) (hC : CG s n fi la M) (hk : 6 ≤ k ∧ k < 12) (hkd : kd ≤ 4) (hL : CL M k kd len a b c u) (ha : -9 ≤ a ∧ a ≤ 9) (hb : -9 ≤ b ∧ b ≤ 9) (hc : -9 ≤ c ∧ c ≤ 9) (hA : Ans s n fi la c (M.2 13)) {x y : Nat} (hx : x ≤ la) (hy : y ≤ la) :
    ∃ w, fX3_fittingWith F k (ii x) (ii y) M = some (w, M) ∧ ∀ t, bt w t = T3 s n fi la kd a b c u x y t := by
  have hg := hG.b
  unfold fX3_fittingWith
  rw [isLaw_t hk.1 hk.2, gd_eq, hL.1, hL.2.2.1, hL.2.2.2.1]
  simp (disch := omega) only [ii_lit, ii_eq]
  by_cases q : kd = 2
  · rw [if_pos (by omega), times_eq hF hG hC (VA.g hG (by omega) (by omega)) (VA.g hG (by omega) (by omega)), bd_eq]
    have hr : -1000000 ≤ tm s n x y ∧ tm s n x y ≤ 1000000 := by
      by_cases h0 : s = 0
      · subst h0
        have := mul_rng 60 60 (a := x) (x := y) (by omega) (by omega) (by omega) (by omega)
        show -1000000 ≤ (x : Int) * y ∧ (x : Int) * y ≤ 1000000
        omega
      · have := tm_g hG h0 (x := x) (y := y) (by omega); omega
    obtain ⟨w, w1, w2⟩ := alone_eq (F := F) hG hC hr.1 hr.2
    rw [w1, bd_eq]
    obtain ⟨w', w3, w4⟩ := fit_L (F := F) hG hL ha hb hc hx hy w2
    refine ⟨w', w3, fun t => ?_⟩
    rw [w4, T3, if_pos q]
  · rw [if_neg (by omega), mix_eq hF hG hC ha hb (VA.g hG (by omega) (by omega)) (VA.g hG (by omega) (by omega)), bd_eq]
    have hr : -1000000 ≤ mx s n a x b y ∧ mx s n a x b y ≤ 1000000 := by
      by_cases h0 : s = 0
      · subst h0
        have h1 := mul_rng 9 60 (a := a) (x := x) (by omega) (by omega) (by omega) (by omega)
        have h2 := mul_rng 9 60 (a := b) (x := y) (by omega) (by omega) (by omega) (by omega)
        rw [mx_0]
        omega
      · have := mx_g hG h0 a b (x := x) (y := y) (by omega) (by omega); omega
    obtain ⟨w, w1, w2⟩ := answersTo_eq (F := F) hG hc hA hr.1 hr.2
    rw [w1, bd_eq]
    obtain ⟨w', w3, w4⟩ := fit_L (F := F) hG hL ha hb hc hx hy w2
    refine ⟨w', w3, fun t => ?_⟩
    rw [w4, T3, if_neg q]
end HD
