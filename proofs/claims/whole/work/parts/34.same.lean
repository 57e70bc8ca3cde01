/-! a CLASH with x: the class's and the reference's are the same -/
section SA
variable {s n fi la : Nat}
theorem mx_dd (hG : GV s n fi la) {x u : Int} (hx : Ca s n x) (hu : Ca s n u) : mx s n 1 x (-1) (mx s n 1 x (-1) u) = u := by
  have k1 := mx_back hG (x := u) (y := x) hu hx
  have k2 := mx_less hG (x := mx s n 1 x (-1) u) (d := u) (Ca.mx hG _ _ _ _) hu
  rw [mx_comm, k1] at k2
  exact k2
theorem AP_iff (hG : GV s n fi la) {S : Nat → Bool} (hS : Sup fi la S) {x : Nat} (hx : fi ≤ x ∧ x ≤ la) : AP s n S x ↔ RAp s n S x := by
  have hg := hG.b
  have cx := Ca.g hG (x := x) (by omega) (by omega)
  constructor
  · rintro ⟨u, v, hu, hux, hv, hvx, hm⟩
    have ku := hS u hu
    have kv := hS v hv
    have cu := Ca.g hG (x := u) (by omega) (by omega)
    have cv := Ca.g hG (x := v) (by omega) (by omega)
    obtain ⟨-, -, w, hw1, hw2⟩ := mm_sup hS hm
    have kw := hS w hw2
    have cw := Ca.g hG (x := w) (by omega) (by omega)
    have e : mx s n 1 (mx s n 1 x 1 w) (-1) u = v := by
      rw [← mx_assoc hG cx cw cu, ← hw1, mx_step hG cv (Ca.mx hG _ _ _ _)]
      exact mx_zero hG cv (Ca.mx hG _ _ _ _)
    refine ⟨w, u, hw2, hu, ?_, fun h => hux h.1, fun h => ?_⟩
    · rw [e, mm_nat]; exact hv
    · rw [e] at h; exact hvx (by omega)
  · rintro ⟨y, u, hy, hu, hm, h1, h2⟩
    have ky := hS y hy
    have ku := hS u hu
    have cy := Ca.g hG (x := y) (by omega) (by omega)
    have cu := Ca.g hG (x := u) (by omega) (by omega)
    obtain ⟨-, -, v, hv1, hv2⟩ := mm_sup hS hm
    rw [hv1] at h1 h2
    have ev := mx_assoc hG cx cy cu
    rw [hv1] at ev
    have hux : u ≠ x := by
      intro e
      subst e
      rw [mx_less hG cu cy] at hv1
      exact h1 ⟨rfl, by omega⟩
    have hvx : v ≠ x := by
      intro e
      subst e
      apply h2
      have k1 := mx_less hG cy (Ca.mx hG 1 v (-1) u)
      rw [ev] at k1
      have k2 := mx_dd hG cx cy
      rw [k1, mx_dd hG cx cu] at k2
      exact ⟨by omega, rfl⟩
    refine ⟨u, v, hu, hux, hv2, hvx, ?_⟩
    rw [← ev, mx_step hG cy (Ca.mx hG _ _ _ _)]
    show mm S (mx s n 1 y 0 _) = true
    rw [mx_zero hG cy (Ca.mx hG _ _ _ _), mm_nat]; exact hy
/-- three numbers of a CLASH of a law with weights, all in a set -/
def KK (s n fi la : Nat) (l : LawT) (S : Nat → Bool) (p q r : Nat) : Prop := chb (wa l) S p = true ∧ chb (wb l) S q = true ∧ chb (wc l) S r = true ∧ T3 s n fi la (lk l) (wa l) (wb l) (wc l) (wu l) p q r = true
theorem chb_0 {c : Int} {S : Nat → Bool} {z : Nat} (hc : c = 0) : chb c S z = true ↔ z = 0 := by unfold chb; rw [if_pos hc]; simp
theorem chb_1 {c : Int} {S : Nat → Bool} {z : Nat} (hc : c ≠ 0) : chb c S z = S z := by unfold chb; rw [if_neg hc]
theorem T3_c {kd : Nat} {a b c : Int} {u : Bool} {x y z : Nat} (h : T3 s n fi la kd a b c u x y z = true) (hk : kd = 2 → c ≠ 0) (hc : c = 0) : z = 0 := by
  unfold T3 at h
  rw [Bool.and_eq_true] at h
  have h := h.1
  rw [if_neg (fun e => hk e hc), Bool.and_eq_true, chb_0 hc] at h
  exact h.1
theorem LV.two {l : LawT} (h : LV l) : ¬ (wa l = 0 ∧ wb l = 0) ∧ ¬ (wa l = 0 ∧ wc l = 0) ∧ ¬ (wb l = 0 ∧ wc l = 0) ∧ (lk l = 2 → wc l ≠ 0) := by
  have h4 := h.2.2.2
  unfold wa wb wc
  by_cases q : lk l = 4
  · have := h4 q
    rw [if_pos q, if_neg (by omega), if_pos q, if_neg (by omega), if_pos q]
    omega
  · rw [if_neg q, if_neg q, if_neg q]
    by_cases q0 : lk l = 0
    · rw [if_pos q0, if_neg (by omega)]; omega
    · rw [if_neg q0]
      split <;> omega
theorem EL_KK {l : LawT} (hV : LV l) {S : Nat → Bool} (hS : Sup fi la S) {x : Nat} (hx : S x = true) :
    (∃ y z, S y = true ∧ S z = true ∧ EL s n fi la (lk l) (wa l) (wb l) (wc l) (wu l) x y z) ↔ ∃ p q r, KK s n fi la l S p q r ∧ ((wa l ≠ 0 ∧ p = x) ∨ (wb l ≠ 0 ∧ q = x) ∨ (wc l ≠ 0 ∧ r = x)) := by
  obtain ⟨t1, t2, t3, t4⟩ := hV.two
  unfold EL KK EE tri
  generalize wa l = a at *
  generalize wb l = b at *
  generalize wc l = c at *
  constructor
  · rintro ⟨y, z, hy, hz, p, q, r, h1, h2, h3, h4⟩
    have hr0 := T3_c h3 t4
    have hP : S (if a = 0 then q else p) = true ∧ S (if b = 0 then p else q) = true ∧ S (if c = 0 then (if a = 0 then q else p) else r) = true := by
      rcases h4 with ⟨e1, e2, e3⟩ | ⟨e1, e2, e3⟩ | ⟨e1, e2, e3⟩ <;> refine ⟨?_, ?_, ?_⟩ <;> first | (rw [← e1]; assumption) | (rw [← e2]; assumption) | (rw [← e3]; assumption)
    refine ⟨p, q, r, ⟨?_, ?_, ?_, h3⟩, ?_⟩
    · by_cases qa : a = 0
      · exact (chb_0 qa).mpr ((chb_0 qa).mp h1)
      · rw [chb_1 qa]; rw [if_neg qa] at hP; exact hP.1
    · by_cases qb : b = 0
      · exact (chb_0 qb).mpr ((chb_0 qb).mp h2)
      · rw [chb_1 qb]; rw [if_neg qb] at hP; exact hP.2.1
    · by_cases qc : c = 0
      · exact (chb_0 qc).mpr (hr0 qc)
      · rw [chb_1 qc]; rw [if_neg qc] at hP; exact hP.2.2
    · by_cases qa : a = 0 <;> by_cases qb : b = 0 <;> by_cases qc : c = 0 <;> simp only [qa, qb, qc, if_true, if_false] at h4 <;> omega
  · rintro ⟨p, q, r, ⟨h1, h2, h3, h4⟩, h5⟩
    have hf : ∀ {w : Int} {t : Nat}, chb w S t = true → chb w (fullB fi la) t = true := by
      intro w t h
      by_cases qw : w = 0
      · exact (chb_0 qw).mpr ((chb_0 qw).mp h)
      · rw [chb_1 qw] at h ⊢
        have := hS t h
        exact full_t this.1 this.2
    have hP : S (if a = 0 then q else p) = true ∧ S (if b = 0 then p else q) = true ∧ S (if c = 0 then (if a = 0 then q else p) else r) = true := by
      by_cases qa : a = 0 <;> by_cases qb : b = 0 <;> by_cases qc : c = 0 <;> simp only [qa, qb, qc, if_true, if_false, chb_1, ne_eq, not_false_eq_true] at h1 h2 h3 ⊢ <;> first | exact ⟨by assumption, by assumption, by assumption⟩ | omega
    rcases h5 with ⟨k1, k2⟩ | ⟨k1, k2⟩ | ⟨k1, k2⟩
    · refine ⟨_, _, hP.2.1, hP.2.2, p, q, r, hf h1, hf h2, h4, Or.inl ⟨?_, rfl, rfl⟩⟩
      rw [if_neg k1]; exact k2.symm
    · refine ⟨_, _, hP.1, hP.2.2, p, q, r, hf h1, hf h2, h4, Or.inr (Or.inl ⟨?_, rfl, rfl⟩)⟩
      rw [if_neg k1]; exact k2.symm
    · refine ⟨_, _, hP.1, hP.2.1, p, q, r, hf h1, hf h2, h4, Or.inr (Or.inr ⟨?_, rfl, rfl⟩)⟩
      rw [if_neg k1]; exact k2.symm
/-- threes of sums and products -/
theorem TT_KK (hG : GV s n fi la) {l : LawT} (hk : lk l = 1 ∨ lk l = 2) {S : Nat → Bool} (hS : Sup fi la S) (p q r : Nat) : KK s n fi la l S p q r ↔ S p = true ∧ S q = true ∧ S r = true ∧ TT s n (lk l) (lU l) p q r = true := by
  have hg := hG.b
  unfold KK
  have e1 : wa l = 1 := by unfold wa; rw [if_neg (by omega)]
  have e2 : wb l = 1 := by unfold wb; rw [if_neg (by omega), if_neg (by omega)]
  have e3 : wu l = lU l := by unfold wu; rw [if_neg (by omega)]
  have e4 : wc l ≠ 0 := by unfold wc; split <;> (try split) <;> omega
  rw [e1, e2, e3, chb_1 (by decide), chb_1 (by decide), chb_1 e4]
  refine and_congr_right (fun h1 => and_congr_right (fun h2 => and_congr_right (fun h3 => ?_)))
  have k3 := hS r h3
  have cr := Ca.g hG (x := r) (by omega) (by omega)
  have hval : (if lk l = 2 then fullB fi la r && decide (tm s n p q = r) else chb (wc l) (fullB fi la) r && decide (mx s n (-wc l) r 0 0 = mx s n 1 p 1 q)) = decide ((if lk l = 1 then mx s n 1 p 1 q else tm s n p q) = r) := by
    rcases hk with hk | hk
    · have e5 : wc l = -1 := by unfold wc; rw [if_pos hk]
      rw [hk, if_neg (by decide), if_pos rfl, e5, chb_1 (by decide), full_t k3.1 k3.2, Bool.true_and, show (- -1 : Int) = 1 from rfl, mx_self hG cr]
      exact decide_eq_decide.mpr ⟨Eq.symm, Eq.symm⟩
    · rw [hk, if_pos rfl, if_neg (by decide), full_t k3.1 k3.2, Bool.true_and]
  unfold T3 TT
  rw [hval]
  generalize lU l = u
  rw [Bool.and_comm]
  have : (!u || (!(decide (p = q ∧ (1 : Int) ≠ 0 ∧ (1 : Int) ≠ 0)) && (decide (wc l = 0) || (decide ((1 : Int) = 0 ∨ r ≠ p) && decide ((1 : Int) = 0 ∨ r ≠ q))))) = !(u && decide (p = q ∨ q = r ∨ p = r)) := by
    rw [decide_eq_false e4]
    cases u
    · rfl
    · rw [Bool.eq_iff_iff]
      simp only [Bool.not_true, Bool.false_or, Bool.true_and, Bool.and_eq_true, Bool.not_eq_true', decide_eq_false_iff_not, decide_eq_true_eq]
      omega
  rw [this]
theorem RT_iff (hG : GV s n fi la) {l : LawT} (hV : LV l) (hk : lk l = 1 ∨ lk l = 2) {S : Nat → Bool} (hS : Sup fi la S) {x : Nat} (hx : S x = true) :
    RT s n (lk l) (lU l) S x ↔ ∃ p q r, KK s n fi la l S p q r ∧ ((wa l ≠ 0 ∧ p = x) ∨ (wb l ≠ 0 ∧ q = x) ∨ (wc l ≠ 0 ∧ r = x)) := by
  have e1 : wa l ≠ 0 := by unfold wa; rw [if_neg (by omega)]; decide
  have e2 : wb l ≠ 0 := by unfold wb; rw [if_neg (by omega), if_neg (by omega)]; decide
  have e4 : wc l ≠ 0 := by unfold wc; split <;> (try split) <;> omega
  constructor
  · rintro ⟨y, z, hy, hz, h | h | h⟩
    · exact ⟨x, y, z, (TT_KK hG hk hS _ _ _).mpr ⟨hx, hy, hz, h⟩, Or.inl ⟨e1, rfl⟩⟩
    · exact ⟨y, x, z, (TT_KK hG hk hS _ _ _).mpr ⟨hy, hx, hz, h⟩, Or.inr (Or.inl ⟨e2, rfl⟩)⟩
    · exact ⟨y, z, x, (TT_KK hG hk hS _ _ _).mpr ⟨hy, hz, hx, h⟩, Or.inr (Or.inr ⟨e4, rfl⟩)⟩
  · rintro ⟨p, q, r, h, h5⟩
    obtain ⟨h1, h2, h3, h4⟩ := (TT_KK hG hk hS _ _ _).mp h
    rcases h5 with ⟨-, rfl⟩ | ⟨-, rfl⟩ | ⟨-, rfl⟩
    · exact ⟨q, r, h2, h3, Or.inl h4⟩
    · exact ⟨p, r, h1, h3, Or.inr (Or.inl h4)⟩
    · exact ⟨p, q, h1, h2, Or.inr (Or.inr h4)⟩
/-- equations -/
theorem EQ_KK (hG : GV s n fi la) {l : LawT} (hV : LV l) (hk : lk l = 4) {S : Nat → Bool} (hS : Sup fi la S) {x y z : Nat} :
    EQ s n (lA l) (lB l) (lC l) (lU l) S x y z = true ↔ KK s n fi la l S (if lA l = 0 then 0 else x) (if lB l = 0 then 0 else y) (if lC l = 0 then 0 else z) := by
  have hg := hG.b
  have e1 : wa l = lA l := by unfold wa; rw [if_pos hk]
  have e2 : wb l = lB l := by unfold wb; rw [if_neg (by omega), if_pos hk]
  have e3 : wc l = lC l := by unfold wc; rw [if_neg (by omega), if_pos hk]
  have e4 : wu l = lU l := by unfold wu; rw [if_neg (by omega)]
  have ht := hV.two
  unfold KK EQ T3
  rw [e1, e2, e3, hk, e4, if_neg (show ¬ (4 : Nat) = 2 by decide)]
  rw [e1, e2, e3] at ht
  generalize lA l = a at *
  generalize lB l = b at *
  generalize lC l = c at *
  generalize lU l = u at *
  have hc : ∀ (w : Int) (t : Nat), (decide (w = 0) || S t) = true ↔ chb w S (if w = 0 then 0 else t) = true := by
    intro w t
    by_cases q : w = 0
    · rw [chb_0 q, if_pos q, decide_eq_true q]; simp
    · rw [chb_1 q, if_neg q, decide_eq_false q]; simp
  simp only [Bool.and_eq_true]
  rw [hc, hc, hc]
  constructor
  · rintro ⟨⟨⟨⟨h1, h2⟩, h3⟩, h4⟩, h5⟩
    have hin : ∀ {w : Int} {t : Nat}, chb w S (if w = 0 then 0 else t) = true → (if w = 0 then 0 else t) ≤ la ∧ chb w (fullB fi la) (if w = 0 then 0 else t) = true := by
      intro w t h
      by_cases q : w = 0
      · rw [if_pos q]; exact ⟨by omega, (chb_0 q).mpr rfl⟩
      · rw [chb_1 q, if_neg q] at h
        rw [chb_1 q, if_neg q]
        have := hS t h
        exact ⟨this.2, full_t this.1 this.2⟩
    have i1 := hin h1
    have i2 := hin h2
    have i3 := hin h3
    refine ⟨h1, h2, h3, ⟨i3.2, decide_eq_true ?_⟩, ?_⟩
    · rw [mx_null hG (Ca.g hG (by omega) (by omega)) (Ca.g hG (by omega) (by omega)) (Ca.g hG (by omega) (by omega))]
      have := of_decide_eq_true h5
      unfold EV at this
      simpa only [apply_ite (Nat.cast (R := Int)), show ((0 : Nat) : Int) = 0 from rfl] using this
    · rw [Bool.not_eq_true'] at h4
      unfold smb at h4
      cases u
      · rfl
      · rw [Bool.true_and, decide_eq_false_iff_not] at h4
        rw [Bool.not_true, Bool.false_or, Bool.and_eq_true, Bool.not_eq_true', decide_eq_false_iff_not, Bool.or_eq_true, Bool.and_eq_true, decide_eq_true_eq, decide_eq_true_eq, decide_eq_true_eq]
        split <;> split <;> split <;> omega
  · rintro ⟨h1, h2, h3, ⟨i3, h5⟩, h4⟩
    have hin : ∀ {w : Int} {t : Nat}, chb w S (if w = 0 then 0 else t) = true → (if w = 0 then 0 else t) ≤ la := by
      intro w t h
      by_cases q : w = 0
      · rw [if_pos q]; omega
      · rw [chb_1 q, if_neg q] at h
        rw [if_neg q]
        exact (hS t h).2
    have i1 := hin h1
    have i2 := hin h2
    have i3 := hin h3
    refine ⟨⟨⟨⟨h1, h2⟩, h3⟩, ?_⟩, decide_eq_true ?_⟩
    · rw [Bool.not_eq_true']
      unfold smb
      cases u
      · rfl
      · rw [Bool.true_and, decide_eq_false_iff_not]
        rw [Bool.not_true, Bool.false_or, Bool.and_eq_true, Bool.not_eq_true', decide_eq_false_iff_not, Bool.or_eq_true, Bool.and_eq_true, decide_eq_true_eq, decide_eq_true_eq, decide_eq_true_eq] at h4
        revert h4
        split <;> split <;> split <;> omega
    · have h5 := of_decide_eq_true h5
      rw [mx_null hG (Ca.g hG (by omega) (by omega)) (Ca.g hG (by omega) (by omega)) (Ca.g hG (by omega) (by omega))] at h5
      unfold EV
      simpa only [apply_ite (Nat.cast (R := Int)), show ((0 : Nat) : Int) = 0 from rfl] using h5
theorem RE_iff (hG : GV s n fi la) {l : LawT} (hV : LV l) (hk : lk l = 4) {S : Nat → Bool} (hS : Sup fi la S) {x : Nat} (hx : S x = true) :
    RE s n fi la l S x ↔ ∃ p q r, KK s n fi la l S p q r ∧ ((wa l ≠ 0 ∧ p = x) ∨ (wb l ≠ 0 ∧ q = x) ∨ (wc l ≠ 0 ∧ r = x)) := by
  have hg := hG.b
  have e1 : wa l = lA l := by unfold wa; rw [if_pos hk]
  have e2 : wb l = lB l := by unfold wb; rw [if_neg (by omega), if_pos hk]
  have e3 : wc l = lC l := by unfold wc; rw [if_neg (by omega), if_pos hk]
  have hxr := hS x hx
  constructor
  · rintro ⟨y, z, hy, hz, h⟩
    rcases h with ⟨h0, h⟩ | ⟨h0, h⟩ | ⟨h0, h⟩
    · exact ⟨_, _, _, (EQ_KK hG hV hk hS).mp h, Or.inl ⟨by rw [e1]; exact h0, by rw [if_neg h0]⟩⟩
    · exact ⟨_, _, _, (EQ_KK hG hV hk hS).mp h, Or.inr (Or.inl ⟨by rw [e2]; exact h0, by rw [if_neg h0]⟩)⟩
    · exact ⟨_, _, _, (EQ_KK hG hV hk hS).mp h, Or.inr (Or.inr ⟨by rw [e3]; exact h0, by rw [if_neg h0]⟩)⟩
  · rintro ⟨p, q, r, h, h5⟩
    rw [e1, e2, e3] at h5
    have hfix : ∀ {w : Int} {t : Nat}, chb w S t = true → (if w = 0 then 0 else (if w = 0 then fi else t)) = t ∧ fi ≤ (if w = 0 then fi else t) ∧ (if w = 0 then fi else t) ≤ la := by
      intro w t h
      by_cases qw : w = 0
      · rw [if_pos qw, if_pos qw, (chb_0 qw).mp h]; omega
      · rw [if_neg qw, if_neg qw]
        rw [chb_1 qw] at h
        exact ⟨rfl, hS t h⟩
    have hp := hfix (w := lA l) (by have := h.1; rw [e1] at this; exact this)
    have hq := hfix (w := lB l) (by have := h.2.1; rw [e2] at this; exact this)
    have hr := hfix (w := lC l) (by have := h.2.2.1; rw [e3] at this; exact this)
    have hE : EQ s n (lA l) (lB l) (lC l) (lU l) S (if lA l = 0 then fi else p) (if lB l = 0 then fi else q) (if lC l = 0 then fi else r) = true := by
      rw [EQ_KK hG hV hk hS, hp.1, hq.1, hr.1]; exact h
    rcases h5 with ⟨h0, rfl⟩ | ⟨h0, rfl⟩ | ⟨h0, rfl⟩
    · refine ⟨_, _, hq.2, hr.2, Or.inl ⟨h0, ?_⟩⟩
      rw [if_neg h0] at hE; exact hE
    · refine ⟨_, _, hp.2, hr.2, Or.inr (Or.inl ⟨h0, ?_⟩)⟩
      rw [if_neg h0] at hE; exact hE
    · refine ⟨_, _, hp.2, hq.2, Or.inr (Or.inr ⟨h0, ?_⟩)⟩
      rw [if_neg h0] at hE; exact hE
end SA
