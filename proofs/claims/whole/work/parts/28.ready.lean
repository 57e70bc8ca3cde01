/-! the table of CLASHES of three: makeReady -/
/-- a law as told: its kind, a, b, c, unlike -/
abbrev LawT : Type := Nat × Int × Int × Int × Bool
def lk (l : LawT) : Nat := l.1
def lA (l : LawT) : Int := l.2.1
def lB (l : LawT) : Int := l.2.2.1
def lC (l : LawT) : Int := l.2.2.2.1
def lU (l : LawT) : Bool := l.2.2.2.2
/-- its weights in the class -/
def wa (l : LawT) : Int := if lk l = 4 then lA l else 1
def wb (l : LawT) : Int := if lk l = 0 then -2 else if lk l = 4 then lB l else 1
def wc (l : LawT) : Int := if lk l = 1 then -1 else if lk l = 4 then lC l else 1
def wu (l : LawT) : Bool := if lk l = 0 then true else lU l
/-- a law as it may be told -/
def LV (l : LawT) : Prop := lk l ≤ 4 ∧ (-2147483648 ≤ lA l ∧ lA l < 2147483648) ∧ (lk l = 0 → 3 ≤ lA l ∧ lA l ≤ 6) ∧ (lk l = 4 → (-9 ≤ lA l ∧ lA l ≤ 9) ∧ (-9 ≤ lB l ∧ lB l ≤ 9) ∧ (-9 ≤ lC l ∧ lC l ≤ 9) ∧ ¬ (lA l = 0 ∧ lB l = 0) ∧ ¬ (lA l = 0 ∧ lC l = 0) ∧ ¬ (lB l = 0 ∧ lC l = 0))
theorem LV.war {l : LawT} (h : LV l) : -9 ≤ wa l ∧ wa l ≤ 9 := by
  obtain ⟨-, -, -, h4⟩ := h
  unfold wa
  by_cases q : lk l = 4
  · rw [if_pos q]; exact (h4 q).1
  · rw [if_neg q]; omega
theorem LV.wbr {l : LawT} (h : LV l) : -9 ≤ wb l ∧ wb l ≤ 9 := by
  obtain ⟨-, -, -, h4⟩ := h
  unfold wb
  by_cases q0 : lk l = 0
  · rw [if_pos q0]; omega
  · rw [if_neg q0]
    by_cases q : lk l = 4
    · rw [if_pos q]; exact (h4 q).2.1
    · rw [if_neg q]; omega
theorem LV.wcr {l : LawT} (h : LV l) : -9 ≤ wc l ∧ wc l ≤ 9 := by
  obtain ⟨-, -, -, h4⟩ := h
  unfold wc
  by_cases q0 : lk l = 1
  · rw [if_pos q0]; omega
  · rw [if_neg q0]
    by_cases q : lk l = 4
    · rw [if_pos q]; exact (h4 q).2.2.1
    · rw [if_neg q]; omega
/-- the class's laws -/
def CLs (M : Mem) (m : Nat) (ls : Nat → LawT) : Prop := M.1 4 2 = ii m ∧ m ≤ 6 ∧ ∀ i, i < m → LV (ls i) ∧ CL M (6 + i) (lk (ls i)) (lA (ls i)) (wa (ls i)) (wb (ls i)) (wc (ls i)) (wu (ls i))
theorem CLs.sm {cs : List Nat} {M N : Mem} {m : Nat} {ls : Nat → LawT} (h : CLs M m ls) (hs : Sm cs M N) (hc : ∀ c, 4 ≤ c → c < 12 → c ∉ cs) : CLs N m ls := by
  refine ⟨by rw [(hs 4 (hc 4 (by omega) (by omega))).1]; exact h.1, h.2.1, fun i hi => ⟨(h.2.2 i hi).1, (h.2.2 i hi).2.sm hs (hc (6 + i) (by omega) (by have := h.2.1; omega))⟩⟩
theorem CLs.t {M : Mem} {m : Nat} {ls : Nat → LawT} (h : CLs M m ls) (v : Int32) : CLs (pI M 4 6 v) m ls := by
  refine ⟨by rw [pI_at, if_neg (by omega)]; exact h.1, h.2.1, fun i hi => ⟨(h.2.2 i hi).1, ?_⟩⟩
  exact (h.2.2 i hi).2.sm (cs := [4]) (Sm.i (by decide)) (by simp; omega)
/-- a law whose CLASHES stand in the table -/
def tbl (l : LawT) : Prop := lk l ≠ 3 ∧ ¬ (lk l = 0 ∧ 3 < lA l)
/-- what the table says -/
def Th (f : Nat → Int64) (x y z : Nat) : Prop := bt (f (61 * x + y)) z = true
def tri (p q r x y z : Nat) : Prop := (x = p ∧ y = q ∧ z = r) ∨ (x = q ∧ y = p ∧ z = r) ∨ (x = r ∧ y = p ∧ z = q)
/-- a CLASH x, y, z of the weights a, b, c as it is entered -/
def EE (a b c : Int) (x y z : Nat) : Nat → Nat → Nat → Prop := tri (if a = 0 then y else x) (if b = 0 then x else y) (if c = 0 then (if a = 0 then y else x) else z)
theorem th_upd {f : Nat → Int64} {p q r x y z : Nat} (hq : q < 61) (hr : r < 64) (hy : y < 61) : Th (vp_updL f (61 * p + q) (f (61 * p + q) ||| one r)) x y z ↔ Th f x y z ∨ (x = p ∧ y = q ∧ z = r) := by
  unfold Th
  by_cases e : x = p ∧ y = q
  · obtain ⟨rfl, rfl⟩ := e
    rw [uL_c, bt_or, bt_one hr, Bool.or_eq_true, decide_eq_true_eq]
    simp
  · rw [uL_d (by omega)]
    constructor
    · exact Or.inl
    · rintro (h | h)
      · exact h
      · exact absurd ⟨h.1, h.2.1⟩ e
def add3 (f : Nat → Int64) (p q r : Nat) : Nat → Int64 :=
  vp_updL (vp_updL (vp_updL f (61 * p + q) (f (61 * p + q) ||| one r)) (61 * q + p) (vp_updL f (61 * p + q) (f (61 * p + q) ||| one r) (61 * q + p) ||| one r)) (61 * r + p) (vp_updL (vp_updL f (61 * p + q) (f (61 * p + q) ||| one r)) (61 * q + p) (vp_updL f (61 * p + q) (f (61 * p + q) ||| one r) (61 * q + p) ||| one r) (61 * r + p) ||| one q)
theorem th_add3 {f : Nat → Int64} {p q r x y z : Nat} (hp : p < 61) (hq : q < 61) (hr : r < 61) (hy : y < 61) : Th (add3 f p q r) x y z ↔ Th f x y z ∨ tri p q r x y z := by
  unfold add3 tri
  rw [th_upd hp (by omega) hy, th_upd hp (by omega) hy, th_upd hq (by omega) hy, or_assoc, or_assoc]
theorem pLr_comm (M : Mem) {c d : Nat} (h : c ≠ d) (f g : Nat → Int64) : pLr (pLr M c f) d g = pLr (pLr M d g) c f := by
  unfold pLr
  congr 1
  funext a
  by_cases h1 : a = d
  · have hdc : d ≠ c := fun e => h e.symm
    simp [h1, hdc]
  · by_cases h2 : a = c
    · simp [h2, h]
    · simp [h1, h2]
section RD
variable {F s n fi la k kd : Nat} {M : Mem} {len a b c : Int} {u : Bool}
theorem all_61 {p q r m : Nat} {w : Int64} (K : Int32 → Int32 → Int64 → Int32 → Mem → Option Mem) {x y : Int32} {zs : Int64} (hp : p < 61) (hq : q < 61) (hr : r < 61) (f : Nat → Int64) :
    fX3_enterAll_L61 F k x y zs K (ii p) (ii q) w (ii ((m + 1 : Nat) : Int)) (ii r) (pLr M 14 f) = K (ii p) (ii q) (clr w) (ii m) (pLr M 14 (add3 f p q r)) := by
  unfold fX3_enterAll_L61
  simp (disch := omega) only [ii_lit, ii_mul, ii_add, ii_neg, nm_eq, gd_inb, ii_nat, one_def, pL_r, pLr_c, pLr_r, clr_def]
  rw [show ((p : Int) * 61 + q).toNat = 61 * p + q by omega, show ((q : Int) * 61 + p).toNat = 61 * q + p by omega, show ((r : Int) * 61 + p).toNat = 61 * r + p by omega, show (((m + 1 : Nat) : Int) + -1) = (m : Int) by omega]
  rfl
theorem all_L (hc : -9 ≤ c ∧ c ≤ 9) (hL : M.1 k 4 = ii c) {x y : Int32} {zs : Int64} {p q : Nat} (hp : p < 61) (hq : q < 61) : ∀ (m N : Nat) (w : Int64) (f : Nat → Int64), cnt w = m → (∀ z, bt w z = true → z < 61) → m < N →
    ∃ g, fX3_enterAll_L39 F k x y zs N (ii p) (ii q) w (ii m) (pLr M 14 f) = some (pLr M 14 g) ∧ ∀ P Q R, Q < 61 → (Th g P Q R ↔ Th f P Q R ∨ ∃ z, bt w z = true ∧ tri p q (if c = 0 then p else z) P Q R)
  | 0, N + 1, w, f, h1, h2, h3 => by
    refine ⟨f, ?_, fun P Q R _ => ?_⟩
    · rw [fX3_enterAll_L39]; rfl
    · constructor
      · exact Or.inl
      · rintro (h | ⟨z, hz, -⟩)
        · exact h
        · rw [cnt_0 h1] at hz; cases hz
  | m + 1, N + 1, w, f, h1, h2, h3 => by
    have h4 : 0 < cnt w := by omega
    have h5 := cnt_clr h4
    have h6 := lo_ok h4
    have h7 := h2 _ h6.2.1
    have h8 := cnt_le w
    have hr : (if c = 0 then p else lo w) < 61 := by split <;> omega
    obtain ⟨g, g1, g2⟩ := all_L hc hL (x := x) (y := y) (zs := zs) hp hq m N (clr w) (add3 f p q (if c = 0 then p else lo w)) (by omega) (fun z hz => h2 z (by rw [bt_clr h4, Bool.and_eq_true] at hz; exact hz.1)) (by omega)
    refine ⟨g, ?_, fun P Q R hQ => ?_⟩
    · rw [fX3_enterAll_L39, ii_lit0, if_neg (by rw [ii_le] <;> omega), pLr_1, hL]
      simp (disch := omega) only [ii_eq]
      by_cases c0 : c = 0
      · rw [if_pos c0, all_61 _ hp hq hp]
        rw [if_pos c0] at g1
        exact g1
      · rw [if_neg c0, least_eq h4, bd_eq, all_61 _ hp hq h7]
        rw [if_neg c0] at g1
        exact g1
    · rw [g2 P Q R hQ, th_add3 hp hq hr hQ, or_assoc]
      constructor
      · rintro (h | h | ⟨z, hz, h⟩)
        · exact Or.inl h
        · exact Or.inr ⟨lo w, h6.2.1, h⟩
        · rw [bt_clr h4, Bool.and_eq_true] at hz
          exact Or.inr ⟨z, hz.1, h⟩
      · rintro (h | ⟨z, hz, h⟩)
        · exact Or.inl h
        · by_cases e : z = lo w
          · rw [e] at h; exact Or.inr (Or.inl h)
          · exact Or.inr (Or.inr ⟨z, by rw [bt_clr h4]; simp [hz, e], h⟩)
theorem all_eq (hF : 100000 ≤ F) (hk : 6 ≤ k ∧ k < 12) (hL : CL M k kd len a b c u) (ha : -9 ≤ a ∧ a ≤ 9) (hb : -9 ≤ b ∧ b ≤ 9) (hc : -9 ≤ c ∧ c ≤ 9) {x y : Nat} (hx : x < 61) (hy : y < 61) {w : Int64} (hw : ∀ z, bt w z = true → z < 61) (f : Nat → Int64) :
    ∃ g, fX3_enterAll F k (ii x) (ii y) w (pLr M 14 f) = some (pLr M 14 g) ∧ ∀ P Q R, Q < 61 → (Th g P Q R ↔ Th f P Q R ∨ ∃ z, bt w z = true ∧ EE a b c x y z P Q R) := by
  have h8 := cnt_le w
  obtain ⟨-, -, l2, l3, l4, -⟩ := hL
  unfold fX3_enterAll
  rw [isLaw_t hk.1 hk.2, gd_eq, pLr_1, l2]
  unfold fX3_enterAll_L12
  rw [pLr_1, l3]
  simp (disch := omega) only [ii_lit, ii_eq, bitCount_eq, bd_eq]
  unfold EE
  by_cases a0 : a = 0
  · simp only [if_pos a0]
    by_cases b0 : b = 0
    · simp only [if_pos b0]
      exact all_L hc l4 hy hx (cnt w) F w f rfl hw (by omega)
    · simp only [if_neg b0]
      exact all_L hc l4 hy hy (cnt w) F w f rfl hw (by omega)
  · simp only [if_neg a0]
    by_cases b0 : b = 0
    · simp only [if_pos b0]
      exact all_L hc l4 hx hx (cnt w) F w f rfl hw (by omega)
    · simp only [if_neg b0]
      exact all_L hc l4 hx hy (cnt w) F w f rfl hw (by omega)
theorem from_L (hF : 100000 ≤ F) (hG : GV s n fi la) (hC : CG s n fi la M) (hk : 6 ≤ k ∧ k < 12) (hkd : kd ≤ 4) (hL : CL M k kd len a b c u) (ha : -9 ≤ a ∧ a ≤ 9) (hb : -9 ≤ b ∧ b ≤ 9) (hc : -9 ≤ c ∧ c ≤ 9) (hA : Ans s n fi la c (M.2 13)) {x : Nat} (hx : x ≤ la) : ∀ (m N y : Nat) (f : Nat → Int64), y + m = la + 1 → m < N →
    ∃ g, fX3_enterFrom_L18 F k (ii x) N (chs b (M.2 3 4)) (ii y) (pLr M 14 f) = some (pLr M 14 g) ∧ ∀ P Q R, Q < 61 → (Th g P Q R ↔ Th f P Q R ∨ ∃ y' z, y ≤ y' ∧ chb b (fullB fi la) y' = true ∧ T3 s n fi la kd a b c u x y' z = true ∧ EE a b c x y' z P Q R)
  | 0, N + 1, y, f, h1, h2 => by
    have hg := hG.b
    refine ⟨f, ?_, fun P Q R _ => ?_⟩
    · rw [fX3_enterFrom_L18, pLr_1, hC.2.2.2.1, if_pos (by rw [ii_lt] <;> omega)]
    · constructor
      · exact Or.inl
      · rintro (h | ⟨y', z, h3, h4, -⟩)
        · exact h
        · have := chb_le h4; omega
  | m + 1, N + 1, y, f, h1, h2 => by
    have hg := hG.b
    have hcy : bt (chs b (M.2 3 4)) y = chb b (fullB fi la) y := by
      rw [bt_chs]
      unfold chb fullB
      rw [hC.2.2.2.2 y]
    have hsm : Sm [14] M (pLr M 14 f) := Sm.lr (by decide)
    rw [fX3_enterFrom_L18, pLr_1, hC.2.2.2.1, if_neg (by rw [ii_lt] <;> omega)]
    simp only [nm_eq]
    rw [sr_def]
    have hs := sr_cmp (x := y) (by omega) (chs b (M.2 3 4))
    rw [ii_lit1, ii_add, show ((y : Int) + 1) = ((y + 1 : Nat) : Int) by omega]
    cases hbb : chb b (fullB fi la) y with
    | false =>
      rw [if_pos (hs.mpr (by rw [hcy, hbb]))]
      obtain ⟨g, g1, g2⟩ := from_L hF hG hC hk hkd hL ha hb hc hA hx m N (y + 1) f (by omega) (by omega)
      refine ⟨g, g1, fun P Q R hQ => ?_⟩
      rw [g2 P Q R hQ]
      constructor
      · rintro (h | ⟨y', z, h3, h4⟩)
        · exact Or.inl h
        · exact Or.inr ⟨y', z, by omega, h4⟩
      · rintro (h | ⟨y', z, h3, h4⟩)
        · exact Or.inl h
        · refine Or.inr ⟨y', z, ?_, h4⟩
          rcases Nat.lt_or_ge y y' with q | q
          · exact q
          · rw [show y' = y by omega, hbb] at h4; cases h4.1
    | true =>
      rw [if_neg (fun e => by rw [hs.mp e] at hcy; rw [← hcy] at hbb; cases hbb)]
      obtain ⟨w, w1, w2⟩ := fitting_eq hF hG (hC.sm hsm (by decide)) hk hkd (hL.sm hsm (by simp; omega)) ha hb hc (by rw [pLr_d (by decide)]; exact hA) hx (show y ≤ la by omega)
      rw [w1, bd_eq]
      obtain ⟨f', f1, f2⟩ := all_eq hF hk hL ha hb hc (show x < 61 by omega) (show y < 61 by omega) (w := w) (fun z hz => by rw [w2] at hz; have := T3_le hz; omega) f
      rw [f1, bv_eq]
      obtain ⟨g, g1, g2⟩ := from_L hF hG hC hk hkd hL ha hb hc hA hx m N (y + 1) f' (by omega) (by omega)
      refine ⟨g, g1, fun P Q R hQ => ?_⟩
      rw [g2 P Q R hQ, f2 P Q R hQ, or_assoc]
      constructor
      · rintro (h | ⟨z, hz, h⟩ | ⟨y', z, h3, h4⟩)
        · exact Or.inl h
        · exact Or.inr ⟨y, z, by omega, hbb, by rw [← w2]; exact hz, h⟩
        · exact Or.inr ⟨y', z, by omega, h4⟩
      · rintro (h | ⟨y', z, h3, h4, h5, h6⟩)
        · exact Or.inl h
        · rcases Nat.lt_or_ge y y' with q | q
          · exact Or.inr (Or.inr ⟨y', z, q, h4, h5, h6⟩)
          · have e : y' = y := by omega
            subst e
            exact Or.inr (Or.inl ⟨z, by rw [w2]; exact h5, h6⟩)
theorem from_eq (hF : 100000 ≤ F) (hG : GV s n fi la) (hC : CG s n fi la M) (hk : 6 ≤ k ∧ k < 12) (hkd : kd ≤ 4) (hL : CL M k kd len a b c u) (ha : -9 ≤ a ∧ a ≤ 9) (hb : -9 ≤ b ∧ b ≤ 9) (hc : -9 ≤ c ∧ c ≤ 9) (hA : Ans s n fi la c (M.2 13)) {x : Nat} (hx : x ≤ la) (f : Nat → Int64) :
    ∃ g, fX3_enterFrom F k (ii x) (pLr M 14 f) = some (pLr M 14 g) ∧ ∀ P Q R, Q < 61 → (Th g P Q R ↔ Th f P Q R ∨ ∃ y z, chb b (fullB fi la) y = true ∧ T3 s n fi la kd a b c u x y z = true ∧ EE a b c x y z P Q R) := by
  have hg := hG.b
  unfold fX3_enterFrom
  rw [isLaw_t hk.1 hk.2, gd_eq, pLr_1, hL.2.2.2.1, choices_eq hb, bd_eq, pLr_d (by decide), ii_lit0]
  obtain ⟨g, g1, g2⟩ := from_L hF hG hC hk hkd hL ha hb hc hA hx (la + 1) F 0 f (by omega) (by omega)
  refine ⟨g, g1, fun P Q R hQ => ?_⟩
  rw [g2 P Q R hQ]
  simp only [Nat.zero_le, true_and]
theorem enter_L (hF : 100000 ≤ F) (hG : GV s n fi la) (hC : CG s n fi la M) (hk : 6 ≤ k ∧ k < 12) (hkd : kd ≤ 4) (hL : CL M k kd len a b c u) (ha : -9 ≤ a ∧ a ≤ 9) (hb : -9 ≤ b ∧ b ≤ 9) (hc : -9 ≤ c ∧ c ≤ 9) (hA : Ans s n fi la c (M.2 13)) : ∀ (m N x : Nat) (f : Nat → Int64), x + m = la + 1 → m < N →
    ∃ g, fX3_enter_L23 F k N (chs a (M.2 3 4)) (ii x) (pLr M 14 f) = some (pLr M 14 g) ∧ ∀ P Q R, Q < 61 → (Th g P Q R ↔ Th f P Q R ∨ ∃ x' y z, x ≤ x' ∧ chb a (fullB fi la) x' = true ∧ chb b (fullB fi la) y = true ∧ T3 s n fi la kd a b c u x' y z = true ∧ EE a b c x' y z P Q R)
  | 0, N + 1, x, f, h1, h2 => by
    have hg := hG.b
    refine ⟨f, ?_, fun P Q R _ => ?_⟩
    · rw [fX3_enter_L23, pLr_1, hC.2.2.2.1, if_pos (by rw [ii_lt] <;> omega)]
    · constructor
      · exact Or.inl
      · rintro (h | ⟨x', y, z, h3, h4, -⟩)
        · exact h
        · have := chb_le h4; omega
  | m + 1, N + 1, x, f, h1, h2 => by
    have hg := hG.b
    have hcy : bt (chs a (M.2 3 4)) x = chb a (fullB fi la) x := by
      rw [bt_chs]
      unfold chb fullB
      rw [hC.2.2.2.2 x]
    rw [fX3_enter_L23, pLr_1, hC.2.2.2.1, if_neg (by rw [ii_lt] <;> omega)]
    simp only [nm_eq]
    rw [sr_def]
    have hs := sr_cmp (x := x) (by omega) (chs a (M.2 3 4))
    rw [ii_lit1, ii_add, show ((x : Int) + 1) = ((x + 1 : Nat) : Int) by omega]
    cases hbb : chb a (fullB fi la) x with
    | false =>
      rw [if_pos (hs.mpr (by rw [hcy, hbb]))]
      obtain ⟨g, g1, g2⟩ := enter_L hF hG hC hk hkd hL ha hb hc hA m N (x + 1) f (by omega) (by omega)
      refine ⟨g, g1, fun P Q R hQ => ?_⟩
      rw [g2 P Q R hQ]
      constructor
      · rintro (h | ⟨x', y, z, h3, h4⟩)
        · exact Or.inl h
        · exact Or.inr ⟨x', y, z, by omega, h4⟩
      · rintro (h | ⟨x', y, z, h3, h4⟩)
        · exact Or.inl h
        · refine Or.inr ⟨x', y, z, ?_, h4⟩
          rcases Nat.lt_or_ge x x' with q | q
          · exact q
          · rw [show x' = x by omega, hbb] at h4; cases h4.1
    | true =>
      rw [if_neg (fun e => by rw [hs.mp e] at hcy; rw [← hcy] at hbb; cases hbb)]
      obtain ⟨f', f1, f2⟩ := from_eq hF hG hC hk hkd hL ha hb hc hA (show x ≤ la by omega) f
      rw [f1, bv_eq]
      obtain ⟨g, g1, g2⟩ := enter_L hF hG hC hk hkd hL ha hb hc hA m N (x + 1) f' (by omega) (by omega)
      refine ⟨g, g1, fun P Q R hQ => ?_⟩
      rw [g2 P Q R hQ, f2 P Q R hQ, or_assoc]
      constructor
      · rintro (h | ⟨y, z, h⟩ | ⟨x', y, z, h3, h4⟩)
        · exact Or.inl h
        · exact Or.inr ⟨x, y, z, by omega, hbb, h⟩
        · exact Or.inr ⟨x', y, z, by omega, h4⟩
      · rintro (h | ⟨x', y, z, h3, h4, h5⟩)
        · exact Or.inl h
        · rcases Nat.lt_or_ge x x' with q | q
          · exact Or.inr (Or.inr ⟨x', y, z, q, h4, h5⟩)
          · have e : x' = x := by omega
            subst e
            exact Or.inr (Or.inl ⟨y, z, h5⟩)
/-- a law's CLASHES as entered -/
def EL (s n fi la kd : Nat) (a b c : Int) (u : Bool) (P Q R : Nat) : Prop := ∃ x y z, chb a (fullB fi la) x = true ∧ chb b (fullB fi la) y = true ∧ T3 s n fi la kd a b c u x y z = true ∧ EE a b c x y z P Q R
theorem enter_eq (hF : 100000 ≤ F) (hG : GV s n fi la) (hC : CG s n fi la M) (hk : 6 ≤ k ∧ k < 12) (hkd : kd ≤ 4) (hL : CL M k kd len a b c u) (ha : -9 ≤ a ∧ a ≤ 9) (hb : -9 ≤ b ∧ b ≤ 9) (hc : -9 ≤ c ∧ c ≤ 9) (f h : Nat → Int64) :
    ∃ h' g, fX3_enter F k (pLr (pLr M 13 h) 14 f) = some (pLr (pLr M 13 h') 14 g) ∧ ∀ P Q R, Q < 61 → (Th g P Q R ↔ Th f P Q R ∨ EL s n fi la kd a b c u P Q R) := by
  have hg := hG.b
  unfold fX3_enter
  have h1 : Sm [13, 14] M (pLr (pLr M 13 h) 14 f) := (Sm.lr (c := 13) (by decide)).tr (Sm.lr (by decide))
  obtain ⟨h', e1, e2⟩ := take_eq hF hG (hC.sm h1 (by decide)) hk (by rw [pLr_1, pLr_1]; exact hL.2.2.2.2.1) hc
  rw [isLaw_t hk.1 hk.2, gd_eq, e1, bv_eq, pLr_comm _ (show 14 ≠ 13 by decide), pLr_r, pLr_1, pLr_1, hL.2.2.1, choices_eq ha, bd_eq, pLr_d (by decide), ii_lit0]
  have h2 : Sm [13] M (pLr M 13 h') := Sm.lr (by decide)
  obtain ⟨g, g1, g2⟩ := enter_L (M := pLr M 13 h') hF hG (hC.sm h2 (by decide)) hk hkd (hL.sm h2 (by simp; omega)) ha hb hc (by rw [pLr_c]; exact e2) (la + 1) F 0 f (by omega) (by omega)
  refine ⟨h', g, g1, fun P Q R hQ => ?_⟩
  rw [g2 P Q R hQ]
  simp only [Nat.zero_le, true_and]
  rfl
theorem long_eq {F k : Nat} {M : Mem} {l : LawT} {a b c : Int} {u : Bool} (hk : 6 ≤ k ∧ k < 12) (hV : LV l) (hL : CL M k (lk l) (lA l) a b c u) : fX2_isLongRow F k M = some (bi (decide (lk l = 0 ∧ 3 < lA l)), M) := by
  unfold fX2_isLongRow
  have h4 := hV.1
  have h5 := hV.2.1
  rw [isLaw_t hk.1 hk.2, gd_eq, hL.1, hL.2.1]
  simp (disch := omega) only [ii_lit, ii_eq, ii_le]
  by_cases q : lk l = 0
  · rw [if_pos (by omega)]
    by_cases q2 : lA l ≤ 3
    · rw [if_pos q2, decide_eq_false (by omega)]; rfl
    · rw [if_neg q2, decide_eq_true (by omega)]; rfl
  · rw [if_neg (by omega), decide_eq_false (by omega)]; rfl
/-- the table of all laws from i on -/
def ELs (s n fi la m i : Nat) (ls : Nat → LawT) (P Q R : Nat) : Prop := ∃ j, i ≤ j ∧ j < m ∧ tbl (ls j) ∧ EL s n fi la (lk (ls j)) (wa (ls j)) (wb (ls j)) (wc (ls j)) (wu (ls j)) P Q R
theorem ready_L (hF : 100000 ≤ F) (hG : GV s n fi la) (hC : CG s n fi la M) {m : Nat} {ls : Nat → LawT} (hL : CLs M m ls) : ∀ (j N i : Nat) (f h : Nat → Int64), i + j = m → j < N →
    ∃ h' g, fX3_makeReady_L18 F N (ii i) (pLr (pLr M 13 h) 14 f) = some (pI (pLr (pLr M 13 h') 14 g) 4 6 1) ∧ ∀ P Q R, Q < 61 → (Th g P Q R ↔ Th f P Q R ∨ ELs s n fi la m i ls P Q R)
  | 0, N + 1, i, f, h, h1, h2 => by
    have hm := hL.2.1
    refine ⟨h, f, ?_, fun P Q R _ => ?_⟩
    · rw [fX3_makeReady_L18, pLr_1, pLr_1, hL.1, if_pos (by rw [ii_le] <;> omega)]; rfl
    · constructor
      · exact Or.inl
      · rintro (h | ⟨j, h3, h4, -⟩)
        · exact h
        · omega
  | j + 1, N + 1, i, f, h, h1, h2 => by
    have hm := hL.2.1
    obtain ⟨hV, hl⟩ := hL.2.2 i (by omega)
    have h4 := hV.1
    have hs : Sm [13, 14] M (pLr (pLr M 13 h) 14 f) := (Sm.lr (c := 13) (by decide)).tr (Sm.lr (by decide))
    have key : ¬ tbl (ls i) → ∀ P Q R, (ELs s n fi la m (i + 1) ls P Q R ↔ ELs s n fi la m i ls P Q R) := by
      intro hn P Q R
      constructor
      · rintro ⟨j, j1, j2⟩; exact ⟨j, by omega, j2⟩
      · rintro ⟨j, j1, j2, j3, j4⟩
        refine ⟨j, ?_, j2, j3, j4⟩
        rcases Nat.lt_or_ge i j with q | q
        · exact q
        · rw [show j = i by omega] at j3; exact absurd j3 hn
    rw [fX3_makeReady_L18, pLr_1, pLr_1, hL.1, if_neg (by rw [ii_le] <;> omega)]
    simp (disch := omega) only [gd_inb, nm_eq, ii_nat, ii_lit, ii_add]
    rw [show (6 + (i : Int).toNat) = 6 + i by omega, hl.1, show ((i : Int) + 1) = ((i + 1 : Nat) : Int) by omega]
    simp (disch := omega) only [ii_eq]
    by_cases q3 : lk (ls i) = 3
    · rw [if_pos (by omega)]
      obtain ⟨h', g, g1, g2⟩ := ready_L hF hG hC hL j N (i + 1) f h (by omega) (by omega)
      exact ⟨h', g, g1, fun P Q R hQ => by rw [g2 P Q R hQ, key (fun t => t.1 q3)]⟩
    · rw [if_neg (by omega), long_eq ⟨by omega, by omega⟩ hV (hl.sm hs (by simp; omega)), bd_eq]
      by_cases q4 : lk (ls i) = 0 ∧ 3 < lA (ls i)
      · rw [decide_eq_true q4, if_neg (by decide)]
        obtain ⟨h', g, g1, g2⟩ := ready_L hF hG hC hL j N (i + 1) f h (by omega) (by omega)
        exact ⟨h', g, g1, fun P Q R hQ => by rw [g2 P Q R hQ, key (fun t => t.2 q4)]⟩
      · rw [decide_eq_false q4, if_pos (by decide)]
        obtain ⟨h1', f', e1, e2⟩ := enter_eq hF hG hC (k := 6 + i) ⟨by omega, by omega⟩ h4 hl hV.war hV.wbr hV.wcr f h
        rw [e1, bv_eq]
        obtain ⟨h', g, g1, g2⟩ := ready_L hF hG hC hL j N (i + 1) f' h1' (by omega) (by omega)
        refine ⟨h', g, g1, fun P Q R hQ => ?_⟩
        rw [g2 P Q R hQ, e2 P Q R hQ, or_assoc]
        constructor
        · rintro (h | h | ⟨j, j1, j2⟩)
          · exact Or.inl h
          · exact Or.inr ⟨i, by omega, by omega, ⟨q3, q4⟩, h⟩
          · exact Or.inr ⟨j, by omega, j2⟩
        · rintro (h | ⟨j, j1, j2, j3, j4⟩)
          · exact Or.inl h
          · rcases Nat.lt_or_ge i j with q | q
            · exact Or.inr (Or.inr ⟨j, q, j2, j3, j4⟩)
            · rw [show j = i by omega] at j4; exact Or.inr (Or.inl j4)
/-- the table is right for the laws -/
def TH (s n fi la m : Nat) (ls : Nat → LawT) (M : Mem) : Prop := ∀ P Q R, P < 61 → Q < 61 → (Th (M.2 14) P Q R ↔ ELs s n fi la m 0 ls P Q R)
theorem ready_eq (hF : 100000 ≤ F) (hG : GV s n fi la) (hC : CG s n fi la M) {m : Nat} {ls : Nat → LawT} (hL : CLs M m ls) (hT : M.1 4 6 ≠ 0 → TH s n fi la m ls M) :
    ∃ M', fX3_makeReady F M = some M' ∧ Sm [4, 13, 14] M M' ∧ M'.1 4 = upd (M.1 4) 6 (M'.1 4 6) ∧ M'.1 4 6 ≠ 0 ∧ TH s n fi la m ls M' ∧ CLs M' m ls ∧ CG s n fi la M' := by
  have hm := hL.2.1
  unfold fX3_makeReady
  by_cases q : M.1 4 6 = 0
  · rw [if_pos q, fill14_eq hF, bv_eq, ii_lit0]
    have hs0 : pLr M 14 (fun j => if j < 3721 then 0 else M.2 14 j) = pLr (pLr M 13 (M.2 13)) 14 (fun j => if j < 3721 then 0 else M.2 14 j) := by rw [pLr_id]
    obtain ⟨h', g, g1, g2⟩ := ready_L hF hG hC hL m F 0 (fun j => if j < 3721 then 0 else M.2 14 j) (M.2 13) (by omega) (by omega)
    rw [← hs0] at g1
    have hsm : Sm [4, 13, 14] M (pI (pLr (pLr M 13 h') 14 g) 4 6 1) := ((Sm.lr (c := 13) (by decide)).tr (Sm.lr (by decide))).tr (Sm.i (by decide))
    refine ⟨_, g1, hsm, ?_, ?_, ?_, ?_, hC.sm hsm (by decide)⟩
    · rw [pI_c, up_c]; rfl
    · rw [pI_at, if_pos ⟨rfl, rfl⟩]; decide
    · intro P Q R hP hQ
      rw [pI_2, pLr_c, g2 P Q R hQ]
      constructor
      · rintro (h | h)
        · have h0 : bt (if 61 * P + Q < 3721 then 0 else M.2 14 (61 * P + Q)) R = true := h
          rw [if_pos (by omega), bt_0] at h0; cases h0
        · exact h
      · exact Or.inr
    · exact (hL.sm (cs := [13, 14]) ((Sm.lr (c := 13) (by decide)).tr (Sm.lr (by decide))) (by intro c h1 h2; simp; omega)).t 1
  · rw [if_neg q]
    exact ⟨M, rfl, Sm.rf, (fa_upd_same rfl).symm, q, hT q, hL, hC⟩
end RD
