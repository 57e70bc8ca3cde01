/-! a set moved; two of a set as far apart as two others; steps from a number -/
/-- what a set may be moved by -/
def VD (s n la : Nat) (d : Int) : Prop := (s = 0 → -60 ≤ d ∧ d ≤ 60) ∧ (s = 1 → 0 ≤ d ∧ d < n) ∧ (s = 2 → 0 ≤ d ∧ d ≤ la)
theorem VD.of {s n fi la : Nat} (hG : GV s n fi la) {x y : Int} (hx : 0 ≤ x ∧ x ≤ la) (hy : 0 ≤ y ∧ y ≤ la) : VD s n la (mx s n 1 x (-1) y) := by
  have hg := hG.b
  by_cases h0 : s = 0
  · subst h0
    rw [mx_0]
    exact ⟨fun _ => by omega, fun h => by omega, fun h => by omega⟩
  · have := mx_g hG h0 1 (-1) hx hy
    refine ⟨fun h => absurd h h0, fun h => ?_, fun _ => this⟩
    unfold GV at hG
    omega
theorem VD.ca {s n fi la : Nat} (hG : GV s n fi la) {d : Int} (h : VD s n la d) : Ca s n d := by
  refine ⟨h.2.1, fun q => ?_⟩
  have := h.2.2 q
  unfold GV at hG
  omega
theorem VD.va {s n fi la : Nat} (hG : GV s n fi la) {d : Int} (h : VD s n la d) : VA s la d := by
  have hg := hG.b
  refine ⟨?_, ?_, h.2.2⟩
  · rcases (show s = 0 ∨ s = 1 ∨ s = 2 by omega) with q | q | q
    · have := h.1 q; omega
    · have := h.2.1 q; omega
    · have := h.2.2 q; omega
  · rcases (show s = 0 ∨ s = 1 ∨ s = 2 by omega) with q | q | q
    · have := h.1 q; omega
    · have := h.2.1 q; omega
    · have := h.2.2 q; omega
theorem full_t {fi la t : Nat} (h : fi ≤ t) (h2 : t ≤ la) : fullB fi la t = true := decide_eq_true ⟨h, h2⟩
theorem bt_sup {fi la : Nat} {w : Int64} (h : Sup fi la (bt w)) {x : Nat} (hx : ¬ (fi ≤ x ∧ x ≤ la)) : bt w x = false := by
  cases hb : bt w x with
  | false => rfl
  | true => exact absurd (h x hb) hx
theorem mm_neg {S : Nat → Bool} {x : Int} (h : x < 0) : mm S x = false := by unfold mm; rw [decide_eq_false (by omega)]; rfl
theorem mm_pos {S : Nat → Bool} {x : Int} (h : 0 ≤ x) : mm S x = S x.toNat := by unfold mm; rw [decide_eq_true h]; rfl
section MV
variable {F s n fi la : Nat} {M : Mem}
theorem movedT_L (hF : 100000 ≤ F) (hG : GV 2 n fi la) (hC : CG 2 n fi la M) {d : Int} (hd : 0 ≤ d ∧ d ≤ la) {w : Int64} : ∀ (m N x : Nat) (v : Int64), x + m = la + 1 → m < N →
    ∃ v', fX1_movedThrees_L9 F w (ii d) N v (ii x) M = some (v', M) ∧ ∀ t : Nat, bt v' t = true ↔ bt v t = true ∨ ∃ y, x ≤ y ∧ y ≤ la ∧ bt w y = true ∧ mx 2 n 1 y 1 d = t
  | 0, N + 1, x, v, h1, h2 => by
    have hg := hG.b
    refine ⟨v, ?_, fun t => ⟨Or.inl, ?_⟩⟩
    · rw [fX1_movedThrees_L9, hC.2.2.2.1, if_pos (by rw [ii_lt] <;> omega)]
    · rintro (h | ⟨y, y1, y2, -⟩)
      · exact h
      · omega
  | m + 1, N + 1, x, v, h1, h2 => by
    have hg := hG.b
    rw [fX1_movedThrees_L9, hC.2.2.2.1, if_neg (by rw [ii_lt] <;> omega)]
    simp only [nm_eq]
    rw [sr_def, ii_lit1, ii_add, show ((x : Int) + 1) = ((x + 1 : Nat) : Int) by omega]
    have hs := sr_cmp (x := x) (by omega) w
    cases hb : bt w x with
    | false =>
      rw [if_pos (hs.mpr hb)]
      obtain ⟨v', e1, e2⟩ := movedT_L hF hG hC hd m N (x + 1) v (by omega) (by omega)
      refine ⟨v', e1, fun t => ?_⟩
      rw [e2 t]
      constructor
      · rintro (h | ⟨y, y1, y2⟩)
        · exact Or.inl h
        · exact Or.inr ⟨y, by omega, y2⟩
      · rintro (h | ⟨y, y1, y2, y3, y4⟩)
        · exact Or.inl h
        · refine Or.inr ⟨y, ?_, y2, y3, y4⟩
          rcases Nat.lt_or_ge x y with q | q
          · exact q
          · rw [show y = x by omega, hb] at y3; cases y3
    | true =>
      rw [if_neg (fun e => by rw [hs.mp e] at hb; cases hb)]
      have hm := mx_g hG (by decide) 1 1 (x := x) (y := d) (by omega) hd
      have he : fX1_mixThrees F (ii 1) (ii x) (ii 1) (ii d) M = some (ii (mx 2 n 1 x 1 d), M) := by
        rcases hG with ⟨h, -⟩ | ⟨h, -⟩ | ⟨-, h3, -⟩
        · cases h
        · cases h
        · exact mixThrees_eq hF hC.2.1 h3 (by omega) (by omega) (by omega) hd
      rw [he, bd_eq]
      simp only [one_def]
      obtain ⟨z, hz⟩ : ∃ z : Nat, mx 2 n 1 x 1 d = z := ⟨(mx 2 n 1 x 1 d).toNat, by omega⟩
      rw [hz] at hm ⊢
      obtain ⟨v', e1, e2⟩ := movedT_L hF hG hC hd m N (x + 1) (v ||| one z) (by omega) (by omega)
      refine ⟨v', e1, fun t => ?_⟩
      rw [e2 t, bt_or, bt_one (by omega), Bool.or_eq_true, decide_eq_true_eq, or_assoc]
      constructor
      · rintro (h | h | ⟨y, y1, y2⟩)
        · exact Or.inl h
        · exact Or.inr ⟨x, by omega, by omega, hb, by rw [hz, h]⟩
        · exact Or.inr ⟨y, by omega, y2⟩
      · rintro (h | ⟨y, y1, y2, y3, y4⟩)
        · exact Or.inl h
        · rcases Nat.lt_or_ge x y with q | q
          · exact Or.inr (Or.inr ⟨y, q, y2, y3, y4⟩)
          · rw [show y = x by omega, hz] at y4
            exact Or.inr (Or.inl (by omega))
theorem moved_eq (hF : 100000 ≤ F) (hG : GV s n fi la) (hC : CG s n fi la M) {d : Int} (hd : VD s n la d) {w : Int64} (hS : Sup fi la (bt w)) :
    ∃ w', fX1_moved F w (ii d) M = some (w', M) ∧ ∀ t : Nat, bt w' t = (fullB fi la t && mm (bt w) (mx s n 1 t (-1) d)) := by
  have hg := hG.b
  unfold fX1_moved
  rw [hC.1, hC.2.1]
  simp (disch := omega) only [ii_lit, ii_eq, ii_sub, ii_neg, nm_eq, sr_def]
  have hfu : ∀ t, bt (M.2 3 4) t = fullB fi la t := hC.2.2.2.2
  rcases (show s = 0 ∨ s = 1 ∨ s = 2 by omega) with rfl | rfl | rfl
  · rw [if_neg (by decide), if_neg (by decide)]
    have h0 := hd.1 rfl
    simp (disch := omega) only [ii_le]
    by_cases q : 0 ≤ d
    · rw [if_pos q]
      refine ⟨_, rfl, fun t => ?_⟩
      obtain ⟨e, rfl⟩ : ∃ e : Nat, d = e := ⟨d.toNat, by omega⟩
      rw [bt_and, hfu, Bool.and_comm]
      cases hf : fullB fi la t with
      | false => rfl
      | true =>
        have hf := of_decide_eq_true hf
        rw [show w <<< ((ii (e : Int)).toInt64 &&& 63) = sl w e from rfl, bt_sl (by omega) w (by omega), mx_0]
        by_cases q2 : e ≤ t
        · rw [mm_pos (by omega), show ((1 : Int) * t + -1 * e).toNat = t - e by omega, decide_eq_true q2]; rfl
        · rw [mm_neg (by omega), decide_eq_false q2]; rfl
    · rw [if_neg q]
      refine ⟨_, rfl, fun t => ?_⟩
      obtain ⟨e, he⟩ : ∃ e : Nat, -d = e := ⟨(-d).toNat, by omega⟩
      rw [he, bt_and, hfu, Bool.and_comm]
      cases hf : fullB fi la t with
      | false => rfl
      | true => rw [bt_sr (by omega), mx_0, mm_pos (by omega), show ((1 : Int) * t + -1 * d).toNat = e + t by omega]
  · rw [if_pos (by decide)]
    have h0 := hd.2.1 rfl
    refine ⟨_, rfl, fun t => ?_⟩
    obtain ⟨e, rfl⟩ : ∃ e : Nat, d = e := ⟨d.toNat, by omega⟩
    rw [bt_and, hfu, Bool.and_comm]
    cases hf : fullB fi la t with
    | false => rfl
    | true =>
      have hf := of_decide_eq_true hf
      have hn : la + 1 = n ∧ fi = 0 := by unfold GV at hG; omega
      rw [show w <<< ((ii (e : Int)).toInt64 &&& 63) = sl w e from rfl, bt_or, bt_sl (by omega) w (by omega), show ((n : Int) - e) = ((n - e : Nat) : Int) by omega, bt_sr (by omega), mx_1]
      by_cases q2 : e ≤ t
      · rw [Int.emod_eq_of_lt (by omega) (by omega), mm_pos (by omega), show ((1 : Int) * t + -1 * e).toNat = t - e by omega, decide_eq_true q2, bt_sup hS (x := n - e + t) (by omega)]
        simp
      · rw [← Int.add_emod_right, Int.emod_eq_of_lt (by omega) (by omega), mm_pos (by omega), show ((1 : Int) * t + -1 * e + n).toNat = n - e + t by omega, decide_eq_false q2]
        simp
  · rw [if_neg (by decide), if_pos (by decide)]
    have h0 := hd.2.2 rfl
    have hfi : fi = 0 := by unfold GV at hG; omega
    unfold fX1_movedThrees
    simp only [nm_eq]
    rw [hC.2.2.1]
    obtain ⟨v', e1, e2⟩ := movedT_L hF hG hC h0 (w := w) (la + 1 - fi) F fi 0 (by omega) (by omega)
    rw [e1, bd_eq]
    refine ⟨v', rfl, fun t => ?_⟩
    rw [Bool.eq_iff_iff, e2 t, bt_0, Bool.and_eq_true]
    have hcd := hd.ca hG
    constructor
    · rintro (h | ⟨y, y1, y2, y3, y4⟩)
      · cases h
      · have hm := mx_g hG (by decide) 1 1 (x := y) (y := d) (by omega) h0
        refine ⟨full_t (by omega) (by omega), ?_⟩
        have hb := mx_step hG (x := y) (Ca.g hG (by omega) (by omega)) hcd 1 (-1)
        rw [y4, show (1 : Int) + -1 = 0 from rfl, mx_zero hG (Ca.g hG (by omega) (by omega)) hcd] at hb
        rw [hb, mm_nat]; exact y3
    · rintro ⟨h1, h2⟩
      have h1 := of_decide_eq_true h1
      obtain ⟨k1, k2, y, k3, k4⟩ := mm_sup hS h2
      refine Or.inr ⟨y, by omega, by omega, k4, ?_⟩
      have hb := mx_step hG (x := t) (Ca.g hG (by omega) (by omega)) hcd (-1) 1
      rw [show (-1 : Int) + 1 = 0 from rfl, mx_zero hG (Ca.g hG (by omega) (by omega)) hcd, k3] at hb
      exact hb
/-- how many steps stay in the set; 0, if they come back -/
def stp (S : Nat → Bool) (x : Int) (g : Nat → Int) : Nat → Nat → Nat
  | 0, i => i
  | k + 1, i => if g (i + 1) = x then 0 else if mm S (g (i + 1)) then stp S x g k (i + 1) else i
theorem steps_L (hF : 100000 ≤ F) (hG : GV s n fi la) (hC : CG s n fi la M) {d : Int} (hd : VD s n la d) {w : Int64} (hS : Sup fi la (bt w)) {x : Nat} (hx : x ≤ la) {sg : Int} (hsg : sg = 1 ∨ sg = -1) {most : Nat} (hm : most ≤ 5) : ∀ (k N i : Nat), i + k = most → k < N →
    (0 ≤ mx s n 1 x (sg * i) d ∧ mx s n 1 x (sg * i) d ≤ la) → fX3_stepsWithin_L6 F w (ii x) (ii sg) (ii d) (ii most) N (ii (mx s n 1 x (sg * i) d)) (ii i) M = some (ii (stp (bt w) x (fun j => mx s n 1 x (sg * j) d) k i), M)
  | 0, N + 1, i, h1, h2, h3 => by
    rw [fX3_stepsWithin_L6, if_pos (by rw [ii_le] <;> omega), show i = most by omega]
    rfl
  | k + 1, N + 1, i, h1, h2, h3 => by
    have hg := hG.b
    rw [fX3_stepsWithin_L6, if_neg (by rw [ii_le] <;> omega), ii_lit1, mix_eq hF hG hC (by omega) (by omega) (VA.g hG h3.1 h3.2) (hd.va hG), bd_eq, mx_step hG (Ca.g hG (by omega) (by omega)) (hd.ca hG)]
    have e1 : sg * (i : Int) + sg = sg * ((i + 1 : Nat) : Int) := by
      rcases hsg with rfl | rfl <;> omega
    rw [e1]
    have hr : -200 ≤ mx s n 1 x (sg * ((i + 1 : Nat) : Int)) d ∧ mx s n 1 x (sg * ((i + 1 : Nat) : Int)) d ≤ 200 := by
      rw [← e1, ← mx_step hG (Ca.g hG (by omega) (by omega)) (hd.ca hG)]
      by_cases h0 : s = 0
      · subst h0
        have := hd.1 rfl
        generalize mx 0 n 1 x (sg * i) d = z at *
        rw [mx_0]
        rcases hsg with rfl | rfl <;> omega
      · have hdr : 0 ≤ d ∧ d ≤ la := by
          rcases (show s = 1 ∨ s = 2 by omega) with q | q
          · have := hd.2.1 q; unfold GV at hG; omega
          · exact hd.2.2 q
        have := mx_g hG h0 1 sg h3 hdr
        omega
    rw [stp]
    simp (disch := omega) only [ii_eq]
    by_cases q : mx s n 1 x (sg * ((i + 1 : Nat) : Int)) d = x
    · rw [if_pos q, if_pos q]; rfl
    · rw [if_neg q, if_neg q, isIn_eq hG hC hS (by omega) (by omega), bd_eq]
      cases hmm : mm (bt w) (mx s n 1 x (sg * ((i + 1 : Nat) : Int)) d) with
      | false => rw [if_pos (by decide)]; rfl
      | true =>
        rw [if_neg (by decide), if_pos rfl, nm_eq, ii_add, show ((i : Int) + 1) = ((i + 1 : Nat) : Int) by omega]
        have := mm_sup hS hmm
        exact steps_L hF hG hC hd hS hx hsg hm k N (i + 1) (by omega) (by omega) ⟨by omega, by omega⟩
theorem steps_eq (hF : 100000 ≤ F) (hG : GV s n fi la) (hC : CG s n fi la M) {d : Int} (hd : VD s n la d) {w : Int64} (hS : Sup fi la (bt w)) {x : Nat} (hx : x ≤ la) {sg : Int} (hsg : sg = 1 ∨ sg = -1) {most : Nat} (hm : most ≤ 5) :
    fX3_stepsWithin F w (ii x) (ii sg) (ii d) (ii most) M = some (ii (stp (bt w) x (fun j => mx s n 1 x (sg * j) d) most 0), M) := by
  have hg := hG.b
  have e0 : mx s n 1 x (sg * ((0 : Nat) : Int)) d = x := by
    rw [show sg * ((0 : Nat) : Int) = 0 by simp, mx_zero hG (Ca.g hG (by omega) (by omega)) (hd.ca hG)]
  have := steps_L hF hG hC hd hS hx hsg hm most F 0 (by omega) (by omega) (by rw [e0]; omega)
  rw [e0] at this
  exact this
end MV
