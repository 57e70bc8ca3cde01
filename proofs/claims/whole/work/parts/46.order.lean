/-! the ORDER of sets: they are listed in it, and the class finds a set's place -/
def ahd (S T : Nat → Bool) : Prop := ∃ x, S x = true ∧ T x = false ∧ ∀ y, y < x → S y = T y
theorem ahd_irr (S : Nat → Bool) : ¬ ahd S S := by
  rintro ⟨x, h1, h2, -⟩
  rw [h1] at h2; cases h2
theorem ahd_asym {S T : Nat → Bool} (h : ahd S T) : ¬ ahd T S := by
  rintro ⟨y, h1, h2, h3⟩
  obtain ⟨x, g1, g2, g3⟩ := h
  rcases Nat.lt_trichotomy x y with q | q | q
  · have := h3 x q; rw [g1, g2] at this; cases this
  · subst q; rw [g1] at h2; cases h2
  · have := g3 y q; rw [h1, h2] at this; cases this
theorem lowbit {w : Int64} (h : 0 < cnt w) : w &&& (-w) = one (lo w : Nat) := by
  obtain ⟨h1, h2, h3⟩ := lo_ok h
  apply bt_ext
  intro y hy
  rw [bt_and, bt_neg w hy, bt_one h1]
  cases hb : bt w y with
  | false =>
    rw [Bool.false_and]
    symm
    apply decide_eq_false
    intro e
    rw [e, h2] at hb; cases hb
  | true =>
    have : exb (bt w) y = decide (y ≠ lo w) := by
      rw [Bool.eq_iff_iff, exb_iff, decide_eq_true_eq]
      constructor
      · rintro ⟨x, hx, hbx⟩ e
        rw [h3 x (by omega)] at hbx; cases hbx
      · intro e
        refine ⟨lo w, ?_, h2⟩
        rcases Nat.lt_or_ge (lo w) y with q | q
        · exact q
        · rw [h3 y (by omega)] at hb; cases hb
    rw [this]
    by_cases e : y = lo w <;> simp [e]
theorem ahd_trans {S T U : Nat → Bool} (h : ahd S T) (h' : ahd T U) : ahd S U := by
  obtain ⟨x, a1, a2, a3⟩ := h
  obtain ⟨y, b1, b2, b3⟩ := h'
  rcases Nat.lt_trichotomy x y with q | q | q
  · exact ⟨x, a1, by rw [← b3 x q]; exact a2, fun z hz => (a3 z hz).trans (b3 z (by omega))⟩
  · subst q; rw [a2] at b1; cases b1
  · exact ⟨y, by rw [a3 y q]; exact b1, b2, fun z hz => (a3 z (by omega)).trans (b3 z hz)⟩
def gl (ll : List (Nat → Bool)) (i : Nat) : Nat → Bool := if h : i < ll.length then ll[i] else fun _ => false
theorem gl_lt {ll : List (Nat → Bool)} {i : Nat} (h : i < ll.length) : gl ll i = ll[i] := dif_pos h
def Fam (e : (Nat → Bool) × Nat) (T : Nat → Bool) : Prop := ∀ y, y < e.2 → T y = e.1 y
def JJ (p : Pl) (ll : List (Nat → Bool)) : Prop := ll.Pairwise ahd ∧ (∀ L ∈ ll, ∀ e ∈ p, ∀ T, Fam e T → ahd L T) ∧ p.Pairwise (fun e1 e2 => ∀ T1 T2, Fam e1 T1 → Fam e2 T2 → ahd T1 T2) ∧ (∀ e ∈ p, ∀ y, e.2 ≤ y → e.1 y = false)
theorem JJ_step {what la : Nat} {fl0 : Int} {kf : (Nat → Bool) → Nat → Bool} {S : Nat → Bool} {x : Nat} {p : Pl} {a : Ac} (h : JJ ((S, x) :: p) (aL a)) : JJ (astep what fl0 la kf S x p a).1 (aL (astep what fl0 la kf S x p a).2) := by
  obtain ⟨h1, h2, h3, h4⟩ := h
  have h3' := List.pairwise_cons.mp h3
  have hp : JJ p (aL a) := ⟨h1, fun L hL e he => h2 L hL e (List.mem_cons_of_mem _ he), h3'.2, fun e he => h4 e (List.mem_cons_of_mem _ he)⟩
  unfold astep atk
  split
  · exact hp
  · split
    · split
      · exact hp
      · split
        · split
          · exact ⟨h1, fun L _ e he => (by cases he), List.Pairwise.nil, fun e he => (by cases he)⟩
          · show JJ p (aL a ++ [S])
            refine ⟨?_, fun L hL e he T hT => ?_, h3'.2, hp.2.2.2⟩
            · rw [List.pairwise_append]
              refine ⟨h1, List.pairwise_singleton _ _, fun L hL T hT => ?_⟩
              rw [List.mem_singleton.mp hT]
              exact h2 L hL (S, x) List.mem_cons_self S (fun y _ => rfl)
            · rcases List.mem_append.mp hL with q | q
              · exact hp.2.1 L q e he T hT
              · rw [List.mem_singleton.mp q]
                exact h3'.1 e he S T (fun y _ => rfl) hT
        · exact hp
    · have hx := h4 (S, x) List.mem_cons_self
      have c2 : ∀ T, Fam (S, x + 1) T → Fam (S, x) T := fun T hT y hy => hT y (by show y < x + 1; have : y < x := hy; omega)
      have c1 : ∀ T, Fam (put S x true, x + 1) T → Fam (S, x) T := fun T hT y hy => by
        have hy : y < x := hy
        have := hT y (by show y < x + 1; omega)
        rw [this]
        exact put_d (by omega)
      have k1 : JJ ((S, x + 1) :: p) (aL a) := by
        refine ⟨h1, fun L hL e he T hT => ?_, List.pairwise_cons.mpr ⟨fun e he T1 T2 f1 f2 => h3'.1 e he T1 T2 (c2 T1 f1) f2, h3'.2⟩, fun e he y hy => ?_⟩
        · rcases List.mem_cons.mp he with q | q
          · subst q; exact h2 L hL (S, x) List.mem_cons_self T (c2 T hT)
          · exact hp.2.1 L hL e q T hT
        · rcases List.mem_cons.mp he with q | q
          · subst q; exact hx y (by show x ≤ y; have : x + 1 ≤ y := hy; omega)
          · exact hp.2.2.2 e q y hy
      split
      · obtain ⟨j1, j2, j3, j4⟩ := k1
        refine ⟨h1, fun L hL e he T hT => ?_, List.pairwise_cons.mpr ⟨fun e he T1 T2 f1 f2 => ?_, j3⟩, fun e he y hy => ?_⟩
        · rcases List.mem_cons.mp he with q | q
          · subst q; exact h2 L hL (S, x) List.mem_cons_self T (c1 T hT)
          · exact j2 L hL e q T hT
        · rcases List.mem_cons.mp he with q | q
          · subst q
            refine ⟨x, ?_, ?_, fun y hy => ?_⟩
            · rw [f1 x (by show x < x + 1; omega)]; exact put_c _ _ _
            · rw [f2 x (by show x < x + 1; omega)]; exact hx x (Nat.le_refl _)
            · rw [c1 T1 f1 y hy, c2 T2 f2 y hy]
          · exact h3'.1 e q T1 T2 (c1 T1 f1) f2
        · rcases List.mem_cons.mp he with q | q
          · subst q
            have hy : x + 1 ≤ y := hy
            show put S x true y = false
            rw [put_d (by omega)]
            exact hx y (by show x ≤ y; omega)
          · exact j4 e q y hy
      · exact k1
theorem JJ_run {what la : Nat} {fl0 : Int} {kf : (Nat → Bool) → Nat → Bool} : ∀ (k : Nat) (p : Pl) (a : Ac), JJ p (aL a) → (aL (arun what fl0 la kf k p a).2.1).Pairwise ahd
  | 0, p, a, h => h.1
  | k + 1, [], a, h => h.1
  | k + 1, (S, x) :: p, a, h => by
    rw [arun]
    exact JJ_run k _ _ (JJ_step h)
theorem JJ_0 (fi : Nat) : JJ (p0 fi) [] := ⟨List.Pairwise.nil, fun L hL => (by cases hL), List.pairwise_singleton _ _, fun e he y _ => by
  rw [List.mem_singleton.mp he]⟩
section PO
variable {F : Nat} {M : Mem}
theorem ahead_eq (v w : Int64) : ∃ b, fX4_isAhead F v w M = some (bi b, M) ∧ (b = true ↔ ahd (bt v) (bt w)) := by
  unfold fX4_isAhead
  rw [nm_eq]
  by_cases q : v ^^^ w = 0
  · rw [q]
    have e : lg_cmp (v &&& 0 &&& -0) 0 = 0 := (lg_cmp_eq _ _).mpr (by
      apply bt_zero.mpr
      intro x _
      rw [bt_and, bt_and, bt_0]; simp)
    rw [if_pos e]
    refine ⟨false, rfl, fun h => (by cases h), fun h => ?_⟩
    obtain ⟨x, h1, h2, -⟩ := h
    have : bt (v ^^^ w) x = false := by rw [q, bt_0]
    rw [bt_xor, h1, h2] at this; cases this
  · have hpos : 0 < cnt (v ^^^ w) := by
      apply Classical.byContradiction
      intro hn
      exact q (bt_zero.mpr (fun z _ => cnt_0 (by omega) z))
    obtain ⟨h1, h2, h3⟩ := lo_ok hpos
    generalize hx : lo (v ^^^ w) = x at *
    have hlow := lowbit hpos
    rw [hx] at hlow
    have hz : (lg_cmp (v &&& (v ^^^ w) &&& -(v ^^^ w)) 0 = 0) ↔ bt v x = false := by
      rw [lg_cmp_eq, bt_zero]
      have e : ∀ y, bt (v &&& (v ^^^ w) &&& -(v ^^^ w)) y = (bt v y && decide (y = x)) := by
        intro y
        rw [bt_and, bt_and, Bool.and_assoc, ← bt_and, hlow, bt_one h1]
      constructor
      · intro h
        have := h x h1
        rw [e] at this
        simpa using this
      · intro h y _
        rw [e]
        by_cases qy : y = x
        · rw [qy, h]; rfl
        · rw [decide_eq_false qy]; simp
    rw [bt_xor] at h2
    have hlt : ∀ y, y < x → bt v y = bt w y := by
      intro y hy
      have := h3 y hy
      rw [bt_xor] at this
      revert this
      cases bt v y <;> cases bt w y <;> decide
    cases hv : bt v x with
    | false =>
      rw [if_pos (hz.mpr hv)]
      refine ⟨false, rfl, fun h => (by cases h), fun h => ?_⟩
      obtain ⟨y, g1, g2, g3⟩ := h
      rw [hv] at h2
      have hwx : bt w x = true := by simpa using h2
      rcases Nat.lt_trichotomy x y with r | r | r
      · have := g3 x r; rw [hv, hwx] at this; cases this
      · subst r; rw [hv] at g1; cases g1
      · have := hlt y r; rw [g1, g2] at this; cases this
    | true =>
      rw [if_neg (fun e => by rw [hz.mp e] at hv; cases hv)]
      refine ⟨true, rfl, fun _ => ⟨x, hv, ?_, hlt⟩, fun _ => rfl⟩
      rw [hv] at h2
      simpa using h2
theorem place_L {ll : List (Nat → Bool)} (hL : CLi M ll) (hs : ll.Pairwise ahd) (w : Int64) : ∀ (k N low high i : Nat), high - low ≤ k → low ≤ high → high ≤ ll.length → i + k = 300 → k < N → (∀ j, j < low → ahd (gl ll j) (bt w)) → (∀ j, high ≤ j → j < ll.length → ¬ ahd (gl ll j) (bt w)) →
    ∃ p, p ≤ ll.length ∧ (∀ j, j < p → ahd (gl ll j) (bt w)) ∧ (∀ j, p ≤ j → j < ll.length → ¬ ahd (gl ll j) (bt w)) ∧ fX4_placeOf_L11 F w N (ii low) (ii high) (ii i) M = fX4_placeOf_L65 F w (ii p) M
  | 0, N + 1, low, high, i, h1, h2, h3, h4, h5, h6, h7 => by
    refine ⟨low, by omega, h6, fun j j1 j2 => h7 j (by omega) j2, ?_⟩
    rw [fX4_placeOf_L11, if_pos (by rw [show (300 : Int32) = ii 300 from rfl, ii_le] <;> omega)]
  | k + 1, N + 1, low, high, i, h1, h2, h3, h4, h5, h6, h7 => by
    have hlen := hL.2.1
    by_cases q : high ≤ low
    · refine ⟨low, by omega, h6, fun j j1 j2 => h7 j (by omega) j2, ?_⟩
      rw [fX4_placeOf_L11, if_neg (by rw [show (300 : Int32) = ii 300 from rfl, ii_le] <;> omega), if_pos (by rw [ii_le] <;> omega)]
    · rw [fX4_placeOf_L11, if_neg (by rw [show (300 : Int32) = ii 300 from rfl, ii_le] <;> omega), if_neg (by rw [ii_le] <;> omega), ii_add, show (2 : Int32) = ii 2 from rfl, ii_div (by omega) (by omega) (by omega) (by omega)]
      obtain ⟨md, hmd, hm1, hm2⟩ : ∃ md : Nat, ((low : Int) + high).tdiv 2 = md ∧ low ≤ md ∧ md < high := ⟨(low + high) / 2, by rw [Int.tdiv_eq_ediv_of_nonneg (by omega)]; omega, by omega, by omega⟩
      rw [hmd]
      simp only [nm_eq]
      rw [gd_inb (by omega) (by omega) (by omega), ii_nat (by omega) (by omega), Int.toNat_natCast]
      obtain ⟨b, b1, b2⟩ := ahead_eq (F := F) (M := M) (M.2 16 md) w
      have hb : bt (M.2 16 md) = gl ll md := by rw [hL.2.2 md (by omega), gl_lt (by omega)]
      rw [hb] at b2
      rw [b1, bd_eq, ii_lit1, ii_add, ii_add, show ((i : Int) + 1) = ((i + 1 : Nat) : Int) by omega, show ((md : Int) + 1) = ((md + 1 : Nat) : Int) by omega]
      have hord : ∀ a c, a < c → c < ll.length → ahd (gl ll a) (gl ll c) := by
        intro a c h8 h9
        rw [gl_lt (show a < ll.length by omega), gl_lt h9]
        exact (List.pairwise_iff_getElem.mp hs) a c (by omega) h9 h8
      cases b with
      | false =>
        rw [if_pos (by decide)]
        have hn : ¬ ahd (gl ll md) (bt w) := fun h => by have := b2.mpr h; cases this
        exact place_L hL hs w k N low md (i + 1) (by omega) hm1 (by omega) (by omega) (by omega) h6 (fun j j1 j2 => by
          by_cases e : j = md
          · rw [e]; exact hn
          · intro h
            exact hn (ahd_trans (hord md j (by omega) j2) h))
      | true =>
        rw [if_neg (by decide)]
        exact place_L hL hs w k N (md + 1) high (i + 1) (by omega) (by omega) h3 (by omega) (by omega) (fun j hj => by
          by_cases e : j = md
          · rw [e]; exact b2.mp rfl
          · exact ahd_trans (hord j md (by omega) (by omega)) (b2.mp rfl)) h7
theorem place_eq (hF : 100000 ≤ F) {ll : List (Nat → Bool)} (hL : CLi M ll) (hs : ll.Pairwise ahd) (w : Int64) :
    (∃ q, q < ll.length ∧ gl ll q = bt w ∧ fX4_placeOf F w M = some (ii q, M)) ∨ ((∀ q, q < ll.length → gl ll q ≠ bt w) ∧ fX4_placeOf F w M = some (ii (-1), M)) := by
  have hlen := hL.2.1
  have hord : ∀ a c, a < c → c < ll.length → ahd (gl ll a) (gl ll c) := by
    intro a c h8 h9
    rw [gl_lt (show a < ll.length by omega), gl_lt h9]
    exact (List.pairwise_iff_getElem.mp hs) a c (by omega) h9 h8
  obtain ⟨p, p1, p2, p3, p4⟩ := place_L (F := F) hL hs w 300 F 0 ll.length 0 (by omega) (by omega) (by omega) (by omega) (by omega) (fun j hj => by omega) (fun j j1 j2 => by omega)
  unfold fX4_placeOf
  rw [nm_eq, hL.1, show (0 : Int32) = ii ((0 : Nat) : Int) from rfl, p4]
  unfold fX4_placeOf_L65
  rw [hL.1]
  -- a set listed stands there
  have key : ∀ q, q < ll.length → gl ll q = bt w → q = p := by
    intro q hq e
    rcases Nat.lt_trichotomy q p with r | r | r
    · have := p2 q r; rw [e] at this; exact absurd this (ahd_irr _)
    · exact r
    · have := hord p q r hq; rw [e] at this; exact absurd this (p3 p (Nat.le_refl _) (by omega))
  by_cases q : ll.length ≤ p
  · rw [if_pos (by rw [ii_le] <;> omega)]
    right
    refine ⟨fun r hr e => ?_, rfl⟩
    have := key r hr e; omega
  · rw [if_neg (by rw [ii_le] <;> omega), gd_inb (by omega) (by omega) (by omega), ii_nat (by omega) (by omega), Int.toNat_natCast]
    by_cases e : M.2 16 p = w
    · rw [if_pos ((lg_cmp_eq _ _).mpr e)]
      left
      refine ⟨p, by omega, ?_, rfl⟩
      rw [gl_lt (by omega), ← hL.2.2 p (by omega), e]
    · rw [if_neg (fun h => e ((lg_cmp_eq _ _).mp h))]
      right
      refine ⟨fun r hr e2 => ?_, rfl⟩
      have h3 := key r hr e2
      subst h3
      apply e
      apply bt_ext
      intro x _
      rw [hL.2.2 r hr, ← gl_lt hr, e2]
theorem gl_inj {ll : List (Nat → Bool)} (hs : ll.Pairwise ahd) {i j : Nat} (hi : i < ll.length) (hj : j < ll.length) (e : gl ll i = gl ll j) : i = j := by
  have hord : ∀ a c, a < c → c < ll.length → ahd (gl ll a) (gl ll c) := by
    intro a c h8 h9
    rw [gl_lt (show a < ll.length by omega), gl_lt h9]
    exact (List.pairwise_iff_getElem.mp hs) a c (by omega) h9 h8
  rcases Nat.lt_trichotomy i j with r | r | r
  · have := hord i j r hj; rw [e] at this; exact absurd this (ahd_irr _)
  · exact r
  · have := hord j i r hi; rw [e] at this; exact absurd this (ahd_irr _)
end PO
