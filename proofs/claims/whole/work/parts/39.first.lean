/-! the first CLASH: the reference's is the class's -/
section FI
variable {F s n fi la : Nat} {M : Mem} {m : Nat} {ls : Nat → LawT}
theorem cl_24 (hF : 100000 ≤ F) (hG : GV s n fi la) (hR : RG s n fi la M) (hL : RLs M m ls) {S : Nat → Bool} (hS : Sup fi la S) {r : Nat} (hr : r < 17) (hw : Row M fi r S) {i : Nat} (hi : i < m) :
    (∃ x y z, RC s n fi la (ls i) S x y z ∧ (∀ x', x' < x → ∀ y' z', ¬ RC s n fi la (ls i) S x' y' z') ∧ (∀ y', y' < y → ∀ z', ¬ RC s n fi la (ls i) S x y' z') ∧ (∀ z', z' < z → ¬ RC s n fi la (ls i) S x y z') ∧ fX9_clashes F (ii r) (ii i) M = some (bi true, tlr s n (ls i) M x y z)) ∨
    ((∀ x y z, ¬ RC s n fi la (ls i) S x y z) ∧ fX9_clashes F (ii r) (ii i) M = some (bi false, M)) := by
  have hg := hG.b
  obtain ⟨i6, hV, l0, l1, l2, l3, l4⟩ := hL.at hi
  have h4 := hV.1
  have hxr : ∀ {x y z}, RC s n fi la (ls i) S x y z → fi ≤ x ∧ x ≤ la := by
    intro x y z h
    have h1 := h.1
    split at h1
    · omega
    · exact hS x h1
  have step : ∀ N x, fi ≤ x → x < la + 1 → ((∃ y z, RC s n fi la (ls i) S x y z) ∧ (∃ y z, RC s n fi la (ls i) S x y z ∧ (∀ y', y' < y → ∀ z', ¬ RC s n fi la (ls i) S x y' z') ∧ (∀ z', z' < z → ¬ RC s n fi la (ls i) S x y z') ∧ fX9_clashes_L24 F (ii r) (ii i) (N + 1) (ii ((la + 1 : Nat) : Int)) (ii (lk (ls i))) (ii x) M = some (bi true, tlr s n (ls i) M x y z))) ∨ ((¬ ∃ y z, RC s n fi la (ls i) S x y z) ∧ fX9_clashes_L24 F (ii r) (ii i) (N + 1) (ii ((la + 1 : Nat) : Int)) (ii (lk (ls i))) (ii x) M = fX9_clashes_L24 F (ii r) (ii i) N (ii ((la + 1 : Nat) : Int)) (ii (lk (ls i))) (ii ((x + 1 : Nat) : Int)) M) := by
    intro N x hx1 hx2
    generalize hK2 : (fun x3 x4 x5 M => fX9_clashes_L24 F (ii r) (ii i) N x3 x4 x5 M) = K2
    have e2 : ∀ a b c M, K2 a b c M = fX9_clashes_L24 F (ii r) (ii i) N a b c M := fun a b c M => by rw [← hK2]
    have k91 : (if nX (ls i) then x = fi else S x = true) → ((∃ y z, RC s n fi la (ls i) S x y z) ∧ (∃ y z, RC s n fi la (ls i) S x y z ∧ (∀ y', y' < y → ∀ z', ¬ RC s n fi la (ls i) S x y' z') ∧ (∀ z', z' < z → ¬ RC s n fi la (ls i) S x y z') ∧ fX9_clashes_L91 F (ii r) (ii i) K2 F (ii ((la + 1 : Nat) : Int)) (ii (lk (ls i))) (ii x) (bi (nX (ls i))) (ii fi) M = some (bi true, tlr s n (ls i) M x y z))) ∨ ((¬ ∃ y z, RC s n fi la (ls i) S x y z) ∧ fX9_clashes_L91 F (ii r) (ii i) K2 F (ii ((la + 1 : Nat) : Int)) (ii (lk (ls i))) (ii x) (bi (nX (ls i))) (ii fi) M = K2 (ii ((la + 1 : Nat) : Int)) (ii (lk (ls i))) (ii ((x + 1 : Nat) : Int)) M) := by
      intro hxq
      rcases cl_91 hF hG hR hL hS hr hw hi (x := x) (by omega) hxq K2 with ⟨y, z, h1, h2, h3, h5⟩ | ⟨h1, h2⟩
      · exact Or.inl ⟨⟨y, z, h1⟩, y, z, h1, h2, h3, h5⟩
      · exact Or.inr ⟨fun ⟨y, z, h⟩ => h1 y z h, h2⟩
    have k50 : ∀ b, b = nX (ls i) → ((∃ y z, RC s n fi la (ls i) S x y z) ∧ (∃ y z, RC s n fi la (ls i) S x y z ∧ (∀ y', y' < y → ∀ z', ¬ RC s n fi la (ls i) S x y' z') ∧ (∀ z', z' < z → ¬ RC s n fi la (ls i) S x y z') ∧ fX9_clashes_L50 F (ii r) (ii i) K2 (ii ((la + 1 : Nat) : Int)) (ii (lk (ls i))) (ii x) (bi b) M = some (bi true, tlr s n (ls i) M x y z))) ∨ ((¬ ∃ y z, RC s n fi la (ls i) S x y z) ∧ fX9_clashes_L50 F (ii r) (ii i) K2 (ii ((la + 1 : Nat) : Int)) (ii (lk (ls i))) (ii x) (bi b) M = K2 (ii ((la + 1 : Nat) : Int)) (ii (lk (ls i))) (ii ((x + 1 : Nat) : Int)) M) := by
      intro b hb
      subst hb
      unfold fX9_clashes_L50 fX9_clashes_L66
      simp only [nm_eq]
      rw [hR.2.2.2, in_eq hG hR hS hr hw (by omega) (by omega), bd_eq, mm_nat, hR.2.2.2, ii_lit1, ii_add, show ((x : Int) + 1) = ((x + 1 : Nat) : Int) by omega]
      simp (disch := omega) only [ii_lt]
      have hno : ¬ (if nX (ls i) then x = fi else S x = true) → ¬ ∃ y z, RC s n fi la (ls i) S x y z := fun h ⟨y, z, h1⟩ => h h1.1
      cases hny : nX (ls i) with
      | false =>
        rw [hny] at k91 hno
        rw [if_pos (by decide), if_pos (by decide)]
        cases hs : S x with
        | false =>
          rw [if_pos (by decide)]
          right
          exact ⟨hno (by rw [hs]; simp), rfl⟩
        | true => rw [if_neg (by decide)]; exact k91 hs
      | true =>
        rw [hny] at k91 hno
        rw [if_neg (by decide)]
        by_cases q : x = fi
        · rw [if_neg (by omega), if_neg (by decide)]; exact k91 q
        · rw [if_pos (by omega)]
          right
          exact ⟨hno q, rfl⟩
    simp only [fX9_clashes_L24, hK2]
    rw [if_neg (by rw [ii_le] <;> omega)]
    by_cases q4 : lk (ls i) = 4
    · have hc := hV.2.2.2 q4
      rw [if_pos (by rw [q4]; rfl), gd_inb (by omega) (by omega) (by omega), ii_nat (by omega) (by omega), Int.toNat_natCast, l1, ii_lit0]
      simp (disch := omega) only [ii_eq]
      by_cases q : lA (ls i) = 0
      · rw [if_pos q]; exact k50 true (decide_eq_true ⟨q4, q⟩).symm
      · rw [if_neg q]; exact k50 false (decide_eq_false (fun h => q h.2)).symm
    · rw [if_neg (by rw [show (4 : Int32) = ii 4 from rfl, ii_eq (by omega) (by omega) (by omega) (by omega)]; omega)]
      exact k50 false (decide_eq_false (fun h => q4 h.1)).symm
  have out := scanx (L := fun N x => fX9_clashes_L24 F (ii r) (ii i) N (ii ((la + 1 : Nat) : Int)) (ii (lk (ls i))) (ii (x : Nat)) M) (P := fun x => ∃ y z, RC s n fi la (ls i) S x y z) (R := fun x res => ∃ y z, RC s n fi la (ls i) S x y z ∧ (∀ y', y' < y → ∀ z', ¬ RC s n fi la (ls i) S x y' z') ∧ (∀ z', z' < z → ¬ RC s n fi la (ls i) S x y z') ∧ res = some (bi true, tlr s n (ls i) M x y z)) (A := some (bi false, M)) (lo := fi) (hi := la + 1) ?_ step (la + 1 - fi) F fi (by omega) (by omega) (by omega)
  · unfold fX9_clashes
    rw [hR.hi, nm_eq, gd_inb (by omega) (by omega) (by omega), nm_eq, nm_eq, ii_nat (by omega) (by omega), Int.toNat_natCast, l0, hR.2.2.2]
    rcases out with ⟨x, x1, x2, x3, x4, y, z, h1, h2, h3, h5⟩ | ⟨x1, x2⟩
    · exact Or.inl ⟨x, y, z, h1, fun x' hx' y' z' h => x4 x' (hxr h).1 hx' ⟨y', z', h⟩, h2, h3, h5⟩
    · exact Or.inr ⟨fun x y z h => x1 x (hxr h).1 (by have := (hxr h).2; omega) ⟨y, z, h⟩, x2⟩
  · intro N
    show fX9_clashes_L24 _ _ _ _ _ _ _ _ = _
    rw [fX9_clashes_L24, if_pos (by rw [ii_le] <;> omega)]; rfl
def pz (l : LawT) (z : Nat) : Nat := if lk l = 0 then 0 else ph (nZ l) z
def ps (fi : Nat) (b : Bool) (x : Nat) : Nat := if b then fi else x
def pw (fi : Nat) (l : LawT) (z : Nat) : Nat := if lk l = 0 then fi else ps fi (nZ l) z
theorem nX_f {l : LawT} (h : lk l ≠ 4) : nX l = false ∧ nY l = false ∧ nZ l = false := ⟨decide_eq_false (fun e => h e.1), decide_eq_false (fun e => h e.1), decide_eq_false (fun e => h e.1)⟩
theorem nX_4 {l : LawT} (h : lk l = 4) : nX l = decide (lA l = 0) ∧ nY l = decide (lB l = 0) ∧ nZ l = decide (lC l = 0) := ⟨decide_eq_decide.mpr ⟨fun e => e.2, fun e => ⟨h, e⟩⟩, decide_eq_decide.mpr ⟨fun e => e.2, fun e => ⟨h, e⟩⟩, decide_eq_decide.mpr ⟨fun e => e.2, fun e => ⟨h, e⟩⟩⟩
theorem RC_QC (hG : GV s n fi la) {l : LawT} (hV : LV l) {S : Nat → Bool} (hS : Sup fi la S) {x y z : Nat} (h : RC s n fi la l S x y z) : QC s n fi la l S (ph (nX l) x) (ph (nY l) y) (pz l z) := by
  have hg := hG.b
  obtain ⟨h1, ⟨h2, h3, h4⟩, h5, h6, h7⟩ := h
  have hl := hV.1
  unfold QC pz
  by_cases q0 : lk l = 0
  · obtain ⟨e1, e2, e3⟩ := nX_f (l := l) (by omega)
    rw [e1] at h1
    rw [e2] at h2
    rw [if_pos q0, if_pos q0, e1, e2]
    have := h3 q0
    exact ⟨h1, ⟨this.1, h2, this.2⟩, rfl⟩
  · have hp := h6 q0
    unfold PZ bodyZ at hp
    rw [if_neg q0, if_neg q0]
    by_cases q3 : lk l = 3
    · obtain ⟨e1, e2, e3⟩ := nX_f (l := l) (by omega)
      rw [e1] at h1
      rw [e2] at h2
      rw [e3, if_neg (show ¬ lk l = 4 by omega), if_pos q3] at hp
      rw [if_pos q3, e1, e2, e3]
      simp only [Bool.false_eq_true, if_false, Bool.and_eq_true, decide_eq_true_eq, Bool.not_eq_true', decide_eq_false_iff_not] at hp h1 h2
      refine ⟨h1, ⟨h4 q3, h2⟩, ?_, hp.1, hp.2.1.2, hp.2.1.1⟩
      intro e
      have e : z = x := e
      subst e
      exact hp.2.2 ⟨rfl, mx_less hG (Ca.g hG (by omega) (by omega)) (Ca.g hG (by omega) (by have := hS y h2; omega))⟩
    · rw [if_neg q3]
      by_cases q4 : lk l = 4
      · obtain ⟨e1, e2, e3⟩ := nX_4 q4
        rw [if_pos q4, Bool.and_eq_true] at hp
        have := (EQ_KK hG hV q4 hS).mp hp.2
        rw [e1, e2, e3]
        unfold ph
        simpa only [decide_eq_true_eq] using this
      · obtain ⟨e1, e2, e3⟩ := nX_f (l := l) q4
        rw [e1] at h1
        rw [e2] at h2
        rw [e3, if_neg q4, if_neg q3, Bool.and_eq_true] at hp
        rw [e1, e2, e3]
        exact (TT_KK hG (by omega) hS _ _ _).mpr ⟨h1, h2, hp.1, hp.2⟩
theorem QC_RC (hG : GV s n fi la) {l : LawT} (hV : LV l) {S : Nat → Bool} (hS : Sup fi la S) {x y z : Nat} (h : QC s n fi la l S x y z) : RC s n fi la l S (ps fi (nX l) x) (ps fi (nY l) y) (pw fi l z) ∧ (nX l = true → x = 0) ∧ (nY l = true → y = 0) ∧ (lk l ≠ 0 → nZ l = true → z = 0) ∧ (lk l = 0 → z = 0) := by
  have hg := hG.b
  have hl := hV.1
  unfold QC at h
  unfold RC PY pw
  by_cases q0 : lk l = 0
  · obtain ⟨e1, e2, e3⟩ := nX_f (l := l) (by omega)
    rw [if_pos q0] at h
    obtain ⟨h1, h2, h3⟩ := h
    rw [e1, e2, e3, if_pos q0]
    refine ⟨⟨h1, ⟨h2.2.1, fun _ => ⟨h2.1, h2.2.2⟩, fun e => absurd e (by omega)⟩, fun _ => rfl, fun e => absurd q0 e, by omega, by omega⟩, fun e => (by cases e), fun e => (by cases e), fun e => absurd q0 e, fun _ => h3⟩
  · rw [if_neg q0] at h
    rw [if_neg q0]
    unfold PZ bodyZ
    by_cases q3 : lk l = 3
    · obtain ⟨e1, e2, e3⟩ := nX_f (l := l) (by omega)
      rw [if_pos q3] at h
      obtain ⟨h1, h2, h3, h4, h5, h6⟩ := h
      rw [e1, e2, e3, if_neg (show ¬ lk l = 4 by omega), if_pos q3]
      refine ⟨⟨h1, ⟨h2.2, fun e => absurd e q0, fun _ => h2.1⟩, fun e => absurd e q0, fun _ => ?_, (hS z h4)⟩, fun e => (by cases e), fun e => (by cases e), fun _ e => (by cases e), fun e => absurd e q0⟩
      show ((S z) && (mm S (mx s n 1 (mx s n 1 x 1 y) (-1) z) && decide ((z : Int) ≤ mx s n 1 (mx s n 1 x 1 y) (-1) z) && !decide (z = x ∧ mx s n 1 (mx s n 1 x 1 y) (-1) z = y))) = true
      rw [h4, h6, decide_eq_true h5, decide_eq_false (fun e => h3 e.1)]; rfl
    · rw [if_neg q3] at h
      by_cases q4 : lk l = 4
      · obtain ⟨e1, e2, e3⟩ := nX_4 q4
        have w1 : wa l = lA l := by unfold wa; rw [if_pos q4]
        have w2 : wb l = lB l := by unfold wb; rw [if_neg (by omega), if_pos q4]
        have w3 : wc l = lC l := by unfold wc; rw [if_neg (by omega), if_pos q4]
        have hk := h
        obtain ⟨k1, k2, k3, -⟩ := h
        rw [w1] at k1
        rw [w2] at k2
        rw [w3] at k3
        have z1 : lA l = 0 → x = 0 := fun e => (chb_0 e).mp k1
        have z2 : lB l = 0 → y = 0 := fun e => (chb_0 e).mp k2
        have z3 : lC l = 0 → z = 0 := fun e => (chb_0 e).mp k3
        have s1 : ¬ lA l = 0 → S x = true := fun e => by rw [chb_1 e] at k1; exact k1
        have s2 : ¬ lB l = 0 → S y = true := fun e => by rw [chb_1 e] at k2; exact k2
        have s3 : ¬ lC l = 0 → S z = true := fun e => by rw [chb_1 e] at k3; exact k3
        have hE : EQ s n (lA l) (lB l) (lC l) (lU l) S (ps fi (nX l) x) (ps fi (nY l) y) (ps fi (nZ l) z) = true := by
          rw [EQ_KK hG hV q4 hS]
          have g1 : (if lA l = 0 then 0 else ps fi (nX l) x) = x := by
            by_cases q : lA l = 0
            · rw [if_pos q, z1 q]
            · rw [if_neg q, e1, decide_eq_false q]; rfl
          have g2 : (if lB l = 0 then 0 else ps fi (nY l) y) = y := by
            by_cases q : lB l = 0
            · rw [if_pos q, z2 q]
            · rw [if_neg q, e2, decide_eq_false q]; rfl
          have g3 : (if lC l = 0 then 0 else ps fi (nZ l) z) = z := by
            by_cases q : lC l = 0
            · rw [if_pos q, z3 q]
            · rw [if_neg q, e3, decide_eq_false q]; rfl
          rw [g1, g2, g3]; exact hk
        rw [if_pos q4, hE]
        refine ⟨⟨?_, ⟨?_, fun e => absurd e q0, fun e => absurd e q3⟩, fun e => absurd e q0, fun _ => ?_, ?_⟩, ?_, ?_, fun _ => ?_, fun e => absurd e q0⟩
        · rw [e1]
          by_cases q : lA l = 0
          · rw [decide_eq_true q]; rfl
          · rw [decide_eq_false q]; exact s1 q
        · rw [e2]
          by_cases q : lB l = 0
          · rw [decide_eq_true q]; rfl
          · rw [decide_eq_false q]; exact s2 q
        · rw [e3]
          by_cases q : lC l = 0
          · rw [decide_eq_true q]; simp [ps]
          · rw [decide_eq_false q]
            show (S z && true) = true
            rw [s3 q]; rfl
        · rw [e3]
          by_cases q : lC l = 0
          · rw [decide_eq_true q]; exact ⟨Nat.le_refl _, by show fi ≤ la; omega⟩
          · rw [decide_eq_false q]; exact hS z (s3 q)
        · rw [e1]; intro e; exact z1 (of_decide_eq_true e)
        · rw [e2]; intro e; exact z2 (of_decide_eq_true e)
        · rw [e3]; intro e; exact z3 (of_decide_eq_true e)
      · obtain ⟨e1, e2, e3⟩ := nX_f (l := l) q4
        obtain ⟨h1, h2, h3, h4⟩ := (TT_KK hG (by omega) hS _ _ _).mp h
        rw [e1, e2, e3, if_neg q4, if_neg q3]
        refine ⟨⟨h1, ⟨h2, fun e => absurd e q0, fun e => absurd e q3⟩, fun e => absurd e q0, fun _ => ?_, hS z h3⟩, fun e => (by cases e), fun e => (by cases e), fun _ e => (by cases e), fun e => absurd e q0⟩
        show (S z && TT s n (lk l) (lU l) x y z) = true
        rw [h3, h4]; rfl
theorem clashes_eq (hF : 100000 ≤ F) (hG : GV s n fi la) (hR : RG s n fi la M) (hL : RLs M m ls) {S : Nat → Bool} (hS : Sup fi la S) {r : Nat} (hr : r < 17) (hw : Row M fi r S) {i : Nat} (hi : i < m) :
    ∃ M', Sm [45] M M' ∧ ((∃ x y z, F3 (QC s n fi la (ls i) S) x y z ∧ Wt (M'.1 45) x y z (vC s n (ls i) x y z) ∧ fX9_clashes F (ii r) (ii i) M = some (bi true, M')) ∨ ((∀ x y z, ¬ QC s n fi la (ls i) S x y z) ∧ fX9_clashes F (ii r) (ii i) M = some (bi false, M'))) := by
  have hV := (hL.at hi).2.1
  rcases cl_24 hF hG hR hL hS hr hw hi with ⟨x, y, z, h1, h2, h3, h4, h5⟩ | ⟨h1, h2⟩
  · refine ⟨tlr s n (ls i) M x y z, ?_, Or.inl ⟨ph (nX (ls i)) x, ph (nY (ls i)) y, pz (ls i) z, F3.mk (RC_QC hG hV hS h1) ?_ ?_ ?_, ?_, h5⟩⟩
    · unfold tlr; split <;> exact tl_sm (by decide) _ _ _ _
    · intro x' hx' y' z' h
      obtain ⟨k1, k2, -⟩ := QC_RC hG hV hS h
      refine h2 _ ?_ _ _ k1
      cases hn : nX (ls i) with
      | true => rw [hn] at hx'; exact absurd hx' (Nat.not_lt_zero _)
      | false => rw [hn] at hx'; exact hx'
    · intro y' hy' z' h
      obtain ⟨k1, k2, k3, -⟩ := QC_RC hG hV hS h
      have ex : ps fi (nX (ls i)) (ph (nX (ls i)) x) = x := by
        have := h1.1
        cases hn : nX (ls i) with
        | true => rw [hn] at this; exact this.symm
        | false => rfl
      rw [ex] at k1
      refine h3 _ ?_ _ k1
      cases hn : nY (ls i) with
      | true => rw [hn] at hy'; exact absurd hy' (Nat.not_lt_zero _)
      | false => rw [hn] at hy'; exact hy'
    · intro z' hz' h
      obtain ⟨k1, k2, k3, k4, k5⟩ := QC_RC hG hV hS h
      have ex : ps fi (nX (ls i)) (ph (nX (ls i)) x) = x := by
        have := h1.1
        cases hn : nX (ls i) with
        | true => rw [hn] at this; exact this.symm
        | false => rfl
      have ey : ps fi (nY (ls i)) (ph (nY (ls i)) y) = y := by
        have := h1.2.1.1
        cases hn : nY (ls i) with
        | true => rw [hn] at this; exact this.symm
        | false => rfl
      rw [ex, ey] at k1
      refine h4 _ ?_ k1
      unfold pz at hz'
      unfold pw
      by_cases q0 : lk (ls i) = 0
      · rw [if_pos q0] at hz'; omega
      · rw [if_neg q0] at hz' ⊢
        cases hn : nZ (ls i) with
        | true => rw [hn] at hz'; exact absurd hz' (Nat.not_lt_zero _)
        | false => rw [hn] at hz'; exact hz'
    · unfold tlr pz vC
      by_cases q0 : lk (ls i) = 0
      · obtain ⟨e1, e2, e3⟩ := nX_f (l := ls i) (by omega)
        rw [if_pos q0, if_pos q0, if_neg (by omega), e1, e2]
        exact tl_wt _ _ _ _ _ _
      · rw [if_neg q0, if_neg q0]
        by_cases q3 : lk (ls i) = 3
        · obtain ⟨e1, e2, e3⟩ := nX_f (l := ls i) (by omega)
          rw [if_pos q3, if_pos q3, e1, e2, e3]
          exact tl_wt _ _ _ _ _ _
        · rw [if_neg q3, if_neg q3]
          exact tl_wt _ _ _ _ _ _
  · refine ⟨M, Sm.rf, Or.inr ⟨fun x y z h => h1 _ _ _ (QC_RC hG hV hS h).1, h2⟩⟩
/-- the first CLASH of all laws: its law, or -1, and what is told -/
def FK (s n fi la m : Nat) (ls : Nat → LawT) (S : Nat → Bool) (i0 : Nat) (j x y z v : Int) : Prop := (∃ i x' y' z' : Nat, i0 ≤ i ∧ i < m ∧ (∀ i', i0 ≤ i' → i' < i → ∀ a b c, ¬ QC s n fi la (ls i') S a b c) ∧ F3 (QC s n fi la (ls i) S) x' y' z' ∧ j = i ∧ x = x' ∧ y = y' ∧ z = z' ∧ v = vC s n (ls i) x' y' z') ∨ ((∀ i', i0 ≤ i' → i' < m → ∀ a b c, ¬ QC s n fi la (ls i') S a b c) ∧ j = -1 ∧ x = 0 ∧ y = 0 ∧ z = 0 ∧ v = 0)
theorem FK.one {S : Nat → Bool} {i0 : Nat} {j x y z v j' x' y' z' v' : Int} (h : FK s n fi la m ls S i0 j x y z v) (h' : FK s n fi la m ls S i0 j' x' y' z' v') : j = j' ∧ x = x' ∧ y = y' ∧ z = z' ∧ v = v' := by
  rcases h with ⟨i, a, b, c, h0, h1, h2, h3, rfl, rfl, rfl, rfl, rfl⟩ | ⟨h0, rfl, rfl, rfl, rfl, rfl⟩
  · rcases h' with ⟨i', a', b', c', h0', h1', h2', h3', rfl, rfl, rfl, rfl, rfl⟩ | ⟨h0', rfl, rfl, rfl, rfl, rfl⟩
    · have : i = i' := by
        rcases Nat.lt_trichotomy i i' with q | q | q
        · exact absurd h3.1 (h2' i h0 q a b c)
        · exact q
        · exact absurd h3'.1 (h2 i' h0' q a' b' c')
      subst this
      obtain ⟨rfl, rfl, rfl⟩ := h3.one h3'
      exact ⟨rfl, rfl, rfl, rfl, rfl⟩
    · exact absurd h3.1 (h0' i h0 h1 a b c)
  · rcases h' with ⟨i', a', b', c', h0', h1', h2', h3', rfl, rfl, rfl, rfl, rfl⟩ | ⟨h0', rfl, rfl, rfl, rfl, rfl⟩
    · exact absurd h3'.1 (h0 i' h0' h1' a' b' c')
    · exact ⟨rfl, rfl, rfl, rfl, rfl⟩
theorem FK.step {S : Nat → Bool} {i0 : Nat} {j x y z v : Int} (h : FK s n fi la m ls S (i0 + 1) j x y z v) (hn : ∀ a b c, ¬ QC s n fi la (ls i0) S a b c) : FK s n fi la m ls S i0 j x y z v := by
  rcases h with ⟨i, a, b, c, h0, h1, h2, h3⟩ | ⟨h0, h1⟩
  · refine Or.inl ⟨i, a, b, c, by omega, h1, fun i' k1 k2 => ?_, h3⟩
    by_cases e : i' = i0
    · rw [e]; exact hn
    · exact h2 i' (by omega) k2
  · refine Or.inr ⟨fun i' k1 k2 => ?_, h1⟩
    by_cases e : i' = i0
    · rw [e]; exact hn
    · exact h0 i' (by omega) k2
theorem FK.rng {S : Nat → Bool} {i0 : Nat} {j x y z v : Int} (h : FK s n fi la m ls S i0 j x y z v) (hm : m ≤ 6) : -1 ≤ j ∧ j < 6 := by
  rcases h with ⟨i, a, b, c, h0, h1, h2, h3, rfl, -⟩ | ⟨h0, rfl, -⟩ <;> omega
theorem first3_L (hF : 100000 ≤ F) (hG : GV s n fi la) {w : Int64} (hS : Sup fi la (bt w)) : ∀ (k N i : Nat) (M : Mem), CG s n fi la M → CLs M m ls → i + k = m → k < N →
    ∃ M' j x y z v, Sm [12, 13] M M' ∧ FK s n fi la m ls (bt w) i j x y z v ∧ (j ≠ -1 → Wt (M'.1 12) x y z v) ∧ fX3_firstClash_L2 F w N (ii i) M = some (ii j, M')
  | 0, N + 1, i, M, hC, hL, h1, h2 => by
    have hm := hL.2.1
    refine ⟨M, -1, 0, 0, 0, 0, Sm.rf, Or.inr ⟨fun i' k1 k2 => by omega, rfl, rfl, rfl, rfl, rfl⟩, fun h => absurd rfl h, ?_⟩
    rw [fX3_firstClash_L2, hL.1, if_pos (by rw [ii_le] <;> omega)]; rfl
  | k + 1, N + 1, i, M, hC, hL, h1, h2 => by
    have hm := hL.2.1
    obtain ⟨hV, hl⟩ := hL.2.2 i (by omega)
    rw [fX3_firstClash_L2, hL.1, if_neg (by rw [ii_le] <;> omega), gd_inb (by omega) (by omega) (by omega)]
    simp only [nm_eq]
    rw [ii_nat (by omega) (by omega), Int.toNat_natCast, ii_lit1, ii_add, show ((i : Int) + 1) = ((i + 1 : Nat) : Int) by omega]
    obtain ⟨M1, hs, ⟨x, y, z, f1, f2, f3⟩ | ⟨f1, f2⟩⟩ := findsClash_eq hF hG hC (k := 6 + i) (by omega) hV hl hS
    · refine ⟨M1, i, x, y, z, _, hs, Or.inl ⟨i, x, y, z, by omega, by omega, fun i' k1 k2 => by omega, f1, rfl, rfl, rfl, rfl, rfl⟩, fun _ => f2, ?_⟩
      rw [f3, bd_eq, if_neg (by decide)]
    · obtain ⟨M', j, x, y, z, v, g1, g2, g3, g4⟩ := first3_L hF hG hS k N (i + 1) M1 (hC.sm hs (by decide)) (hL.sm hs (fun c c1 c2 => by simp; omega)) (by omega) (by omega)
      refine ⟨M', j, x, y, z, v, hs.tr g1, g2.step f1, g3, ?_⟩
      rw [f2, bd_eq, if_pos (by decide)]; exact g4
theorem first3_eq (hF : 100000 ≤ F) (hG : GV s n fi la) (hC : CG s n fi la M) (hL : CLs M m ls) {w : Int64} (hS : Sup fi la (bt w)) :
    ∃ M' j x y z v, Sm [12, 13] M M' ∧ FK s n fi la m ls (bt w) 0 j x y z v ∧ (j ≠ -1 → Wt (M'.1 12) x y z v) ∧ fX3_firstClash F w M = some (ii j, M') :=
  first3_L hF hG hS m F 0 M hC hL (by omega) (by have := hL.2.1; omega)
theorem first9_L (hF : 100000 ≤ F) (hG : GV s n fi la) {S : Nat → Bool} (hS : Sup fi la S) {r : Nat} (hr : r < 17) : ∀ (k N i : Nat) (M : Mem), RG s n fi la M → RLs M m ls → Row M fi r S → i + k = m → k < N →
    ∃ M' j x y z v, Sm [45] M M' ∧ FK s n fi la m ls S i j x y z v ∧ (j ≠ -1 → Wt (M'.1 45) x y z v) ∧ fX9_firstClash_L2 F (ii r) N (ii i) M = some (ii j, M')
  | 0, N + 1, i, M, hC, hL, hw, h1, h2 => by
    have hm := hL.2.1
    refine ⟨M, -1, 0, 0, 0, 0, Sm.rf, Or.inr ⟨fun i' k1 k2 => by omega, rfl, rfl, rfl, rfl, rfl⟩, fun h => absurd rfl h, ?_⟩
    rw [fX9_firstClash_L2, hL.1, if_pos (by rw [ii_le] <;> omega)]; rfl
  | k + 1, N + 1, i, M, hC, hL, hw, h1, h2 => by
    have hm := hL.2.1
    rw [fX9_firstClash_L2, hL.1, if_neg (by rw [ii_le] <;> omega)]
    simp only [nm_eq]
    rw [ii_lit1, ii_add, show ((i : Int) + 1) = ((i + 1 : Nat) : Int) by omega]
    obtain ⟨M1, hs, ⟨x, y, z, f1, f2, f3⟩ | ⟨f1, f2⟩⟩ := clashes_eq hF hG hC hL hS hr hw (i := i) (by omega)
    · refine ⟨M1, i, x, y, z, _, hs, Or.inl ⟨i, x, y, z, by omega, by omega, fun i' k1 k2 => by omega, f1, rfl, rfl, rfl, rfl, rfl⟩, fun _ => f2, ?_⟩
      rw [f3, bd_eq, if_neg (by decide)]
    · obtain ⟨M', j, x, y, z, v, g1, g2, g3, g4⟩ := first9_L hF hG hS hr k N (i + 1) M1 (hC.sm hs (by decide)) (hL.sm hs ⟨by decide, fun c c1 c2 => by simp; omega⟩) (hw.sm hs (by decide)) (by omega) (by omega)
      refine ⟨M', j, x, y, z, v, hs.tr g1, g2.step f1, g3, ?_⟩
      rw [f2, bd_eq, if_pos (by decide)]; exact g4
theorem first9_eq (hF : 100000 ≤ F) (hG : GV s n fi la) (hR : RG s n fi la M) (hL : RLs M m ls) {S : Nat → Bool} (hS : Sup fi la S) {r : Nat} (hr : r < 17) (hw : Row M fi r S) :
    ∃ M' j x y z v, Sm [45] M M' ∧ FK s n fi la m ls S 0 j x y z v ∧ (j ≠ -1 → Wt (M'.1 45) x y z v) ∧ fX9_firstClash F (ii r) M = some (ii j, M') :=
  first9_L hF hG hS hr m F 0 M hR hL hw (by omega) (by have := hL.2.1; omega)
end FI
