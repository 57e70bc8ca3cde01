/-! the reference's rows: copied, cleared, counted -/
section RR
variable {F s n fi la : Nat} {M : Mem}
theorem copy_L {r q : Nat} (hr : r < 17) (hq : q < 17) (hrq : r ≠ q) (f : Nat → Int32) (hb : ∀ j, j < 60 → isb (f (60 * r + j)) = true) : ∀ (k N i : Nat) (g : Nat → Int32), i + k = 60 → k < N → (∀ j, j < 60 → g (60 * r + j) = f (60 * r + j)) →
    fX9_copy_L2 F (ii r) (ii q) N (ii i) (pIr M 39 g) = some (pIr M 39 (fun j => if 60 * q + i ≤ j ∧ j < 60 * q + 60 then f (60 * r + (j - 60 * q)) else g j))
  | 0, N + 1, i, g, h1, h2, h3 => by
    rw [fX9_copy_L2, if_pos (by rw [show (60 : Int32) = ii 60 from rfl, ii_le] <;> omega)]
    congr 2
    funext j
    rw [if_neg (by omega)]
  | k + 1, N + 1, i, g, h1, h2, h3 => by
    rw [fX9_copy_L2, show (60 : Int32) = ii 60 from rfl, if_neg (by rw [ii_le] <;> omega)]
    simp (disch := omega) only [ii_mul, ii_add, gd_inb, ii_nat, nm_eq, ii_lit1]
    rw [show ((60 : Int) * r + i).toNat = 60 * r + i by omega, show ((60 : Int) * q + i).toNat = 60 * q + i by omega, pIr_c, h3 i (by omega), hb i (by omega), gd_eq, pI_r, pIr_c, pIr_r, show ((i : Int) + 1) = ((i + 1 : Nat) : Int) by omega]
    rw [copy_L hr hq hrq f hb k N (i + 1) (upd g (60 * q + i) (f (60 * r + i))) (by omega) (by omega) (fun j hj => by rw [up_d (by omega)]; exact h3 j hj)]
    congr 2
    funext j
    by_cases e : j = 60 * q + i
    · subst e
      rw [if_neg (by omega), up_c, if_pos (by omega)]
      congr 1; omega
    · rw [up_d e]
      by_cases e2 : 60 * q + (i + 1) ≤ j ∧ j < 60 * q + 60
      · rw [if_pos e2, if_pos (by omega)]
      · rw [if_neg e2, if_neg (by omega)]
theorem copy_eq (hF : 100000 ≤ F) {r q : Nat} (hr : r < 17) (hq : q < 17) (hrq : r ≠ q) {S : Nat → Bool} (hw : Row M fi r S) :
    ∃ M', fX9_copy F (ii r) (ii q) M = some M' ∧ Sm [39] M M' ∧ Row M' fi q S ∧ ∀ j, (j < 60 * q ∨ 60 * q + 60 ≤ j) → M'.1 39 j = M.1 39 j := by
  have key := copy_L (F := F) (M := M) hr hq hrq (M.1 39) (fun j hj => by rw [hw j hj]; exact bi_isb _) 60 F 0 (M.1 39) (by omega) (by omega) (fun j hj => rfl)
  rw [pIr_id] at key
  refine ⟨_, key, Sm.ir (by decide), fun j hj => ?_, fun j hj => ?_⟩
  · rw [pIr_c, if_pos (by omega), show 60 * r + (60 * q + j - 60 * q) = 60 * r + j by omega]; exact hw j hj
  · rw [pIr_c, if_neg (by omega)]
theorem clear_L {r : Nat} (hr : r < 17) : ∀ (k N i : Nat) (g : Nat → Int32), i + k = 60 → k < N →
    fX9_clear_L2 F (ii r) N (ii i) (pIr M 39 g) = some (pIr M 39 (fun j => if 60 * r + i ≤ j ∧ j < 60 * r + 60 then 0 else g j))
  | 0, N + 1, i, g, h1, h2 => by
    rw [fX9_clear_L2, if_pos (by rw [show (60 : Int32) = ii 60 from rfl, ii_le] <;> omega)]
    congr 2
    funext j
    rw [if_neg (by omega)]
  | k + 1, N + 1, i, g, h1, h2 => by
    rw [fX9_clear_L2, show (60 : Int32) = ii 60 from rfl, if_neg (by rw [ii_le] <;> omega)]
    simp (disch := omega) only [ii_mul, ii_add, gd_inb, ii_nat, nm_eq, ii_lit1]
    rw [show ((60 : Int) * r + i).toNat = 60 * r + i by omega, pI_r, pIr_c, pIr_r, show ((i : Int) + 1) = ((i + 1 : Nat) : Int) by omega]
    rw [clear_L hr k N (i + 1) (upd g (60 * r + i) 0) (by omega) (by omega)]
    congr 2
    funext j
    by_cases e : j = 60 * r + i
    · subst e
      rw [if_neg (by omega), up_c, if_pos (by omega)]
    · rw [up_d e]
      by_cases e2 : 60 * r + (i + 1) ≤ j ∧ j < 60 * r + 60
      · rw [if_pos e2, if_pos (by omega)]
      · rw [if_neg e2, if_neg (by omega)]
theorem clear_eq (hF : 100000 ≤ F) {r : Nat} (hr : r < 17) :
    ∃ M', fX9_clear F (ii r) M = some M' ∧ Sm [39] M M' ∧ Row M' fi r (fun _ => false) ∧ ∀ j, (j < 60 * r ∨ 60 * r + 60 ≤ j) → M'.1 39 j = M.1 39 j := by
  have key := clear_L (F := F) (M := M) hr 60 F 0 (M.1 39) (by omega) (by omega)
  rw [pIr_id] at key
  refine ⟨_, key, Sm.ir (by decide), fun j hj => ?_, fun j hj => ?_⟩
  · rw [pIr_c, if_pos (by omega)]; rfl
  · rw [pIr_c, if_neg (by omega)]
theorem Row.cong {N : Mem} {r : Nat} {S : Nat → Bool} (h : Row M fi r S) (hc : ∀ j, 60 * r ≤ j → j < 60 * r + 60 → N.1 39 j = M.1 39 j) : Row N fi r S := fun j hj => (hc (60 * r + j) (by omega) (by omega)).trans (h j hj)
theorem ct_shift (hG : GV s n fi la) {S : Nat → Bool} (hS : Sup fi la S) : fb_ct (fun k => S (fi + k)) (la + 1 - fi) = ct S := by
  have hg := hG.b
  have h1 := fb_ct_split S fi (la + 1 - fi)
  have h2 : fb_ct S fi = 0 := fb_ct_zero.mpr (fun k hk => by
    cases h : S k with
    | false => rfl
    | true => have := hS k h; omega)
  rw [show fi + (la + 1 - fi) = la + 1 by omega, h2, Nat.zero_add] at h1
  have h3 := fb_ct_split S (la + 1) (64 - (la + 1))
  have h4 : fb_ct (fun k => S (la + 1 + k)) (64 - (la + 1)) = 0 := fb_ct_zero.mpr (fun k hk => by
    cases h : S (la + 1 + k) with
    | false => rfl
    | true => have := hS _ h; omega)
  rw [show la + 1 + (64 - (la + 1)) = 64 by omega, h4, Nat.add_zero] at h3
  unfold ct
  rw [h3, h1]
theorem size_L (hG : GV s n fi la) (hR : RG s n fi la M) {r : Nat} (hr : r < 17) {S : Nat → Bool} (hw : Row M fi r S) : ∀ (k N i : Nat), i + k = la + 1 - fi → k < N →
    fX9_sizeOf_L4 F (ii r) N (ii (fb_ct (fun k => S (fi + k)) i)) (ii i) M = some (ii (fb_ct (fun k => S (fi + k)) (la + 1 - fi)), M)
  | 0, N + 1, i, h1, h2 => by
    have hg := hG.b
    rw [fX9_sizeOf_L4, hR.2.2.1, if_pos (by rw [ii_le] <;> omega), show i = la + 1 - fi by omega]
  | k + 1, N + 1, i, h1, h2 => by
    have hg := hG.b
    have h3 := fb_ct_le (fun k => S (fi + k)) i
    rw [fX9_sizeOf_L4, hR.2.2.1, if_neg (by rw [ii_le] <;> omega), show (60 : Int32) = ii 60 from rfl]
    simp (disch := omega) only [ii_mul, ii_add, gd_inb, ii_nat, nm_eq, ii_lit1]
    rw [show ((60 : Int) * r + i).toNat = 60 * r + i by omega, hw i (by omega), show ((i : Int) + 1) = ((i + 1 : Nat) : Int) by omega]
    have h4 := size_L hG hR hr hw k N (i + 1) (by omega) (by omega)
    rw [fb_ct_succ] at h4
    cases hS : S (fi + i) with
    | false =>
      rw [if_pos (by decide)]
      rw [hS] at h4
      exact h4
    | true =>
      rw [if_neg (by decide)]
      rw [hS] at h4
      exact h4
theorem size_eq (hF : 100000 ≤ F) (hG : GV s n fi la) (hR : RG s n fi la M) {r : Nat} (hr : r < 17) {S : Nat → Bool} (hS : Sup fi la S) (hw : Row M fi r S) : fX9_sizeOf F (ii r) M = some (ii (ct S), M) := by
  have hg := hG.b
  unfold fX9_sizeOf
  rw [ii_lit0, ← ct_shift hG hS]
  exact size_L hG hR hr hw (la + 1 - fi) F 0 (by omega) (by omega)
/-- the reference's sets listed -/
def RLi (M : Mem) (fi : Nat) (ll : List (Nat → Bool)) : Prop := M.1 37 23 = ii ll.length ∧ ll.length ≤ 300 ∧ ∀ i (h : i < ll.length), ∀ j, j < 60 → M.1 49 (60 * i + j) = bi (ll[i] (fi + j))
theorem RLi.cong {N : Mem} {ll : List (Nat → Bool)} (h : RLi M fi ll) (h1 : N.1 37 23 = M.1 37 23) (h2 : N.1 49 = M.1 49) : RLi N fi ll := by
  unfold RLi
  rw [h1, h2]; exact h
theorem look130_L {S : Nat → Bool} {ll : List (Nat → Bool)} (hl : ll.length < 300) (a1 a2 a3 : Int32) : ∀ (k N i : Nat) (M : Mem), i + k = 60 → k < N → Row M fi 8 S → M.1 37 23 = ii ll.length →
    ∃ g, fX9_look_L130 F a1 a2 a3 N (ii i) M = some (0, pI (pIr M 49 g) 37 23 (ii ((ll.length + 1 : Nat) : Int))) ∧ (∀ j, i ≤ j → j < 60 → g (60 * ll.length + j) = bi (S (fi + j))) ∧ ∀ j, (j < 60 * ll.length + i ∨ 60 * ll.length + 60 ≤ j) → g j = M.1 49 j
  | 0, N + 1, i, M, h1, h2, hw, h3 => by
    refine ⟨M.1 49, ?_, fun j h4 h5 => by omega, fun j _ => rfl⟩
    rw [fX9_look_L130, if_pos (by rw [show (60 : Int32) = ii 60 from rfl, ii_le] <;> omega), nm_eq, h3, pIr_id, ii_lit1, ii_add]
    rfl
  | k + 1, N + 1, i, M, h1, h2, hw, h3 => by
    rw [fX9_look_L130, show (60 : Int32) = ii 60 from rfl, if_neg (by rw [ii_le] <;> omega), h3, show (480 : Int32) = ii 480 from rfl]
    simp (disch := omega) only [ii_mul, ii_add, gd_inb, ii_nat, nm_eq, ii_lit1]
    rw [show ((480 : Int) + i).toNat = 60 * 8 + i by omega, hw i (by omega), bi_isb, gd_eq, show ((60 : Int) * ll.length + i).toNat = 60 * ll.length + i by omega, show ((i : Int) + 1) = ((i + 1 : Nat) : Int) by omega]
    obtain ⟨g, g1, g2, g3⟩ := look130_L hl a1 a2 a3 k N (i + 1) (pI M 49 (60 * ll.length + i) (bi (S (fi + i)))) (by omega) (by omega) (hw.sm (Sm.i (cs := [49]) (by decide)) (by decide)) (by rw [pI_d (by decide)]; exact h3)
    refine ⟨g, ?_, fun j h4 h5 => ?_, fun j h4 => ?_⟩
    · rw [g1, pI_r M, pIr_r]
    · by_cases e : j = i
      · subst e
        rw [g3 _ (by omega), pI_c, up_c]
      · exact g2 j (by omega) h5
    · rw [g3 j (by omega), pI_c, up_d (by omega)]
theorem look130_eq (hF : 100000 ≤ F) {S : Nat → Bool} {ll : List (Nat → Bool)} (hl : ll.length < 300) (a1 a2 a3 : Int32) (hw : Row M fi 8 S) (hL : RLi M fi ll) :
    ∃ M', fX9_look_L130 F a1 a2 a3 F 0 M = some (0, M') ∧ Sm [37, 49] M M' ∧ (∀ j, j ≠ 23 → M'.1 37 j = M.1 37 j) ∧ RLi M' fi (ll ++ [S]) := by
  obtain ⟨g, g1, g2, g3⟩ := look130_L (F := F) (S := S) hl a1 a2 a3 60 F 0 M (by omega) (by omega) hw hL.1
  refine ⟨_, g1, (Sm.ir (c := 49) (by decide)).tr (Sm.i (by decide)), fun j hj => ?_, ?_, ?_, fun i hi j hj => ?_⟩
  · rw [pI_c, up_d hj, pIr_d (by decide)]
  · rw [pI_c, up_c, List.length_append]; rfl
  · rw [List.length_append]; simp only [List.length_cons, List.length_nil]; omega
  · rw [pI_d (by decide), pIr_c]
    have hi2 : i < ll.length + 1 := by rw [List.length_append] at hi; simpa using hi
    by_cases e : i = ll.length
    · subst e
      rw [List.getElem_append_right (by omega)]
      rw [g2 j (by omega) hj]; simp
    · rw [List.getElem_append_left (by omega), g3 _ (by omega)]
      exact hL.2.2 i (by omega) j hj
end RR
