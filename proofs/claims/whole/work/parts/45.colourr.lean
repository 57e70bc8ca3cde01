/-! parting into colours: the reference -/
def RFp (M N : Mem) : Prop := Sm [37, 39, 51, 52] M N ∧ (∀ j, j ≠ 17 → j ≠ 18 → N.1 37 j = M.1 37 j) ∧ (∀ j, j < 540 → N.1 39 j = M.1 39 j)
theorem RFp.rf {M : Mem} : RFp M M := ⟨Sm.rf, fun _ _ _ => rfl, fun _ _ => rfl⟩
theorem RFp.tr {M N K : Mem} (h : RFp M N) (h2 : RFp N K) : RFp M K := ⟨h.1.tr h2.1, fun j a b => (h2.2.1 j a b).trans (h.2.1 j a b), fun j a => (h2.2.2 j a).trans (h.2.2 j a)⟩
theorem RFp.i37 {M : Mem} {j : Nat} {v : Int32} (h : j = 17 ∨ j = 18) : RFp M (pI M 37 j v) := ⟨Sm.i (by decide), fun i a b => by rw [pI_c, up_d (by omega)], fun i a => by rw [pI_d (by decide)]⟩
theorem RFp.i51 {M : Mem} {c j : Nat} {v : Int32} (h : c = 51 ∨ c = 52) : RFp M (pI M c j v) := ⟨Sm.i (by rcases h with rfl | rfl <;> decide), fun i a b => by rw [pI_d (by omega)], fun i a => by rw [pI_d (by omega)]⟩
theorem RFp.i39 {M : Mem} {j : Nat} {v : Int32} (h : 540 ≤ j) : RFp M (pI M 39 j v) := ⟨Sm.i (by decide), fun i a b => by rw [pI_d (by decide)], fun i a => by rw [pI_c, up_d (by omega)]⟩
theorem RG.fp {M N : Mem} {s n fi la : Nat} (h : RG s n fi la M) (hf : RFp M N) : RG s n fi la N := by
  unfold RG
  rw [hf.2.1 3 (by omega) (by omega), hf.2.1 4 (by omega) (by omega), hf.2.1 5 (by omega) (by omega), hf.2.1 6 (by omega) (by omega)]
  exact h
theorem RLs.fp {M N : Mem} {m : Nat} {ls : Nat → LawT} (h : RLs M m ls) (hf : RFp M N) : RLs N m ls := by
  unfold RLs
  rw [hf.2.1 13 (by omega) (by omega), (hf.1 40 (by decide)).1, (hf.1 41 (by decide)).1, (hf.1 42 (by decide)).1, (hf.1 43 (by decide)).1, (hf.1 44 (by decide)).1]
  exact h
/-- the rows of all colours -/
def RCw (fi many : Nat) (M : Mem) (cs : Cs) : Prop := ∀ d, d < many → Row M fi (9 + d) (grp fi cs d)
/-- what has been tried -/
def Atr (many : Nat) (M : Mem) : Cs → Prop
  | [] => M.1 52 0 = ii 0
  | c :: R => M.1 51 R.length = ii c ∧ M.1 52 (R.length + 1) = ii (us (c :: R)) ∧ Atr many M R
theorem Atr.cong {many : Nat} {M N : Mem} : ∀ (R : Cs), Atr many M R → (∀ j, j < R.length → N.1 51 j = M.1 51 j) → (∀ j, j ≤ R.length → N.1 52 j = M.1 52 j) → Atr many N R
  | [], h, h1, h2 => (h2 0 (by simp)).trans h
  | c :: R, h, h1, h2 => by
    have e : (c :: R).length = R.length + 1 := rfl
    exact ⟨(h1 _ (by omega)).trans h.1, (h2 _ (by omega)).trans h.2.1, Atr.cong R h.2.2 (fun j a => h1 j (by omega)) (fun j a => h2 j (by omega))⟩
theorem Atr.here {many : Nat} {M : Mem} : ∀ {R : Cs}, Atr many M R → M.1 52 R.length = ii (us R)
  | [], h => h
  | _ :: _, h => h.2.1
/-- the CASES that wait -/
def pdc (fi : Nat) (kf : (Nat → Bool) → Nat → Bool) (many : Nat) : Cs → List Cs
  | [] => []
  | c :: R => chF fi kf many R (c + 1) ++ pdc fi kf many R
section PR
variable {F s n fi la m : Nat} {ls : Nat → LawT}
theorem next_L (hF : 100000 ≤ F) (hG : GV s n fi la) {many : Nat} (hm : 1 ≤ many ∧ many ≤ 8) {M : Mem} (hR : RG s n fi la M) (hL : RLs M m ls) {R : Cs} (hl : fi + R.length ≤ la) (hv : vc many R) (hw : RCw fi many M R) (hN : M.1 52 R.length = ii (us R)) (a2 : Int32) : ∀ (k N f : Nat), f + k = 9 → k < N →
    (∃ c, f ≤ c ∧ c < min (us R + 1) many ∧ chF fi (ky s n fi la m ls) many R f = (c :: R) :: chF fi (ky s n fi la m ls) many R (c + 1) ∧ fX9_next_L3 F (ii R.length) a2 (ii many) N (ii f) M = some (ii c, pI M 39 (60 * (9 + c) + R.length) (bi true))) ∨
    (chF fi (ky s n fi la m ls) many R f = [] ∧ fX9_next_L3 F (ii R.length) a2 (ii many) N (ii f) M = some (ii (-1), M))
  | 0, N + 1, f, h1, h2 => by
    right
    refine ⟨chF_0 (by omega), ?_⟩
    rw [fX9_next_L3, if_pos (by rw [ii_le] <;> omega)]; rfl
  | k + 1, N + 1, f, h1, h2 => by
    have hg := hG.b
    have hu := us_le hv
    by_cases q1 : many ≤ f
    · right
      refine ⟨chF_0 (by omega), ?_⟩
      rw [fX9_next_L3, if_pos (by rw [ii_le] <;> omega)]; rfl
    · by_cases q2 : us R < f
      · right
        refine ⟨chF_0 (by omega), ?_⟩
        rw [fX9_next_L3, if_neg (by rw [ii_le] <;> omega), gd_inb (by omega) (by omega) (by omega), ii_nat (by omega) (by omega), Int.toNat_natCast, hN, if_pos (by rw [ii_lt] <;> omega)]; rfl
      · have hc1 := chF_1 (fi := fi) (kf := ky s n fi la m ls) (many := many) (R := R) (f := f) (by omega)
        have hck : cok fi (ky s n fi la m ls) R f = ky s n fi la m ls (put (grp fi R f) (fi + R.length) true) (fi + R.length) := rfl
        rw [fX9_next_L3, if_neg (by rw [ii_le] <;> omega), gd_inb (by omega) (by omega) (by omega), ii_nat (by omega) (by omega), Int.toNat_natCast, hN, if_neg (by rw [ii_lt] <;> omega), show (9 : Int32) = ii 9 from rfl, hR.2.2.2, ii_add, ii_add, show ((9 : Int) + f) = ((9 + f : Nat) : Int) by omega, show ((fi : Int) + R.length) = ((fi + R.length : Nat) : Int) by omega, comes_eq hF hG hR hL (grp_sup R f (by omega)) (by omega) (hw f (by omega)) (by omega), bd_eq, show fi + R.length - fi = R.length by omega]
        cases hk : ky s n fi la m ls (put (grp fi R f) (fi + R.length) true) (fi + R.length) with
        | true =>
          left
          refine ⟨f, Nat.le_refl _, by omega, ?_, ?_⟩
          · rw [hc1, hck, hk, if_pos rfl]; rfl
          · rw [if_neg (by decide)]
        | false =>
          have hsame : pI M 39 (60 * (9 + f) + R.length) (bi false) = M := pI_same (by
            rw [hw f (by omega) R.length (by omega), grp_out R f _ (Nat.le_refl _)])
          rw [hck, hk, if_neg (by decide), List.nil_append] at hc1
          rw [if_pos (by decide), hsame, nm_eq, ii_lit1, ii_add, show ((f : Int) + 1) = ((f + 1 : Nat) : Int) by omega, hc1]
          rcases next_L hF hG hm hR hL hl hv hw hN a2 k N (f + 1) (by omega) (by omega) with ⟨c, h3, h4, h5, h6⟩ | h
          · exact Or.inl ⟨c, by omega, h4, h5, h6⟩
          · exact Or.inr h
/-- the way back, up to the next CASE -/
theorem goes_L (hF : 100000 ≤ F) (hG : GV s n fi la) {many : Nat} (hm : 1 ≤ many ∧ many ≤ 8) (a1 a3 : Int32) (K : Int32 → Mem → Option (Int32 × Mem)) : ∀ (R : Cs) (N : Nat) (M : Mem) (f : Nat), f ≤ 8 → RG s n fi la M → RLs M m ls → fi + R.length ≤ la → vc many R → RCw fi many M R → Atr many M R → R.length + 3 < N →
    (M.1 51 R.length = ii ((f : Int) - 1)) →
    (∃ c R' M', chF fi (ky s n fi la m ls) many R f ++ pdc fi (ky s n fi la m ls) many R = (c :: R') :: pdc fi (ky s n fi la m ls) many (c :: R') ∧ fX9_parted_L125 F a1 (ii many) a3 (fun x4 x5 M => fX9_parted_L87 F a1 (ii many) a3 K N x4 x5 M) (ii R.length) M = K (ii ((R'.length + 1 : Nat) : Int)) M' ∧ RFp M M' ∧ R'.length ≤ R.length ∧ vc many (c :: R') ∧ RCw fi many M' (c :: R') ∧ Atr many M' (c :: R') ∧ M'.1 37 = M.1 37) ∨
    (∃ M', chF fi (ky s n fi la m ls) many R f ++ pdc fi (ky s n fi la m ls) many R = [] ∧ fX9_parted_L125 F a1 (ii many) a3 (fun x4 x5 M => fX9_parted_L87 F a1 (ii many) a3 K N x4 x5 M) (ii R.length) M = some (ii 1, M') ∧ RFp M M' ∧ M'.1 37 = M.1 37)
  | R, N + 1, M, f, hf, hR, hL, hl, hv, hw, ha, h2, ht => by
    have hg := hG.b
    have hu := us_le hv
    unfold fX9_parted_L125 fX9_next
    rw [gd_inb (by omega) (by omega) (by omega), ii_nat (by omega) (by omega), Int.toNat_natCast, ht, ii_lit1, ii_add, show ((f : Int) - 1 + 1) = (f : Int) by omega]
    rcases next_L hF hG hm hR hL hl hv hw ha.here (ii f) (9 - f) F f (by omega) (by omega) with ⟨c, c1, c2, c3, c4⟩ | ⟨c1, c2⟩
    · left
      have hN1 : (pI M 39 (60 * (9 + c) + R.length) (bi true)).1 52 R.length = ii (us R) := by rw [pI_d (by decide)]; exact ha.here
      refine ⟨c, R, pI (pI (pI M 39 (60 * (9 + c) + R.length) (bi true)) 51 R.length (ii c)) 52 (R.length + 1) (ii (us (c :: R))), ?_, ?_, ((RFp.i39 (by omega)).tr (RFp.i51 (Or.inl rfl))).tr (RFp.i51 (Or.inr rfl)), Nat.le_refl _, ⟨by omega, by omega, hv⟩, ?_, ⟨?_, ?_, ?_⟩, ?_⟩
      · rw [c3]; rfl
      · rw [c4, bd_eq, gd_inb (by omega) (by omega) (by omega)]
        simp only [nm_eq]
        rw [gd_inb (by omega) (by omega) (by omega), pI_c, up_c, ii_neg, if_neg (by rw [ii_eq (by omega) (by omega) (by omega) (by omega)]; omega)]
        unfold fX9_parted_L164
        rw [if_neg (by decide)]
        dsimp only
        rw [fX9_parted_L87, if_neg (by decide), gd_inb (by omega) (by omega) (by omega), gd_inb (by omega) (by omega) (by omega), ii_nat (by omega) (by omega), Int.toNat_natCast, pI_c, up_c, pI_d (show 52 ≠ 51 by decide), hN1]
        simp only [nm_eq]
        rw [gd_inb (by omega) (by omega) (by omega), gd_inb (by omega) (by omega) (by omega), ii_lit1, ii_add, ii_add, gd_inb (by omega) (by omega) (by omega), gd_inb (by omega) (by omega) (by omega), ii_nat (by omega) (by omega), show ((R.length : Int) + 1).toNat = R.length + 1 by omega, show ((R.length : Int) + 1) = ((R.length + 1 : Nat) : Int) by omega, us]
        by_cases q : c = us R
        · rw [if_pos (by rw [q]), show (us R : Int) + 1 = ((max (us R) (c + 1) : Nat) : Int) by omega]
        · rw [if_neg (by rw [ii_eq (by omega) (by omega) (by omega) (by omega)]; omega), show max (us R) (c + 1) = us R by omega]
      · intro d hd
        rw [grp]
        have hw2 : Row (pI (pI (pI M 39 (60 * (9 + c) + R.length) (bi true)) 51 R.length (ii c)) 52 (R.length + 1) (ii (us (c :: R)))) fi (9 + d) (if c = d then put (grp fi R d) (fi + R.length) true else grp fi R d) ↔ Row (pI M 39 (60 * (9 + c) + R.length) (bi true)) fi (9 + d) (if c = d then put (grp fi R d) (fi + R.length) true else grp fi R d) := by
          unfold Row
          rw [pI_d (by decide), pI_d (by decide)]
        rw [hw2]
        by_cases q : c = d
        · subst q
          rw [if_pos rfl]
          have := (hw c hd).put (x := fi + R.length) (by omega) (by omega) true
          rw [show fi + R.length - fi = R.length by omega] at this
          exact this
        · rw [if_neg q]
          exact (hw d hd).oth (by omega) (by omega) _
      · rw [pI_d (by decide), pI_c, up_c]
      · rw [pI_c, up_c]
      · exact Atr.cong R ha (fun j hj => by rw [pI_d (by decide), pI_c, up_d (by omega), pI_d (by decide)]) (fun j hj => by rw [pI_c, up_d (by omega), pI_d (by decide), pI_d (by decide)])
      · rw [pI_d (by decide), pI_d (by decide), pI_d (by decide)]
    · rw [c2, bd_eq, gd_inb (by omega) (by omega) (by omega)]
      simp only [nm_eq]
      rw [gd_inb (by omega) (by omega) (by omega), pI_c, up_c, ii_neg, if_pos rfl, c1, List.nil_append]
      unfold fX9_parted_L164
      rw [if_pos rfl, nm_eq, show (-1 : Int32) = ii (-1) from rfl, ii_add, ii_lit0]
      cases R with
      | nil =>
        right
        rw [if_neg (by rw [List.length_nil, ii_le] <;> omega)]
        exact ⟨_, rfl, rfl, RFp.i51 (Or.inl rfl), by rw [pI_d (by decide)]⟩
      | cons c0 R0 =>
        have hlc : (c0 :: R0).length = R0.length + 1 := rfl
        rw [if_pos (by rw [ii_le] <;> omega)]
        dsimp only
        rw [show (((c0 :: R0).length : Nat) : Int) + -1 = ((R0.length : Nat) : Int) by rw [List.length_cons]; omega]
        have hl0 : fi + R0.length + 1 ≤ la := by rw [List.length_cons] at hl; omega
        have h20 : R0.length + 4 < N + 1 := by rw [List.length_cons] at h2; omega
        have hc0 := hv.2.1
        generalize hM1 : pI M 51 (c0 :: R0).length (ii (-1)) = M1
        have f1 : RFp M M1 := by rw [← hM1]; exact RFp.i51 (Or.inl rfl)
        have h51 : M1.1 51 R0.length = ii c0 := by rw [← hM1, pI_c, up_d (by rw [List.length_cons]; omega)]; exact ha.1
        have hR1 := hR.fp f1
        have hL1 := hL.fp f1
        rw [fX9_parted_L87, if_pos (by decide), gd_inb (by omega) (by omega) (by omega), ii_nat (by omega) (by omega), Int.toNat_natCast, h51, if_neg (by rw [show (-1 : Int32) = ii (-1) from rfl, ii_eq (by omega) (by omega) (by omega) (by omega)]; omega), gd_inb (by omega) (by omega) (by omega), show (9 : Int32) = ii 9 from rfl, ii_add, hR1.2.2.2, ii_add, show ((9 : Int) + c0) = ((9 + c0 : Nat) : Int) by omega, show ((fi : Int) + R0.length) = ((fi + R0.length : Nat) : Int) by omega, show (0 : Int32) = bi false from rfl, let_eq hG hR1 (by omega) (by omega) (by omega), bv_eq, show fi + R0.length - fi = R0.length by omega]
        have f2 : RFp M1 (pI M1 39 (60 * (9 + c0) + R0.length) (bi false)) := RFp.i39 (by omega)
        have hw2 : RCw fi many (pI M1 39 (60 * (9 + c0) + R0.length) (bi false)) R0 := by
          intro d hd
          have hrow : Row M1 fi (9 + d) (grp fi (c0 :: R0) d) := (hw d hd).sm (cs := [51]) (by rw [← hM1]; exact Sm.i (by decide)) (by decide)
          rw [grp] at hrow
          by_cases q : c0 = d
          · subst q
            rw [if_pos rfl] at hrow
            have := hrow.put (x := fi + R0.length) (by omega) (by omega) false
            rw [show fi + R0.length - fi = R0.length by omega, put_put, put_same (grp_out R0 c0 _ (Nat.le_refl _))] at this
            exact this
          · rw [if_neg q] at hrow
            exact hrow.oth (by omega) (by omega) _
        have ha2 : Atr many (pI M1 39 (60 * (9 + c0) + R0.length) (bi false)) R0 := Atr.cong R0 ha.2.2 (fun j hj => by rw [pI_d (by decide), ← hM1, pI_c, up_d (by rw [List.length_cons]; omega)]) (fun j hj => by rw [pI_d (by decide), ← hM1, pI_d (by decide)])
        have h37 : (pI M1 39 (60 * (9 + c0) + R0.length) (bi false)).1 37 = M.1 37 := by rw [pI_d (by decide), ← hM1, pI_d (by decide)]
        rcases goes_L hF hG hm a1 a3 K R0 N (pI M1 39 (60 * (9 + c0) + R0.length) (bi false)) (c0 + 1) (by omega) (hR1.fp f2) (hL1.fp f2) (by omega) hv.2.2 hw2 ha2 (by omega) (by rw [pI_d (by decide), h51]; congr 1; omega) with ⟨c, R', M', g1, g2, g3, g4, g5, g6, g7, g8⟩ | ⟨M', g1, g2, g3, g4⟩
        · left
          exact ⟨c, R', M', g1, g2, (f1.tr f2).tr g3, by rw [List.length_cons]; omega, g5, g6, g7, g8.trans h37⟩
        · right
          exact ⟨M', g1, g2, (f1.tr f2).tr g3, g4.trans h37⟩
theorem p87 {a1 a2 a3 : Int32} {K : Int32 → Mem → Option (Int32 × Mem)} {N p : Nat} {M : Mem} (h : 0 < N) (hp : p < 61) (h1 : M.1 51 p = ii (-1)) : fX9_parted_L87 F a1 a2 a3 K N (ii p) 0 M = fX9_parted_L125 F a1 a2 a3 (fun x4 x5 M => fX9_parted_L87 F a1 a2 a3 K (N - 1) x4 x5 M) (ii p) M := by
  cases N with
  | zero => omega
  | succ N =>
    rw [fX9_parted_L87, if_pos rfl, gd_inb (by omega) (by omega) (by omega), ii_nat (by omega) (by omega), Int.toNat_natCast, h1, if_pos (by decide)]
    rfl
theorem parted_L (hF : 100000 ≤ F) (hG : GV s n fi la) {many : Nat} (hm : 1 ≤ many ∧ many ≤ 8) {places : Nat} (hp : fi + places ≤ la + 1) {looks : Nat} (hlk : looks ≤ 50000) (c : Int) (a3 : Int32) : ∀ (k N : Nat) (M : Mem) (cs : Cs), k ≤ looks → k < N → RG s n fi la M → RLs M m ls → cs.length ≤ places → vc many cs → RCw fi many M cs → Atr many M cs → M.1 37 18 = ii k → M.1 37 17 = ii (c - k) →
    ∃ M' code cs' k', crun fi (ky s n fi la m ls) many places k (cs :: pdc fi (ky s n fi la m ls) many cs) = (code, cs', k') ∧ fX9_parted_L39 F (ii places) (ii many) a3 N (ii cs.length) M = some (ii code, M') ∧ RFp M M' ∧ M'.1 37 17 = ii (c - k') ∧ (code = 0 → Atr many M' cs' ∧ cs'.length = places)
  | 0, N + 1, M, cs, h1, h2, hR, hL, hl, hv, hw, ha, h18, h17 => by
    refine ⟨M, 2, [], 0, rfl, ?_, RFp.rf, h17, fun h => absurd h (by decide)⟩
    rw [fX9_parted_L39, h18, if_pos (by decide)]; rfl
  | k + 1, N + 1, M, cs, h1, h2, hR, hL, hl, hv, hw, ha, h18, h17 => by
    have hg := hG.b
    rw [fX9_parted_L39, h18, if_neg (by rw [ii_lit0, ii_eq (by omega) (by omega) (by omega) (by omega)]; omega)]
    simp only [nm_eq]
    have g1 : ii ((k + 1 : Nat) : Int) - 1 = ii k := by rw [ii_lit1, ii_sub]; congr 1; omega
    have g0 : (pI M 37 18 (ii k)).1 37 17 = ii (c - ((k + 1 : Nat) : Int)) := by rw [pI_c, up_d (by decide)]; exact h17
    have g2 : ii (c - ((k + 1 : Nat) : Int)) + 1 = ii (c - k) := by rw [ii_lit1, ii_add]; congr 1; omega
    rw [g1, g0, g2]
    have f1 : RFp M (pI (pI M 37 18 (ii k)) 37 17 (ii (c - k))) := (RFp.i37 (Or.inr rfl)).tr (RFp.i37 (Or.inl rfl))
    have s1 : Sm [37] M (pI (pI M 37 18 (ii k)) 37 17 (ii (c - k))) := (Sm.i (by decide)).tr (Sm.i (by decide))
    have e18 : (pI (pI M 37 18 (ii k)) 37 17 (ii (c - k))).1 37 18 = ii k := by simp [pI_at]
    have e17 : (pI (pI M 37 18 (ii k)) 37 17 (ii (c - k))).1 37 17 = ii (c - k) := by simp [pI_at]
    generalize pI (pI M 37 18 (ii k)) 37 17 (ii (c - k)) = M1 at *
    rw [crun]
    by_cases q : places ≤ cs.length
    · rw [if_pos q, if_pos (by rw [show cs.length = places by omega])]
      refine ⟨M1, 0, cs, k, rfl, rfl, f1, e17, fun _ => ⟨?_, by omega⟩⟩
      exact Atr.cong cs ha (fun j _ => by rw [(s1 51 (by decide)).1]) (fun j _ => by rw [(s1 52 (by decide)).1])
    · rw [if_neg q, if_neg (by rw [ii_eq (by omega) (by omega) (by omega) (by omega)]; omega), gd_inb (by omega) (by omega) (by omega), ii_nat (by omega) (by omega), Int.toNat_natCast, show (-1 : Int32) = ii (-1) from rfl]
      have f2 : RFp M1 (pI M1 51 cs.length (ii (-1))) := RFp.i51 (Or.inl rfl)
      have s2 : Sm [37, 51] M (pI M1 51 cs.length (ii (-1))) := (s1.mono (by decide)).tr (Sm.i (by decide))
      have hR2 := (hR.fp f1).fp f2
      have hL2 := (hL.fp f1).fp f2
      rw [p87 (by omega) (by omega) (by rw [pI_c, up_c])]
      have hw2 : RCw fi many (pI M1 51 cs.length (ii (-1))) cs := fun d hd => (hw d hd).sm s2 (by decide)
      have ha2 : Atr many (pI M1 51 cs.length (ii (-1))) cs := Atr.cong cs ha (fun j hj => by rw [pI_c, up_d (by omega), (s1 51 (by decide)).1]) (fun j _ => by rw [(s2 52 (by decide)).1])
      have h37 : ∀ j, (pI M1 51 cs.length (ii (-1))).1 37 j = M1.1 37 j := fun j => by rw [pI_d (by decide)]
      rcases goes_L hF hG hm (ii places) a3 (fun x4 M => fX9_parted_L39 F (ii places) (ii many) a3 N x4 M) cs (F - 1) (pI M1 51 cs.length (ii (-1))) 0 (by omega) hR2 hL2 (by omega) hv hw2 ha2 (by omega) (by rw [pI_c, up_c]; rfl) with ⟨c', R', M2, r1, r2, r3, r4, r5, r6, r7, r8⟩ | ⟨M2, r1, r2, r3, r4⟩
      · rw [r1, r2]
        obtain ⟨M', code, cs', k', t1, t2, t3, t4, t5⟩ := parted_L hF hG hm hp hlk c a3 k N M2 (c' :: R') (by omega) (by omega) (hR2.fp r3) (hL2.fp r3) (by rw [List.length_cons]; omega) r5 r6 r7 (by rw [r8, h37]; exact e18) (by rw [r8, h37]; exact e17)
        exact ⟨M', code, cs', k', t1, t2, ((f1.tr f2).tr r3).tr t3, t4, t5⟩
      · rw [r1, r2]
        refine ⟨M2, 1, [], k, ?_, rfl, (f1.tr f2).tr r3, by rw [r4, h37]; exact e17, fun h => absurd h (by decide)⟩
        cases k <;> rfl
theorem parted_8 (hF : 100000 ≤ F) (hG : GV s n fi la) {many : Nat} (hm : 1 ≤ many ∧ many ≤ 8) (a1 a3 : Int32) : ∀ (k N d : Nat) (M : Mem), d + k = many → k < N → (∀ e, e < d → Row M fi (9 + e) (fun _ => false)) →
    ∃ M', fX9_parted_L8 F a1 (ii many) a3 N (ii d) M = fX9_parted_L39 F a1 (ii many) a3 F 0 M' ∧ RFp M M' ∧ M'.1 37 = M.1 37 ∧ RCw fi many M' [] ∧ M'.1 52 0 = ii 0
  | 0, N + 1, d, M, h1, h2, h3 => by
    refine ⟨pI M 52 0 (ii 0), ?_, RFp.i51 (Or.inr rfl), by rw [pI_d (by decide)], ?_, by rw [pI_c, up_c]⟩
    · rw [fX9_parted_L8, if_pos (by rw [ii_le] <;> omega), show (0 : Int32) = ii 0 from rfl, gd_inb (by omega) (by omega) (by omega), nm_eq]
      rfl
    · intro e he
      exact (h3 e (by omega)).sm (cs := [52]) (Sm.i (by decide)) (by decide)
  | k + 1, N + 1, d, M, h1, h2, h3 => by
    obtain ⟨M1, c1, c2, c3, c4⟩ := clear_eq (F := F) (M := M) (fi := fi) hF (r := 9 + d) (by omega)
    have f1 : RFp M M1 := ⟨c2.mono (by decide), fun j _ _ => by rw [(c2 37 (by decide)).1], fun j hj => c4 j (by omega)⟩
    rw [fX9_parted_L8, if_neg (by rw [ii_le] <;> omega), show (9 : Int32) = ii 9 from rfl, ii_add, show ((9 : Int) + d) = ((9 + d : Nat) : Int) by omega, c1, bv_eq, nm_eq, ii_lit1, ii_add, show ((d : Int) + 1) = ((d + 1 : Nat) : Int) by omega]
    obtain ⟨M', g1, g2, g3, g4, g5⟩ := parted_8 hF hG hm a1 a3 k N (d + 1) M1 (by omega) (by omega) (fun e he => by
      by_cases q : e = d
      · rw [q]; exact c3
      · exact (h3 e (by omega)).cong (fun j j1 j2 => c4 j (by omega)))
    exact ⟨M', g1, f1.tr g2, g3.trans (c2 37 (by decide)).1, g4, g5⟩
theorem parted_eq (hF : 100000 ≤ F) (hG : GV s n fi la) {M : Mem} (hR : RG s n fi la M) (hL : RLs M m ls) {many : Nat} (hm : 1 ≤ many ∧ many ≤ 8) {places : Nat} (hp : fi + places ≤ la + 1) {looks : Nat} (hlk : looks ≤ 50000) {L0 : Int} (h17 : M.1 37 17 = ii L0) :
    ∃ M' code cs k', crun fi (ky s n fi la m ls) many places looks [[]] = (code, cs, k') ∧ fX9_parted F (ii places) (ii many) (ii looks) M = some (ii code, M') ∧ RFp M M' ∧ M'.1 37 17 = ii (L0 + looks - k') ∧ (code = 0 → Atr many M' cs ∧ cs.length = places) := by
  unfold fX9_parted
  rw [nm_eq, show (0 : Int32) = ii ((0 : Nat) : Int) from rfl]
  have f1 : RFp M (pI M 37 18 (ii looks)) := RFp.i37 (Or.inr rfl)
  obtain ⟨M1, g1, g2, g3, g4, g5⟩ := parted_8 (fi := fi) hF hG hm (ii places) (ii looks) many F 0 (pI M 37 18 (ii looks)) (by omega) (by omega) (fun e he => by omega)
  rw [g1]
  obtain ⟨M', code, cs', k', t1, t2, t3, t4, t5⟩ := parted_L hF hG hm hp hlk (L0 + looks) (ii looks) looks F M1 [] (Nat.le_refl _) (by omega) ((hR.fp f1).fp g2) ((hL.fp f1).fp g2) (Nat.zero_le _) trivial g4 g5 (by rw [g3, pI_c, up_c]) (by rw [g3, pI_c, up_d (by decide), h17]; congr 1; omega)
  exact ⟨M', code, cs', k', t1, t2, (f1.tr g2).tr t3, t4, t5⟩
end PR
