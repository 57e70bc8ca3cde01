/-! the search: the reference -/
def RFr (M N : Mem) : Prop := Sm [37, 39, 47, 49] M N ∧ (∀ j, j ≠ 17 → j ≠ 18 → j ≠ 19 → j ≠ 23 → j ≠ 24 → N.1 37 j = M.1 37 j) ∧ (∀ j, (j < 480 ∨ 600 ≤ j) → N.1 39 j = M.1 39 j)
theorem RFr.rf {M : Mem} : RFr M M := ⟨Sm.rf, fun _ _ _ _ _ _ => rfl, fun _ _ => rfl⟩
theorem RFr.tr {M N K : Mem} (h : RFr M N) (h2 : RFr N K) : RFr M K := ⟨h.1.tr h2.1, fun j a b c d e => (h2.2.1 j a b c d e).trans (h.2.1 j a b c d e), fun j a => (h2.2.2 j a).trans (h.2.2 j a)⟩
theorem RFr.i37 {M : Mem} {j : Nat} {v : Int32} (h : j = 17 ∨ j = 18 ∨ j = 19 ∨ j = 23 ∨ j = 24) : RFr M (pI M 37 j v) := ⟨Sm.i (by decide), fun i a b c d e => by rw [pI_c, up_d (by omega)], fun i a => by rw [pI_d (by decide)]⟩
theorem RFr.i47 {M : Mem} {j : Nat} {v : Int32} : RFr M (pI M 47 j v) := ⟨Sm.i (by decide), fun i a b c d e => by rw [pI_d (by decide)], fun i a => by rw [pI_d (by decide)]⟩
theorem RFr.i39 {M : Mem} {j : Nat} {v : Int32} (h : 480 ≤ j ∧ j < 600) : RFr M (pI M 39 j v) := ⟨Sm.i (by decide), fun i a b c d e => by rw [pI_d (by decide)], fun i a => by rw [pI_c, up_d (by omega)]⟩
theorem RG.fr {M N : Mem} {s n fi la : Nat} (h : RG s n fi la M) (hf : RFr M N) : RG s n fi la N := by
  unfold RG
  rw [hf.2.1 3 (by omega) (by omega) (by omega) (by omega) (by omega), hf.2.1 4 (by omega) (by omega) (by omega) (by omega) (by omega), hf.2.1 5 (by omega) (by omega) (by omega) (by omega) (by omega), hf.2.1 6 (by omega) (by omega) (by omega) (by omega) (by omega)]
  exact h
theorem RLs.fr {M N : Mem} {m : Nat} {ls : Nat → LawT} (h : RLs M m ls) (hf : RFr M N) : RLs N m ls := by
  unfold RLs
  rw [hf.2.1 13 (by omega) (by omega) (by omega) (by omega) (by omega), (hf.1 40 (by decide)).1, (hf.1 41 (by decide)).1, (hf.1 42 (by decide)).1, (hf.1 43 (by decide)).1, (hf.1 44 (by decide)).1]
  exact h
def RAc (what : Nat) (fl0 c : Int) (fi : Nat) (M : Mem) (a : Ac) (k : Nat) : Prop := M.1 37 18 = ii k ∧ M.1 37 17 = ii (c - k) ∧ M.1 37 19 = ii (aS a) ∧ M.1 37 24 = ii (aC a) ∧ RLi M fi (aL a) ∧ (what = 1 → M.1 37 25 = ii fl0) ∧ (0 ≤ aS a → Row M fi 9 (aB a))
/-- the row in hand -/
def RHd (fi la : Nat) (M : Mem) (at_ : Nat) (S : Nat → Bool) : Prop := Row M fi 8 S ∧ Sup fi la S ∧ (∀ x, S x = true → x < fi + at_) ∧ fi + at_ ≤ la + 1 ∧ ∀ j, j < at_ → M.1 47 j = ii (if S (fi + j) then 1 else 2)
theorem RHd.cong {fi la at_ : Nat} {M N : Mem} {S : Nat → Bool} (h : RHd fi la M at_ S) (h1 : ∀ j, 480 ≤ j → j < 540 → N.1 39 j = M.1 39 j) (h2 : N.1 47 = M.1 47) : RHd fi la N at_ S :=
  ⟨h.1.cong (fun j a b => h1 j (by omega) (by omega)), h.2.1, h.2.2.1, h.2.2.2.1, by rw [h2]; exact h.2.2.2.2⟩
theorem atk_0 (S : Nat → Bool) (p : Pl) (a : Ac) : atk 0 S p a = (p, (S, (ct S : Int), aC a, aL a, aO a)) := rfl
theorem atk_1a {S : Nat → Bool} {p : Pl} {a : Ac} (h : 300 ≤ (aL a).length) : atk 1 S p a = ([], (aB a, aS a, aC a, aL a, true)) := by
  unfold atk; rw [if_neg (by decide), if_pos rfl, if_pos h]
theorem atk_1b {S : Nat → Bool} {p : Pl} {a : Ac} (h : ¬ 300 ≤ (aL a).length) : atk 1 S p a = (p, (aB a, aS a, aC a, aL a ++ [S], aO a)) := by
  unfold atk; rw [if_neg (by decide), if_pos rfl, if_neg h]
theorem atk_2 (S : Nat → Bool) (p : Pl) (a : Ac) : atk 2 S p a = (p, (aB a, aS a, aC a + 1, aL a, aO a)) := rfl
section SS
variable {F s n fi la m : Nat} {ls : Nat → LawT}
theorem look_eq (hF : 100000 ≤ F) (hG : GV s n fi la) {what : Nat} (hwh : what ≤ 2) {fl0 c : Int} (hfl : -1 ≤ fl0 ∧ fl0 ≤ 64) (hf2 : what = 2 → fl0 = 0) {M : Mem} (hR : RG s n fi la M) {at_ : Nat} {S : Nat → Bool} {a : Ac} {t k : Nat} (ht : t < 60000) (hk : k < 60000) (ha : oka fi la a t) (hO : aO a = false) (hM : RHd fi la M at_ S) (hA : RAc what fl0 c fi M a (k + 1)) (kf : (Nat → Bool) → Nat → Bool) (p : Pl) :
    ∃ M', RFr M M' ∧ RHd fi la M' at_ S ∧
      ((((ct S + (la + 1 - (fi + at_)) : Nat) : Int) < afl what fl0 a ∧ fX9_look F (ii what) (ii at_) (ii (ct S)) M = some (ii 0, M') ∧ RAc what fl0 c fi M' a k) ∨
       (¬ ((ct S + (la + 1 - (fi + at_)) : Nat) : Int) < afl what fl0 a ∧ ¬ la + 1 ≤ fi + at_ ∧ fX9_look F (ii what) (ii at_) (ii (ct S)) M = some (ii 1, M') ∧ RAc what fl0 c fi M' a k) ∨
       (¬ ((ct S + (la + 1 - (fi + at_)) : Nat) : Int) < afl what fl0 a ∧ la + 1 ≤ fi + at_ ∧ fX9_look F (ii what) (ii at_) (ii (ct S)) M = some (ii (if aO (atk what S p a).2 then 3 else 0), M') ∧ RAc what fl0 c fi M' (atk what S p a).2 k)) := by
  have hg := hG.b
  obtain ⟨⟨a1, a1'⟩, a2, a3, a4, a5⟩ := ha
  obtain ⟨c1, c2, c3, c4, c5, c6, c7⟩ := hA
  have hct := ct_le S
  have hat := hM.2.2.2.1
  have f1 : RFr M (pI (pI M 37 18 (ii k)) 37 17 (ii (c - k))) := (RFr.i37 (by omega)).tr (RFr.i37 (by omega))
  have hM1 : RHd fi la (pI (pI M 37 18 (ii k)) 37 17 (ii (c - k))) at_ S := hM.cong (fun j _ _ => by rw [pI_d (by decide), pI_d (by decide)]) (by rw [pI_d (by decide), pI_d (by decide)])
  have hA1 : RAc what fl0 c fi (pI (pI M 37 18 (ii k)) 37 17 (ii (c - k))) a k := by
    refine ⟨by simp [pI_at], by simp [pI_at], by simpa [pI_at] using c3, by simpa [pI_at] using c4, c5.cong (by simp [pI_at]) (by rw [pI_d (by decide), pI_d (by decide)]), fun h => by simpa [pI_at] using c6 h, fun h => (c7 h).cong (fun j _ _ => by rw [pI_d (by decide), pI_d (by decide)])⟩
  have hR1 := hR.fr f1
  have e0 : fX9_look F (ii what) (ii at_) (ii (ct S)) M = (if ii what = 0 then (if ii ((ct S + (la + 1 - (fi + at_)) : Nat) : Int) ≤ ii (aS a) then (some ((0 : Int32), pI (pI M 37 18 (ii k)) 37 17 (ii (c - k)))) else (fX9_look_L52 F (ii what) (ii at_) (ii (ct S)) (ii ((ct S + (la + 1 - (fi + at_)) : Nat) : Int)) (pI (pI M 37 18 (ii k)) 37 17 (ii (c - k))))) else (fX9_look_L52 F (ii what) (ii at_) (ii (ct S)) (ii ((ct S + (la + 1 - (fi + at_)) : Nat) : Int)) (pI (pI M 37 18 (ii k)) 37 17 (ii (c - k))))) := by
    unfold fX9_look
    rw [c1, if_neg (by rw [ii_lit0, ii_eq (by omega) (by omega) (by omega) (by omega)]; omega)]
    simp only [nm_eq]
    have g1 : ii ((k + 1 : Nat) : Int) - 1 = ii k := by rw [ii_lit1, ii_sub]; congr 1; omega
    have g0 : (pI M 37 18 (ii k)).1 37 17 = ii (c - ((k + 1 : Nat) : Int)) := by rw [pI_c, up_d (by decide)]; exact c2
    rw [g1, g0]
    have g2 : ii (c - ((k + 1 : Nat) : Int)) + 1 = ii (c - k) := by rw [ii_lit1, ii_add]; congr 1; omega
    rw [g2, hR1.2.2.1, hA1.2.2.1]
    have g3 : ii (ct S : Nat) + ii ((la : Int) - fi + 1) - ii at_ = ii ((ct S + (la + 1 - (fi + at_)) : Nat) : Int) := by rw [ii_add, ii_sub]; congr 1; omega
    rw [g3]
  rw [e0]
  generalize pI (pI M 37 18 (ii k)) 37 17 (ii (c - k)) = M1 at *
  obtain ⟨d1, d2, d3, d4, d5, d6, d7⟩ := hA1
  have hd3 : Row M1 fi 8 S := hM1.1
  -- the end of a look
  have k68 : ¬ ((ct S + (la + 1 - (fi + at_)) : Nat) : Int) < afl what fl0 a → ∃ M', RFr M M' ∧ RHd fi la M' at_ S ∧
      ((¬ ((ct S + (la + 1 - (fi + at_)) : Nat) : Int) < afl what fl0 a ∧ ¬ la + 1 ≤ fi + at_ ∧ fX9_look_L68 F (ii what) (ii at_) (ii (ct S)) M1 = some (ii 1, M') ∧ RAc what fl0 c fi M' a k) ∨
       (¬ ((ct S + (la + 1 - (fi + at_)) : Nat) : Int) < afl what fl0 a ∧ la + 1 ≤ fi + at_ ∧ fX9_look_L68 F (ii what) (ii at_) (ii (ct S)) M1 = some (ii (if aO (atk what S p a).2 then 3 else 0), M') ∧ RAc what fl0 c fi M' (atk what S p a).2 k)) := by
    intro hq
    unfold fX9_look_L68
    rw [hR1.2.2.1]
    simp (disch := omega) only [ii_le]
    by_cases q : la + 1 ≤ fi + at_
    · rw [if_pos (by omega)]
      unfold fX9_look_L93 fX9_look_L110
      rcases (by omega : what = 0 ∨ what = 1 ∨ what = 2) with rfl | rfl | rfl
      · rw [if_neg (by decide), if_pos (by decide), nm_eq, show (8 : Int32) = ii ((8 : Nat) : Int) from rfl, show (9 : Int32) = ii ((9 : Nat) : Int) from rfl]
        have f2 : RFr M1 (pI M1 37 19 (ii (ct S))) := RFr.i37 (by omega)
        obtain ⟨M2, g1, g2, g3, g4⟩ := copy_eq (F := F) hF (r := 8) (q := 9) (by omega) (by omega) (by omega) (hd3.sm (N := pI M1 37 19 (ii (ct S))) (cs := [37]) (Sm.i (by decide)) (by decide))
        rw [g1, bv_eq, if_neg (by decide), atk_0]
        have f3 : RFr (pI M1 37 19 (ii (ct S))) M2 := ⟨g2.mono (by decide), fun j _ _ _ _ _ => by rw [(g2 37 (by decide)).1], fun j hj => g4 j (by omega)⟩
        have h37 : ∀ j, M2.1 37 j = (pI M1 37 19 (ii (ct S))).1 37 j := fun j => by rw [(g2 37 (by decide)).1]
        refine ⟨M2, (f1.tr f2).tr f3, ?_, Or.inr ⟨hq, q, ?_, ?_⟩⟩
        · exact hM1.cong (fun j j1 j2 => by rw [g4 j (by omega), pI_d (by decide)]) (by rw [(g2 47 (by decide)).1, pI_d (by decide)])
        · show _ = some (ii (if aO a then 3 else 0), M2)
          rw [hO]; rfl
        · refine ⟨by rw [h37]; simpa [pI_at] using d1, by rw [h37]; simpa [pI_at] using d2, by rw [h37]; simp [pI_at, aS], by rw [h37]; simpa [pI_at, aC] using d4, d5.cong (by rw [h37]; simp [pI_at]) (by rw [(g2 49 (by decide)).1, pI_d (by decide)]), fun h => absurd h (by decide), fun _ => g3⟩
      · rw [if_neg (by decide), if_neg (by decide), if_pos (by decide), d5.1]
        by_cases q3 : 300 ≤ (aL a).length
        · rw [if_pos (by rw [show (300 : Int32) = ii 300 from rfl]; congr 1; omega), atk_1a q3]
          exact ⟨M1, f1, hM1, Or.inr ⟨hq, q, rfl, d1, d2, d3, d4, d5, d6, d7⟩⟩
        · rw [if_neg (by rw [show (300 : Int32) = ii 300 from rfl, ii_eq (by omega) (by omega) (by omega) (by omega)]; omega), atk_1b q3]
          obtain ⟨M2, g1, g2, g3, g4⟩ := look130_eq (F := F) hF (S := S) (ll := aL a) (by omega) (ii 1) (ii at_) (ii (ct S)) hd3 d5
          refine ⟨M2, f1.tr ⟨g2.mono (by decide), fun j _ _ _ h _ => g3 j h, fun j _ => by rw [(g2 39 (by decide)).1]⟩, ?_, Or.inr ⟨hq, q, ?_, ?_⟩⟩
          · exact hM1.cong (fun j _ _ => by rw [(g2 39 (by decide)).1]) (by rw [(g2 47 (by decide)).1])
          · show _ = some (ii (if aO a then 3 else 0), M2)
            rw [hO]; exact g1
          · refine ⟨by rw [g3 _ (by decide)]; exact d1, by rw [g3 _ (by decide)]; exact d2, by rw [g3 _ (by decide)]; exact d3, by rw [g3 _ (by decide)]; exact d4, g4, fun h => by rw [g3 _ (by decide)]; exact d6 h, fun h => (d7 h).sm g2 (by decide)⟩
      · rw [if_pos (by decide), nm_eq, if_neg (by decide), if_neg (by decide), atk_2, d4, ii_lit1, ii_add]
        refine ⟨pI M1 37 24 (ii ((aC a : Int) + 1)), f1.tr (RFr.i37 (by omega)), hM1.cong (fun j _ _ => by rw [pI_d (by decide)]) (by rw [pI_d (by decide)]), Or.inr ⟨hq, q, ?_, ?_⟩⟩
        · show _ = some (ii (if aO a then 3 else 0), _)
          rw [hO]; rfl
        · refine ⟨by simpa [pI_at] using d1, by simpa [pI_at] using d2, by simpa [pI_at, aS] using d3, by simp [pI_at, aC], d5.cong (by simp [pI_at]) (by rw [pI_d (by decide)]), fun h => absurd h (by decide), fun h => (d7 h).sm (Sm.i (cs := [37]) (by decide)) (by decide)⟩
    · rw [if_neg (by omega)]
      exact ⟨M1, f1, hM1, Or.inl ⟨hq, q, rfl, d1, d2, d3, d4, d5, d6, d7⟩⟩
  have k52 : (what = 0 → ¬ ((ct S + (la + 1 - (fi + at_)) : Nat) : Int) < afl what fl0 a) → ∃ M', RFr M M' ∧ RHd fi la M' at_ S ∧
      ((((ct S + (la + 1 - (fi + at_)) : Nat) : Int) < afl what fl0 a ∧ fX9_look_L52 F (ii what) (ii at_) (ii (ct S)) (ii ((ct S + (la + 1 - (fi + at_)) : Nat) : Int)) M1 = some (ii 0, M') ∧ RAc what fl0 c fi M' a k) ∨ (¬ ((ct S + (la + 1 - (fi + at_)) : Nat) : Int) < afl what fl0 a ∧ ¬ la + 1 ≤ fi + at_ ∧ fX9_look_L52 F (ii what) (ii at_) (ii (ct S)) (ii ((ct S + (la + 1 - (fi + at_)) : Nat) : Int)) M1 = some (ii 1, M') ∧ RAc what fl0 c fi M' a k) ∨
       (¬ ((ct S + (la + 1 - (fi + at_)) : Nat) : Int) < afl what fl0 a ∧ la + 1 ≤ fi + at_ ∧ fX9_look_L52 F (ii what) (ii at_) (ii (ct S)) (ii ((ct S + (la + 1 - (fi + at_)) : Nat) : Int)) M1 = some (ii (if aO (atk what S p a).2 then 3 else 0), M') ∧ RAc what fl0 c fi M' (atk what S p a).2 k)) := by
    intro h0
    unfold fX9_look_L52
    by_cases w1 : what = 1
    · rw [if_pos (by rw [w1]; rfl), d6 w1]
      simp (disch := omega) only [ii_le]
      by_cases q : ((ct S + (la + 1 - (fi + at_)) : Nat) : Int) < fl0
      · rw [if_neg (by omega)]
        exact ⟨M1, f1, hM1, Or.inl ⟨by unfold afl; rw [if_neg (by omega)]; exact q, rfl, d1, d2, d3, d4, d5, d6, d7⟩⟩
      · rw [if_pos (by omega)]
        obtain ⟨M', g1, g2, g3⟩ := k68 (by unfold afl; rw [if_neg (by omega)]; exact q)
        exact ⟨M', g1, g2, Or.inr g3⟩
    · rw [if_neg (by rw [show (1 : Int32) = ii 1 from rfl, ii_eq (by omega) (by omega) (by omega) (by omega)]; omega)]
      have hq : ¬ ((ct S + (la + 1 - (fi + at_)) : Nat) : Int) < afl what fl0 a := by
        by_cases w0 : what = 0
        · exact h0 w0
        · unfold afl
          rw [if_neg w0, hf2 (by omega)]
          omega
      obtain ⟨M', g1, g2, g3⟩ := k68 hq
      exact ⟨M', g1, g2, Or.inr g3⟩
  by_cases w0 : what = 0
  · rw [if_pos (by rw [w0]; rfl)]
    simp (disch := omega) only [ii_le]
    by_cases q : ((ct S + (la + 1 - (fi + at_)) : Nat) : Int) ≤ aS a
    · rw [if_pos q]
      exact ⟨M1, f1, hM1, Or.inl ⟨by unfold afl; rw [if_pos w0]; omega, rfl, d1, d2, d3, d4, d5, d6, d7⟩⟩
    · rw [if_neg q]
      exact k52 (fun _ => by unfold afl; rw [if_pos w0]; omega)
  · rw [if_neg (by rw [ii_lit0, ii_eq (by omega) (by omega) (by omega) (by omega)]; omega)]
    exact k52 (fun h => absurd h w0)
def lowS (S : Nat → Bool) (x : Nat) : Nat → Bool := fun t => S t && decide (t < x)
/-- the CASES that wait, as the reference keeps them -/
def pend (fi : Nat) (S : Nat → Bool) : Nat → Pl
  | 0 => []
  | j + 1 => if S (fi + j) then (lowS S (fi + j), fi + (j + 1)) :: pend fi S j else pend fi S j
theorem pend_cong {fi : Nat} {S T : Nat → Bool} : ∀ j, (∀ x, x < fi + j → S x = T x) → pend fi S j = pend fi T j
  | 0, _ => rfl
  | j + 1, h => by
    have h1 : lowS S (fi + j) = lowS T (fi + j) := by
      funext t
      unfold lowS
      by_cases q : t < fi + j
      · rw [h t (by omega)]
      · rw [decide_eq_false q]; simp
    rw [pend, pend, h (fi + j) (by omega), h1, pend_cong j (fun x hx => h x (by omega))]
theorem back_L (hG : GV s n fi la) (a1 a2 : Int32) (K : Int32 → Int32 → Mem → Option (Int32 × Mem)) {M : Mem} (hR : RG s n fi la M) {S : Nat → Bool} (sz : Nat) : ∀ (at_ N : Nat), RHd fi la M at_ S → at_ < N →
    (pend fi S at_ = [] ∧ fX9_search_L98 F a1 a2 K N (ii ((at_ : Int) - 1)) (ii sz) M = some (ii 0, M)) ∨
    (∃ j, j < at_ ∧ S (fi + j) = true ∧ (∀ x, S x = true → x ≤ fi + j) ∧ pend fi S at_ = (put S (fi + j) false, fi + (j + 1)) :: pend fi (put S (fi + j) false) (j + 1) ∧ fX9_search_L98 F a1 a2 K N (ii ((at_ : Int) - 1)) (ii sz) M = K (ii ((j + 1 : Nat) : Int)) (ii ((sz : Int) - 1)) (pI (pI M 39 (60 * 8 + j) (bi false)) 47 j (ii 2)))
  | 0, N + 1, hM, h2 => by
    left
    refine ⟨rfl, ?_⟩
    rw [fX9_search_L98, ii_lit0, if_pos (by rw [ii_lt] <;> omega)]
    unfold fX9_search_L118
    rw [ii_lit0, if_neg (by rw [ii_le] <;> omega)]
  | j + 1, N + 1, hM, h2 => by
    have hg := hG.b
    have hat := hM.2.2.2.1
    have e1 : ((j + 1 : Nat) : Int) - 1 = (j : Int) := by omega
    rw [e1, fX9_search_L98, ii_lit0, if_neg (by rw [ii_lt] <;> omega), gd_inb (by omega) (by omega) (by omega), ii_nat (by omega) (by omega), Int.toNat_natCast, hM.2.2.2.2 j (by omega)]
    cases hS : S (fi + j) with
    | true =>
      right
      have hmx : ∀ x, S x = true → x ≤ fi + j := fun x hx => by have := hM.2.2.1 x hx; omega
      refine ⟨j, by omega, hS, hmx, ?_, ?_⟩
      · rw [pend, hS, if_pos rfl, pend, put_c, if_neg (by decide)]
        have : lowS S (fi + j) = put S (fi + j) false := by
          funext t
          unfold lowS put
          by_cases q : t = fi + j
          · rw [if_pos q, decide_eq_false (by omega)]; simp
          · rw [if_neg q]
            cases h : S t with
            | false => rfl
            | true => have := hmx t h; rw [decide_eq_true (by omega)]; rfl
        rw [this, pend_cong j (fun x hx => (put_d (show x ≠ fi + j by omega)).symm)]
      · rw [if_pos rfl, if_neg (by decide)]
        unfold fX9_search_L118
        rw [ii_lit0, if_pos (by rw [ii_le] <;> omega), hR.2.2.2, ii_add, show ((fi : Int) + j) = ((fi + j : Nat) : Int) by omega, show (8 : Int32) = ii ((8 : Nat) : Int) from rfl, show ii 0 = bi false from rfl, let_eq hG hR (by omega) (by omega) (by omega), bv_eq]
        simp only [nm_eq]
        rw [gd_inb (by omega) (by omega) (by omega), ii_nat (by omega) (by omega), Int.toNat_natCast, show (-1 : Int32) = ii (-1) from rfl, ii_add, ii_lit1, ii_add, show fi + j - fi = j by omega]
        rfl
    | false =>
      rw [if_pos (by decide), nm_eq, show (-1 : Int32) = ii (-1) from rfl, ii_add]
      have hM' : RHd fi la M j S := ⟨hM.1, hM.2.1, fun x hx => by
        have := hM.2.2.1 x hx
        have hne : x ≠ fi + j := fun e => by rw [e, hS] at hx; cases hx
        omega, by omega, fun i hi => hM.2.2.2.2 i (by omega)⟩
      rcases back_L hG a1 a2 K hR sz j N hM' (by omega) with ⟨h3, h4⟩ | ⟨i, h3, h4, h5, h6, h7⟩
      · left
        refine ⟨by rw [pend, hS]; exact h3, h4⟩
      · right
        exact ⟨i, by omega, h4, h5, by rw [pend, hS]; exact h6, h7⟩
def scode (p : Pl) (a : Ac) : Int := if aO a then 3 else if p = [] then 0 else 2
theorem search_L (hF : 100000 ≤ F) (hG : GV s n fi la) {what : Nat} (hwh : what ≤ 2) {fl0 c : Int} (hfl : -1 ≤ fl0 ∧ fl0 ≤ 64) (hf2 : what = 2 → fl0 = 0) (a2 : Int32) {looks : Nat} (hlk : looks ≤ 50000) : ∀ (k N : Nat) (at_ : Nat) (S : Nat → Bool) (a : Ac) (M : Mem), k ≤ looks → k < N → RG s n fi la M → RLs M m ls → RHd fi la M at_ S → RAc what fl0 c fi M a k → oka fi la a (looks - k) → aO a = false →
    ∃ M' p' a' k', arun what fl0 la (ky s n fi la m ls) k ((S, fi + at_) :: pend fi S at_) a = (p', a', k') ∧ RFr M M' ∧ RAc what fl0 c fi M' a' k' ∧ fX9_search_L26 F (ii what) a2 N (ii at_) (ii (ct S)) M = some (ii (scode p' a'), M')
  | 0, N + 1, at_, S, a, M, h1, h2, hR, hL, hM, hA, ha, hO => by
    refine ⟨M, _, a, 0, rfl, RFr.rf, hA, ?_⟩
    rw [fX9_search_L26]
    unfold fX9_look
    rw [hA.1, if_pos (by decide), bd_eq, if_neg (by decide)]
    unfold scode
    rw [hO, if_neg (by decide), if_neg (by simp)]; rfl
  | k + 1, N + 1, at_, S, a, M, h1, h2, hR, hL, hM, hA, ha, hO => by
    have hg := hG.b
    have hat := hM.2.2.2.1
    have hct := ct_le S
    have hoka : okp fi la [(S, fi + at_)] := ⟨by show 0 + 1 + (la + 1 - (fi + at_)) ≤ 61; omega, by omega, hM.2.1, trivial⟩
    have ht : looks - (k + 1) + 1 = looks - k := by omega
    -- after a look that says 0: back
    have kback : ∀ (M1 : Mem) (a1 : Ac), RFr M M1 → RHd fi la M1 at_ S → RAc what fl0 c fi M1 a1 k → oka fi la a1 (looks - k) → aO a1 = false →
        ∃ M' p' a' k', arun what fl0 la (ky s n fi la m ls) k (pend fi S at_) a1 = (p', a', k') ∧ RFr M M' ∧ RAc what fl0 c fi M' a' k' ∧ fX9_search_L98 F (ii what) a2 (fun x3 x4 M => fX9_search_L26 F (ii what) a2 N x3 x4 M) F (ii ((at_ : Int) - 1)) (ii (ct S)) M1 = some (ii (scode p' a'), M') := by
      intro M1 a1 f1 hM1 hA1 ha1 hO1
      have hR1 := hR.fr f1
      rcases back_L (F := F) hG (ii what) a2 (fun x3 x4 M => fX9_search_L26 F (ii what) a2 N x3 x4 M) hR1 (ct S) at_ F hM1 (by omega) with ⟨h3, h4⟩ | ⟨j, h3, h4, h5, h6, h7⟩
      · rw [h3, h4]
        refine ⟨M1, [], a1, k, ?_, f1, hA1, ?_⟩
        · cases k <;> rfl
        · unfold scode
          rw [hO1, if_neg (by decide), if_pos rfl]
      · rw [h6, h7]
        have f2 : RFr M1 (pI (pI M1 39 (60 * 8 + j) (bi false)) 47 j (ii 2)) := (RFr.i39 (by omega)).tr RFr.i47
        have hcs : ct (put S (fi + j) false) + 1 = ct S := by
          have := ct_put (S := put S (fi + j) false) (x := fi + j) (by omega) (put_c _ _ _)
          rw [put_put, put_same h4] at this
          exact this.symm
        rw [show ((ct S : Int) - 1) = (ct (put S (fi + j) false) : Int) by omega]
        have hM2 : RHd fi la (pI (pI M1 39 (60 * 8 + j) (bi false)) 47 j (ii 2)) (j + 1) (put S (fi + j) false) := by
          refine ⟨?_, hM1.2.1.put (by omega) (by omega) false, fun x hx => ?_, by omega, fun i hi => ?_⟩
          · have := (hM1.1.put (x := fi + j) (by omega) (by omega) false).sm (N := pI (pI M1 39 (60 * 8 + (fi + j - fi)) (bi false)) 47 j (ii 2)) (cs := [47]) (Sm.i (by decide)) (by decide)
            rw [show fi + j - fi = j by omega] at this
            exact this
          · by_cases q : x = fi + j
            · rw [q, put_c] at hx; cases hx
            · rw [put_d q] at hx
              have := h5 x hx; omega
          · by_cases q : i = j
            · rw [q, pI_c, up_c, put_c]; rfl
            · rw [pI_c, up_d q, pI_d (by decide), hM1.2.2.2.2 i (by omega), put_d (by omega)]
        have hA2 : RAc what fl0 c fi (pI (pI M1 39 (60 * 8 + j) (bi false)) 47 j (ii 2)) a1 k := by
          obtain ⟨d1, d2, d3, d4, d5, d6, d7⟩ := hA1
          refine ⟨by simpa [pI_at] using d1, by simpa [pI_at] using d2, by simpa [pI_at] using d3, by simpa [pI_at] using d4, d5.cong (by simp [pI_at]) (by rw [pI_d (by decide), pI_d (by decide)]), fun h => by simpa [pI_at] using d6 h, fun h => (d7 h).cong (fun i i1 i2 => by rw [pI_d (by decide), pI_c, up_d (by omega)])⟩
        obtain ⟨M', p', a', k', g1, g2, g3, g4⟩ := search_L hF hG hwh hfl hf2 a2 hlk k N (j + 1) (put S (fi + j) false) a1 _ (by omega) (by omega) (hR1.fr f2) ((hL.fr f1).fr f2) hM2 hA2 ha1 hO1
        exact ⟨M', p', a', k', g1, (f1.tr f2).tr g2, g3, g4⟩
    obtain ⟨M1, f1, hM1, hcase⟩ := look_eq hF hG hwh hfl hf2 hR (t := looks - (k + 1)) (k := k) (by omega) (by omega) ha hO hM hA (ky s n fi la m ls) (pend fi S at_)
    have hR1 := hR.fr f1
    have hL1 := hL.fr f1
    rw [fX9_search_L26]
    rcases hcase with ⟨q1, e1, hA1⟩ | ⟨q1, q2, e1, hA1⟩ | ⟨q1, q2, e1, hA1⟩
    · rw [e1, bd_eq, if_pos (by decide), if_neg (by decide), nm_eq, show (-1 : Int32) = ii (-1) from rfl, ii_add, show ((at_ : Int) + -1) = (at_ : Int) - 1 by omega]
      rw [arun, astep, if_pos q1]
      exact kback M1 a f1 hM1 hA1 ⟨ha.1, by have := ha.2.1; omega, ha.2.2⟩ hO
    · rw [e1, bd_eq, if_pos (by decide), if_pos (by decide), hR1.2.2.2, ii_add, show ((fi : Int) + at_) = ((fi + at_ : Nat) : Int) by omega, show (8 : Int32) = ii ((8 : Nat) : Int) from rfl, comes_eq hF hG hR1 hL1 hM1.2.1 (by omega) hM1.1 (by omega), bd_eq]
      simp only [nm_eq]
      rw [gd_inb (by omega) (by omega) (by omega), gd_inb (by omega) (by omega) (by omega), ii_nat (by omega) (by omega), Int.toNat_natCast, ii_lit1, ii_add, ii_add, show fi + at_ - fi = at_ by omega, show ((at_ : Int) + 1) = ((at_ + 1 : Nat) : Int) by omega]
      rw [arun, astep, if_neg q1, if_neg q2]
      have hSx : S (fi + at_) = false := by
        cases h : S (fi + at_) with
        | false => rfl
        | true => have := hM.2.2.1 _ h; omega
      have hnew : ∀ (b : Bool) (v : Int), v = (if b then 1 else 2) → RHd fi la (pI (pI M1 39 (60 * 8 + at_) (bi b)) 47 at_ (ii v)) (at_ + 1) (put S (fi + at_) b) ∧ RAc what fl0 c fi (pI (pI M1 39 (60 * 8 + at_) (bi b)) 47 at_ (ii v)) a k ∧ RFr M1 (pI (pI M1 39 (60 * 8 + at_) (bi b)) 47 at_ (ii v)) := by
        intro b v hv
        refine ⟨⟨?_, hM1.2.1.put (by omega) (by omega) b, fun x hx => ?_, by omega, fun i hi => ?_⟩, ?_, (RFr.i39 (by omega)).tr RFr.i47⟩
        · have := (hM1.1.put (x := fi + at_) (by omega) (by omega) b).sm (N := pI (pI M1 39 (60 * 8 + (fi + at_ - fi)) (bi b)) 47 at_ (ii v)) (cs := [47]) (Sm.i (by decide)) (by decide)
          rw [show fi + at_ - fi = at_ by omega] at this
          exact this
        · by_cases q : x = fi + at_
          · omega
          · rw [put_d q] at hx
            have := hM.2.2.1 x hx; omega
        · by_cases q : i = at_
          · rw [q, pI_c, up_c, put_c, hv]
          · rw [pI_c, up_d q, pI_d (by decide), hM1.2.2.2.2 i (by omega), put_d (by omega)]
        · obtain ⟨d1, d2, d3, d4, d5, d6, d7⟩ := hA1
          exact ⟨by simpa [pI_at] using d1, by simpa [pI_at] using d2, by simpa [pI_at] using d3, by simpa [pI_at] using d4, d5.cong (by simp [pI_at]) (by rw [pI_d (by decide), pI_d (by decide)]), fun h => by simpa [pI_at] using d6 h, fun h => (d7 h).cong (fun i i1 i2 => by rw [pI_d (by decide), pI_c, up_d (by omega)])⟩
      have hoka2 : oka fi la a (looks - k) := ⟨ha.1, by have := ha.2.1; omega, ha.2.2⟩
      cases hk : ky s n fi la m ls (put S (fi + at_) true) (fi + at_) with
      | false =>
        have b0 : (bi false = (0 : Int32)) = True := eq_true rfl
        simp only [b0, Bool.false_eq_true, if_true, if_false, List.nil_append]
        rw [show (2 : Int32) = ii 2 from rfl]
        obtain ⟨n1, n2, n3⟩ := hnew false 2 rfl
        rw [put_same hSx] at n1
        obtain ⟨M', p', a', k', g1, g2, g3, g4⟩ := search_L hF hG hwh hfl hf2 a2 hlk k N (at_ + 1) S a _ (by omega) (by omega) (hR1.fr n3) (hL1.fr n3) n1 n2 hoka2 hO
        refine ⟨M', p', a', k', ?_, (f1.tr n3).tr g2, g3, g4⟩
        rw [pend, hSx, if_neg (by decide)] at g1
        exact g1
      | true =>
        have b1 : (bi true = (0 : Int32)) = False := eq_false (by decide)
        simp only [b1, eq_self, if_true, if_false, List.cons_append, List.nil_append]
        obtain ⟨n1, n2, n3⟩ := hnew true 1 rfl
        rw [show ((ct S : Int) + 1) = (ct (put S (fi + at_) true) : Int) by rw [ct_put (by omega) hSx]; omega]
        obtain ⟨M', p', a', k', g1, g2, g3, g4⟩ := search_L hF hG hwh hfl hf2 a2 hlk k N (at_ + 1) (put S (fi + at_) true) a _ (by omega) (by omega) (hR1.fr n3) (hL1.fr n3) n1 n2 hoka2 hO
        refine ⟨M', p', a', k', ?_, (f1.tr n3).tr g2, g3, g4⟩
        have hlow : lowS (put S (fi + at_) true) (fi + at_) = S := by
          funext t
          unfold lowS
          by_cases q : t = fi + at_
          · rw [q, hSx, decide_eq_false (by omega)]; simp
          · rw [put_d q]
            cases h : S t with
            | false => rfl
            | true => have := hM.2.2.1 t h; rw [decide_eq_true (by omega)]; rfl
        rw [pend, put_c, if_pos rfl, hlow, pend_cong at_ (fun x hx => put_d (show x ≠ fi + at_ by omega))] at g1
        exact g1
    · rw [e1, bd_eq]
      have hstep : astep what fl0 la (ky s n fi la m ls) S (fi + at_) (pend fi S at_) a = atk what S (pend fi S at_) a := by
        unfold astep
        rw [if_neg q1, if_pos q2]
      have hoka2 : oka fi la (atk what S (pend fi S at_) a).2 (looks - k) := by
        have h3 : atk what S (pend fi S at_) a = astep what fl0 la (ky s n fi la m ls) S (fi + at_) (pend fi S at_) a := hstep.symm
        have h4 := oka_step (what := what) (fl0 := fl0) (kf := ky s n fi la m ls) (a := a) (t := looks - (k + 1)) hoka ha
        have h5 : (atk what S (pend fi S at_) a).2 = (astep what fl0 la (ky s n fi la m ls) S (fi + at_) [] a).2 := by
          unfold astep
          rw [if_neg q1, if_pos q2]
          unfold atk
          split
          · rfl
          · split
            · split <;> rfl
            · rfl
        rw [h5, ← ht]; exact h4
      rw [arun, hstep]
      cases ho : aO (atk what S (pend fi S at_) a).2 with
      | true =>
        rw [if_pos rfl, if_neg (by decide)]
        have hnil : (atk what S (pend fi S at_) a).1 = [] := by
          unfold atk at ho ⊢
          split at ho
          · have : aO a = true := ho
            rw [hO] at this; cases this
          · split at ho
            · split at ho
              · rename_i w0 w1 w2
                rw [if_neg w0, if_pos w1, if_pos w2]
              · have : aO a = true := ho
                rw [hO] at this; cases this
            · have : aO a = true := ho
              rw [hO] at this; cases this
        rw [hnil]
        refine ⟨M1, [], (atk what S (pend fi S at_) a).2, k, ?_, f1, hA1, ?_⟩
        · cases k <;> rfl
        · unfold scode
          rw [ho, if_pos rfl]
      | false =>
        rw [if_neg (show ¬ (false = true) by decide), if_pos (show ii 0 ≤ 1 by decide), if_neg (show ¬ ii 0 = 1 by decide), nm_eq, show (-1 : Int32) = ii (-1) from rfl, ii_add, show ((at_ : Int) + -1) = (at_ : Int) - 1 by omega]
        have hp : (atk what S (pend fi S at_) a).1 = pend fi S at_ := by
          unfold atk at ho ⊢
          split at ho
          · rename_i w0; rw [if_pos w0]
          · split at ho
            · split at ho
              · cases ho
              · rename_i w0 w1 w2
                rw [if_neg w0, if_pos w1, if_neg w2]
            · rename_i w0 w1
              rw [if_neg w0, if_neg w1]
        rw [hp]
        exact kback M1 _ f1 hM1 hA1 hoka2 ho
end SS
