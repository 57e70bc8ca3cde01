/-! parting into colours: what both do, and the class. A CASE is the list of its colours, the latest first -/
abbrev Cs : Type := List Nat
def us : Cs → Nat
  | [] => 0
  | c :: R => max (us R) (c + 1)
/-- the numbers of colour d -/
def grp (fi : Nat) : Cs → Nat → Nat → Bool
  | [], _ => fun _ => false
  | c :: R, d => if c = d then put (grp fi R d) (fi + R.length) true else grp fi R d
def cok (fi : Nat) (kf : (Nat → Bool) → Nat → Bool) (R : Cs) (c : Nat) : Bool := kf (put (grp fi R c) (fi + R.length) true) (fi + R.length)
def chG (fi : Nat) (kf : (Nat → Bool) → Nat → Bool) (R : Cs) : Nat → Nat → List Cs
  | 0, _ => []
  | k + 1, f => (if cok fi kf R f then [f :: R] else []) ++ chG fi kf R k (f + 1)
def chF (fi : Nat) (kf : (Nat → Bool) → Nat → Bool) (many : Nat) (R : Cs) (f : Nat) : List Cs := chG fi kf R (min (us R + 1) many - f) f
theorem chF_0 {fi : Nat} {kf : (Nat → Bool) → Nat → Bool} {many : Nat} {R : Cs} {f : Nat} (h : min (us R + 1) many ≤ f) : chF fi kf many R f = [] := by
  unfold chF
  rw [show min (us R + 1) many - f = 0 by omega, chG]
theorem chF_1 {fi : Nat} {kf : (Nat → Bool) → Nat → Bool} {many : Nat} {R : Cs} {f : Nat} (h : f < min (us R + 1) many) : chF fi kf many R f = (if cok fi kf R f then [f :: R] else []) ++ chF fi kf many R (f + 1) := by
  unfold chF
  rw [show min (us R + 1) many - f = (min (us R + 1) many - (f + 1)) + 1 by omega, chG]
theorem chF_len {fi : Nat} {kf : (Nat → Bool) → Nat → Bool} {many : Nat} (hm : many ≤ 8) (R : Cs) (f : Nat) : (chF fi kf many R f).length ≤ 8 - f := by
  unfold chF
  have : ∀ k f, (chG fi kf R k f).length ≤ k := by
    intro k
    induction k with
    | zero => intro f; exact Nat.le_refl _
    | succ k ih =>
      intro f
      rw [chG, List.length_append]
      have := ih (f + 1)
      split <;> simp only [List.length_cons, List.length_nil] <;> omega
  have := this (min (us R + 1) many - f) f
  omega
def crun (fi : Nat) (kf : (Nat → Bool) → Nat → Bool) (many places : Nat) : Nat → List Cs → Nat × Cs × Nat
  | 0, [] => (1, [], 0)
  | 0, _ :: _ => (2, [], 0)
  | k + 1, [] => (1, [], k + 1)
  | k + 1, cs :: pl => if places ≤ cs.length then (0, cs, k) else crun fi kf many places k (chF fi kf many cs 0 ++ pl)
/-- colours as they come -/
def vc (many : Nat) : Cs → Prop
  | [] => True
  | c :: R => c ≤ us R ∧ c < many ∧ vc many R
theorem us_le {many : Nat} : ∀ {R : Cs}, vc many R → us R ≤ many
  | [], _ => Nat.zero_le _
  | c :: R, h => by
    have := us_le h.2.2
    have := h.2.1
    rw [us]; omega
theorem us_len : ∀ (R : Cs), us R ≤ 4294967296 → True := fun _ _ => trivial
theorem grp_sup {fi la : Nat} : ∀ (R : Cs) (d : Nat), fi + R.length ≤ la + 1 → Sup fi la (grp fi R d)
  | [], d, _ => fun x h => (by cases h)
  | c :: R, d, h => by
    rw [List.length_cons] at h
    have ih := grp_sup R d (show fi + R.length ≤ la + 1 by omega)
    rw [grp]
    split
    · exact ih.put (by omega) (by omega) true
    · exact ih
theorem grp_out {fi : Nat} : ∀ (R : Cs) (d x : Nat), fi + R.length ≤ x → grp fi R d x = false
  | [], d, x, _ => rfl
  | c :: R, d, x, h => by
    rw [List.length_cons] at h
    rw [grp]
    split
    · rw [put_d (by omega)]; exact grp_out R d x (by omega)
    · exact grp_out R d x (by omega)
/-- the piled CASES -/
def okc (many places : Nat) : List Cs → Prop
  | [] => True
  | cs :: pl => pl.length ≤ 7 * cs.length ∧ cs.length ≤ places ∧ vc many cs ∧ (∀ cs' ∈ pl, cs'.length ≤ cs.length) ∧ okc many places pl
theorem okc_app {fi many places : Nat} {kf : (Nat → Bool) → Nat → Bool} (hm : many ≤ 8) {cs : Cs} {pl : List Cs} (hp : cs.length < places) (hv : vc many cs) (h1 : pl.length ≤ 7 * cs.length) (h2 : ∀ cs' ∈ pl, cs'.length ≤ cs.length) (h3 : okc many places pl) : ∀ k f, f + k = min (us cs + 1) many → okc many places (chG fi kf cs k f ++ pl) ∧ (chG fi kf cs k f ++ pl).length ≤ 7 * cs.length + k ∧ ∀ cs' ∈ chG fi kf cs k f ++ pl, cs'.length ≤ cs.length + 1 := by
  intro k
  induction k with
  | zero =>
    intro f _
    rw [chG, List.nil_append]
    exact ⟨h3, by omega, fun cs' hc => by have := h2 cs' hc; omega⟩
  | succ k ih =>
    intro f hf
    obtain ⟨i1, i2, i3⟩ := ih (f + 1) (by omega)
    rw [chG]
    split
    · rw [List.append_assoc, List.singleton_append]
      refine ⟨⟨?_, ?_, ⟨by omega, by omega, hv⟩, ?_, i1⟩, ?_, ?_⟩
      · rw [List.length_cons]; omega
      · rw [List.length_cons]; omega
      · intro cs' hc; rw [List.length_cons]; exact i3 cs' hc
      · rw [List.length_cons]; omega
      · intro cs' hc
        rcases List.mem_cons.mp hc with q | q
        · rw [q, List.length_cons]; omega
        · exact i3 cs' q
    · rw [List.nil_append]
      exact ⟨i1, by omega, i3⟩
/-- what the class keeps for a CASE -/
def Agr (fi : Nat) (M : Mem) : Cs → Prop
  | [] => M.1 28 0 = ii 0 ∧ ∀ d, d < 8 → bt (M.2 29 d) = fun _ => false
  | c :: R => M.1 27 (R.length + 1) = ii c ∧ M.1 28 (R.length + 1) = ii (us (c :: R)) ∧ (∀ d, d < 8 → bt (M.2 29 (8 * (R.length + 1) + d)) = grp fi (c :: R) d) ∧ Agr fi M R
theorem Agr.cong {fi : Nat} {M N : Mem} : ∀ (R : Cs), Agr fi M R → (∀ j, 0 < j → j ≤ R.length → N.1 27 j = M.1 27 j) → (∀ j, j ≤ R.length → N.1 28 j = M.1 28 j) → (∀ j, j < 8 * (R.length + 1) → N.2 29 j = M.2 29 j) → Agr fi N R
  | [], h, h1, h2, h3 => ⟨(h2 0 (by simp)).trans h.1, fun d hd => by rw [h3 d (by simp; omega)]; exact h.2 d hd⟩
  | c :: R, h, h1, h2, h3 => by
    have e : (c :: R).length = R.length + 1 := rfl
    refine ⟨(h1 _ (by omega) (by omega)).trans h.1, (h2 _ (by omega)).trans h.2.1, fun d hd => by rw [h3 _ (by omega)]; exact h.2.2.1 d hd, Agr.cong R h.2.2.2 (fun j a b => h1 j a (by omega)) (fun j a => h2 j (by omega)) (fun j a => h3 j (by omega))⟩
theorem Agr.here {fi : Nat} {M : Mem} : ∀ {R : Cs}, Agr fi M R → M.1 28 R.length = ii (us R) ∧ ∀ d, d < 8 → bt (M.2 29 (8 * R.length + d)) = grp fi R d
  | [], h => ⟨h.1, fun d hd => by
      show bt (M.2 29 (8 * 0 + d)) = _
      rw [Nat.mul_zero, Nat.zero_add]; exact h.2 d hd⟩
  | c :: R, h => ⟨h.2.1, h.2.2.1⟩
def cTop (cs : Cs) : Int := match cs with
  | [] => -1
  | c :: _ => (c : Int)
def cTail (cs : Cs) : Cs := match cs with
  | [] => []
  | _ :: R => R
def CPc (fi : Nat) (M : Mem) : List Cs → Prop
  | [] => True
  | cs :: pl => M.1 25 pl.length = ii cs.length ∧ M.1 26 pl.length = ii (cTop cs) ∧ Agr fi M (cTail cs) ∧ CPc fi M pl
theorem CPc.cong {fi : Nat} {M N : Mem} : ∀ (pl : List Cs), CPc fi M pl → (∀ i, i < pl.length → N.1 25 i = M.1 25 i ∧ N.1 26 i = M.1 26 i) → (∀ cs ∈ pl, Agr fi M (cTail cs) → Agr fi N (cTail cs)) → CPc fi N pl
  | [], _, _, _ => trivial
  | cs :: pl, h, hc, ha => by
    have h1 := hc pl.length (by simp)
    exact ⟨by rw [h1.1]; exact h.1, by rw [h1.2]; exact h.2.1, ha cs (List.mem_cons_self) h.2.2.1, CPc.cong pl h.2.2.2 (fun i hi => hc i (by simp only [List.length_cons]; omega)) (fun cs' hm => ha cs' (List.mem_cons_of_mem _ hm))⟩
section CL
variable {F s n fi la m : Nat} {ls : Nat → LawT} {M : Mem}
theorem max_eq {a b : Int} (h1 : -2147483648 ≤ a ∧ a < 2147483648) (h2 : -2147483648 ≤ b ∧ b < 2147483648) : fJ9_max_7cf53 F (ii a) (ii b) M = some (ii (max a b), M) := by
  unfold fJ9_max_7cf53
  have e := ii_lt h1.1 h1.2 h2.1 h2.2
  by_cases q : a < b
  · rw [if_pos (e.mpr q), Int.max_eq_right (by omega)]
  · rw [if_neg (fun h => q (e.mp h)), Int.max_eq_left (by omega)]
theorem min_eq {a b : Int} (h1 : -2147483648 ≤ a ∧ a < 2147483648) (h2 : -2147483648 ≤ b ∧ b < 2147483648) : fJ9_min_7cf53 F (ii a) (ii b) M = some (ii (min a b), M) := by
  unfold fJ9_min_7cf53
  have e := ii_lt h2.1 h2.2 h1.1 h1.2
  by_cases q : b < a
  · rw [if_pos (e.mpr q), Int.min_eq_right (by omega)]
  · rw [if_neg (fun h => q (e.mp h)), Int.min_eq_left (by omega)]
theorem pile0_eq {k : Nat} {p c : Int} (h1 : M.1 24 4 = ii k) (h2 : k < 488) : fX0_pile F (ii p) (ii c) M = some (pI (pI (pI M 25 k (ii p)) 26 k (ii c)) 24 4 (ii ((k + 1 : Nat) : Int))) := by
  unfold fX0_pile
  rw [h1, if_neg (by rw [show (488 : Int32) = ii 488 from rfl, ii_le] <;> omega), gd_inb (by omega) (by omega) (by omega), nm_eq, pI_d (by decide), h1, gd_inb (by omega) (by omega) (by omega), nm_eq, nm_eq, ii_nat (by omega) (by omega), Int.toNat_natCast, pI_d (by decide), pI_d (by decide), h1, ii_lit1, ii_add, show ((k : Int) + 1) = ((k + 1 : Nat) : Int) by omega]
theorem give_eq (hG : GV s n fi la) (hC : CG s n fi la M) {c : Nat} {R : Cs} (hc : c < 8) (hu : us R ≤ 8) (hl : fi + R.length ≤ la) (hA : Agr fi M R) :
    ∃ M', fX0_give F (ii ((R.length + 1 : Nat) : Int)) (ii c) M = some M' ∧ Sm [27, 28, 29] M M' ∧ Agr fi M' (c :: R) ∧ (∀ j, j ≠ R.length + 1 → M'.1 27 j = M.1 27 j ∧ M'.1 28 j = M.1 28 j) ∧ (∀ j, j < 8 * (R.length + 1) → M'.2 29 j = M.2 29 j) := by
  have hg := hG.b
  have hh := hA.here
  unfold fX0_give
  rw [if_neg (by rw [ii_lit0, ii_eq (by omega) (by omega) (by omega) (by omega)]; omega), gd_inb (by omega) (by omega) (by omega)]
  simp only [nm_eq]
  rw [ii_nat (by omega) (by omega), Int.toNat_natCast, ii_lit1, ii_sub, show (((R.length + 1 : Nat) : Int) - 1) = ((R.length : Nat) : Int) by omega, gd_inb (by omega) (by omega) (by omega), ii_nat (by omega) (by omega), Int.toNat_natCast, pI_d (by decide), hh.1, ii_add, max_eq (by omega) (by omega), bd_eq, gd_inb (by omega) (by omega) (by omega), show (8 : Int32) = ii 8 from rfl, ii_mul, ii_sub]
  have e8 : (((R.length + 1 : Nat) : Int) * 8) = ((8 * (R.length + 1) : Nat) : Int) := by omega
  have e0 : (((R.length + 1 : Nat) : Int) * 8 - 8) = ((8 * R.length : Nat) : Int) := by omega
  rw [e0, e8]
  have hcp : cpOk (ii ((8 * R.length : Nat) : Int)) (ii ((8 * (R.length + 1) : Nat) : Int)) (ii 8) 488 488 = true := by
    unfold cpOk
    rw [ii_lit0, ii_nat (by omega) (by omega), ii_nat (by omega) (by omega), ii_nat (by omega) (by omega)]
    simp only [Bool.and_eq_true, decide_eq_true_eq]
    rw [ii_lt (by omega) (by omega) (by omega) (by omega), ii_lt (by omega) (by omega) (by omega) (by omega), ii_lt (by omega) (by omega) (by omega) (by omega)]
    omega
  rw [hcp, gd_eq, ii_add, gd_inb (by omega) (by omega) (by omega)]
  unfold fX0_numberOf
  rw [bd_eq, gd_inb (by omega) (by omega) (by omega)]
  have e3 : ((((8 * (R.length + 1) : Nat) : Int) + (c : Int))).toNat = 8 * (R.length + 1) + c := by omega
  rw [ii_nat (by omega) (by omega), ii_nat (by omega) (by omega), ii_nat (by omega) (by omega), ii_nat (by omega) (by omega), Int.toNat_natCast, Int.toNat_natCast, e3, show (8 : Int).toNat = 8 from rfl, pLr_1, pLr_c, pI_2, pI_2, pI_d (show 3 ≠ 28 by decide), pI_d (show 3 ≠ 27 by decide), hC.2.2.1, ii_add, ii_lit1, ii_sub, show ((fi : Int) + ((R.length + 1 : Nat) : Int) - 1) = ((fi + R.length : Nat) : Int) by omega, one_def]
  refine ⟨_, rfl, ?_, ⟨?_, ?_, fun d hd => ?_, ?_⟩, fun j hj => ⟨?_, ?_⟩, fun j hj => ?_⟩
  · exact (((Sm.i (c := 27) (by decide)).tr (Sm.i (c := 28) (by decide))).tr (Sm.lr (c := 29) (by decide))).tr (Sm.l (by decide))
  · rw [pL_1, pLr_1, pI_d (by decide), pI_c, up_c]
  · rw [pL_1, pLr_1, pI_c, up_c, us]
    congr 1; omega
  · rw [pL_c, pLr_c]
    by_cases q : c = d
    · subst q
      rw [uL_c, grp, if_pos rfl]
      unfold va_cpy
      rw [if_pos (by omega), show 8 * R.length + (8 * (R.length + 1) + c - 8 * (R.length + 1)) = 8 * R.length + c by omega]
      have h2 := hh.2 c hd
      funext t
      rw [bt_or, h2, bt_one (by omega)]
      unfold put
      by_cases q2 : t = fi + R.length <;> simp [q2]
    · rw [uL_d (by omega), grp, if_neg q]
      unfold va_cpy
      rw [if_pos (by omega), show 8 * R.length + (8 * (R.length + 1) + d - 8 * (R.length + 1)) = 8 * R.length + d by omega]
      exact hh.2 d hd
  · refine Agr.cong R hA (fun j a b => ?_) (fun j a => ?_) (fun j a => ?_)
    · rw [pL_1, pLr_1, pI_d (by decide), pI_c, up_d (by omega)]
    · rw [pL_1, pLr_1, pI_c, up_d (by omega), pI_d (by decide)]
    · rw [pL_c, pLr_c, uL_d (by omega)]
      unfold va_cpy
      rw [if_neg (by omega)]
  · rw [pL_1, pLr_1, pI_d (by decide), pI_c, up_d hj]
  · rw [pL_1, pLr_1, pI_c, up_d hj, pI_d (by decide)]
  · rw [pL_c, pLr_c, uL_d (by omega)]
    unfold va_cpy
    rw [if_neg (by omega)]
/-- what parting leaves as it is -/
abbrev cc : List Nat := [24, 25, 26, 27, 28, 29]
theorem CB.cc (h : CB s n fi la m ls M) {N : Mem} (hs : Sm cc M N) : CB s n fi la m ls N := h.sm hs (fun c e1 e2 => by simp; omega)
theorem choices_L (hF : 100000 ≤ F) (hG : GV s n fi la) {many : Nat} (hm : 1 ≤ many ∧ many ≤ 8) (a2 : Int32) {cs : Cs} (hv : vc many cs) (hl : fi + cs.length ≤ la) {pl : List Cs} (hpl : pl.length + 8 < 488) : ∀ (k N : Nat) (M : Mem), k ≤ min (us cs + 1) many → k < N → CB s n fi la m ls M → M.1 24 4 = ii ((chF fi (ky s n fi la m ls) many cs k ++ pl).length : Nat) → CPc fi M (chF fi (ky s n fi la m ls) many cs k ++ pl) → Agr fi M cs →
    ∃ M', fX0_pileChoices_L22 F (ii cs.length) a2 N (ii ((fi + cs.length : Nat) : Int)) (ii ((k : Int) - 1)) M = some M' ∧ Sm [24, 25, 26] M M' ∧ (∀ j, j ≠ 4 → M'.1 24 j = M.1 24 j) ∧ M'.1 24 4 = ii ((chF fi (ky s n fi la m ls) many cs 0 ++ pl).length : Nat) ∧ CPc fi M' (chF fi (ky s n fi la m ls) many cs 0 ++ pl)
  | 0, N + 1, M, h1, h2, hB, h3, h4, hA => by
    refine ⟨M, ?_, Sm.rf, fun _ _ => rfl, h3, h4⟩
    rw [fX0_pileChoices_L22, if_pos (by rw [ii_lit0, ii_lt] <;> omega)]
  | k + 1, N + 1, M, h1, h2, hB, h3, h4, hA => by
    have hg := hG.b
    have hh := hA.here
    have e1 : ((k + 1 : Nat) : Int) - 1 = (k : Int) := by omega
    have hlen := chF_len (fi := fi) (kf := ky s n fi la m ls) (many := many) hm.2 cs (k + 1)
    rw [e1, fX0_pileChoices_L22, if_neg (by rw [ii_lit0, ii_lt] <;> omega), show (8 : Int32) = ii 8 from rfl, ii_mul, ii_add, gd_inb (by omega) (by omega) (by omega), ii_nat (by omega) (by omega), show ((cs.length : Int) * 8 + k).toNat = 8 * cs.length + k by omega]
    have hsw : Sup fi la (bt (M.2 29 (8 * cs.length + k))) := by rw [hh.2 k (by omega)]; exact grp_sup cs k (by omega)
    rw [keep_eq hF hG hB.1 hB.2.1 hB.2.2 hsw (by omega) (by omega), bd_eq, hh.2 k (by omega)]
    simp only [nm_eq]
    rw [show (-1 : Int32) = ii (-1) from rfl, ii_add, show ((k : Int) + -1) = (k : Int) - 1 by omega]
    have hc1 := chF_1 (fi := fi) (kf := ky s n fi la m ls) (many := many) (R := cs) (f := k) (by omega)
    have hck : cok fi (ky s n fi la m ls) cs k = ky s n fi la m ls (put (grp fi cs k) (fi + cs.length) true) (fi + cs.length) := rfl
    cases hk : ky s n fi la m ls (put (grp fi cs k) (fi + cs.length) true) (fi + cs.length) with
    | false =>
      rw [hck, hk, if_neg (by decide), List.nil_append] at hc1
      rw [if_pos (by decide)]
      exact choices_L hF hG hm a2 hv hl hpl k N M (by omega) (by omega) hB (by rw [hc1]; exact h3) (by rw [hc1]; exact h4) hA
    | true =>
      rw [hck, hk, if_pos rfl] at hc1
      have hlt : (chF fi (ky s n fi la m ls) many cs (k + 1) ++ pl).length < 488 := by rw [List.length_append]; omega
      rw [if_neg (by decide), ii_lit1, ii_add, show ((cs.length : Int) + 1) = ((cs.length + 1 : Nat) : Int) by omega, pile0_eq h3 hlt, bv_eq]
      generalize hP : chF fi (ky s n fi la m ls) many cs (k + 1) ++ pl = P at *
      have hP2 : chF fi (ky s n fi la m ls) many cs k ++ pl = (k :: cs) :: P := by rw [hc1, List.append_assoc, hP]; rfl
      have hs1 : Sm [24, 25, 26] M (pI (pI (pI M 25 P.length (ii ((cs.length + 1 : Nat) : Int))) 26 P.length (ii k)) 24 4 (ii ((P.length + 1 : Nat) : Int))) := ((Sm.i (c := 25) (by decide)).tr (Sm.i (c := 26) (by decide))).tr (Sm.i (by decide))
      have h27 : (pI (pI (pI M 25 P.length (ii ((cs.length + 1 : Nat) : Int))) 26 P.length (ii k)) 24 4 (ii ((P.length + 1 : Nat) : Int))).1 27 = M.1 27 := by rw [pI_d (by decide), pI_d (by decide), pI_d (by decide)]
      have h28 : (pI (pI (pI M 25 P.length (ii ((cs.length + 1 : Nat) : Int))) 26 P.length (ii k)) 24 4 (ii ((P.length + 1 : Nat) : Int))).1 28 = M.1 28 := by rw [pI_d (by decide), pI_d (by decide), pI_d (by decide)]
      have hag : ∀ R, Agr fi M R → Agr fi (pI (pI (pI M 25 P.length (ii ((cs.length + 1 : Nat) : Int))) 26 P.length (ii k)) 24 4 (ii ((P.length + 1 : Nat) : Int))) R := fun R h => Agr.cong R h (fun j _ _ => by rw [h27]) (fun j _ => by rw [h28]) (fun j _ => rfl)
      obtain ⟨M', f1, f2, f3, f4, f5⟩ := choices_L hF hG hm a2 hv hl hpl k N _ (by omega) (by omega) (hB.cc (hs1.mono (by decide))) (by rw [pI_c, up_c, hP2]; rfl) (by
        rw [hP2]
        refine ⟨?_, ?_, hag cs hA, CPc.cong P h4 (fun i hi => ⟨?_, ?_⟩) (fun cs' _ h => hag _ h)⟩
        · rw [pI_d (by decide), pI_d (by decide), pI_c, up_c]; rfl
        · rw [pI_d (by decide), pI_c, up_c]; rfl
        · rw [pI_d (by decide), pI_d (by decide), pI_c, up_d (by omega)]
        · rw [pI_d (by decide), pI_c, up_d (by omega), pI_d (by decide)]) (hag cs hA)
      refine ⟨M', f1, hs1.tr f2, fun j hj => ?_, f4, f5⟩
      rw [f3 j hj, pI_c, up_d hj, pI_d (by decide), pI_d (by decide)]
theorem part_L (hF : 100000 ≤ F) (hG : GV s n fi la) {many : Nat} (hm : 1 ≤ many ∧ many ≤ 8) {places : Nat} (hp : fi + places ≤ la + 1) {looks : Nat} (hlk : looks ≤ 50000) (a1 : Int32) : ∀ (k N : Nat) (M : Mem) (pl : List Cs), k ≤ looks → k < N → CB s n fi la m ls M → okc many places pl → M.1 24 4 = ii pl.length → M.1 24 8 = ii ((looks - k : Nat) : Int) → CPc fi M pl → Agr fi M [] →
    ∃ M' code cs k', crun fi (ky s n fi la m ls) many places k pl = (code, cs, k') ∧ k' ≤ k ∧ code ≤ 2 ∧ fX0_part_L36 F a1 (ii many) (ii looks) N (ii places) M = some (ii code, M') ∧ Sm cc M M' ∧ M'.1 24 8 = ii ((looks - k' : Nat) : Int) ∧ Agr fi M' [] ∧ (code = 0 → Agr fi M' cs ∧ cs.length = places ∧ vc many cs)
  | 0, N + 1, M, [], h1, h2, hB, ho, h4, h8, hc, hA => by
    refine ⟨M, 1, [], 0, rfl, Nat.le_refl _, by omega, ?_, Sm.rf, h8, hA, fun h => absurd h (by decide)⟩
    rw [fX0_part_L36, h8, if_pos (by rw [ii_le] <;> omega), h4, if_pos (by decide)]; rfl
  | 0, N + 1, M, cs :: pl, h1, h2, hB, ho, h4, h8, hc, hA => by
    have hg := hG.b
    have ho1 := ho.1
    have ho2 := ho.2.1
    refine ⟨M, 2, [], 0, rfl, Nat.le_refl _, by omega, ?_, Sm.rf, h8, hA, fun h => absurd h (by decide)⟩
    rw [fX0_part_L36, h8, if_pos (by rw [ii_le] <;> omega), h4, if_neg (by rw [ii_lit0, List.length_cons, ii_le] <;> omega)]; rfl
  | k + 1, N + 1, M, [], h1, h2, hB, ho, h4, h8, hc, hA => by
    refine ⟨M, 1, [], k + 1, rfl, Nat.le_refl _, by omega, ?_, Sm.rf, h8, hA, fun h => absurd h (by decide)⟩
    rw [fX0_part_L36, h8, if_neg (by rw [ii_le] <;> omega), h4, if_pos (by decide), if_pos (by decide)]; rfl
  | k + 1, N + 1, M, cs :: pl, h1, h2, hB, ho, h4, h8, hc, hA => by
    have hg := hG.b
    obtain ⟨o1, o2, o3, o4, o5⟩ := ho
    obtain ⟨c1, c2, c3, c4⟩ := hc
    rw [fX0_part_L36, h8, if_neg (by rw [ii_le] <;> omega), h4, if_neg (by rw [ii_lit0, List.length_cons, ii_le] <;> omega)]
    simp only [nm_eq]
    have e1 : ii ((cs :: pl).length : Nat) - 1 = ii (pl.length : Nat) := by rw [ii_lit1, ii_sub, List.length_cons]; congr 1; omega
    rw [e1, pI_c, up_c, gd_inb (by omega) (by omega) (by omega), gd_inb (by omega) (by omega) (by omega), ii_nat (by omega) (by omega), Int.toNat_natCast, pI_d (by decide), pI_d (by decide), c1, c2]
    have s1 : Sm cc M (pI M 24 4 (ii (pl.length : Nat))) := Sm.i (by decide)
    have hag1 : ∀ R, Agr fi M R → Agr fi (pI M 24 4 (ii (pl.length : Nat))) R := fun R h => Agr.cong R h (fun j _ _ => by rw [pI_d (by decide)]) (fun j _ => by rw [pI_d (by decide)]) (fun j _ => rfl)
    -- the CASE is given
    have hgive : ∃ M2, fX0_give F (ii cs.length) (ii (cTop cs)) (pI M 24 4 (ii (pl.length : Nat))) = some M2 ∧ Sm cc (pI M 24 4 (ii (pl.length : Nat))) M2 ∧ M2.1 24 = (pI M 24 4 (ii (pl.length : Nat))).1 24 ∧ Agr fi M2 cs ∧ Agr fi M2 [] ∧ CPc fi M2 pl := by
      have hcp : CPc fi (pI M 24 4 (ii (pl.length : Nat))) pl := CPc.cong pl c4 (fun i hi => ⟨by rw [pI_d (by decide)], by rw [pI_d (by decide)]⟩) (fun cs' _ h => hag1 _ h)
      cases cs with
      | nil =>
        refine ⟨_, ?_, Sm.rf, rfl, hag1 _ hA, hag1 _ hA, hcp⟩
        unfold fX0_give
        rw [if_pos (by decide)]
      | cons c R =>
        rw [List.length_cons] at o1 o2 o4
        have hu := us_le o3.2.2
        have hcm := o3.2.1
        obtain ⟨M2, g1, g2, g3, g4, g5⟩ := give_eq (F := F) hG (hB.cc s1).1 (c := c) (R := R) (by omega) (by omega) (by omega) (hag1 R c3)
        refine ⟨M2, g1, g2.mono (by decide), by rw [(g2 24 (by decide)).1], g3, ?_, ?_⟩
        · exact Agr.cong [] (hag1 _ hA) (fun j a b => absurd b (by simp; omega)) (fun j a => (g4 j (by simp at a; omega)).2) (fun j a => g5 j (by simp at a; omega))
        · refine CPc.cong pl hcp (fun i hi => ⟨by rw [(g2 25 (by decide)).1], by rw [(g2 26 (by decide)).1]⟩) (fun cs' hm h => ?_)
          have hl := o4 cs' hm
          have hl2 : (cTail cs').length ≤ R.length := by
            cases cs' with
            | nil => exact Nat.zero_le _
            | cons c' R' => rw [List.length_cons] at hl; show R'.length ≤ R.length; omega
          exact Agr.cong _ h (fun j a b => (g4 j (by omega)).1) (fun j a => (g4 j (by omega)).2) (fun j a => g5 j (by omega))
    obtain ⟨M2, g1, g2, g3, g4, g5, g6⟩ := hgive
    have hB2 := (hB.cc s1).cc g2
    rw [g1, bv_eq]
    have h48 : ∀ j, j ≠ 4 → M2.1 24 j = M.1 24 j := fun j hj => by rw [g3, pI_c, up_d hj]
    have h44 : M2.1 24 4 = ii (pl.length : Nat) := by rw [g3, pI_c, up_c]
    have hk1 : ii ((looks - (k + 1) : Nat) : Int) + 1 = ii ((looks - k : Nat) : Int) := by rw [ii_lit1, ii_add]; congr 1; omega
    by_cases q : places ≤ cs.length
    · rw [if_neg (by rw [ii_lt] <;> omega), h48 8 (by decide), h8, hk1]
      refine ⟨pI M2 24 8 (ii ((looks - k : Nat) : Int)), 0, cs, k, ?_, by omega, by omega, rfl, (s1.tr g2).tr (Sm.i (by decide)), by rw [pI_c, up_c], ?_, fun _ => ⟨?_, by omega, o3⟩⟩
      · rw [crun, if_pos q]
      · exact Agr.cong [] g5 (fun j _ _ => by rw [pI_d (by decide)]) (fun j _ => by rw [pI_d (by decide)]) (fun j _ => rfl)
      · exact Agr.cong cs g4 (fun j _ _ => by rw [pI_d (by decide)]) (fun j _ => by rw [pI_d (by decide)]) (fun j _ => rfl)
    · rw [if_pos (by rw [ii_lt] <;> omega)]
      have hh := g4.here
      have hu := us_le o3
      unfold fX0_pileChoices fX0_numberOf
      rw [bd_eq, gd_inb (by omega) (by omega) (by omega), ii_nat (by omega) (by omega), Int.toNat_natCast, hh.1, hB2.1.2.2.1, ii_lit1, ii_add, ii_add, ii_sub, ii_sub, min_eq (by omega) (by omega), bd_eq, show ((fi : Int) + ((cs.length : Int) + 1) - 1) = ((fi + cs.length : Nat) : Int) by omega, show (min (us cs : Int) ((many : Int) - 1)) = ((min (us cs + 1) many : Nat) : Int) - 1 by omega]
      have hc0 := chF_0 (fi := fi) (kf := ky s n fi la m ls) (many := many) (R := cs) (f := min (us cs + 1) many) (Nat.le_refl _)
      obtain ⟨M3, p1, p2, p3, p4, p5⟩ := choices_L hF hG hm (ii many) o3 (by omega) (pl := pl) (by omega) (min (us cs + 1) many) F M2 (Nat.le_refl _) (by omega) hB2 (by rw [hc0]; exact h44) (by rw [hc0]; exact g6) g4
      rw [p1, bv_eq, p3 8 (by decide), h48 8 (by decide), h8, show ii 1 = (1 : Int32) from rfl, hk1]
      have hok := okc_app (fi := fi) (kf := ky s n fi la m ls) (many := many) (places := places) hm.2 (cs := cs) (pl := pl) (by omega) o3 o1 o4 o5 (min (us cs + 1) many) 0 (by omega)
      have s4 : Sm cc M3 (pI M3 24 8 (ii ((looks - k : Nat) : Int))) := Sm.i (by decide)
      have hag4 : ∀ R, Agr fi M3 R → Agr fi (pI M3 24 8 (ii ((looks - k : Nat) : Int))) R := fun R h => Agr.cong R h (fun j _ _ => by rw [pI_d (by decide)]) (fun j _ => by rw [pI_d (by decide)]) (fun j _ => rfl)
      have hA3 : Agr fi M3 [] := Agr.cong [] g5 (fun j _ _ => by rw [(p2 27 (by decide)).1]) (fun j _ => by rw [(p2 28 (by decide)).1]) (fun j _ => by rw [(p2 29 (by decide)).2])
      obtain ⟨M', code, cs', k', r1, r2, r3, r4, r5, r6, r7, r8⟩ := part_L hF hG hm hp hlk a1 k N (pI M3 24 8 (ii ((looks - k : Nat) : Int))) (chF fi (ky s n fi la m ls) many cs 0 ++ pl) (by omega) (by omega) ((hB2.cc (p2.mono (by decide))).cc s4) hok.1 (by rw [pI_c, up_d (by decide)]; exact p4) (by rw [pI_c, up_c]) (CPc.cong _ p5 (fun i _ => ⟨by rw [pI_d (by decide)], by rw [pI_d (by decide)]⟩) (fun _ _ h => hag4 _ h)) (hag4 _ hA3)
      refine ⟨M', code, cs', k', ?_, by omega, r3, r4, (((s1.tr g2).tr (p2.mono (by decide))).tr s4).tr r5, r6, r7, r8⟩
      rw [crun, if_neg q]; exact r1
theorem part_eq (hF : 100000 ≤ F) (hG : GV s n fi la) (hC : CG s n fi la M) (hL : CLs M m ls) (hT : M.1 4 6 ≠ 0 → TH s n fi la m ls M) {many : Nat} (hm : 1 ≤ many ∧ many ≤ 8) {last : Nat} (hp : fi ≤ last ∧ last ≤ la) {looks : Nat} (hlk : looks ≤ 50000) (hA : Agr fi M []) :
    ∃ M' code cs k', crun fi (ky s n fi la m ls) many (last + 1 - fi) looks [[]] = (code, cs, k') ∧ k' ≤ looks ∧ code ≤ 2 ∧ fX0_part F (ii last) (ii many) (ii looks) M = some (ii code, M') ∧ Sm [4, 13, 14, 24, 25, 26, 27, 28, 29] M M' ∧ CB s n fi la m ls M' ∧ M'.1 4 6 ≠ 0 ∧ M'.1 24 8 = ii ((looks - k' : Nat) : Int) ∧ Agr fi M' [] ∧ (code = 0 → Agr fi M' cs ∧ cs.length = last + 1 - fi ∧ vc many cs) := by
  have hg := hG.b
  obtain ⟨M1, r1, r2, r3, r4, r5, r6, r7⟩ := ready_eq hF hG hC hL hT
  unfold fX0_part
  rw [r1, bv_eq]
  simp only [nm_eq]
  rw [r7.2.2.1, ii_lit1, ii_sub, ii_add, show ((last : Int) - fi + 1) = ((last + 1 - fi : Nat) : Int) by omega]
  have hB1 : CB s n fi la m ls M1 := ⟨r7, r6, r5⟩
  have hA1 : Agr fi M1 [] := Agr.cong [] hA (fun j _ _ => by rw [(r2 27 (by decide)).1]) (fun j _ => by rw [(r2 28 (by decide)).1]) (fun j _ => by rw [(r2 29 (by decide)).2])
  rw [show (0 : Int32) = ii 0 from rfl, ii_neg, pile0_eq (k := 0) (by rw [pI_c, up_c]; rfl) (by omega), bv_eq]
  have s1 : Sm cc M1 (pI (pI (pI (pI (pI M1 24 4 (ii 0)) 25 0 (ii 0)) 26 0 (ii (-1))) 24 4 (ii ((0 + 1 : Nat) : Int))) 24 8 (ii 0)) := ((((Sm.i (c := 24) (by decide)).tr (Sm.i (c := 25) (by decide))).tr (Sm.i (c := 26) (by decide))).tr (Sm.i (by decide))).tr (Sm.i (by decide))
  have hA2 : Agr fi (pI (pI (pI (pI (pI M1 24 4 (ii 0)) 25 0 (ii 0)) 26 0 (ii (-1))) 24 4 (ii ((0 + 1 : Nat) : Int))) 24 8 (ii 0)) [] := Agr.cong [] hA1 (fun j _ _ => by simp [pI_at]) (fun j _ => by simp [pI_at]) (fun j _ => rfl)
  obtain ⟨M', code, cs, k', g1, g2, g3, g4, g5, g6, g7, g8⟩ := part_L hF hG hm (places := last + 1 - fi) (by omega) hlk (ii last) looks F _ [[]] (Nat.le_refl _) (by omega) (hB1.cc s1) ⟨Nat.le_refl _, Nat.zero_le _, trivial, fun _ h => (by cases h), trivial⟩ (by simp [pI_at]) (by rw [Nat.sub_self]; simp [pI_at]) ⟨by simp [pI_at], by simp [pI_at]; rfl, hA2, trivial⟩ hA2
  refine ⟨M', code, cs, k', g1, g2, g3, g4, (r2.mono (by decide)).tr ((s1.tr g5).mono (by decide)), (hB1.cc s1).cc g5, ?_, g6, g7, g8⟩
  rw [((s1.tr g5) 4 (by decide)).1]; exact r4
end CL
