/-! KINDS: what they are, and the reference -/
/-- L tells of each set the first of its KIND -/
def IsL (len : Nat) (R : Nat → Nat → Prop) (L : Nat → Nat) : Prop := ∀ q, q < len → (L q = q ∧ ∀ i, i < q → L i = i → ¬ R i q) ∨ (L q < q ∧ L (L q) = L q ∧ R (L q) q ∧ ∀ i, i < L q → L i = i → ¬ R i q)
theorem IsL.one {len : Nat} {R : Nat → Nat → Prop} {L L' : Nat → Nat} (h : IsL len R L) (h' : IsL len R L') : ∀ q, q < len → L q = L' q := by
  intro q
  induction q using Nat.strongRecOn with
  | ind q ih =>
    intro hq
    rcases h q hq with ⟨a1, a2⟩ | ⟨a1, a2, a3, a4⟩
    · rcases h' q hq with ⟨b1, b2⟩ | ⟨b1, b2, b3, b4⟩
      · rw [a1, b1]
      · exact absurd b3 (a2 (L' q) b1 (by rw [ih (L' q) b1 (by omega)]; exact b2))
    · rcases h' q hq with ⟨b1, b2⟩ | ⟨b1, b2, b3, b4⟩
      · exact absurd a3 (b2 (L q) a1 (by rw [← ih (L q) a1 (by omega)]; exact a2))
      · rcases Nat.lt_trichotomy (L q) (L' q) with r | r | r
        · exact absurd a3 (b4 (L q) r (by rw [← ih (L q) a1 (by omega)]; exact a2))
        · exact r
        · exact absurd b3 (a4 (L' q) r (by rw [ih (L' q) b1 (by omega)]; exact b2))
def rch (s n fi la t : Nat) (ll : List (Nat → Bool)) (i q : Nat) : Prop := 0 < wys s n fi la t (gl ll i) (gl ll q) (fcN s n)
def ldr (L : Nat → Nat) : Nat → Bool := fun q => decide (L q = q)
section KR
variable {F s n fi la : Nat}
theorem kin_22 (hF : 100000 ≤ F) (hG : GV s n fi la) {t : Nat} (ht : t < 8) {ll : List (Nat → Bool)} (hS : ∀ S ∈ ll, Sup fi la S) {M : Mem} (hR : RG s n fi la M) (hL : RLi M fi ll) {L : Nat → Nat} {j : Nat} (hj : j < ll.length) (h48 : ∀ q, q < j → M.1 48 q = ii (L q)) (hLq : ∀ q, q < j → L q ≤ q) (hjj : M.1 48 j = ii j) (K : Int32 → Int32 → Mem → Option (Int32 × Mem)) (c : Int32) : ∀ (k N i : Nat), i + k = j → k + 1 < N → (∀ i', i' < i → ¬ (L i' = i' ∧ rch s n fi la t ll i' j)) →
    ∃ v, ((v < j ∧ (L v = v ∧ rch s n fi la t ll v j) ∧ ∀ i', i' < v → ¬ (L i' = i' ∧ rch s n fi la t ll i' j)) ∨ (v = j ∧ ∀ i', i' < j → ¬ (L i' = i' ∧ rch s n fi la t ll i' j))) ∧ fX9_kindsOf_L22 F (ii t) K N c (ii j) (ii i) M = fX9_kindsOf_L76 F (ii t) K c (ii j) (pI M 48 j (ii v))
  | 0, N + 1, i, h1, h2, h3 => by
    have hlen := hL.2.1
    refine ⟨j, Or.inr ⟨rfl, fun i' hi' => h3 i' (by omega)⟩, ?_⟩
    rw [fX9_kindsOf_L22, if_pos (by rw [ii_le] <;> omega), pI_same hjj]
  | k + 1, N + 1, i, h1, h2, h3 => by
    have hlen := hL.2.1
    have hLi := hLq i (by omega)
    rw [fX9_kindsOf_L22, if_neg (by rw [ii_le] <;> omega), gd_inb (by omega) (by omega) (by omega), ii_nat (by omega) (by omega), Int.toNat_natCast, hjj, if_pos rfl, gd_inb (by omega) (by omega) (by omega), ii_nat (by omega) (by omega), Int.toNat_natCast, h48 i (by omega)]
    simp only [nm_eq]
    rw [ii_lit1, ii_add, show ((i : Int) + 1) = ((i + 1 : Nat) : Int) by omega]
    by_cases q : L i = i
    · rw [if_pos (by rw [q])]
      obtain ⟨v, v1, v2, v3, v4⟩ := ways_eq hF hG hR ht hL hS (i := i) (j := j) (by omega) hj true
      rw [show ii 1 = bi true from rfl, v1, bd_eq]
      by_cases q2 : 0 < v
      · rw [if_neg (by rw [ii_lit0, ii_le] <;> omega), gd_inb (by omega) (by omega) (by omega)]
        refine ⟨i, Or.inl ⟨by omega, ⟨q, v3.mp q2⟩, h3⟩, ?_⟩
        obtain ⟨N', rfl⟩ : ∃ N', N = N' + 1 := ⟨N - 1, by omega⟩
        rw [fX9_kindsOf_L22]
        by_cases q3 : j ≤ i + 1
        · rw [if_pos (by rw [ii_le] <;> omega)]
        · rw [if_neg (by rw [ii_le] <;> omega), gd_inb (by omega) (by omega) (by omega), ii_nat (by omega) (by omega), Int.toNat_natCast, pI_c, up_c, if_neg (by rw [ii_eq (by omega) (by omega) (by omega) (by omega)]; omega)]
      · rw [if_pos (by rw [ii_lit0, ii_le] <;> omega)]
        exact kin_22 hF hG ht hS hR hL hj h48 hLq hjj K c k N (i + 1) (by omega) (by omega) (fun i' hi' h => by
          by_cases e : i' = i
          · rw [e] at h; exact q2 (v3.mpr h.2)
          · exact h3 i' (by omega) h)
    · rw [if_neg (by rw [ii_eq (by omega) (by omega) (by omega) (by omega)]; omega)]
      exact kin_22 hF hG ht hS hR hL hj h48 hLq hjj K c k N (i + 1) (by omega) (by omega) (fun i' hi' h => by
        by_cases e : i' = i
        · rw [e] at h; exact q h.1
        · exact h3 i' (by omega) h)
theorem IsL.le {len : Nat} {R : Nat → Nat → Prop} {L : Nat → Nat} (h : IsL len R L) : ∀ q, q < len → L q ≤ q := fun q hq => by
  rcases h q hq with ⟨a, -⟩ | ⟨a, -⟩ <;> omega
theorem kin_4 (hF : 100000 ≤ F) (hG : GV s n fi la) {t : Nat} (ht : t < 8) {ll : List (Nat → Bool)} (hS : ∀ S ∈ ll, Sup fi la S) : ∀ (k N j : Nat) (M : Mem) (L : Nat → Nat), j + k = ll.length → k < N → RG s n fi la M → RLi M fi ll → IsL j (rch s n fi la t ll) L → (∀ q, q < j → M.1 48 q = ii (L q)) →
    ∃ M' L', IsL ll.length (rch s n fi la t ll) L' ∧ (∀ q, q < ll.length → M'.1 48 q = ii (L' q)) ∧ Sm [48] M M' ∧ fX9_kindsOf_L4 F (ii t) N (ii (fb_ct (ldr L) j)) (ii j) M = some (ii (fb_ct (ldr L') ll.length), M')
  | 0, N + 1, j, M, L, h1, h2, hR, hL, hI, h48 => by
    have hlen := hL.2.1
    have e : j = ll.length := by omega
    subst e
    refine ⟨M, L, hI, h48, Sm.rf, ?_⟩
    rw [fX9_kindsOf_L4, hL.1, if_pos (by rw [ii_le] <;> omega)]
  | k + 1, N + 1, j, M, L, h1, h2, hR, hL, hI, h48 => by
    have hlen := hL.2.1
    rw [fX9_kindsOf_L4, hL.1, if_neg (by rw [ii_le] <;> omega), gd_inb (by omega) (by omega) (by omega), nm_eq, ii_nat (by omega) (by omega), Int.toNat_natCast, show (0 : Int32) = ii ((0 : Nat) : Int) from rfl]
    have s1 : Sm [48] M (pI M 48 j (ii j)) := Sm.i (by decide)
    obtain ⟨v, v1, v2⟩ := kin_22 hF hG ht hS (M := pI M 48 j (ii j)) (hR.sm s1 (by decide)) (hL.cong (by rw [pI_d (by decide)]) (by rw [pI_d (by decide)])) (L := L) (j := j) (by omega) (fun q hq => by rw [pI_c, up_d (by omega)]; exact h48 q hq) (fun q hq => hI.le q hq) (by rw [pI_c, up_c]) (fun x2 x3 M => fX9_kindsOf_L4 F (ii t) N x2 x3 M) (ii (fb_ct (ldr L) j)) j F 0 (by omega) (by omega) (fun i' hi' => by omega)
    rw [v2]
    have hvj : v ≤ j := by rcases v1 with ⟨a, -⟩ | ⟨a, -⟩ <;> omega
    have hpp : pI (pI M 48 j (ii j)) 48 j (ii v) = pI M 48 j (ii v) := by
      rw [pI_r, pI_r, pI_r, pIr_r, pIr_c]
      congr 1
      funext i
      unfold upd
      split <;> rfl
    rw [hpp]
    unfold fX9_kindsOf_L76
    rw [gd_inb (by omega) (by omega) (by omega), ii_nat (by omega) (by omega), Int.toNat_natCast, pI_c, up_c]
    simp only [nm_eq]
    rw [ii_lit1, ii_add, ii_add, show ((j : Int) + 1) = ((j + 1 : Nat) : Int) by omega]
    have hL2 : ∀ q, q < j → (if q = j then v else L q) = L q := fun q hq => if_neg (by omega)
    have hI2 : IsL (j + 1) (rch s n fi la t ll) (fun q => if q = j then v else L q) := by
      intro q hq
      by_cases e : q = j
      · subst e
        rcases v1 with ⟨a1, a2, a3⟩ | ⟨a1, a2⟩
        · right
          refine ⟨by show (if q = q then v else L q) < q; rw [if_pos rfl]; exact a1, ?_, ?_, ?_⟩
          · show (if (if q = q then v else L q) = q then v else L (if q = q then v else L q)) = (if q = q then v else L q)
            rw [if_pos rfl, if_neg (by omega)]; exact a2.1
          · show rch s n fi la t ll (if q = q then v else L q) q
            rw [if_pos rfl]; exact a2.2
          · intro i hi hLi
            have hi : i < (if q = q then v else L q) := hi
            rw [if_pos rfl] at hi
            have hLi : (if i = q then v else L i) = i := hLi
            rw [if_neg (by omega)] at hLi
            exact fun h => a3 i hi ⟨hLi, h⟩
        · left
          refine ⟨by show (if q = q then v else L q) = q; rw [if_pos rfl]; exact a1, fun i hi hLi h => ?_⟩
          have hLi : (if i = q then v else L i) = i := hLi
          rw [if_neg (by omega)] at hLi
          exact a2 i hi ⟨hLi, h⟩
      · have hqj : q < j := by omega
        have hle := hI.le q hqj
        rcases hI q hqj with ⟨a1, a2⟩ | ⟨a1, a2, a3, a4⟩
        · left
          refine ⟨by show (if q = j then v else L q) = q; rw [if_neg e]; exact a1, fun i hi hLi h => ?_⟩
          have hLi : (if i = j then v else L i) = i := hLi
          rw [if_neg (by omega)] at hLi
          exact a2 i hi hLi h
        · right
          refine ⟨by show (if q = j then v else L q) < q; rw [if_neg e]; exact a1, ?_, ?_, ?_⟩
          · show (if (if q = j then v else L q) = j then v else L (if q = j then v else L q)) = (if q = j then v else L q)
            rw [if_neg e, if_neg (by omega)]; exact a2
          · show rch s n fi la t ll (if q = j then v else L q) q
            rw [if_neg e]; exact a3
          · intro i hi hLi h
            have hi : i < (if q = j then v else L q) := hi
            rw [if_neg e] at hi
            have hLi : (if i = j then v else L i) = i := hLi
            rw [if_neg (by omega)] at hLi
            exact a4 i hi hLi h
    have s2 : Sm [48] M (pI M 48 j (ii v)) := Sm.i (by decide)
    obtain ⟨M', L', g1, g2, g3, g4⟩ := kin_4 hF hG ht hS k N (j + 1) (pI M 48 j (ii v)) (fun q => if q = j then v else L q) (by omega) (by omega) (hR.sm s2 (by decide)) (hL.cong (by rw [pI_d (by decide)]) (by rw [pI_d (by decide)])) hI2 (fun q hq => by
      by_cases e : q = j
      · rw [e, pI_c, up_c]; rw [if_pos rfl]
      · rw [pI_c, up_d e, if_neg e]; exact h48 q (by omega))
    refine ⟨M', L', g1, g2, s2.tr g3, ?_⟩
    have hct : fb_ct (ldr (fun q => if q = j then v else L q)) j = fb_ct (ldr L) j := fb_ct_cong (fun q hq => decide_eq_decide.mpr (by dsimp only; rw [hL2 q hq]))
    have hsucc := fb_ct_succ (ldr (fun q => if q = j then v else L q)) j
    rw [hct] at hsucc
    have hlj : ldr (fun q => if q = j then v else L q) j = decide (v = j) := decide_eq_decide.mpr (by dsimp only; rw [if_pos rfl])
    rw [hlj] at hsucc
    rw [hsucc] at g4
    by_cases e : v = j
    · rw [if_pos (by rw [e])]
      rw [decide_eq_true e, if_pos rfl] at g4
      exact g4
    · rw [if_neg (by rw [ii_eq (by omega) (by omega) (by omega) (by omega)]; omega)]
      rw [decide_eq_false e, if_neg (by decide)] at g4
      exact g4
theorem kindsOf_eq (hF : 100000 ≤ F) (hG : GV s n fi la) {t : Nat} (ht : t < 8) {ll : List (Nat → Bool)} (hS : ∀ S ∈ ll, Sup fi la S) {M : Mem} (hR : RG s n fi la M) (hL : RLi M fi ll) :
    ∃ M' L, IsL ll.length (rch s n fi la t ll) L ∧ (∀ q, q < ll.length → M'.1 48 q = ii (L q)) ∧ Sm [48] M M' ∧ fX9_kindsOf F (ii t) M = some (ii (fb_ct (ldr L) ll.length), M') := by
  have hlen := hL.2.1
  exact kin_4 hF hG ht hS ll.length F 0 M (fun q => q) (by omega) (by omega) hR hL (fun q hq => by omega) (fun q hq => by omega)
theorem kind_58 (hF : 100000 ≤ F) {ll : List (Nat → Bool)} {M : Mem} (hlen : ll.length ≤ 300) {L : Nat → Nat} (hLe : ∀ q, q < ll.length → L q ≤ q) (h48 : ∀ q, q < ll.length → M.1 48 q = ii (L q)) {i j0 : Nat} (hj0 : j0 < ll.length) (hl0 : ldr L j0 = true) (hc0 : fb_ct (ldr L) j0 = i) (a1 a2 a3 : Int32) : ∀ (k N j : Nat), j + k = j0 → k < N →
    fX9_kind_L58 F a1 a2 a3 N (ii j) (ii ((i : Int) - fb_ct (ldr L) j)) M = (if a3 = 0 then (some (ii j0, M)) else (if a3 = (2 : Int32) then (bd (fX9_waysFrom F a1 (ii j0) (ii j0) (0 : Int32) M) (fun u8 N6 => some (u8, N6))) else (fX9_kind_L125 F a1 a2 a3 F (ii j0) (0 : Int32) (0 : Int32) M)))
  | 0, N + 1, j, h1, h2 => by
    have e : j = j0 := by omega
    subst e
    have hlt := of_decide_eq_true hl0
    rw [fX9_kind_L58, hc0, show ((i : Int) - i) = 0 by omega, if_neg (by decide), gd_inb (by omega) (by omega) (by omega), ii_nat (by omega) (by omega), Int.toNat_natCast, h48 j hj0, hlt, if_pos rfl]
  | k + 1, N + 1, j, h1, h2 => by
    have hmono := fb_ct_mono (ldr L) (show j + 1 ≤ j0 by omega)
    have hsucc := fb_ct_succ (ldr L) j
    have hle := fb_ct_le (ldr L) j
    have hle0 := fb_ct_le (ldr L) j0
    have hLj := hLe j (by omega)
    have k75 : fX9_kind_L75 F a1 a2 a3 (fun x4 x5 M => fX9_kind_L58 F a1 a2 a3 N x4 x5 M) (ii j) (ii ((i : Int) - fb_ct (ldr L) j)) M = (if a3 = 0 then (some (ii j0, M)) else (if a3 = (2 : Int32) then (bd (fX9_waysFrom F a1 (ii j0) (ii j0) (0 : Int32) M) (fun u8 N6 => some (u8, N6))) else (fX9_kind_L125 F a1 a2 a3 F (ii j0) (0 : Int32) (0 : Int32) M))) := by
      have ih := kind_58 hF hlen hLe h48 hj0 hl0 hc0 a1 a2 a3 k N (j + 1) (by omega) (by omega)
      unfold fX9_kind_L75
      rw [gd_inb (by omega) (by omega) (by omega), ii_nat (by omega) (by omega), Int.toNat_natCast, h48 j (by omega)]
      simp only [nm_eq]
      rw [show (-1 : Int32) = ii (-1) from rfl, ii_lit1, ii_add, ii_add, show ((j : Int) + 1) = ((j + 1 : Nat) : Int) by omega]
      by_cases q : L j = j
      · rw [if_pos (by rw [q])]
        have : ldr L j = true := decide_eq_true q
        rw [this, if_pos rfl] at hsucc
        rw [hsucc, show ((i : Int) - ((fb_ct (ldr L) j + 1 : Nat) : Int)) = (i : Int) - fb_ct (ldr L) j + -1 by omega] at ih
        exact ih
      · rw [if_neg (by rw [ii_eq (by omega) (by omega) (by omega) (by omega)]; omega)]
        have : ldr L j = false := decide_eq_false q
        rw [this, if_neg (by decide), Nat.add_zero] at hsucc
        rw [hsucc] at ih
        exact ih
    rw [fX9_kind_L58, ii_lit0]
    by_cases q : (0 : Int) < (i : Int) - fb_ct (ldr L) j
    · rw [if_pos (by rw [ii_lt] <;> omega)]
      exact k75
    · rw [if_neg (by rw [ii_lt] <;> omega), gd_inb (by omega) (by omega) (by omega), ii_nat (by omega) (by omega), Int.toNat_natCast, h48 j (by omega)]
      have hnl : ¬ L j = j := by
        intro e
        have : ldr L j = true := decide_eq_true e
        rw [this, if_pos rfl] at hsucc
        omega
      rw [if_neg (by rw [ii_eq (by omega) (by omega) (by omega) (by omega)]; omega)]
      exact k75
theorem kind_125 {ll : List (Nat → Bool)} {M : Mem} (hL : RLi M fi ll) {L : Nat → Nat} (hLe : ∀ q, q < ll.length → L q ≤ q) (h48 : ∀ q, q < ll.length → M.1 48 q = ii (L q)) {j0 : Nat} (hj0 : j0 < ll.length) (a1 a2 a3 : Int32) : ∀ (k N q : Nat), q + k = ll.length → k < N →
    fX9_kind_L125 F a1 a2 a3 N (ii j0) (ii (fb_ct (fun q => decide (L q = j0)) q)) (ii q) M = some (ii (fb_ct (fun q => decide (L q = j0)) ll.length), M)
  | 0, N + 1, q, h1, h2 => by
    have hlen := hL.2.1
    have e : q = ll.length := by omega
    subst e
    rw [fX9_kind_L125, hL.1, if_pos (by rw [ii_le] <;> omega)]
  | k + 1, N + 1, q, h1, h2 => by
    have hlen := hL.2.1
    have hLq := hLe q (by omega)
    have ih := kind_125 hL hLe h48 hj0 a1 a2 a3 k N (q + 1) (by omega) (by omega)
    rw [fb_ct_succ] at ih
    rw [fX9_kind_L125, hL.1, if_neg (by rw [ii_le] <;> omega), gd_inb (by omega) (by omega) (by omega), ii_nat (by omega) (by omega), Int.toNat_natCast, h48 q (by omega)]
    simp only [nm_eq]
    rw [ii_lit1, ii_add, ii_add, show ((q : Int) + 1) = ((q + 1 : Nat) : Int) by omega]
    by_cases e : L q = j0
    · rw [if_pos (by rw [e])]
      rw [decide_eq_true e, if_pos rfl] at ih
      exact ih
    · rw [if_neg (by rw [ii_eq (by omega) (by omega) (by omega) (by omega)]; omega)]
      rw [decide_eq_false e, if_neg (by decide)] at ih
      exact ih
end KR
