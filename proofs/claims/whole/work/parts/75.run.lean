/-! the first memory, and the law's loop -/
theorem inv0 : Inv 0 M0 := by
  have hbt : ∀ x, bt (2097150 : Int64) x = decide (1 ≤ x ∧ x ≤ 20) := by
    intro x
    by_cases h : x < 64
    · have : ∀ y : Nat, y < 64 → bt (2097150 : Int64) y = decide (1 ≤ y ∧ y ≤ 20) := by decide +kernel
      exact this x h
    · rw [bt_big (by omega), decide_eq_false (by omega)]
  refine ⟨0, 20, 1, 20, 0, fun _ => default, [], ⟨Or.inl ⟨rfl, by omega, by omega, rfl, rfl⟩, ⟨rfl, rfl, rfl, rfl, hbt⟩, ⟨rfl, rfl, rfl, rfl⟩, ⟨rfl, by omega, fun i hi => by omega⟩, ⟨rfl, by omega, fun i hi => by omega⟩, fun e => absurd rfl e⟩, fun k hk => ?_, ⟨cli0 rfl, rli0 rfl, List.Pairwise.nil, fun S hS => (by simp at hS), fun t ht e => ?_⟩, ⟨rfl, fun d hd => bt0⟩, ⟨0, by omega, rfl, rfl, fun j hj => by omega⟩, ⟨rfl, fun e => absurd rfl e⟩, ⟨rfl, fun e => absurd rfl e⟩, rfl, ⟨0, by omega, rfl, fun p hp => ⟨0, by omega, rfl⟩⟩⟩
  · have e : M0.2 34 k = 0 := rfl
    rw [e, bt0]
    exact ⟨fun x hx => (by cases hx), fun j hj => rfl⟩
  · have e' : (-1 : Int32) = ii t := e
    rw [show (-1 : Int32) = ii (-1) from rfl, ii_eq (by omega) (by omega) (by omega) (by omega)] at e'
    omega
theorem Inv.up {c : Nat} {M : Mem} (h : Inv c M) : Inv (c + 1) M := by
  obtain ⟨s, n, fi, la, m, ls, ll, h⟩ := h
  exact ⟨s, n, fi, la, m, ls, ll, h.same (cs := []) (fs := []) Fr.rf (by decide) (by decide) (fun _ _ => rfl)⟩
theorem inbx {L x : Nat} (hL : L ≤ 3072) (h : x + 6 ≤ L) {j : Nat} (hj : j ≤ 5) : inb (ii x + ii j) L = true := by
  rw [ii_add, ii_inb (by omega) (by omega)]
  exact decide_eq_true (by omega)
theorem ite_ex {p : Prop} [Decidable p] {a b : Option Mem} (h1 : ∃ M', a = some M') (h2 : ∃ M', b = some M') : ∃ M', (if p then a else b) = some M' := by
  by_cases q : p
  · rw [if_pos q]; exact h1
  · rw [if_neg q]; exact h2
theorem law_run {F L : Nat} {xs : Nat → Int32} (hF : 100000 ≤ F) (hL : L ≤ 3072) : ∀ (n c : Nat) (M : Mem), L < 6 * c + 6 * n → 6 * c ≤ L → Inv c M → ∃ M', fL_law F xs L n (ii ((6 * c : Nat) : Int)) M = some M'
  | 0, c, M, h1, h2, h => by omega
  | n + 1, c, M, h1, h2, h => by
    have e0 : Int32.ofNat L - 6 = ii ((L : Int) - 6) := by
      rw [show Int32.ofNat L = ii L from (ii_nI L).symm, show (6 : Int32) = ii 6 from rfl, ii_sub]
    rw [fL_law, e0]
    by_cases q : L < 6 * c + 6
    · exact ⟨M, by rw [if_pos (by rw [ii_lt] <;> omega)]⟩
    · rw [if_neg (by rw [ii_lt] <;> omega), gd_inb (by omega) (by omega) (by omega), nm_eq]
      have g1 : inb (ii ((6 * c : Nat) : Int) + 1) L = true := inbx hL (by omega) (j := 1) (by omega)
      have g2 : inb (ii ((6 * c : Nat) : Int) + 2) L = true := inbx hL (by omega) (j := 2) (by omega)
      have g3 : inb (ii ((6 * c : Nat) : Int) + 3) L = true := inbx hL (by omega) (j := 3) (by omega)
      have g4 : inb (ii ((6 * c : Nat) : Int) + 4) L = true := inbx hL (by omega) (j := 4) (by omega)
      have g5 : inb (ii ((6 * c : Nat) : Int) + 5) L = true := inbx hL (by omega) (j := 5) (by omega)
      have e6 : ii ((6 * c : Nat) : Int) + 6 = ii ((6 * (c + 1) : Nat) : Int) := by
        rw [show (6 : Int32) = ii 6 from rfl, ii_add, show (((6 * c : Nat) : Int) + 6) = ((6 * (c + 1) : Nat) : Int) by omega]
      have hk : ∀ K, Inv (c + 1) K → ∃ M', (fun x4 M => fL_law F xs L n x4 M) (ii ((6 * c : Nat) : Int) + 6) K = some M' := by
        intro K hK
        show ∃ M', fL_law F xs L n (ii ((6 * c : Nat) : Int) + 6) K = some M'
        rw [e6]
        exact law_run hF hL n (c + 1) K (by omega) (by omega) hK
      generalize xs (ii ((6 * c : Nat) : Int)).toNatClampNeg &&& 31 = v3
      refine ite_ex (s_feed hF g1 g2 g3 g4 g5 h hk) ?_
      refine ite_ex (s_end g1 h hk) ?_
      refine ite_ex (s_ground hF g1 g2 h hk) ?_
      refine ite_ex (s_sheet hF g1 g2 h hk) ?_
      refine ite_ex (s_put g1 g2 g3 h hk) ?_
      refine ite_ex (s_has g1 g2 h hk) ?_
      refine ite_ex (s_size hF g1 h hk) ?_
      refine ite_ex (s_at hF g1 g2 h hk) ?_
      refine ite_ex (s_law g1 g2 g3 g4 g5 h hk) ?_
      refine ite_ex (s_drop  h hk) ?_
      refine ite_ex (s_clash hF g1 h hk) ?_
      refine ite_ex (s_witness g1 h hk) ?_
      refine ite_ex (s_room hF g1 h hk) ?_
      refine ite_ex (s_greatest hF g1 g2 h hk) ?_
      refine ite_ex (s_list hF g1 h hk) ?_
      refine ite_ex (s_listed hF g1 g2 h hk) ?_
      refine ite_ex (s_kinds hF g1 h hk) ?_
      refine ite_ex (s_kind hF g1 g2 g3 h hk) ?_
      refine ite_ex (s_count hF g1 h hk) ?_
      refine ite_ex (s_colours hF g1 g2 h hk) ?_
      refine ite_ex (s_colour g1 h hk) ?_
      refine ite_ex (s_forced hF g1 g2 h hk) ?_
      refine ite_ex (s_sums hF (by omega) g1 g2 g3 g4 h hk) ?_
      refine ite_ex (s_energy hF g1 h hk) ?_
      refine ite_ex (s_order hF g1 h hk) ?_
      refine ite_ex (s_keep hF g1 g2 h hk) ?_
      refine ite_ex (s_look g1 h hk) ?_
      rw [nm_eq]
      exact hk M h.up
theorem pure_claim : ∀ (L : Nat) (xs : Nat → Int32), L ≤ 3072 → ∃ (F : Nat) (M' : Mem), fL_law F xs L 600 0 M0 = some M' := by
  intro L xs hL
  obtain ⟨M', h⟩ := law_run (F := 100000) (L := L) (xs := xs) (Nat.le_refl _) hL 600 0 M0 (by omega) (by omega) inv0
  exact ⟨100000, M', h⟩
