/-! the first CLASH of a set: the class -/
theorem scanx {α : Type} {L : Nat → Nat → α} {P : Nat → Prop} {R : Nat → α → Prop} {A : α} {lo hi : Nat} (h0 : ∀ N, L (N + 1) hi = A) (h1 : ∀ N x, lo ≤ x → x < hi → (P x ∧ R x (L (N + 1) x)) ∨ (¬ P x ∧ L (N + 1) x = L N (x + 1))) : ∀ k N x, x + k = hi → k < N → lo ≤ x →
    (∃ y, x ≤ y ∧ y < hi ∧ P y ∧ (∀ z, x ≤ z → z < y → ¬ P z) ∧ R y (L N x)) ∨ ((∀ y, x ≤ y → y < hi → ¬ P y) ∧ L N x = A)
  | 0, N + 1, x, h3, h4, h5 => by
    right
    rw [show x = hi by omega]
    exact ⟨fun y h6 h7 => by omega, h0 N⟩
  | k + 1, N + 1, x, h3, h4, h5 => by
    rcases h1 N x h5 (by omega) with ⟨q, r⟩ | ⟨q, r⟩
    · exact Or.inl ⟨x, by omega, by omega, q, fun z h6 h7 => by omega, r⟩
    · rw [r]
      rcases scanx h0 h1 k N (x + 1) (by omega) (by omega) (by omega) with ⟨y, y1, y2, y3, y4, y5⟩ | ⟨y1, y2⟩
      · refine Or.inl ⟨y, by omega, y2, y3, fun z h6 h7 => ?_, y5⟩
        rcases Nat.lt_or_ge x z with h8 | h8
        · exact y4 z h8 h7
        · rw [show z = x by omega]; exact q
      · refine Or.inr ⟨fun z h6 h7 => ?_, y2⟩
        rcases Nat.lt_or_ge x z with h8 | h8
        · exact y1 z h8 h7
        · rw [show z = x by omega]; exact q
/-- four numbers told -/
def tl (M : Mem) (c : Nat) (x y z v : Int32) : Mem := pI (pI (pI (pI M c 0 x) c 1 y) c 2 z) c 3 v
theorem tell_eq {F : Nat} (x y z v : Int32) (M : Mem) : fX3_tell F x y z v M = some (bi true, tl M 12 x y z v) := rfl
theorem finds_eq {F : Nat} (x y z v : Int32) (M : Mem) : fX9_finds F x y z v M = some (bi true, tl M 45 x y z v) := rfl
theorem tl_sm {M : Mem} {c : Nat} {cs : List Nat} (h : c ∈ cs) (x y z v : Int32) : Sm cs M (tl M c x y z v) := (((Sm.i h).tr (Sm.i h)).tr (Sm.i h)).tr (Sm.i h)
def Wt (f : Nat → Int32) (x y z v : Int) : Prop := f 0 = ii x ∧ f 1 = ii y ∧ f 2 = ii z ∧ f 3 = ii v
theorem tl_wt (M : Mem) (c : Nat) (x y z v : Int) : Wt ((tl M c (ii x) (ii y) (ii z) (ii v)).1 c) x y z v := by
  unfold tl Wt
  refine ⟨?_, ?_, ?_, ?_⟩ <;> simp [pI_at]
/-- the first of all three -/
def F3 (P : Nat → Nat → Nat → Prop) (x y z : Nat) : Prop := P x y z ∧ ∀ x' y' z', P x' y' z' → x < x' ∨ (x' = x ∧ (y < y' ∨ (y' = y ∧ z ≤ z')))
theorem F3.one {P : Nat → Nat → Nat → Prop} {x y z x' y' z' : Nat} (h : F3 P x y z) (h' : F3 P x' y' z') : x = x' ∧ y = y' ∧ z = z' := by
  have h1 := h.2 _ _ _ h'.1
  have h2 := h'.2 _ _ _ h.1
  omega
theorem F3.mk {P : Nat → Nat → Nat → Prop} {x y z : Nat} (h : P x y z) (hx : ∀ x', x' < x → ∀ y' z', ¬ P x' y' z') (hy : ∀ y', y' < y → ∀ z', ¬ P x y' z') (hz : ∀ z', z' < z → ¬ P x y z') : F3 P x y z := by
  refine ⟨h, fun x' y' z' h' => ?_⟩
  rcases Nat.lt_trichotomy x' x with q | q | q
  · exact absurd h' (hx x' q y' z')
  · subst q
    rcases Nat.lt_trichotomy y' y with q | q | q
    · exact absurd h' (hy y' q z')
    · subst q
      rcases Nat.lt_or_ge z' z with q | q
      · exact absurd h' (hz z' q)
      · omega
    · omega
  · exact Or.inl q
theorem F3.cong {P Q : Nat → Nat → Nat → Prop} {x y z : Nat} (h : F3 P x y z) (e : ∀ x y z, P x y z ↔ Q x y z) : F3 Q x y z := ⟨(e _ _ _).mp h.1, fun x' y' z' h' => h.2 _ _ _ ((e _ _ _).mpr h')⟩
/-- a CLASH of a law, as it is told -/
def Qr (s n : Nat) (k : Nat) (S : Nat → Bool) (x y z : Nat) : Prop := S x = true ∧ (y ≠ x ∧ S y = true ∧ (s ≠ 0 ∨ x < y) ∧ RW s n S x (mx s n 1 y (-1) x) k) ∧ z = 0
def Qa (s n : Nat) (S : Nat → Bool) (x y u : Nat) : Prop := S x = true ∧ (x ≤ y ∧ S y = true) ∧ (u ≠ x ∧ S u = true ∧ (u : Int) ≤ mx s n 1 (mx s n 1 x 1 y) (-1) u ∧ mm S (mx s n 1 (mx s n 1 x 1 y) (-1) u) = true)
def QC (s n fi la : Nat) (l : LawT) (S : Nat → Bool) (x y z : Nat) : Prop := if lk l = 0 then Qr s n (lA l).toNat S x y z else if lk l = 3 then Qa s n S x y z else KK s n fi la l S x y z
def vC (s n : Nat) (l : LawT) (x y z : Nat) : Int := if lk l = 3 then mx s n 1 (mx s n 1 x 1 y) (-1) z else 0
theorem stp_RW {s n fi la : Nat} (hG : GV s n fi la) {S : Nat → Bool} {x : Nat} (hx : S x = true) (hxl : x ≤ la) {d : Int} (hd : VD s n la d) {k : Nat} : stp S x (fun j => mx s n 1 x (1 * j) d) k 0 = k ↔ RW s n S x d (k + 1) := by
  have cx := Ca.g hG (x := x) (by omega) (by omega)
  constructor
  · intro h j hj
    by_cases q : j = 0
    · subst q
      rw [show ((0 : Nat) : Int) = 0 from rfl, mx_zero hG cx (hd.ca hG), mm_nat]
      exact ⟨hx, fun h => by omega⟩
    · have := stp_1 S x (fun j => mx s n 1 x (1 * j) d) k 0 j (by omega) (by omega)
      simp only [Int.one_mul] at this
      exact ⟨this.1, fun _ => this.2⟩
  · intro h
    have h1 := stp_le S x (fun j => mx s n 1 x (1 * j) d) k 0
    have h2 := stp_3 S x (fun j => mx s n 1 x (1 * j) d) k 0 k (by omega) (by omega) (fun j a b => by simpa only [Int.one_mul] using (h j (by omega)).2 a) (fun j a b => by simpa only [Int.one_mul] using (h j (by omega)).1)
    omega
section CC
variable {F s n fi la : Nat} {M : Mem}
theorem findsRow_eq (hF : 100000 ≤ F) (hG : GV s n fi la) (hC : CG s n fi la M) {w : Int64} (hS : Sup fi la (bt w)) {k : Nat} (hk : 3 ≤ k ∧ k ≤ 6) :
    (∃ x y z, F3 (Qr s n k (bt w)) x y z ∧ fX3_findsRow F (ii k) w M = some (bi true, tl M 12 (ii x) (ii y) (ii z) (ii 0))) ∨ ((∀ x y z, ¬ Qr s n k (bt w) x y z) ∧ fX3_findsRow F (ii k) w M = some (bi false, M)) := by
  have hg := hG.b
  have inner : ∀ x, bt w x = true → (∃ y, (y ≠ x ∧ bt w y = true ∧ (s ≠ 0 ∨ x < y) ∧ RW s n (bt w) x (mx s n 1 y (-1) x) k) ∧ (∀ z, z < y → ¬ (z ≠ x ∧ bt w z = true ∧ (s ≠ 0 ∨ x < z) ∧ RW s n (bt w) x (mx s n 1 z (-1) x) k)) ∧ fX3_findsRowFrom F (ii x) (ii k) w M = some (bi true, tl M 12 (ii x) (ii y) (ii 0) (ii 0))) ∨ ((∀ y, ¬ (y ≠ x ∧ bt w y = true ∧ (s ≠ 0 ∨ x < y) ∧ RW s n (bt w) x (mx s n 1 y (-1) x) k)) ∧ fX3_findsRowFrom F (ii x) (ii k) w M = some (bi false, M)) := by
    intro x hx
    have hxr := hS x hx
    generalize hlo : (if s = 0 then x + 1 else fi) = lo
    have hl1 : lo ≤ la + 1 := by subst hlo; split <;> omega
    have hl2 : fi ≤ lo := by subst hlo; split <;> omega
    have e : fX3_findsRowFrom F (ii x) (ii k) w M = fX3_findsRowFrom_L29 F (ii x) (ii k) w F (ii lo) M := by
      unfold fX3_findsRowFrom
      rw [hC.1, hC.2.2.1, ii_lit0, ii_lit1, ii_add, nm_eq, nm_eq]
      simp (disch := omega) only [ii_eq]
      subst hlo
      by_cases q : s = 0
      · rw [if_pos (by omega), if_pos q, show ((x : Int) + 1) = ((x + 1 : Nat) : Int) by omega]
      · rw [if_neg (by omega), if_neg q]
    rw [e]
    have key := scan (L := fun N y => fX3_findsRowFrom_L29 F (ii x) (ii k) w N (ii (y : Nat)) M) (p := fun y => y ≠ x ∧ bt w y = true ∧ RW s n (bt w) x (mx s n 1 y (-1) x) k) (A := some (bi false, M)) (B := fun y => some (bi true, tl M 12 (ii x) (ii y) (ii 0) (ii 0))) (lo := lo) (hi := la + 1) ?_ ?_ ?_ (la + 1 - lo) F lo (by omega) (by omega) (by omega)
    rcases key with ⟨y, y1, y2, y3, y4, y5⟩ | ⟨y1, y2⟩
    · refine Or.inl ⟨y, ⟨y3.1, y3.2.1, ?_, y3.2.2⟩, fun z hz h => ?_, y5⟩
      · subst hlo
        by_cases q : s = 0
        · rw [if_pos q] at y1; right; omega
        · exact Or.inl q
      · refine y4 z ?_ hz ⟨h.1, h.2.1, h.2.2.2⟩
        subst hlo
        by_cases q : s = 0
        · rw [if_pos q]; omega
        · rw [if_neg q]; exact (hS z h.2.1).1
    · refine Or.inr ⟨fun z h => ?_, y2⟩
      refine y1 z ?_ (by have := (hS z h.2.1).2; omega) ⟨h.1, h.2.1, h.2.2.2⟩
      subst hlo
      by_cases q : s = 0
      · rw [if_pos q]; omega
      · rw [if_neg q]; exact (hS z h.2.1).1
    · intro N
      show fX3_findsRowFrom_L29 _ _ _ _ _ _ _ = _
      rw [fX3_findsRowFrom_L29, hC.2.2.2.1, if_pos (by rw [ii_lt] <;> omega)]; rfl
    · intro N y hy1 hy2 hp
      show fX3_findsRowFrom_L29 _ _ _ _ _ _ _ = _
      have hvd := VD.of hG (x := y) (y := x) (by omega) (by omega)
      rw [fX3_findsRowFrom_L29, hC.2.2.2.1, if_neg (by rw [ii_lt] <;> omega), if_neg (by rw [ii_eq (by omega) (by omega) (by omega) (by omega)]; omega), isIn_eq hG hC hS (by omega) (by omega), bd_eq, mm_nat, hp.2.1, if_neg (by decide), ii_lit1, ii_neg, mix_eq hF hG hC (by omega) (by omega) (VA.g hG (by omega) (by omega)) (VA.g hG (by omega) (by omega)), bd_eq, ii_sub, show ((k : Int) - 1) = ((k - 1 : Nat) : Int) by omega, steps_eq hF hG hC hvd hS (by omega) (Or.inl rfl) (by omega), bd_eq, (stp_RW hG hx (by omega) hvd (k := k - 1)).mpr (by rw [show k - 1 + 1 = k by omega]; exact hp.2.2), if_pos rfl, tell_eq, bd_eq, bi_isb, gd_eq]
      rfl
    · intro N y hy1 hy2 hp
      show fX3_findsRowFrom_L29 _ _ _ _ _ _ _ = fX3_findsRowFrom_L29 _ _ _ _ _ _ _
      have hvd := VD.of hG (x := y) (y := x) (by omega) (by omega)
      rw [fX3_findsRowFrom_L29, hC.2.2.2.1, if_neg (by rw [ii_lt] <;> omega), isIn_eq hG hC hS (by omega) (by omega), bd_eq, mm_nat, ii_lit1, ii_neg, mix_eq hF hG hC (by omega) (by omega) (VA.g hG (by omega) (by omega)) (VA.g hG (by omega) (by omega)), bd_eq, ii_sub, show ((k : Int) - 1) = ((k - 1 : Nat) : Int) by omega, steps_eq hF hG hC hvd hS (by omega) (Or.inl rfl) (by omega), bd_eq]
      simp only [nm_eq]
      rw [ii_add, show ((y : Int) + 1) = ((y + 1 : Nat) : Int) by omega]
      have hst := stp_le (bt w) x (fun j => mx s n 1 x (1 * j) (mx s n 1 y (-1) x)) (k - 1) 0
      simp (disch := omega) only [ii_eq]
      by_cases q : (y : Int) = x
      · rw [if_pos q]
      · rw [if_neg q]
        cases hb : bt w y with
        | false => rw [if_pos (by decide)]
        | true =>
          rw [if_neg (by decide), if_neg ?_]
          intro h
          have h2 := (stp_RW hG hx (by omega) hvd (k := k - 1)).mp (by omega)
          rw [show k - 1 + 1 = k by omega] at h2
          exact hp ⟨by omega, hb, h2⟩
  have out := scanx (L := fun N x => fX3_findsRow_L9 F (ii k) w N (ii (x : Nat)) M) (P := fun x => bt w x = true ∧ ∃ y, y ≠ x ∧ bt w y = true ∧ (s ≠ 0 ∨ x < y) ∧ RW s n (bt w) x (mx s n 1 y (-1) x) k) (R := fun x res => ∃ y, (y ≠ x ∧ bt w y = true ∧ (s ≠ 0 ∨ x < y) ∧ RW s n (bt w) x (mx s n 1 y (-1) x) k) ∧ (∀ z, z < y → ¬ (z ≠ x ∧ bt w z = true ∧ (s ≠ 0 ∨ x < z) ∧ RW s n (bt w) x (mx s n 1 z (-1) x) k)) ∧ res = some (bi true, tl M 12 (ii x) (ii y) (ii 0) (ii 0))) (A := some (bi false, M)) (lo := fi) (hi := la + 1) ?_ ?_ (la + 1 - fi) F fi (by omega) (by omega) (by omega)
  · unfold fX3_findsRow
    rw [hC.2.2.1, nm_eq]
    rcases out with ⟨x, x1, x2, x3, x4, y, y1, y2, y3⟩ | ⟨x1, x2⟩
    · refine Or.inl ⟨x, y, 0, F3.mk ⟨x3.1, y1, rfl⟩ (fun x' hx' y' z' h => ?_) (fun y' hy' z' h => y2 y' hy' h.2.1) (fun z' hz' => by omega), y3⟩
      exact x4 x' (hS x' h.1).1 hx' ⟨h.1, y', h.2.1⟩
    · refine Or.inr ⟨fun x y z h => x1 x (hS x h.1).1 (by have := (hS x h.1).2; omega) ⟨h.1, y, h.2.1⟩, x2⟩
  · intro N
    show fX3_findsRow_L9 _ _ _ _ _ _ = _
    rw [fX3_findsRow_L9, hC.2.2.2.1, if_pos (by rw [ii_lt] <;> omega)]; rfl
  · intro N x hx1 hx2
    show (_ ∧ _) ∨ (_ ∧ fX3_findsRow_L9 _ _ _ _ _ _ = fX3_findsRow_L9 _ _ _ _ _ _)
    simp only [fX3_findsRow_L9]
    rw [hC.2.2.2.1, if_neg (by rw [ii_lt] <;> omega), isIn_eq hG hC hS (by omega) (by omega), bd_eq, mm_nat]
    simp only [nm_eq]
    rw [ii_lit1, ii_add, show ((x : Int) + 1) = ((x + 1 : Nat) : Int) by omega]
    cases hb : bt w x with
    | false => right; exact ⟨fun h => (by cases h.1), by rw [if_pos (by decide)]⟩
    | true =>
      rw [if_neg (by decide)]
      rcases inner x hb with ⟨y, y1, y2, y3⟩ | ⟨y1, y2⟩
      · left
        refine ⟨⟨rfl, y, y1⟩, y, y1, y2, ?_⟩
        rw [y3, bd_eq, if_neg (by decide)]; rfl
      · right
        refine ⟨fun ⟨_, y, h⟩ => y1 y h, ?_⟩
        rw [y2, bd_eq, if_pos (by decide)]
end CC
