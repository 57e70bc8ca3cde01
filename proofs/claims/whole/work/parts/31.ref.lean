/-! loops in general, and the reference's look for a CLASH with x -/
theorem scan {α : Type} {L : Nat → Nat → α} {p : Nat → Prop} {A : α} {B : Nat → α} {lo hi : Nat} (h0 : ∀ N, L (N + 1) hi = A) (h1 : ∀ N x, lo ≤ x → x < hi → p x → L (N + 1) x = B x) (h2 : ∀ N x, lo ≤ x → x < hi → ¬ p x → L (N + 1) x = L N (x + 1)) : ∀ k N x, x + k = hi → k < N → lo ≤ x →
    (∃ y, x ≤ y ∧ y < hi ∧ p y ∧ (∀ z, x ≤ z → z < y → ¬ p z) ∧ L N x = B y) ∨ ((∀ y, x ≤ y → y < hi → ¬ p y) ∧ L N x = A)
  | 0, N + 1, x, h3, h4, h5 => by
    right
    rw [show x = hi by omega]
    exact ⟨fun y h6 h7 => by omega, h0 N⟩
  | k + 1, N + 1, x, h3, h4, h5 => by
    by_cases q : p x
    · exact Or.inl ⟨x, by omega, by omega, q, fun z h6 h7 => by omega, h1 N x h5 (by omega) q⟩
    · rw [h2 N x h5 (by omega) q]
      rcases scan h0 h1 h2 k N (x + 1) (by omega) (by omega) (by omega) with ⟨y, y1, y2, y3, y4, y5⟩ | ⟨y1, y2⟩
      · refine Or.inl ⟨y, by omega, y2, y3, fun z h6 h7 => ?_, y5⟩
        rcases Nat.lt_or_ge x z with h8 | h8
        · exact y4 z h8 h7
        · rw [show z = x by omega]; exact q
      · refine Or.inr ⟨fun z h6 h7 => ?_, y2⟩
        rcases Nat.lt_or_ge x z with h8 | h8
        · exact y1 z h8 h7
        · rw [show z = x by omega]; exact q
/-- a loop that ends at the first of p -/
theorem scan1 {α : Type} {L : Nat → Nat → α} (p : Nat → Prop) {A B : α} {lo hi : Nat} (h0 : ∀ N, L (N + 1) hi = A) (h1 : ∀ N x, lo ≤ x → x < hi → p x → L (N + 1) x = B) (h2 : ∀ N x, lo ≤ x → x < hi → ¬ p x → L (N + 1) x = L N (x + 1)) {N x : Nat} (h3 : lo ≤ x) (h4 : x ≤ hi) (h5 : hi < N + x) :
    ((∃ y, x ≤ y ∧ y < hi ∧ p y) ∧ L N x = B) ∨ ((¬ ∃ y, x ≤ y ∧ y < hi ∧ p y) ∧ L N x = A) := by
  rcases scan (B := fun _ => B) h0 h1 h2 (hi - x) N x (by omega) (by omega) h3 with ⟨y, y1, y2, y3, -, y5⟩ | ⟨y1, y2⟩
  · exact Or.inl ⟨⟨y, y1, y2, y3⟩, y5⟩
  · exact Or.inr ⟨fun ⟨y, h6, h7, h8⟩ => y1 y h6 h7 h8, y2⟩
/-- a loop that ends true at the first of p, and else false -/
theorem scanb {L : Nat → Nat → Option (Int32 × Mem)} {M : Mem} (p : Nat → Prop) {lo hi : Nat} (h0 : ∀ N, L (N + 1) hi = some (bi false, M)) (h1 : ∀ N x, lo ≤ x → x < hi → p x → L (N + 1) x = some (bi true, M)) (h2 : ∀ N x, lo ≤ x → x < hi → ¬ p x → L (N + 1) x = L N (x + 1)) {N x : Nat} (h3 : lo ≤ x) (h4 : x ≤ hi) (h5 : hi < N + x) :
    ∃ b, L N x = some (bi b, M) ∧ (b = true ↔ ∃ y, x ≤ y ∧ y < hi ∧ p y) := by
  rcases scan1 p h0 h1 h2 h3 h4 h5 with ⟨h6, h7⟩ | ⟨h6, h7⟩
  · exact ⟨true, h7, fun _ => h6, fun _ => rfl⟩
  · exact ⟨false, h7, fun h => (by cases h), fun h => absurd h h6⟩
/-- a loop with a state -/
theorem foldI {α β : Type} {L : Nat → Nat → β → α} {fin : β → α} (I : Nat → β → Prop) {lo hi : Nat} (h0 : ∀ N b, I hi b → L (N + 1) hi b = fin b) (h1 : ∀ N x b, lo ≤ x → x < hi → I x b → ∃ b', L (N + 1) x b = L N (x + 1) b' ∧ I (x + 1) b') : ∀ (k N x : Nat) (b : β), x + k = hi → k < N → lo ≤ x → I x b → ∃ b', L N x b = fin b' ∧ I hi b'
  | 0, N + 1, x, b, h3, h4, h5, h6 => by
    rw [show x = hi by omega] at h6 ⊢
    exact ⟨b, h0 N b h6, h6⟩
  | k + 1, N + 1, x, b, h3, h4, h5, h6 => by
    obtain ⟨b', e1, e2⟩ := h1 N x b h5 (by omega) h6
    rw [e1]
    exact foldI I h0 h1 k N (x + 1) b' (by omega) (by omega) (by omega) e2
theorem bi_iff {b c : Bool} (h : b = true ↔ c = true) : bi b = bi c := by revert h; cases b <;> cases c <;> simp
def RLs (M : Mem) (m : Nat) (ls : Nat → LawT) : Prop := M.1 37 13 = ii m ∧ m ≤ 6 ∧ ∀ i, i < m → LV (ls i) ∧ M.1 40 i = ii (lk (ls i)) ∧ M.1 41 i = ii (lA (ls i)) ∧ M.1 42 i = ii (lB (ls i)) ∧ M.1 43 i = ii (lC (ls i)) ∧ M.1 44 i = bi (lU (ls i))
theorem mx_bd {s n fi la : Nat} (hG : GV s n fi la) {a x b y : Int} (ha : -9 ≤ a ∧ a ≤ 9) (hb : -9 ≤ b ∧ b ≤ 9) (hx : -300 ≤ x ∧ x ≤ 300) (hy : -300 ≤ y ∧ y ≤ 300) : -5400 ≤ mx s n a x b y ∧ mx s n a x b y ≤ 5400 := by
  have hg := hG.b
  by_cases q : s = 0
  · subst q
    rw [mx_0]
    have r1 := mul_rng 9 300 (a := a) (x := x) (by omega) (by omega) (by omega) (by omega)
    have r2 := mul_rng 9 300 (a := b) (x := y) (by omega) (by omega) (by omega) (by omega)
    omega
  · have := mx_in hG q a x b y
    omega
/-- of a set: x, x + d, .. are k unlike ones in it -/
def RW (s n : Nat) (S : Nat → Bool) (x d : Int) (k : Nat) : Prop := ∀ i : Nat, i < k → mm S (mx s n 1 x i d) = true ∧ (0 < i → mx s n 1 x i d ≠ x)
section RF
variable {F s n fi la : Nat} {M : Mem}
theorem isRow_eq (hF : 100000 ≤ F) (hG : GV s n fi la) (hR : RG s n fi la M) {S : Nat → Bool} (hS : Sup fi la S) {r : Nat} (hr : r < 17) (hw : Row M fi r S) {x d : Int} (hx : 0 ≤ x ∧ x ≤ la) (hd : VD s n la d) {k : Nat} (hk : k ≤ 6) :
    ∃ b, fX9_isRow F (ii r) (ii x) (ii d) (ii k) M = some (bi b, M) ∧ (b = true ↔ RW s n S x d k) := by
  have hg := hG.b
  have hca := Ca.g hG hx.1 hx.2
  have hva := hd.va hG
  have key := scan1 (L := fun N i => fX9_isRow_L6 F (ii r) (ii x) (ii d) (ii k) N (ii (mx s n 1 x i d)) (ii i) M) (fun i => ¬ (mm S (mx s n 1 x i d) = true ∧ (0 < i → mx s n 1 x i d ≠ x))) (A := some (bi true, M)) (B := some (bi false, M)) (lo := 0) (hi := k) (N := F) (x := 0) ?_ ?_ ?_ (by omega) (by omega) (by omega)
  · unfold fX9_isRow
    have e0 : mx s n 1 x (0 : Nat) d = x := mx_zero hG hca (hd.ca hG)
    simp only [e0] at key
    rcases key with ⟨⟨y, y1, y2, y3⟩, h⟩ | ⟨h1, h⟩
    · exact ⟨false, h, fun e => (by cases e), fun e => absurd (e y y2) y3⟩
    · refine ⟨true, h, fun _ => fun i hi => Classical.not_not.mp (fun q => h1 ⟨i, by omega, hi, q⟩), fun _ => rfl⟩
  · intro N
    show fX9_isRow_L6 _ _ _ _ _ _ _ _ _ = _
    rw [fX9_isRow_L6, if_pos (by rw [ii_le] <;> omega)]; rfl
  · intro N i _ hi hp
    show fX9_isRow_L6 _ _ _ _ _ _ _ _ _ = _
    have hb := mx_bd hG (a := 1) (x := x) (b := i) (y := d) (by omega) (by omega) (by omega) ⟨hva.1, hva.2.1⟩
    rw [fX9_isRow_L6, if_neg (by rw [ii_le] <;> omega), in_eq hG hR hS hr hw (by omega) (by omega), bd_eq]
    cases hm : mm S (mx s n 1 x i d) with
    | false => rw [if_pos (by decide)]; rfl
    | true =>
      rw [if_neg (by decide), ii_lit0]
      simp (disch := omega) only [ii_le, ii_eq]
      have h9 : 0 < i ∧ mx s n 1 x i d = x := by
        apply Classical.byContradiction
        intro q
        exact hp ⟨hm, fun h e => q ⟨h, e⟩⟩
      rw [if_neg (by omega), if_pos h9.2]; rfl
  · intro N i _ hi hp
    show fX9_isRow_L6 _ _ _ _ _ _ _ _ _ = fX9_isRow_L6 _ _ _ _ _ _ _ _ _
    have hp := Classical.not_not.mp hp
    have hb := mx_bd hG (a := 1) (x := x) (b := i) (y := d) (by omega) (by omega) (by omega) ⟨hva.1, hva.2.1⟩
    obtain ⟨m1, m2, -⟩ := mm_sup hS hp.1
    rw [fX9_isRow_L6, if_neg (by rw [ii_le] <;> omega), in_eq hG hR hS hr hw (by omega) (by omega), bd_eq, hp.1, if_neg (by decide), sum_eq hF hG hR (VA.g hG (by omega) m2) hva, bd_eq, nm_eq, mx_step hG hca (hd.ca hG), ii_lit1, ii_add, show ((i : Int) + 1) = ((i + 1 : Nat) : Int) by omega]
    by_cases q : i = 0
    · rw [if_pos (by rw [ii_lit0, ii_le] <;> omega)]
    · rw [if_neg (by rw [ii_lit0, ii_le] <;> omega), if_neg (by rw [ii_eq (by omega) (by omega) (by omega) (by omega)]; exact hp.2 (by omega))]
/-- the reference's ROWS with x -/
def BR (s n fi la : Nat) (S : Nat → Bool) (x k : Nat) : Prop := ∃ d i : Nat, 1 ≤ d ∧ d ≤ (if s = 0 then la + 1 - fi else la - fi) ∧ i < k ∧ RW s n S (mx s n 1 x (-(i : Int)) d) d k
theorem VD.d {s n fi la d : Nat} (hG : GV s n fi la) (h : d ≤ (if s = 0 then la + 1 - fi else la - fi)) : VD s n la (d : Int) := by
  unfold GV at hG
  unfold VD
  split at h <;> omega
theorem breaksRow_38 (hF : 100000 ≤ F) (hG : GV s n fi la) (hR : RG s n fi la M) {S : Nat → Bool} (hS : Sup fi la S) {r : Nat} (hr : r < 17) (hw : Row M fi r S) {x k : Nat} (hx : fi ≤ x ∧ x ≤ la) (hk : 3 ≤ k ∧ k ≤ 6) {d : Nat} (hd : d ≤ (if s = 0 then la + 1 - fi else la - fi)) (t : Int32) (K : Int32 → Int32 → Mem → Option (Int32 × Mem)) :
    ((∃ i : Nat, i < k ∧ RW s n S (mx s n 1 x (-(i : Int)) d) d k) ∧ fX9_breaksRow_L38 F (ii r) (ii k) (ii x) K F t (ii d) (ii x) 0 M = some (bi true, M)) ∨
    ((¬ ∃ i : Nat, i < k ∧ RW s n S (mx s n 1 x (-(i : Int)) d) d k) ∧ fX9_breaksRow_L38 F (ii r) (ii k) (ii x) K F t (ii d) (ii x) 0 M = K t (ii ((d + 1 : Nat) : Int)) M) := by
  have hg := hG.b
  have hca := Ca.g hG (x := x) (by omega) (by omega)
  have hvd : VD s n la (d : Int) := VD.d hG hd
  have hva := hvd.va hG
  have hdb : d ≤ 60 := by split at hd <;> omega
  have hdl : s ≠ 0 → d ≤ la := by intro q; rw [if_neg q] at hd; omega
  have k2 := scan1 (L := fun N' i => fX9_breaksRow_L38 F (ii r) (ii k) (ii x) K N' t (ii d) (ii (mx s n 1 x (-((i : Nat) : Int)) d)) (ii i) M) (fun i => RW s n S (mx s n 1 x (-(i : Int)) d) d k) (A := K t (ii ((d + 1 : Nat) : Int)) M) (B := some (bi true, M)) (lo := 0) (hi := k) (N := F) (x := 0) ?_ ?_ ?_ (by omega) (by omega) (by omega)
  · have e0 : mx s n 1 x (-((0 : Nat) : Int)) d = x := mx_zero hG hca (hvd.ca hG)
    simp only [e0] at k2
    rcases k2 with ⟨⟨i, -, h1, h2⟩, h⟩ | ⟨h1, h⟩
    · exact Or.inl ⟨⟨i, h1, h2⟩, h⟩
    · exact Or.inr ⟨fun ⟨i, h2, h3⟩ => h1 ⟨i, by omega, h2, h3⟩, h⟩
  · intro N'
    show fX9_breaksRow_L38 _ _ _ _ _ _ _ _ _ _ _ = _
    rw [fX9_breaksRow_L38, if_pos (by rw [ii_le] <;> omega), nm_eq, ii_lit1, ii_add, show ((d : Int) + 1) = ((d + 1 : Nat) : Int) by omega]
  · intro N' i _ hi hp
    have hb := mx_bd hG (a := 1) (x := x) (b := -(i : Int)) (y := d) (by omega) (by omega) (by omega) ⟨hva.1, hva.2.1⟩
    have h0 := hp 0 (by omega)
    have e0 : mx s n 1 (mx s n 1 x (-(i : Int)) d) ((0 : Nat) : Int) d = mx s n 1 x (-(i : Int)) d := mx_zero hG (Ca.mx hG _ _ _ _) (hvd.ca hG)
    rw [e0] at h0
    obtain ⟨m1, m2, -⟩ := mm_sup hS h0.1
    show fX9_breaksRow_L38 _ _ _ _ _ _ _ _ _ _ _ = _
    obtain ⟨b, b1, b2⟩ := isRow_eq hF hG hR hS hr hw (x := mx s n 1 x (-(i : Int)) d) (by omega) hvd hk.2
    rw [fX9_breaksRow_L38, if_neg (by rw [ii_le] <;> omega), isIn9_ii hG hR (by omega) (by omega), bd_eq, decide_eq_true ⟨m1, m2⟩, if_neg (by decide), b1, bd_eq, b2.mpr hp, if_neg (by decide)]
    rfl
  · intro N' i _ hi hp
    have hb := mx_bd hG (a := 1) (x := x) (b := -(i : Int)) (y := d) (by omega) (by omega) (by omega) ⟨hva.1, hva.2.1⟩
    show fX9_breaksRow_L38 _ _ _ _ _ _ _ _ _ _ _ = fX9_breaksRow_L38 _ _ _ _ _ _ _ _ _ _ _
    have hvs : VA s la (mx s n 1 x (-(i : Int)) d) := by
      by_cases q : s = 0
      · subst q
        rw [mx_0, Int.neg_mul]
        have r2 := mul_rng 5 60 (a := (i : Int)) (x := d) (by omega) (by omega) (by omega) (by omega)
        have r3 := Int.mul_nonneg (a := (i : Int)) (b := (d : Int)) (by omega) (by omega)
        refine ⟨by omega, by omega, fun h => (by omega)⟩
      · have := mx_g hG q 1 (-(i : Int)) (x := x) (y := d) (by omega) (by have := hdl q; omega)
        exact VA.g hG this.1 this.2
    have e1 : -(i : Int) + -1 = -((i + 1 : Nat) : Int) := by omega
    rw [fX9_breaksRow_L38, if_neg (by rw [ii_le] <;> omega), isIn9_ii hG hR (by omega) (by omega), bd_eq, difference_eq hF hG hR hvs hva, bd_eq, nm_eq, mx_step hG hca (hvd.ca hG), e1, ii_lit1, ii_add, show ((i : Int) + 1) = ((i + 1 : Nat) : Int) by omega]
    by_cases q : (fi : Int) ≤ mx s n 1 x (-(i : Int)) d ∧ mx s n 1 x (-(i : Int)) d ≤ la
    · obtain ⟨b, b1, b2⟩ := isRow_eq hF hG hR hS hr hw (x := mx s n 1 x (-(i : Int)) d) (by omega) hvd hk.2
      have b3 : b = false := by
        cases b with
        | false => rfl
        | true => exact absurd (b2.mp rfl) hp
      rw [decide_eq_true q, if_neg (by decide), b1, bd_eq, b3, if_pos (by decide), difference_eq hF hG hR hvs hva, bd_eq, mx_step hG hca (hvd.ca hG), e1, nm_eq]
    · rw [decide_eq_false q, if_pos (by decide)]
theorem breaksRow_eq (hF : 100000 ≤ F) (hG : GV s n fi la) (hR : RG s n fi la M) {S : Nat → Bool} (hS : Sup fi la S) {r : Nat} (hr : r < 17) (hw : Row M fi r S) {x k : Nat} (hx : fi ≤ x ∧ x ≤ la) (hk : 3 ≤ k ∧ k ≤ 6) :
    ∃ b, fX9_breaksRow F (ii r) (ii k) (ii x) M = some (bi b, M) ∧ (b = true ↔ BR s n fi la S x k) := by
  have hg := hG.b
  generalize ht : (if s = 0 then la + 1 - fi else la - fi) = t
  have htb : t ≤ 60 := by subst ht; split <;> omega
  have key := scanb (M := M) (L := fun N d => fX9_breaksRow_L25 F (ii r) (ii k) (ii x) N (ii t) (ii d) M) (fun d => ∃ i : Nat, i < k ∧ RW s n S (mx s n 1 x (-(i : Int)) d) d k) (lo := 1) (hi := t + 1) (N := F) (x := 1) ?_ ?_ ?_ (by omega) (by omega) (by omega)
  · unfold fX9_breaksRow
    rw [hR.1, hR.2.2.1, ii_lit0, ii_lit1, ii_sub, nm_eq, nm_eq]
    simp (disch := omega) only [ii_eq]
    obtain ⟨b, b1, b2⟩ := key
    refine ⟨b, ?_, ?_⟩
    · by_cases q : s = 0
      · rw [if_pos (by omega), show ((la : Int) - fi + 1) = (t : Int) by subst ht; rw [if_pos q]; omega]; exact b1
      · rw [if_neg (by omega), show ((la : Int) - fi + 1 - 1) = (t : Int) by subst ht; rw [if_neg q]; omega]; exact b1
    · rw [b2]
      unfold BR
      rw [ht]
      constructor
      · rintro ⟨d, d1, d2, i, i1, i2⟩; exact ⟨d, i, d1, by omega, i1, i2⟩
      · rintro ⟨d, i, d1, d2, i1, i2⟩; exact ⟨d, d1, by omega, i, i1, i2⟩
  · intro N
    show fX9_breaksRow_L25 _ _ _ _ _ _ _ _ = _
    rw [fX9_breaksRow_L25, if_pos (by rw [ii_lt] <;> omega)]; rfl
  · intro N d hd1 hd2 hp
    show fX9_breaksRow_L25 _ _ _ _ _ _ _ _ = _
    rw [fX9_breaksRow_L25, if_neg (by rw [ii_lt] <;> omega)]
    rcases breaksRow_38 hF hG hR hS hr hw hx hk (d := d) (by omega) (ii t) (fun x4 x5 M => fX9_breaksRow_L25 F (ii r) (ii k) (ii x) N x4 x5 M) with ⟨-, h⟩ | ⟨h, -⟩
    · exact h
    · exact absurd hp h
  · intro N d hd1 hd2 hp
    show fX9_breaksRow_L25 _ _ _ _ _ _ _ _ = fX9_breaksRow_L25 _ _ _ _ _ _ _ _
    rw [fX9_breaksRow_L25, if_neg (by rw [ii_lt] <;> omega)]
    rcases breaksRow_38 hF hG hR hS hr hw hx hk (d := d) (by omega) (ii t) (fun x4 x5 M => fX9_breaksRow_L25 F (ii r) (ii k) (ii x) N x4 x5 M) with ⟨h, -⟩ | ⟨-, h⟩
    · exact absurd h hp
    · exact h
end RF
