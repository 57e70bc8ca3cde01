/-! TURNS: the reference -/
section TR
variable {F s n fi la : Nat} {M : Mem}
theorem product0_w (hF : 100000 ≤ F) (hG : GV s n fi la) (hR : RG s n fi la M) (hs : s ≠ 0) {a : Nat} (ha : a ≤ fcN s n) {x : Nat} (hx : x ≤ la) : fX9_product0 F (ii a) (ii x) M = some (ii (mx s n a x 0 0), M) := by
  have hg := hG.b
  unfold fcN at ha
  rcases (by omega : s = 1 ∨ s = 2) with rfl | rfl
  · rw [if_pos rfl] at ha
    have r1 := mul_rng 60 60 (a := (a : Int)) (x := (x : Int)) (by omega) (by omega) (by omega) (by omega)
    unfold fX9_product0 fX9_mixed
    rw [hR.1, if_neg (by decide), if_pos (by decide), nm_eq, ii_lit0, LL_ii (by omega) (by omega), LL_ii (by omega) (by omega), LL_ii (by omega) (by omega), ← Int64.ofInt_mul, ← Int64.ofInt_mul, ← Int64.ofInt_add, rest_eq hR.2.1 (by omega) (by omega) (by omega) (by omega), bd_eq, bd_eq, mx_1]
  · rw [if_neg (by decide)] at ha
    exact product0_eq hF hG hR (by omega) (VA.g hG (by omega) (by omega))
theorem turned_eq (hF : 100000 ≤ F) (hG : GV s n fi la) (hR : RG s n fi la M) {a b : Nat} (ha : a ≤ fcN s n) (hb : s ≠ 0 → b ≤ la) {x : Nat} (hx : fi ≤ x ∧ x ≤ la) : fX9_turned F (ii a) (ii b) (ii x) M = some (ii (tu s n a b x), M) := by
  have hg := hG.b
  have hf60 : a ≤ 60 := by unfold fcN at ha; split at ha <;> omega
  unfold fX9_turned tu
  rw [hR.1, hR.2.1]
  by_cases q : s = 0
  · rw [if_pos (by rw [q]; rfl), if_pos q]
    by_cases q2 : a = 2
    · rw [if_pos (by rw [q2]; rfl), if_pos q2, ii_lit1, ii_add, ii_sub]
    · rw [if_neg (by rw [show (2 : Int32) = ii 2 from rfl, ii_eq (by omega) (by omega) (by omega) (by omega)]; omega), if_neg q2]
  · have hi := mx_g hG q a 0 (x := x) (y := 0) (by omega) (by omega)
    rw [if_neg (by rw [ii_lit0, ii_eq (by omega) (by omega) (by omega) (by omega)]; omega), if_neg q, product0_w hF hG hR q ha hx.2, bd_eq, sum_eq hF hG hR (VA.g hG hi.1 hi.2) (VA.g hG (by omega) (by have := hb q; omega)), bd_eq]
theorem makes_eq (hF : 100000 ≤ F) (hG : GV s n fi la) (hR : RG s n fi la M) {a b : Nat} {σ : Nat → Nat} (hT : TB s n fi la a b σ) (ha : a ≤ fcN s n) (hb : s ≠ 0 → b ≤ la) {ll : List (Nat → Bool)} (hL : RLi M fi ll) (hS : ∀ S ∈ ll, Sup fi la S) {i j : Nat} (hi : i < ll.length) (hj : j < ll.length) :
    ∃ c, fX9_makes F (ii a) (ii b) (ii i) (ii j) M = some (bi c, M) ∧ (c = true ↔ img fi la σ (gl ll i) = gl ll j) := by
  have hg := hG.b
  have hlen := hL.2.1
  have hSj : Sup fi la (gl ll j) := by rw [gl_lt hj]; exact hS _ (List.getElem_mem hj)
  have key := scan1 (L := fun N x => fX9_makes_L6 F (ii a) (ii b) (ii i) (ii j) N (ii (x : Nat)) M) (fun x => ¬ gl ll i x = mm (gl ll j) (tu s n a b x)) (A := some (bi true, M)) (B := some (bi false, M)) (lo := fi) (hi := la + 1) (N := F) (x := fi) ?_ ?_ ?_ (by omega) (by omega) (by omega)
  · unfold fX9_makes
    rw [hR.2.2.2, nm_eq]
    rcases key with ⟨⟨x, x1, x2, x3⟩, h⟩ | ⟨h1, h⟩
    · exact ⟨false, h, fun e => (by cases e), fun e => absurd ((TB_img hT hSj).mpr e x x1 (by omega)) x3⟩
    · exact ⟨true, h, fun _ => (TB_img hT hSj).mp (fun x x1 x2 => Classical.not_not.mp (fun q => h1 ⟨x, x1, by omega, q⟩)), fun _ => rfl⟩
  · intro N
    show fX9_makes_L6 _ _ _ _ _ _ _ _ = _
    rw [fX9_makes_L6, hR.hi, if_pos (by rw [ii_le] <;> omega)]; rfl
  · intro N x x1 x2 hp
    show fX9_makes_L6 _ _ _ _ _ _ _ _ = _
    obtain ⟨⟨y, y1, y2, y3, -⟩, -⟩ := hT x x1 (by omega)
    rw [fX9_makes_L6, hR.hi, if_neg (by rw [ii_le] <;> omega), turned_eq hF hG hR ha hb (x := x) (by omega), bd_eq, y1, hR.2.2.2, show (60 : Int32) = ii 60 from rfl]
    simp (disch := omega) only [ii_mul, ii_add, ii_sub, gd_inb, ii_nat, nm_eq, ii_lit1]
    rw [show ((60 : Int) * i + x - fi).toNat = 60 * i + (x - fi) by omega, show ((60 : Int) * j + y - fi).toNat = 60 * j + (y - fi) by omega, hL.2.2 i hi _ (by omega), hL.2.2 j hj _ (by omega), ← gl_lt hi, ← gl_lt hj, show fi + (x - fi) = x by omega, show fi + (y - fi) = y by omega]
    rw [y1, mm_nat] at hp
    rw [if_neg (fun e => hp (bi_inj e))]; rfl
  · intro N x x1 x2 hp
    show fX9_makes_L6 _ _ _ _ _ _ _ _ = fX9_makes_L6 _ _ _ _ _ _ _ _
    have hp := Classical.not_not.mp hp
    obtain ⟨⟨y, y1, y2, y3, -⟩, -⟩ := hT x x1 (by omega)
    rw [fX9_makes_L6, hR.hi, if_neg (by rw [ii_le] <;> omega), turned_eq hF hG hR ha hb (x := x) (by omega), bd_eq, y1, hR.2.2.2, show (60 : Int32) = ii 60 from rfl]
    simp (disch := omega) only [ii_mul, ii_add, ii_sub, gd_inb, ii_nat, nm_eq, ii_lit1]
    rw [show ((60 : Int) * i + x - fi).toNat = 60 * i + (x - fi) by omega, show ((60 : Int) * j + y - fi).toNat = 60 * j + (y - fi) by omega, hL.2.2 i hi _ (by omega), hL.2.2 j hj _ (by omega), ← gl_lt hi, ← gl_lt hj, show fi + (x - fi) = x by omega, show fi + (y - fi) = y by omega]
    rw [y1, mm_nat] at hp
    rw [if_pos (by rw [hp]), show ((x : Int) + 1) = ((x + 1 : Nat) : Int) by omega]
theorem common_L (a0 a1 : Int32) : ∀ (N x y : Nat), y < N → x < 1000 → y < 1000 → fX9_common_L4 F a0 a1 N (ii x) (ii y) M = some (ii (Nat.gcd x y : Nat), M)
  | N + 1, x, y, h1, h2, h3 => by
    rw [fX9_common_L4]
    by_cases q : y = 0
    · rw [q, if_pos (by decide), Nat.gcd_zero_right]
    · rw [if_neg (by rw [ii_lit0, ii_eq (by omega) (by omega) (by omega) (by omega)]; omega), gd_nz (by omega) (by omega) (by omega), nm_eq, ii_rem (by omega) (by omega) (by omega) (by omega)]
      have e : ((x : Int).tmod y) = ((x % y : Nat) : Int) := by rw [Int.tmod_eq_emod_of_nonneg (by omega)]; rfl
      have hlt := Nat.mod_lt x (show y > 0 by omega)
      rw [e, common_L a0 a1 N y (x % y) (by omega) h3 (by omega), Nat.gcd_comm x y, Nat.gcd_rec y x, Nat.gcd_comm]
theorem isFactor9_eq (hF : 100000 ≤ F) (hG : GV s n fi la) (hR : RG s n fi la M) {t a : Nat} (ht : t < 8) (ha : 1 ≤ a ∧ a ≤ fcN s n) : fX9_isFactor F (ii t) (ii a) M = some (bi (fcb s n t a), M) := by
  have hg := hG.b
  have hf60 : a ≤ 60 := by unfold fcN at ha; split at ha <;> omega
  obtain ⟨-, t1, -, -, -, t4⟩ := tbit t ht
  have hc : fX9_common F (ii a) (ii n) M = some (ii (Nat.gcd a n : Nat), M) := common_L (ii a) (ii n) F a n (by omega) (by omega) (by omega)
  have hgl : Nat.gcd a n ≤ a := Nat.gcd_le_left n (by omega)
  unfold fX9_isFactor fX9_isFactor_L83 fcb
  rw [hR.1, hR.2.1, hc, bd_eq, ii_lit1, ii_sub]
  rw [show ii 1 = (1 : Int32) from rfl] 
  by_cases q1 : a = 1
  · rw [if_pos (by rw [q1]; rfl), decide_eq_true (Or.inl q1)]; rfl
  · rw [if_neg (by rw [ii_lit1, ii_eq (by omega) (by omega) (by omega) (by omega)]; omega)]
    rcases (by omega : s = 0 ∨ s = 1 ∨ s = 2) with rfl | rfl | rfl
    · rw [if_pos (by decide)]
      unfold fcN at ha
      rw [if_neg (by decide)] at ha
      rw [if_pos (by rw [show a = 2 by omega]; rfl)]
      by_cases q2 : t % 2 = 1
      · rw [if_pos (t1.mpr q2)]
        by_cases q3 : n ≤ 1
        · rw [if_pos (by rw [ii_lit1, ii_le] <;> omega), decide_eq_false (by omega)]; rfl
        · rw [if_neg (by rw [ii_lit1, ii_le] <;> omega), decide_eq_true (by omega)]; rfl
      · rw [if_neg (fun e => q2 (t1.mp e)), decide_eq_false (by omega)]; rfl
    · rw [if_neg (by decide), if_neg (by decide)]
      have k83 : ¬ (t % 2 = 1 ∧ a + 1 = n) → (if ii t &&& 4 = 4 then (if ii (Nat.gcd a n : Nat) = 1 then (some ((1 : Int32), M)) else (some ((0 : Int32), M))) else (some ((0 : Int32), M))) = some (bi (decide (a = 1 ∨ ((1 : Nat) = 0 ∧ a = 2 ∧ t % 2 = 1 ∧ 1 < n) ∨ ((1 : Nat) = 2 ∧ a = 2 ∧ t % 2 = 1) ∨ ((1 : Nat) = 1 ∧ ((t % 2 = 1 ∧ a + 1 = n) ∨ (t / 4 % 2 = 1 ∧ Nat.gcd a n = 1))))), M) := by
        intro hn
        by_cases q4 : t / 4 % 2 = 1
        · rw [if_pos (t4.mpr q4)]
          by_cases q5 : Nat.gcd a n = 1
          · rw [if_pos (by rw [q5]; rfl), decide_eq_true (by omega)]; rfl
          · rw [if_neg (by rw [ii_lit1, ii_eq (by omega) (by omega) (by omega) (by omega)]; omega), decide_eq_false (by omega)]; rfl
        · rw [if_neg (fun e => q4 (t4.mp e)), decide_eq_false (by omega)]; rfl
      by_cases q2 : t % 2 = 1
      · rw [if_pos (t1.mpr q2)]
        by_cases q3 : a + 1 = n
        · rw [if_pos (by congr 1; omega), decide_eq_true (by omega)]; rfl
        · rw [if_neg (by rw [ii_eq (by omega) (by omega) (by omega) (by omega)]; omega)]
          exact k83 (by omega)
      · rw [if_neg (fun e => q2 (t1.mp e))]
        exact k83 (by omega)
    · rw [if_neg (by decide), if_pos (by decide)]
      unfold fcN at ha
      rw [if_neg (by decide)] at ha
      rw [if_pos (by rw [show a = 2 by omega]; rfl)]
      by_cases q2 : t % 2 = 1
      · rw [if_pos (t1.mpr q2), decide_eq_true (by omega)]; rfl
      · rw [if_neg (fun e => q2 (t1.mp e)), decide_eq_false (by omega)]; rfl
theorem shifts_eq (hG : GV s n fi la) (hR : RG s n fi la M) {t : Nat} (ht : t < 8) : fX9_shifts F (ii t) M = some (ii (shN s fi la t : Nat), M) := by
  have hg := hG.b
  obtain ⟨-, -, -, t2, -⟩ := tbit t ht
  unfold fX9_shifts shN
  rw [hR.1, hR.2.2.1]
  by_cases q : s = 0
  · rw [if_pos (by rw [ii_lit0, ii_le] <;> omega), if_neg (fun h => h.1 q)]; rfl
  · rw [if_neg (by rw [ii_lit0, ii_le] <;> omega)]
    by_cases q2 : t / 2 % 2 = 1
    · rw [if_pos (t2.mpr q2), if_pos ⟨q, q2⟩, show ((la : Int) - fi + 1) = ((la + 1 - fi : Nat) : Int) by omega]
    · rw [if_neg (fun e => q2 (t2.mp e)), if_neg (fun h => q2 h.2)]; rfl
theorem factors_eq (hG : GV s n fi la) (hR : RG s n fi la M) : fX9_factors F M = some (ii (fcN s n : Nat), M) := by
  have hg := hG.b
  unfold fX9_factors fcN
  rw [hR.1, hR.2.1]
  by_cases q : s = 1
  · have : 2 ≤ n := by unfold GV at hG; omega
    rw [if_pos (by rw [q]; rfl), if_pos q, ii_lit1, ii_sub, show ((n : Int) - 1) = ((n - 1 : Nat) : Int) by omega]
  · rw [if_neg (by rw [ii_lit1, ii_eq (by omega) (by omega) (by omega) (by omega)]; omega), if_neg q]; rfl
/-- the TURNS that make T of S: whether one with factor a and shift b does -/
noncomputable def mk (s n fi la a b : Nat) (S T : Nat → Bool) : Bool := @decide (∃ σ, TB s n fi la a b σ ∧ img fi la σ S = T) (Classical.propDecidable _)
theorem mk_iff {a b : Nat} {S T : Nat → Bool} : mk s n fi la a b S T = true ↔ ∃ σ, TB s n fi la a b σ ∧ img fi la σ S = T := by
  unfold mk
  exact @decide_eq_true_iff _ (Classical.propDecidable _)
theorem TB_one {a b : Nat} {σ σ' : Nat → Nat} (h : TB s n fi la a b σ) (h' : TB s n fi la a b σ') (S : Nat → Bool) : img fi la σ S = img fi la σ' S := by
  funext y
  unfold img
  by_cases q : fi ≤ y ∧ y ≤ la
  · obtain ⟨-, h1, h2, h3⟩ := h y q.1 q.2
    obtain ⟨⟨z, z1, z2, z3, z4⟩, -⟩ := h' (σ y) h1 h2
    have : z = y := by omega
    rw [this] at z4
    rw [z4]
  · have : fullB fi la y = false := decide_eq_false q
    rw [this]; rfl
theorem mk_of {a b : Nat} {σ : Nat → Nat} (h : TB s n fi la a b σ) {S T : Nat → Bool} : mk s n fi la a b S T = true ↔ img fi la σ S = T := by
  rw [mk_iff]
  constructor
  · rintro ⟨σ', h1, h2⟩; rw [TB_one h h1]; exact h2
  · intro h2; exact ⟨σ, h, h2⟩
/-- how many TURNS with factors below a make T of S -/
noncomputable def wys (s n fi la t : Nat) (S T : Nat → Bool) : Nat → Nat
  | 0 => 0
  | a + 1 => wys s n fi la t S T a + (if fcb s n t (a + 1) then fb_ct (fun b => mk s n fi la (a + 1) b S T) (shN s fi la t) else 0)
theorem shN_le (hG : GV s n fi la) (t : Nat) : 1 ≤ shN s fi la t ∧ shN s fi la t ≤ 60 ∧ (∀ b, b < shN s fi la t → s ≠ 0 → b ≤ la) := by
  have hg := hG.b
  unfold shN
  split
  · exact ⟨by omega, by omega, fun b hb _ => by omega⟩
  · exact ⟨by omega, by omega, fun b hb _ => by omega⟩
theorem ways_31 (hF : 100000 ≤ F) (hG : GV s n fi la) (hR : RG s n fi la M) {t a : Nat} (ht : t < 8) (ha : 1 ≤ a ∧ a ≤ fcN s n) (hfa : fcb s n t a = true) {ll : List (Nat → Bool)} (hL : RLi M fi ll) (hS : ∀ S ∈ ll, Sup fi la S) {i j : Nat} (hi : i < ll.length) (hj : j < ll.length) (one_ : Bool) (K : Int32 → Int32 → Mem → Option (Int32 × Mem)) (w : Nat) : ∀ (k N b : Nat), b + k = shN s fi la t → k < N → (one_ = true → w + fb_ct (fun b => mk s n fi la a b (gl ll i) (gl ll j)) b = 0) →
    (one_ = true ∧ 0 < fb_ct (fun b => mk s n fi la a b (gl ll i) (gl ll j)) (shN s fi la t) ∧ fX9_waysFrom_L31 F (ii t) (ii i) (ii j) (bi one_) K N (ii ((w + fb_ct (fun b => mk s n fi la a b (gl ll i) (gl ll j)) b : Nat) : Int)) (ii a) (ii b) M = some (ii 1, M)) ∨
    ((one_ = true → w + fb_ct (fun b => mk s n fi la a b (gl ll i) (gl ll j)) (shN s fi la t) = 0) ∧ fX9_waysFrom_L31 F (ii t) (ii i) (ii j) (bi one_) K N (ii ((w + fb_ct (fun b => mk s n fi la a b (gl ll i) (gl ll j)) b : Nat) : Int)) (ii a) (ii b) M = K (ii ((w + fb_ct (fun b => mk s n fi la a b (gl ll i) (gl ll j)) (shN s fi la t) : Nat) : Int)) (ii ((a + 1 : Nat) : Int)) M)
  | 0, N + 1, b, h1, h2, h3 => by
    right
    have hs := shN_le hG t
    have e : b = shN s fi la t := by omega
    subst e
    refine ⟨h3, ?_⟩
    rw [fX9_waysFrom_L31, shifts_eq hG hR ht, bd_eq, if_pos (by rw [ii_le] <;> omega), nm_eq, ii_lit1, ii_add]
    rfl
  | k + 1, N + 1, b, h1, h2, h3 => by
    have hs := shN_le hG t
    obtain ⟨σ, hT⟩ := TB_all hG hfa ha (b := b) (by omega)
    obtain ⟨c, c1, c2⟩ := makes_eq hF hG hR hT ha.2 (hs.2.2 b (by omega)) hL hS hi hj
    rw [fX9_waysFrom_L31, shifts_eq hG hR ht, bd_eq, if_neg (by rw [ii_le] <;> omega), c1, bd_eq]
    simp only [nm_eq]
    rw [ii_lit1, ii_add, ii_add, show ((b : Int) + 1) = ((b + 1 : Nat) : Int) by omega]
    have hc : c = mk s n fi la a b (gl ll i) (gl ll j) := by
      rw [Bool.eq_iff_iff, c2, mk_of hT]
    have hsucc := fb_ct_succ (fun b => mk s n fi la a b (gl ll i) (gl ll j)) b
    have hmono := fb_ct_mono (fun b => mk s n fi la a b (gl ll i) (gl ll j)) (show b + 1 ≤ shN s fi la t by omega)
    have ih := ways_31 hF hG hR ht ha hfa hL hS hi hj one_ K w k N (b + 1) (by omega) (by omega)
    rw [← hc] at hsucc
    cases c with
    | false =>
      rw [if_pos (by decide)]
      rw [if_neg (by decide), Nat.add_zero] at hsucc
      rw [hsucc] at ih
      exact ih h3
    | true =>
      rw [if_neg (by decide)]
      rw [if_pos rfl] at hsucc
      cases one_ with
      | false =>
        rw [if_pos (by decide)]
        rw [hsucc] at ih
        have := ih (fun e => (by cases e))
        rw [show ((w + fb_ct (fun b => mk s n fi la a b (gl ll i) (gl ll j)) b : Nat) : Int) + 1 = ((w + (fb_ct (fun b => mk s n fi la a b (gl ll i) (gl ll j)) b + 1) : Nat) : Int) by omega]
        exact this
      | true =>
        left
        have h0 := h3 rfl
        rw [if_neg (by decide), h0]
        exact ⟨rfl, by omega, rfl⟩
theorem ways_6 (hF : 100000 ≤ F) (hG : GV s n fi la) (hR : RG s n fi la M) {t : Nat} (ht : t < 8) {ll : List (Nat → Bool)} (hL : RLi M fi ll) (hS : ∀ S ∈ ll, Sup fi la S) {i j : Nat} (hi : i < ll.length) (hj : j < ll.length) (one_ : Bool) : ∀ (k N a : Nat), a + k = fcN s n → k < N → (one_ = true → wys s n fi la t (gl ll i) (gl ll j) a = 0) →
    ∃ v : Nat, fX9_waysFrom_L6 F (ii t) (ii i) (ii j) (bi one_) N (ii (wys s n fi la t (gl ll i) (gl ll j) a : Nat)) (ii ((a + 1 : Nat) : Int)) M = some (ii v, M) ∧ (one_ = false → v = wys s n fi la t (gl ll i) (gl ll j) (fcN s n)) ∧ (0 < v ↔ 0 < wys s n fi la t (gl ll i) (gl ll j) (fcN s n)) ∧ v ≤ 60000
  | 0, N + 1, a, h1, h2, h3 => by
    have hg := hG.b
    have hf60 : fcN s n ≤ 60 := by unfold fcN; split <;> omega
    have hs := shN_le hG t
    have hb : ∀ a, wys s n fi la t (gl ll i) (gl ll j) a ≤ 60 * a := by
      intro a
      induction a with
      | zero => exact Nat.le_refl _
      | succ a ih =>
        rw [wys]
        have := fb_ct_le (fun b => mk s n fi la (a + 1) b (gl ll i) (gl ll j)) (shN s fi la t)
        split <;> omega
    have e : a = fcN s n := by omega
    subst e
    have := hb (fcN s n)
    refine ⟨_, ?_, fun _ => rfl, Iff.rfl, by omega⟩
    rw [fX9_waysFrom_L6, factors_eq hG hR, bd_eq, if_pos (by rw [ii_lt] <;> omega)]
  | k + 1, N + 1, a, h1, h2, h3 => by
    have hg := hG.b
    have hf60 : fcN s n ≤ 60 := by unfold fcN; split <;> omega
    have hs := shN_le hG t
    rw [fX9_waysFrom_L6, factors_eq hG hR, bd_eq, if_neg (by rw [ii_lt] <;> omega), isFactor9_eq hF hG hR ht (by omega), bd_eq]
    have hmono : ∀ d, wys s n fi la t (gl ll i) (gl ll j) (a + 1) ≤ wys s n fi la t (gl ll i) (gl ll j) (a + 1 + d) := by
      intro d
      induction d with
      | zero => exact Nat.le_refl _
      | succ d ih =>
        refine Nat.le_trans ih ?_
        show wys s n fi la t (gl ll i) (gl ll j) (a + 1 + d) ≤ wys s n fi la t (gl ll i) (gl ll j) (a + 1 + d + 1)
        rw [wys]
        exact Nat.le_add_right _ _
    have hm2 := hmono (fcN s n - (a + 1))
    rw [show a + 1 + (fcN s n - (a + 1)) = fcN s n by omega] at hm2
    have hw1 : wys s n fi la t (gl ll i) (gl ll j) (a + 1) = wys s n fi la t (gl ll i) (gl ll j) a + (if fcb s n t (a + 1) then fb_ct (fun b => mk s n fi la (a + 1) b (gl ll i) (gl ll j)) (shN s fi la t) else 0) := by rw [wys]
    cases hf : fcb s n t (a + 1) with
    | false =>
      rw [hf, if_neg (by decide), Nat.add_zero] at hw1
      rw [if_pos (by decide), nm_eq, ii_lit1, ii_add, show (((a + 1 : Nat) : Int) + 1) = ((a + 1 + 1 : Nat) : Int) by omega]
      have := ways_6 hF hG hR ht hL hS hi hj one_ k N (a + 1) (by omega) (by omega) (by rw [hw1]; exact h3)
      rw [hw1] at this
      exact this
    | true =>
      rw [hf, if_pos rfl] at hw1
      rw [if_neg (by decide), ii_lit0]
      rcases ways_31 hF hG hR ht (a := a + 1) (by omega) hf hL hS hi hj one_ (fun x5 x6 M => fX9_waysFrom_L6 F (ii t) (ii i) (ii j) (bi one_) N x5 x6 M) (wys s n fi la t (gl ll i) (gl ll j) a) (shN s fi la t) F 0 (by omega) (by omega) (by intro h; have := h3 h; simpa [fb_ct] using this) with ⟨h4, h5, h6⟩ | ⟨h4, h5⟩
      · refine ⟨1, h6, fun e => (by rw [h4] at e; cases e), ⟨fun _ => by omega, fun _ => by omega⟩, by omega⟩
      · rw [← hw1] at h4 h5
        obtain ⟨v, v1, v2⟩ := ways_6 hF hG hR ht hL hS hi hj one_ k N (a + 1) (by omega) (by omega) h4
        exact ⟨v, h5.trans v1, v2⟩
theorem ways_eq (hF : 100000 ≤ F) (hG : GV s n fi la) (hR : RG s n fi la M) {t : Nat} (ht : t < 8) {ll : List (Nat → Bool)} (hL : RLi M fi ll) (hS : ∀ S ∈ ll, Sup fi la S) {i j : Nat} (hi : i < ll.length) (hj : j < ll.length) (one_ : Bool) :
    ∃ v : Nat, fX9_waysFrom F (ii t) (ii i) (ii j) (bi one_) M = some (ii v, M) ∧ (one_ = false → v = wys s n fi la t (gl ll i) (gl ll j) (fcN s n)) ∧ (0 < v ↔ 0 < wys s n fi la t (gl ll i) (gl ll j) (fcN s n)) ∧ v ≤ 60000 := by
  have hf60 : fcN s n ≤ 60 := by have hg := hG.b; unfold fcN; split <;> omega
  exact ways_6 hF hG hR ht hL hS hi hj one_ (fcN s n) F 0 (by omega) (by omega) (fun _ => rfl)
end TR
