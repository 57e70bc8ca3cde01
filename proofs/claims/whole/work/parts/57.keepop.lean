/-! numbers asked one by one (keep), and the number at a place (at): both -/
noncomputable def kth (U : Nat → Bool) (i : Nat) : Nat := @dite _ (∃ x, U x = true ∧ fb_ct U x = i) (Classical.propDecidable _) (fun h => Classical.choose h) (fun _ => 0)
theorem kth_is {U : Nat → Bool} {i x : Nat} (h1 : U x = true) (h2 : fb_ct U x = i) : kth U i = x := by
  have hex : ∃ x, U x = true ∧ fb_ct U x = i := ⟨x, h1, h2⟩
  unfold kth
  rw [@dif_pos _ (Classical.propDecidable _) hex]
  have := Classical.choose_spec hex
  exact fb_ct_kth_one this.1 h1 (this.2.trans h2.symm)
noncomputable def kpr (kf : (Nat → Bool) → Nat → Bool) : Nat → Nat → (Nat → Bool) → (Nat → Bool) → Nat → Bool
  | 0, _, _, S => S
  | k + 1, now, U, S => kpr kf k ((25173 * now + 13849) % 65536) (put U (kth U ((25173 * now + 13849) % 65536 % (k + 1))) false) (if kf (put S (kth U ((25173 * now + 13849) % 65536 % (k + 1))) true) (kth U ((25173 * now + 13849) % 65536 % (k + 1))) then put S (kth U ((25173 * now + 13849) % 65536 % (k + 1))) true else S)
theorem lcg {now : Nat} (h : now < 65536) : ((ii 25173 * ii now) + ii 13849) - ((ii 25173 * ii now) + ii 13849) / ii 65536 * ii 65536 = ii ((25173 * now + 13849) % 65536 : Nat) := by
  rw [ii_mul, ii_add, ii_rem (by omega) (by omega) (by omega) (by omega), Int.tmod_eq_emod_of_nonneg (by omega)]
  congr 1
theorem rem_n {a b : Nat} (h : a < 65536) (hb : 0 < b ∧ b < 1000) : ii a - ii a / ii b * ii b = ii (a % b : Nat) := by
  rw [ii_rem (by omega) (by omega) (by omega) (by omega), Int.tmod_eq_emod_of_nonneg (by omega)]
  rfl
theorem ct_put_f {S : Nat → Bool} {x : Nat} (hx : x < 64) (h : S x = true) : ct (put S x false) + 1 = ct S := by
  have := ct_put (S := put S x false) hx (put_c _ _ _)
  rw [put_put, put_same h] at this
  exact this.symm
section KO
variable {F s n fi la m : Nat} {ls : Nat → LawT}
theorem keepc_L (hF : 100000 ≤ F) (hG : GV s n fi la) {M : Mem} (hB : CB s n fi la m ls M) {a : Nat} (ha : a < 8) (a2 : Int32) : ∀ (k N now : Nat) (w u : Int64), now < 65536 → k < N → cnt u = k → Sup fi la (bt w) → Sup fi la (bt u) →
    ∃ w', fX8_keep_L54 F (ii a) a2 N w u (ii now) (ii k) M = some (ii (ct (kpr (ky s n fi la m ls) k now (bt u) (bt w))), pL M 34 a w') ∧ bt w' = kpr (ky s n fi la m ls) k now (bt u) (bt w) ∧ Sup fi la (bt w')
  | 0, N + 1, now, w, u, h0, h1, h2, hS, hU => by
    refine ⟨w, ?_, rfl, hS⟩
    rw [fX8_keep_L54, if_pos (by decide), gd_inb (by omega) (by omega) (by omega), nm_eq, bitCount_eq, bd_eq, ii_nat (by omega) (by omega), Int.toNat_natCast]
    rfl
  | k + 1, N + 1, now, w, u, h0, h1, h2, hS, hU => by
    have hg := hG.b
    have hcu := cnt_le u
    have hl1 : (25173 * now + 13849) % 65536 < 65536 := Nat.mod_lt _ (by decide)
    have hl2 : (25173 * now + 13849) % 65536 % (k + 1) < k + 1 := Nat.mod_lt _ (by omega)
    rw [fX8_keep_L54, if_neg (by rw [ii_lit0, ii_le] <;> omega)]
    simp only [nm_eq]
    rw [show (25173 : Int32) = ii 25173 from rfl, show (13849 : Int32) = ii 13849 from rfl, show (65536 : Int32) = ii 65536 from rfl, lcg h0, gd_nz (by omega) (by omega) (by omega), rem_n hl1 (by omega)]
    obtain ⟨x, x1, x2, x3, x4⟩ := numberAt_eq hF (w := u) (i := (25173 * now + 13849) % 65536 % (k + 1)) (by omega) M
    have hk := kth_is x2 x3
    have hxr := hU x x2
    rw [x4, bd_eq, one_def, keep_eq hF hG hB.1 hB.2.1 hB.2.2 hS hxr.1 hxr.2, bd_eq, show (-1 : Int32) = ii (-1) from rfl, ii_add, show (((k + 1 : Nat) : Int) + -1) = (k : Int) by omega]
    have hu' : bt (u ^^^ one x) = put (bt u) x false := by
      funext y
      rw [bt_xor, bt_one (by omega)]
      unfold put
      by_cases q : y = x
      · rw [q, x2]; simp
      · rw [if_neg q, decide_eq_false q]; simp
    have hw' : bt (w ||| one x) = put (bt w) x true := by
      funext y
      rw [bt_or, bt_one (by omega)]
      unfold put
      by_cases q : y = x <;> simp [q]
    have hcu' : cnt (u ^^^ one x) = k := by
      have := ct_put_f (S := bt u) (x := x) (by omega) x2
      rw [cnt_ct, hu']
      rw [cnt_ct] at h2
      omega
    have hSu : Sup fi la (bt (u ^^^ one x)) := by rw [hu']; exact hU.put hxr.1 hxr.2 false
    have hSw : Sup fi la (bt (w ||| one x)) := by rw [hw']; exact hS.put hxr.1 hxr.2 true
    rw [kpr, hk]
    cases hky : ky s n fi la m ls (put (bt w) x true) x with
    | false =>
      rw [if_pos (by decide)]
      obtain ⟨w', r1, r2, r3⟩ := keepc_L hF hG hB ha a2 k N _ w (u ^^^ one x) hl1 (by omega) hcu' hS hSu
      rw [hu'] at r1 r2
      exact ⟨w', r1, r2, r3⟩
    | true =>
      rw [if_neg (by decide)]
      obtain ⟨w', r1, r2, r3⟩ := keepc_L hF hG hB ha a2 k N _ (w ||| one x) (u ^^^ one x) hl1 (by omega) hcu' hSw hSu
      rw [hu', hw'] at r1 r2
      exact ⟨w', r1, r2, r3⟩
/-- the reference: which numbers have been asked -/
def RAk (fi la : Nat) (M : Mem) (U : Nat → Bool) : Prop := ∀ j, j < 60 → fi + j ≤ la → M.1 54 j = bi (!U (fi + j))
theorem keep_103 (hG : GV s n fi la) {M : Mem} {U : Nat → Bool} (hU : Sup fi la U) (hM : RAk fi la M U) {i x0 : Nat} (hx : fi + x0 ≤ la) (hUx : U (fi + x0) = true) (hc : fb_ct U (fi + x0) = i) (a1 a2 x3 x4 : Int32) (K : Int32 → Int32 → Mem → Option (Int32 × Mem)) : ∀ (k N j : Nat), j + k = x0 → k < N →
    fX9_keep_L103 F a1 a2 K N x3 x4 (ii ((i : Int) - fb_ct U (fi + j))) (ii j) M = bd (fX9_comes F a1 ((pI M 54 x0 1).1 37 6 + ii x0) (pI M 54 x0 1)) (fun u8 N6 => K x3 (x4 + (-1 : Int32)) N6)
  | 0, N + 1, j, h1, h2 => by
    have hg := hG.b
    have e : j = x0 := by omega
    subst e
    rw [fX9_keep_L103, hc, show ((i : Int) - i) = 0 by omega, if_neg (by decide), gd_inb (by omega) (by omega) (by omega), ii_nat (by omega) (by omega), Int.toNat_natCast, hM j (by omega) hx, hUx, if_pos (by decide), gd_inb (by omega) (by omega) (by omega), nm_eq]
    rfl
  | k + 1, N + 1, j, h1, h2 => by
    have hg := hG.b
    have hmono := fb_ct_mono U (show fi + j + 1 ≤ fi + x0 by omega)
    have hsucc := fb_ct_succ U (fi + j)
    have hle := fb_ct_le U (fi + j)
    have hle0 := fb_ct_le U (fi + x0)
    have k118 : fX9_keep_L118 F a1 a2 (fun x3 x4 x5 x6 M => fX9_keep_L103 F a1 a2 K N x3 x4 x5 x6 M) x3 x4 (ii ((i : Int) - fb_ct U (fi + j))) (ii j) M = bd (fX9_comes F a1 ((pI M 54 x0 1).1 37 6 + ii x0) (pI M 54 x0 1)) (fun u8 N6 => K x3 (x4 + (-1 : Int32)) N6) := by
      have ih := keep_103 hG hU hM hx hUx hc a1 a2 x3 x4 K k N (j + 1) (by omega) (by omega)
      rw [show fi + (j + 1) = fi + j + 1 by omega] at ih
      unfold fX9_keep_L118
      rw [gd_inb (by omega) (by omega) (by omega), ii_nat (by omega) (by omega), Int.toNat_natCast, hM j (by omega) (by omega)]
      simp only [nm_eq]
      have e1 : ii (j : Int) + 1 = ii ((j + 1 : Nat) : Int) := by rw [ii_lit1, ii_add]; rfl
      rw [e1]
      cases hu : U (fi + j) with
      | true =>
        rw [hu, if_pos rfl] at hsucc
        rw [if_pos (by decide)]
        have e2 : ii ((i : Int) - fb_ct U (fi + j)) + -1 = ii ((i : Int) - fb_ct U (fi + j + 1)) := by
          rw [show (-1 : Int32) = ii (-1) from rfl, ii_add]
          congr 1; omega
        rw [e2]; exact ih
      | false =>
        rw [hu, if_neg (by decide), Nat.add_zero] at hsucc
        rw [hsucc] at ih
        rw [if_neg (by decide)]
        exact ih
    rw [fX9_keep_L103, ii_lit0]
    by_cases q : (0 : Int) < (i : Int) - fb_ct U (fi + j)
    · rw [if_pos (by rw [ii_lt] <;> omega)]
      exact k118
    · rw [if_neg (by rw [ii_lt] <;> omega), gd_inb (by omega) (by omega) (by omega), ii_nat (by omega) (by omega), Int.toNat_natCast, hM j (by omega) (by omega)]
      have hnu : U (fi + j) = false := by
        cases h : U (fi + j) with
        | false => rfl
        | true => rw [h, if_pos rfl] at hsucc; omega
      rw [hnu, if_neg (by decide)]
      exact k118
theorem keepr_L (hF : 100000 ≤ F) (hG : GV s n fi la) {a : Nat} (ha : a < 8) (a2 : Int32) : ∀ (k N now : Nat) (M : Mem) (S U : Nat → Bool), now < 65536 → k < N → ct U = k → Sup fi la S → Sup fi la U → (∀ x, U x = true → S x = false) → RG s n fi la M → RLs M m ls → Row M fi a S → RAk fi la M U →
    ∃ M', fX9_keep_L75 F (ii a) a2 N (ii now) (ii k) M = some (ii (ct (kpr (ky s n fi la m ls) k now U S)), M') ∧ Sm [39, 54] M M' ∧ Row M' fi a (kpr (ky s n fi la m ls) k now U S) ∧ ∀ i, (i < 60 * a ∨ 60 * a + 60 ≤ i) → M'.1 39 i = M.1 39 i
  | 0, N + 1, now, M, S, U, h0, h1, h2, hS, hU, hd, hR, hL, hw, hM => by
    refine ⟨M, ?_, Sm.rf, hw, fun _ _ => rfl⟩
    rw [fX9_keep_L75, if_pos (by decide), size_eq hF hG hR (by omega) hS hw, bd_eq]
    rfl
  | k + 1, N + 1, now, M, S, U, h0, h1, h2, hS, hU, hd, hR, hL, hw, hM => by
    have hg := hG.b
    have hcu := ct_le U
    have hl1 : (25173 * now + 13849) % 65536 < 65536 := Nat.mod_lt _ (by decide)
    have hl2 : (25173 * now + 13849) % 65536 % (k + 1) < k + 1 := Nat.mod_lt _ (by omega)
    rw [fX9_keep_L75, if_neg (by rw [ii_lit0, ii_le] <;> omega)]
    simp only [nm_eq]
    rw [show (25173 : Int32) = ii 25173 from rfl, show (13849 : Int32) = ii 13849 from rfl, show (65536 : Int32) = ii 65536 from rfl, lcg h0, gd_nz (by omega) (by omega) (by omega), rem_n hl1 (by omega)]
    obtain ⟨x, x1, x2, x3⟩ := fb_ct_kth (p := U) (k := (25173 * now + 13849) % 65536 % (k + 1)) (n := 64) (by unfold ct at h2; omega)
    have hk := kth_is x2 x3
    have hxr := hU x x2
    obtain ⟨x0, rfl⟩ : ∃ x0, x = fi + x0 := ⟨x - fi, by omega⟩
    have hfi0 : fb_ct U (fi + 0) = 0 := fb_ct_zero.mpr (fun y hy => by
      cases h : U y with
      | false => rfl
      | true => have := hU y h; omega)
    have key := keep_103 (F := F) hG hU hM hxr.2 x2 x3 (ii a) a2 (ii ((25173 * now + 13849) % 65536 : Nat)) (ii ((k + 1 : Nat) : Int)) (fun x3 x4 M => fX9_keep_L75 F (ii a) a2 N x3 x4 M) x0 F 0 (by omega) (by omega)
    rw [hfi0, show ((((25173 * now + 13849) % 65536 % (k + 1) : Nat) : Int) - ((0 : Nat) : Int)) = (((25173 * now + 13849) % 65536 % (k + 1) : Nat) : Int) by omega] at key
    rw [show (0 : Int32) = ii ((0 : Nat) : Int) from rfl, key]
    have s1 : Sm [39, 54] M (pI M 54 x0 1) := Sm.i (by decide)
    have hR1 : RG s n fi la (pI M 54 x0 1) := hR.sm s1 (by decide)
    have hL1 : RLs (pI M 54 x0 1) m ls := hL.sm s1 ⟨by decide, fun c c1 c2 => by simp; omega⟩
    have hw1 : Row (pI M 54 x0 1) fi a S := hw.sm (Sm.i (cs := [54]) (by decide)) (by decide)
    have hM1 : RAk fi la (pI M 54 x0 1) (put U (fi + x0) false) := by
      intro j hj hj2
      rw [pI_c]
      by_cases e : j = x0
      · rw [e, up_c, put_c]; rfl
      · rw [up_d e, put_d (by omega)]; exact hM j hj hj2
    have h39 : (pI M 54 x0 1).1 39 = M.1 39 := by rw [pI_d (by decide)]
    generalize pI M 54 x0 1 = M1 at *
    rw [hR1.2.2.2, ii_add, show ((fi : Int) + x0) = ((fi + x0 : Nat) : Int) by omega, comes_eq hF hG hR1 hL1 hS (by omega) hw1 hxr, bd_eq, show (-1 : Int32) = ii (-1) from rfl, ii_add, show (((k + 1 : Nat) : Int) + -1) = (k : Int) by omega, show fi + x0 - fi = x0 by omega]
    have hcu' : ct (put U (fi + x0) false) = k := by
      have := ct_put_f (S := U) (x := fi + x0) (by omega) x2
      omega
    have hSu : Sup fi la (put U (fi + x0) false) := hU.put hxr.1 hxr.2 false
    rw [kpr, hk]
    -- one more, or not
    have go : ∀ b : Bool, ∃ M', fX9_keep_L75 F (ii a) a2 N (ii ((25173 * now + 13849) % 65536 : Nat)) (ii k) (pI M1 39 (60 * a + x0) (bi b)) = some (ii (ct (kpr (ky s n fi la m ls) k ((25173 * now + 13849) % 65536) (put U (fi + x0) false) (put S (fi + x0) b))), M') ∧ Sm [39, 54] M M' ∧ Row M' fi a (kpr (ky s n fi la m ls) k ((25173 * now + 13849) % 65536) (put U (fi + x0) false) (put S (fi + x0) b)) ∧ ∀ i, (i < 60 * a ∨ 60 * a + 60 ≤ i) → M'.1 39 i = M.1 39 i := by
      intro b
      have s2 : Sm [39] M1 (pI M1 39 (60 * a + x0) (bi b)) := Sm.i (by decide)
      have hw2 := hw1.put (x := fi + x0) (by omega) (by omega) b
      rw [show fi + x0 - fi = x0 by omega] at hw2
      obtain ⟨M', r1, r2, r3, r4⟩ := keepr_L hF hG ha a2 k N _ (pI M1 39 (60 * a + x0) (bi b)) (put S (fi + x0) b) (put U (fi + x0) false) hl1 (by omega) hcu' (hS.put hxr.1 hxr.2 b) hSu (fun y hy => by
        by_cases e : y = fi + x0
        · rw [e, put_c] at hy; cases hy
        · rw [put_d e] at hy ⊢; exact hd y hy) (hR1.sm s2 (by decide)) (hL1.sm s2 ⟨by decide, fun c c1 c2 => by simp; omega⟩) hw2 (fun j hj hj2 => by rw [pI_d (by decide)]; exact hM1 j hj hj2)
      refine ⟨M', r1, (s1.tr (s2.mono (by decide))).tr r2, r3, fun i hi => ?_⟩
      rw [r4 i hi, pI_c, up_d (by omega), h39]
    cases hky : ky s n fi la m ls (put S (fi + x0) true) (fi + x0) with
    | true => exact go true
    | false =>
      have := go false
      rw [put_same (hd _ x2)] at this
      exact this
theorem keep_48 (a1 a2 : Int32) : ∀ (k N j : Nat) (M : Mem), j + k = 60 → k < N → (∀ i, i < j → M.1 54 i = 0) →
    ∃ M', fX9_keep_L48 F a1 a2 N (ii j) M = fX9_keep_L75 F a1 a2 F a2 (M'.1 37 5) M' ∧ Sm [54] M M' ∧ (∀ i, i < 60 → M'.1 54 i = 0)
  | 0, N + 1, j, M, h1, h2, h3 => by
    refine ⟨M, ?_, Sm.rf, fun i hi => h3 i (by omega)⟩
    rw [fX9_keep_L48, if_pos (by rw [show (60 : Int32) = ii 60 from rfl, ii_le] <;> omega), nm_eq]
  | k + 1, N + 1, j, M, h1, h2, h3 => by
    rw [fX9_keep_L48, if_neg (by rw [show (60 : Int32) = ii 60 from rfl, ii_le] <;> omega), gd_inb (by omega) (by omega) (by omega), nm_eq, nm_eq, ii_nat (by omega) (by omega), Int.toNat_natCast, ii_lit1, ii_add, show ((j : Int) + 1) = ((j + 1 : Nat) : Int) by omega]
    obtain ⟨M', g1, g2, g3⟩ := keep_48 a1 a2 k N (j + 1) (pI M 54 j 0) (by omega) (by omega) (fun i hi => by
      rw [pI_c]
      by_cases e : i = j
      · rw [e, up_c]
      · rw [up_d e]; exact h3 i (by omega))
    exact ⟨M', g1, (Sm.i (by decide)).tr g2, g3⟩
/-- the number at a place: the reference -/
theorem at_L (hG : GV s n fi la) {M : Mem} (hR : RG s n fi la M) {S : Nat → Bool} (hS : Sup fi la S) {r : Nat} (hr : r < 17) (hw : Row M fi r S) {i x0 : Nat} (hx : S x0 = true) (hc : fb_ct S x0 = i) (a2 : Int32) : ∀ (k N x : Nat), x + k = x0 → fi ≤ x → k < N →
    fX9_at_L51 F (ii r) a2 N (ii ((i : Int) - fb_ct S x)) (ii x) M = some (ii x0, M)
  | 0, N + 1, x, h1, h0, h2 => by
    have hg := hG.b
    have e : x = x0 := by omega
    subst e
    have hxr := hS x hx
    rw [fX9_at_L51, hc, show ((i : Int) - i) = 0 by omega, if_neg (by decide), in_eq hG hR hS hr hw (by omega) (by omega), bd_eq, mm_nat, hx, if_neg (by decide)]
  | k + 1, N + 1, x, h1, h0, h2 => by
    have hg := hG.b
    have hxr := hS x0 hx
    have hmono := fb_ct_mono S (show x + 1 ≤ x0 by omega)
    have hsucc := fb_ct_succ S x
    have hle := fb_ct_le S x
    have hle0 := fb_ct_le S x0
    have k66 : fX9_at_L66 F (ii r) a2 (fun x3 x4 M => fX9_at_L51 F (ii r) a2 N x3 x4 M) (ii ((i : Int) - fb_ct S x)) (ii x) M = some (ii x0, M) := by
      have ih := at_L hG hR hS hr hw hx hc a2 k N (x + 1) (by omega) (by omega) (by omega)
      unfold fX9_at_L66
      rw [in_eq hG hR hS hr hw (by omega) (by omega), bd_eq, mm_nat]
      simp only [nm_eq]
      have e1 : ii (x : Int) + 1 = ii ((x + 1 : Nat) : Int) := by rw [ii_lit1, ii_add]; rfl
      rw [e1]
      cases hu : S x with
      | true =>
        rw [hu, if_pos rfl] at hsucc
        rw [if_neg (by decide)]
        have e2 : ii ((i : Int) - fb_ct S x) + -1 = ii ((i : Int) - fb_ct S (x + 1)) := by
          rw [show (-1 : Int32) = ii (-1) from rfl, ii_add]
          congr 1; omega
        rw [e2]; exact ih
      | false =>
        rw [hu, if_neg (by decide), Nat.add_zero] at hsucc
        rw [hsucc] at ih
        rw [if_pos (by decide)]
        exact ih
    rw [fX9_at_L51, ii_lit0]
    by_cases q : (0 : Int) < (i : Int) - fb_ct S x
    · rw [if_pos (by rw [ii_lt] <;> omega)]
      exact k66
    · rw [if_neg (by rw [ii_lt] <;> omega), in_eq hG hR hS hr hw (by omega) (by omega), bd_eq, mm_nat]
      have hnu : S x = false := by
        cases h : S x with
        | false => rfl
        | true => rw [h, if_pos rfl] at hsucc; omega
      rw [hnu, if_pos (by decide)]
      exact k66
end KO
