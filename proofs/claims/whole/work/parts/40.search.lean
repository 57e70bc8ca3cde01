/-! the search: what both do, and the class -/
def ct (S : Nat → Bool) : Nat := fb_ct S 64
theorem cnt_ct (w : Int64) : cnt w = ct (bt w) := rfl
theorem ct_le (S : Nat → Bool) : ct S ≤ 64 := fb_ct_le S 64
theorem ct_put {S : Nat → Bool} {x : Nat} (hx : x < 64) (h : S x = false) : ct (put S x true) = ct S + 1 := by
  have := fb_ct_upd S true hx
  rw [h] at this
  exact this
abbrev Pl : Type := List ((Nat → Bool) × Nat)
/-- what a search has found: the best set and its size, how many, the sets listed, whether there were too many -/
abbrev Ac : Type := (Nat → Bool) × Int × Nat × List (Nat → Bool) × Bool
def aB (a : Ac) : Nat → Bool := a.1
def aS (a : Ac) : Int := a.2.1
def aC (a : Ac) : Nat := a.2.2.1
def aL (a : Ac) : List (Nat → Bool) := a.2.2.2.1
def aO (a : Ac) : Bool := a.2.2.2.2
def afl (what : Nat) (fl0 : Int) (a : Ac) : Int := if what = 0 then aS a + 1 else fl0
def atk (what : Nat) (S : Nat → Bool) (p : Pl) (a : Ac) : Pl × Ac := if what = 0 then (p, (S, (ct S : Int), aC a, aL a, aO a)) else if what = 1 then (if 300 ≤ (aL a).length then ([], (aB a, aS a, aC a, aL a, true)) else (p, (aB a, aS a, aC a, aL a ++ [S], aO a))) else (p, (aB a, aS a, aC a + 1, aL a, aO a))
def astep (what : Nat) (fl0 : Int) (la : Nat) (kf : (Nat → Bool) → Nat → Bool) (S : Nat → Bool) (x : Nat) (p : Pl) (a : Ac) : Pl × Ac :=
  if ((ct S + (la + 1 - x) : Nat) : Int) < afl what fl0 a then (p, a) else if la + 1 ≤ x then atk what S p a else ((if kf (put S x true) x then [(put S x true, x + 1)] else []) ++ (S, x + 1) :: p, a)
def arun (what : Nat) (fl0 : Int) (la : Nat) (kf : (Nat → Bool) → Nat → Bool) : Nat → Pl → Ac → Pl × Ac × Nat
  | 0, p, a => (p, a, 0)
  | k + 1, [], a => ([], a, k + 1)
  | k + 1, (S, x) :: p, a => arun what fl0 la kf k (astep what fl0 la kf S x p a).1 (astep what fl0 la kf S x p a).2
/-- the pile is no longer than its room -/
def okp (fi la : Nat) : Pl → Prop
  | [] => True
  | (S, x) :: p => p.length + 1 + (la + 1 - x) ≤ 61 ∧ (fi ≤ x ∧ x ≤ la + 1) ∧ Sup fi la S ∧ okp fi la p
/-- what has been found is in bounds -/
def oka (fi la : Nat) (a : Ac) (t : Nat) : Prop := (-1 ≤ aS a ∧ aS a ≤ 64) ∧ aC a ≤ t ∧ (aL a).length ≤ 300 ∧ (0 ≤ aS a → Sup fi la (aB a)) ∧ ∀ S ∈ aL a, Sup fi la S
theorem okp_step {fi la what : Nat} {fl0 : Int} {kf : (Nat → Bool) → Nat → Bool} {S : Nat → Bool} {x : Nat} {p : Pl} {a : Ac} (h : okp fi la ((S, x) :: p)) : okp fi la (astep what fl0 la kf S x p a).1 := by
  obtain ⟨h1, h2, h3, h4⟩ := h
  unfold astep atk
  split
  · exact h4
  · split
    · split
      · exact h4
      · split
        · split
          · trivial
          · exact h4
        · exact h4
    · have k1 : okp fi la ((S, x + 1) :: p) := ⟨by omega, by omega, h3, h4⟩
      split
      · exact ⟨by show (p.length + 1) + 1 + (la + 1 - (x + 1)) ≤ 61; omega, by omega, h3.put (by omega) (by omega) true, k1⟩
      · exact k1
theorem oka_step {fi la what : Nat} {fl0 : Int} {kf : (Nat → Bool) → Nat → Bool} {S : Nat → Bool} {x : Nat} {p : Pl} {a : Ac} {t : Nat} (h : okp fi la ((S, x) :: p)) (ha : oka fi la a t) : oka fi la (astep what fl0 la kf S x p a).2 (t + 1) := by
  obtain ⟨h1, h2, h3, h4⟩ := h
  obtain ⟨a1, a2, a3, a4, a5⟩ := ha
  have hc := ct_le S
  unfold astep atk
  split
  · exact ⟨a1, by show aC a ≤ t + 1; omega, a3, a4, a5⟩
  · split
    · split
      · exact ⟨⟨by show (-1 : Int) ≤ (ct S : Int); omega, by show (ct S : Int) ≤ 64; omega⟩, by show aC a ≤ t + 1; omega, a3, fun _ => h3, a5⟩
      · split
        · split
          · exact ⟨a1, by show aC a ≤ t + 1; omega, a3, a4, a5⟩
          · refine ⟨a1, by show aC a ≤ t + 1; omega, ?_, a4, ?_⟩
            · show (aL a ++ [S]).length ≤ 300
              rw [List.length_append]
              simp only [List.length_cons, List.length_nil]
              omega
            · intro T hT
              rcases List.mem_append.mp hT with q | q
              · exact a5 T q
              · rw [List.mem_singleton.mp q]; exact h3
        · exact ⟨a1, by show aC a + 1 ≤ t + 1; omega, a3, a4, a5⟩
    · exact ⟨a1, by show aC a ≤ t + 1; omega, a3, a4, a5⟩
def CPl (M : Mem) : Pl → Prop
  | [] => True
  | (S, x) :: p => bt (M.2 22 p.length) = S ∧ M.1 23 p.length = ii x ∧ CPl M p
theorem CPl.cong {M N : Mem} : ∀ (p : Pl), CPl M p → (∀ i, i < p.length → N.2 22 i = M.2 22 i ∧ N.1 23 i = M.1 23 i) → CPl N p
  | [], _, _ => trivial
  | (S, x) :: p, h, hc => by
    have h1 := hc p.length (by simp)
    refine ⟨by rw [h1.1]; exact h.1, by rw [h1.2]; exact h.2.1, CPl.cong p h.2.2 (fun i hi => hc i (by simp only [List.length_cons]; omega))⟩
def CLi (M : Mem) (ll : List (Nat → Bool)) : Prop := M.1 15 2 = ii ll.length ∧ ll.length ≤ 300 ∧ ∀ i (h : i < ll.length), bt (M.2 16 i) = ll[i]
theorem CLi.cong {M N : Mem} {ll : List (Nat → Bool)} (h : CLi M ll) (h1 : N.1 15 2 = M.1 15 2) (h2 : N.2 16 = M.2 16) : CLi N ll := by
  unfold CLi
  rw [h1, h2]; exact h
theorem CLi.add {M N : Mem} {ll : List (Nat → Bool)} {S : Nat → Bool} {w : Int64} (h : CLi M ll) (h0 : ll.length < 300) (hw : bt w = S) (h1 : N.1 15 2 = ii ((ll.length + 1 : Nat) : Int)) (h2 : N.2 16 = vp_updL (M.2 16) ll.length w) : CLi N (ll ++ [S]) := by
  have hl : (ll ++ [S]).length = ll.length + 1 := by rw [List.length_append]; rfl
  refine ⟨by rw [hl]; exact h1, by omega, fun i hi => ?_⟩
  rw [h2]
  by_cases e : i = ll.length
  · subst e
    rw [uL_c, hw, List.getElem_append_right (by omega)]
    simp
  · rw [uL_d e, List.getElem_append_left (by omega)]
    exact h.2.2 i (by omega)
def CSr (what : Nat) (fl0 : Int) (M : Mem) (p : Pl) (a : Ac) (t : Nat) : Prop := M.1 21 5 = ii p.length ∧ CPl M p ∧ M.1 21 6 = ii what ∧ M.1 21 7 = ii (afl what fl0 a) ∧ M.1 21 9 = ii (aS a) ∧ (0 ≤ aS a → bt (M.2 21 8) = aB a) ∧ M.1 21 10 = ii (aC a) ∧ M.1 21 13 = bi (aO a) ∧ CLi M (aL a) ∧ M.1 21 11 = ii t
/-- the class is ready to be asked -/
def CB (s n fi la m : Nat) (ls : Nat → LawT) (M : Mem) : Prop := CG s n fi la M ∧ CLs M m ls ∧ TH s n fi la m ls M
theorem TH.sm {s n fi la m : Nat} {ls : Nat → LawT} {cs : List Nat} {M N : Mem} (h : TH s n fi la m ls M) (hs : Sm cs M N) (hc : 14 ∉ cs) : TH s n fi la m ls N := by
  unfold TH
  rw [(hs 14 hc).2]; exact h
theorem CB.sm {s n fi la m : Nat} {ls : Nat → LawT} {cs : List Nat} {M N : Mem} (h : CB s n fi la m ls M) (hs : Sm cs M N) (hc : ∀ c, 3 ≤ c → c < 15 → c ∉ cs) : CB s n fi la m ls N :=
  ⟨h.1.sm hs (hc 3 (by omega) (by omega)), h.2.1.sm hs (fun c c1 c2 => hc c (by omega) (by omega)), h.2.2.sm hs (hc 14 (by omega) (by omega))⟩
/-- what the walk leaves as it is -/
def WF (M N : Mem) : Prop := Sm [15, 16, 21, 22, 23] M N ∧ ∀ j, j ≠ 2 → N.1 15 j = M.1 15 j
theorem WF.rf {M : Mem} : WF M M := ⟨Sm.rf, fun _ _ => rfl⟩
theorem WF.tr {M N K : Mem} (h : WF M N) (h2 : WF N K) : WF M K := ⟨h.1.tr h2.1, fun j hj => (h2.2 j hj).trans (h.2 j hj)⟩
theorem WF.i {M : Mem} {c j : Nat} {v : Int32} (h : c = 21 ∨ c = 23 ∨ (c = 15 ∧ j = 2)) : WF M (pI M c j v) := by
  refine ⟨Sm.i (by rcases h with rfl | rfl | ⟨rfl, -⟩ <;> decide), fun i hi => ?_⟩
  rw [pI_at]
  rw [if_neg (by omega)]
theorem WF.l {M : Mem} {c j : Nat} {v : Int64} (h : c = 16 ∨ c = 21 ∨ c = 22) : WF M (pL M c j v) := ⟨Sm.l (by rcases h with rfl | rfl | rfl <;> decide), fun _ _ => rfl⟩
section SR
variable {F s n fi la m : Nat} {ls : Nat → LawT}
theorem pile6_eq {M : Mem} {p : Pl} {w : Int64} {x : Nat} (h1 : M.1 21 5 = ii p.length) (h2 : p.length < 62) : fX6_pile F w (ii x) M = some (pI (pI (pL M 22 p.length w) 23 p.length (ii x)) 21 5 (ii ((p.length + 1 : Nat) : Int))) := by
  unfold fX6_pile
  rw [h1, if_neg (by rw [show (62 : Int32) = ii 62 from rfl, ii_le] <;> omega), gd_inb (by omega) (by omega) (by omega), nm_eq, pL_1, h1, gd_inb (by omega) (by omega) (by omega), nm_eq, nm_eq, ii_nat (by omega) (by omega), Int.toNat_natCast, pI_d (by decide), pL_1, h1, ii_lit1, ii_add, show ((p.length : Int) + 1) = ((p.length + 1 : Nat) : Int) by omega]
theorem pile6_CPl {M : Mem} {p : Pl} {w : Int64} {x : Nat} (h : CPl M p) : CPl (pI (pI (pL M 22 p.length w) 23 p.length (ii x)) 21 5 (ii ((p.length + 1 : Nat) : Int))) ((bt w, x) :: p) := by
  refine ⟨?_, ?_, CPl.cong p h (fun i hi => ⟨?_, ?_⟩)⟩
  · rw [pI_2, pI_2, pL_c, uL_c]
  · rw [pI_d (by decide), pI_c, up_c]
  · rw [pI_2, pI_2, pL_c, uL_d (by omega)]
  · rw [pI_d (by decide), pI_c, up_d (by omega), pL_1]
/-- one CASE of the walk -/
theorem visit_eq (hF : 100000 ≤ F) (hG : GV s n fi la) {M : Mem} (hB : CB s n fi la m ls M) {what : Nat} (hwh : what ≤ 2) {fl0 : Int} (hfl : -1 ≤ fl0 ∧ fl0 ≤ 64) {S : Nat → Bool} {x : Nat} {p : Pl} {a : Ac} {t : Nat} (ht : t < 60000) (hp : okp fi la ((S, x) :: p)) (ha : oka fi la a t) {w : Int64} (hw : bt w = S) (hM : CSr what fl0 M p a t) :
    ∃ M', fX6_visit F w (ii x) M = some M' ∧ WF M M' ∧ CSr what fl0 M' (astep what fl0 la (ky s n fi la m ls) S x p a).1 (astep what fl0 la (ky s n fi la m ls) S x p a).2 t := by
  have hg := hG.b
  obtain ⟨hp1, hp2, hp3, hp4⟩ := hp
  obtain ⟨⟨a1, a1'⟩, a2, a3, a4, a5⟩ := ha
  obtain ⟨c1, c2, c3, c4, c5, c6, c7, c8, c9, c10⟩ := hM
  have hafl : -1 ≤ afl what fl0 a ∧ afl what fl0 a ≤ 65 := by unfold afl; split <;> omega
  have hct := ct_le S
  have hcw : cnt w = ct S := by rw [cnt_ct, hw]
  unfold fX6_visit astep
  rw [nm_eq, bitCount_eq, bd_eq, c4, hB.1.2.2.2.1, hcw, ii_lit1, ii_sub, ii_add, ii_add, ii_lit0]
  rw [show ((la : Int) - x + 1) = ((la + 1 - x : Nat) : Int) by omega, show ((ct S : Int) + ((la + 1 - x : Nat) : Int)) = ((ct S + (la + 1 - x) : Nat) : Int) by omega]
  simp (disch := omega) only [ii_le, ii_eq]
  by_cases q1 : ((ct S + (la + 1 - x) : Nat) : Int) < afl what fl0 a
  · rw [if_neg (by omega), if_pos q1]
    exact ⟨M, rfl, WF.rf, c1, c2, c3, c4, c5, c6, c7, c8, c9, c10⟩
  · rw [if_pos (by omega), if_neg q1]
    by_cases q2 : la + 1 ≤ x
    · rw [if_pos (by omega), if_pos q2]
      unfold fX6_take atk
      rw [c3]
      rcases (by omega : what = 0 ∨ what = 1 ∨ what = 2) with rfl | rfl | rfl
      · rw [if_pos (by decide), if_pos rfl]
        simp only [nm_eq]
        rw [bitCount_eq, bd_eq, bv_eq, pI_at, if_pos ⟨rfl, rfl⟩, hcw, ii_lit1, ii_add]
        refine ⟨_, rfl, ((WF.l (Or.inr (Or.inl rfl))).tr (WF.i (Or.inl rfl))).tr (WF.i (Or.inl rfl)), ?_, ?_, ?_, ?_, ?_, ?_, ?_, ?_, ?_, ?_⟩
        · simpa [pI_at, pL_1] using c1
        · exact CPl.cong p c2 (fun i hi => ⟨by rw [pI_2, pI_2, pL_d (by decide)], by rw [pI_d (by decide), pI_d (by decide), pL_1]⟩)
        · simpa [pI_at, pL_1] using c3
        · simp [pI_at, pL_1, afl, aS]
        · simp [pI_at, pL_1, aS]
        · intro _; rw [pI_2, pI_2, pL_c, uL_c]; exact hw
        · simpa [pI_at, pL_1, aC] using c7
        · simpa [pI_at, pL_1, aO] using c8
        · exact c9.cong (by simp [pI_at, pL_1]) (by rw [pI_2, pI_2, pL_d (by decide)])
        · simpa [pI_at, pL_1] using c10
      · rw [if_neg (by decide), if_pos (by decide), if_neg (by decide), if_pos rfl]
        unfold fX4_add
        have hll := c9.1
        rw [hll]
        by_cases q3 : 300 ≤ (aL a).length
        · rw [if_neg (by rw [show (300 : Int32) = ii 300 from rfl, ii_lt] <;> omega), if_pos q3, bd_eq, if_pos rfl, nm_eq, nm_eq, bv_eq]
          refine ⟨_, rfl, (WF.i (Or.inl rfl)).tr (WF.i (Or.inl rfl)), ?_, trivial, ?_, ?_, ?_, ?_, ?_, ?_, ?_, ?_⟩
          · simp [pI_at]; rfl
          · simpa [pI_at] using c3
          · simpa [pI_at, afl] using c4
          · simpa [pI_at, aS] using c5
          · exact c6
          · simpa [pI_at, aC] using c7
          · simp [pI_at, aO]; rfl
          · exact c9.cong (by simp [pI_at]) rfl
          · simpa [pI_at] using c10
        · rw [if_pos (by rw [show (300 : Int32) = ii 300 from rfl, ii_lt] <;> omega), if_neg q3, gd_inb (by omega) (by omega) (by omega), nm_eq, nm_eq, bd_eq, if_neg (by decide), bv_eq, ii_nat (by omega) (by omega), Int.toNat_natCast, pL_1, hll, ii_lit1, ii_add]
          refine ⟨_, rfl, (WF.l (Or.inl rfl)).tr (WF.i (Or.inr (Or.inr ⟨rfl, rfl⟩))), ?_, ?_, ?_, ?_, ?_, ?_, ?_, ?_, ?_, ?_⟩
          · simpa [pI_at, pL_1] using c1
          · exact CPl.cong p c2 (fun i hi => ⟨by rw [pI_2, pL_d (by decide)], by rw [pI_d (by decide), pL_1]⟩)
          · simpa [pI_at, pL_1] using c3
          · simpa [pI_at, pL_1, afl] using c4
          · simpa [pI_at, pL_1, aS] using c5
          · intro h; rw [pI_2, pL_d (by decide)]; exact c6 h
          · simpa [pI_at, pL_1, aC] using c7
          · simpa [pI_at, pL_1, aO] using c8
          · exact CLi.add c9 (by omega) hw (by rw [pI_c, up_c]; rfl) (by rw [pI_2, pL_c])
          · simpa [pI_at, pL_1] using c10
      · rw [if_neg (by decide), if_neg (by decide), if_neg (by decide), if_neg (by decide)]
        simp only [nm_eq]
        rw [bv_eq, c7, ii_lit1, ii_add]
        refine ⟨_, rfl, WF.i (Or.inl rfl), ?_, ?_, ?_, ?_, ?_, ?_, ?_, ?_, ?_, ?_⟩
        · simpa [pI_at] using c1
        · exact CPl.cong p c2 (fun i hi => ⟨rfl, by rw [pI_d (by decide)]⟩)
        · simpa [pI_at] using c3
        · simpa [pI_at, afl] using c4
        · simpa [pI_at, aS] using c5
        · exact c6
        · simp [pI_at, aC]
        · simpa [pI_at, aO] using c8
        · exact c9.cong (by simp [pI_at]) rfl
        · simpa [pI_at] using c10
    · rw [if_neg (by omega), if_neg q2, ii_add, show ((x : Int) + 1) = ((x + 1 : Nat) : Int) by omega, pile6_eq c1 (by omega), bv_eq]
      have hwf := (((WF.l (M := M) (c := 22) (j := p.length) (v := w) (Or.inr (Or.inr rfl))).tr (WF.i (c := 23) (j := p.length) (v := ii ((x + 1 : Nat) : Int)) (Or.inr (Or.inl rfl)))).tr (WF.i (c := 21) (j := 5) (v := ii ((p.length + 1 : Nat) : Int)) (Or.inl rfl)))
      have hB1 := hB.sm hwf.1 (fun c e1 e2 => by simp; omega)
      have hpl := pile6_CPl (M := M) (p := p) (w := w) (x := x + 1) c2
      rw [hw] at hpl
      have hs1 : CSr what fl0 (pI (pI (pL M 22 p.length w) 23 p.length (ii ((x + 1 : Nat) : Int))) 21 5 (ii ((p.length + 1 : Nat) : Int))) ((S, x + 1) :: p) a t := by
        refine ⟨?_, hpl, ?_, ?_, ?_, ?_, ?_, ?_, ?_, ?_⟩
        · rw [pI_c, up_c]; rfl
        · simpa [pI_at, pL_1] using c3
        · simpa [pI_at, pL_1] using c4
        · simpa [pI_at, pL_1] using c5
        · intro h; rw [pI_2, pI_2, pL_d (by decide)]; exact c6 h
        · simpa [pI_at, pL_1] using c7
        · simpa [pI_at, pL_1] using c8
        · exact c9.cong (by simp [pI_at, pL_1]) (by rw [pI_2, pI_2, pL_d (by decide)])
        · simpa [pI_at, pL_1] using c10
      generalize pI (pI (pL M 22 p.length w) 23 p.length (ii ((x + 1 : Nat) : Int))) 21 5 (ii ((p.length + 1 : Nat) : Int)) = M1 at *
      have hSw : Sup fi la (bt w) := by rw [hw]; exact hp3
      rw [keep_eq hF hG hB1.1 hB1.2.1 hB1.2.2 hSw (by omega) (by omega), bd_eq, hw, one_def]
      cases hk : ky s n fi la m ls (put S x true) x with
      | false =>
        rw [if_pos (by decide)]
        exact ⟨M1, rfl, hwf, hs1⟩
      | true =>
        rw [if_neg (by decide), pile6_eq (p := (S, x + 1) :: p) hs1.1 (by simp only [List.length_cons]; omega), bv_eq]
        have hw2 : bt (w ||| one x) = put S x true := by
          rw [← hw]
          funext y
          rw [bt_or, bt_one (by omega)]
          unfold put
          by_cases q : y = x <;> simp [q]
        have hpl2 := pile6_CPl (M := M1) (p := (S, x + 1) :: p) (w := w ||| one x) (x := x + 1) hs1.2.1
        rw [hw2] at hpl2
        obtain ⟨d1, d2, d3, d4, d5, d6, d7, d8, d9, d10⟩ := hs1
        refine ⟨_, rfl, hwf.tr (((WF.l (Or.inr (Or.inr rfl))).tr (WF.i (Or.inr (Or.inl rfl)))).tr (WF.i (Or.inl rfl))), ?_, hpl2, ?_, ?_, ?_, ?_, ?_, ?_, ?_, ?_⟩
        · rw [pI_c, up_c]; rfl
        · simpa [pI_at, pL_1] using d3
        · simpa [pI_at, pL_1] using d4
        · simpa [pI_at, pL_1] using d5
        · intro h; rw [pI_2, pI_2, pL_d (by decide)]; exact d6 h
        · simpa [pI_at, pL_1] using d7
        · simpa [pI_at, pL_1] using d8
        · exact d9.cong (by simp [pI_at, pL_1]) (by rw [pI_2, pI_2, pL_d (by decide)])
        · simpa [pI_at, pL_1] using d10
theorem walk_L (hF : 100000 ≤ F) (hG : GV s n fi la) {what : Nat} (hwh : what ≤ 2) {fl0 : Int} (hfl : -1 ≤ fl0 ∧ fl0 ≤ 64) {looks : Nat} (hlk : looks ≤ 50000) (a1 a2 : Int32) : ∀ (k N t : Nat) (M : Mem) (p : Pl) (a : Ac), t + k = looks → k < N → CB s n fi la m ls M → okp fi la p → oka fi la a t → CSr what fl0 M p a t →
    ∃ M', fX6_walk_L54 F a1 a2 (ii looks) N M = some M' ∧ WF M M' ∧ (arun what fl0 la (ky s n fi la m ls) k p a).2.2 ≤ k ∧ CSr what fl0 M' (arun what fl0 la (ky s n fi la m ls) k p a).1 (arun what fl0 la (ky s n fi la m ls) k p a).2.1 (looks - (arun what fl0 la (ky s n fi la m ls) k p a).2.2) ∧ oka fi la (arun what fl0 la (ky s n fi la m ls) k p a).2.1 looks ∧ M'.1 21 12 = bi (decide ((arun what fl0 la (ky s n fi la m ls) k p a).1 ≠ []))
  | 0, N + 1, t, M, p, a, h1, h2, hB, hp, ha, hM => by
    have hpl : p.length ≤ 61 := by
      cases p with
      | nil => simp
      | cons c p => have := hp.1; simp only [List.length_cons]; omega
    rw [fX6_walk_L54, hM.2.2.2.2.2.2.2.2.2, if_pos (by rw [ii_le] <;> omega)]
    unfold fX6_walk_L114
    rw [hM.1, ii_lit0]
    simp (disch := omega) only [ii_le, nm_eq]
    have key : ∀ v, CSr what fl0 (pI M 21 12 v) p a looks := by
      intro v
      obtain ⟨c1, c2, c3, c4, c5, c6, c7, c8, c9, c10⟩ := hM
      refine ⟨by simpa [pI_at] using c1, CPl.cong p c2 (fun i hi => ⟨rfl, by rw [pI_d (by decide)]⟩), by simpa [pI_at] using c3, by simpa [pI_at] using c4, by simpa [pI_at] using c5, c6, by simpa [pI_at] using c7, by simpa [pI_at] using c8, c9.cong (by simp [pI_at]) rfl, ?_⟩
      rw [show looks = t by omega]
      simpa [pI_at] using c10
    have hoka : oka fi la a looks := by rw [show looks = t by omega]; exact ha
    cases p with
    | nil =>
      rw [if_pos (by simp)]
      exact ⟨_, rfl, WF.i (Or.inl rfl), Nat.le_refl _, key _, hoka, by simp [arun, pI_at]; rfl⟩
    | cons c p =>
      rw [if_neg (by simp only [List.length_cons]; omega)]
      exact ⟨_, rfl, WF.i (Or.inl rfl), Nat.le_refl _, key _, hoka, by simp [arun, pI_at]; rfl⟩
  | k + 1, N + 1, t, M, [], a, h1, h2, hB, hp, ha, hM => by
    rw [fX6_walk_L54, hM.2.2.2.2.2.2.2.2.2, if_neg (by rw [ii_le] <;> omega), hM.1, if_pos (by decide)]
    unfold fX6_walk_L114
    rw [hM.1, if_pos (by decide), nm_eq]
    obtain ⟨c1, c2, c3, c4, c5, c6, c7, c8, c9, c10⟩ := hM
    simp only [arun]
    refine ⟨_, rfl, WF.i (Or.inl rfl), Nat.le_refl _, ⟨by simpa [pI_at] using c1, trivial, by simpa [pI_at] using c3, by simpa [pI_at] using c4, by simpa [pI_at] using c5, c6, by simpa [pI_at] using c7, by simpa [pI_at] using c8, c9.cong (by simp [pI_at]) rfl, ?_⟩, ⟨ha.1, by have := ha.2.1; show aC a ≤ looks; omega, ha.2.2⟩, by simp [arun, pI_at]; rfl⟩
    show _ = ii ((looks - (k + 1) : Nat) : Int)
    rw [show looks - (k + 1) = t by omega]
    simpa [pI_at] using c10
  | k + 1, N + 1, t, M, (S, x) :: p, a, h1, h2, hB, hp, ha, hM => by
    have hpl : p.length + 1 ≤ 61 := by have := hp.1; omega
    rw [fX6_walk_L54, hM.2.2.2.2.2.2.2.2.2, if_neg (by rw [ii_le] <;> omega), hM.1, if_neg (by simp only [List.length_cons]; rw [ii_lit0, ii_le] <;> omega)]
    simp only [nm_eq]
    have e1 : (pI M 21 5 (ii (((S, x) :: p).length : Nat) - 1)).1 21 5 = ii (p.length : Nat) := by
      rw [pI_c, up_c, ii_lit1, ii_sub, List.length_cons]
      congr 1; omega
    rw [e1, gd_inb (by omega) (by omega) (by omega), gd_inb (by omega) (by omega) (by omega), ii_nat (by omega) (by omega), Int.toNat_natCast]
    have e2 : pI M 21 5 (ii (((S, x) :: p).length : Nat) - 1) = pI M 21 5 (ii (p.length : Nat)) := by
      congr 1
      first
        | done
        | (rw [ii_lit1, ii_sub, List.length_cons]
           congr 1; omega)
    rw [e2]
    obtain ⟨c1, c2, c3, c4, c5, c6, c7, c8, c9, c10⟩ := hM
    have hM1 : CSr what fl0 (pI M 21 5 (ii (p.length : Nat))) p a t := ⟨by rw [pI_c, up_c], CPl.cong p c2.2.2 (fun i hi => ⟨rfl, by rw [pI_d (by decide)]⟩), by simpa [pI_at] using c3, by simpa [pI_at] using c4, by simpa [pI_at] using c5, c6, by simpa [pI_at] using c7, by simpa [pI_at] using c8, c9.cong (by simp [pI_at]) rfl, by simpa [pI_at] using c10⟩
    have hwf1 : WF M (pI M 21 5 (ii (p.length : Nat))) := WF.i (Or.inl rfl)
    have hB1 := hB.sm hwf1.1 (fun c e1 e2 => by simp; omega)
    rw [pI_d (show 23 ≠ 21 by decide), pI_2, c2.2.1]
    obtain ⟨M2, v1, v2, v3⟩ := visit_eq hF hG hB1 hwh hfl (t := t) (by omega) hp ha c2.1 hM1
    rw [v1, bv_eq]
    have hB2 := hB1.sm v2.1 (fun c e1 e2 => by simp; omega)
    rw [v3.2.2.2.2.2.2.2.2.2, ii_lit1, ii_add, show ((t : Int) + 1) = ((t + 1 : Nat) : Int) by omega]
    obtain ⟨d1, d2, d3, d4, d5, d6, d7, d8, d9, d10⟩ := v3
    have hwf3 : WF M2 (pI M2 21 11 (ii ((t + 1 : Nat) : Int))) := WF.i (Or.inl rfl)
    obtain ⟨M', f1, f2, f3, f4, f5, f6⟩ := walk_L hF hG hwh hfl hlk a1 a2 k N (t + 1) (pI M2 21 11 (ii ((t + 1 : Nat) : Int))) _ _ (by omega) (by omega) (hB2.sm hwf3.1 (fun c e1 e2 => by simp; omega)) (okp_step (what := what) (fl0 := fl0) (kf := ky s n fi la m ls) (a := a) hp) (oka_step (what := what) (fl0 := fl0) (kf := ky s n fi la m ls) hp ha) ⟨by simpa [pI_at] using d1, CPl.cong _ d2 (fun i hi => ⟨rfl, by rw [pI_d (by decide)]⟩), by simpa [pI_at] using d3, by simpa [pI_at] using d4, by simpa [pI_at] using d5, d6, by simpa [pI_at] using d7, by simpa [pI_at] using d8, d9.cong (by simp [pI_at]) rfl, by rw [pI_c, up_c]⟩
    refine ⟨M', f1, ((hwf1.tr v2).tr hwf3).tr f2, ?_, f4, f5, f6⟩
    show (arun what fl0 la (ky s n fi la m ls) k _ _).2.2 ≤ k + 1
    omega
def a0 (ll : List (Nat → Bool)) : Ac := (fun _ => false, -1, 0, ll, false)
def p0 (fi : Nat) : Pl := [(fun _ => false, fi)]
theorem okp0 (hG : GV s n fi la) : okp fi la (p0 fi) := by
  have hg := hG.b
  exact ⟨by show 0 + 1 + (la + 1 - fi) ≤ 61; omega, by omega, fun x h => (by cases h), trivial⟩
theorem walk_eq (hF : 100000 ≤ F) (hG : GV s n fi la) {M : Mem} (hC : CG s n fi la M) (hL : CLs M m ls) (hT : M.1 4 6 ≠ 0 → TH s n fi la m ls M) {what : Nat} (hwh : what ≤ 2) {fl0 : Int} (hfl : -1 ≤ fl0 ∧ fl0 ≤ 64) {looks : Nat} (hlk : looks ≤ 50000) {ll : List (Nat → Bool)} (hll : CLi M ll) (hls : ∀ S ∈ ll, Sup fi la S) :
    ∃ M' p a k, arun what fl0 la (ky s n fi la m ls) looks (p0 fi) (a0 ll) = (p, a, k) ∧ k ≤ looks ∧ fX6_walk F (ii what) (ii (afl what fl0 (a0 ll))) (ii looks) M = some M' ∧ Sm [4, 13, 14, 15, 16, 21, 22, 23] M M' ∧ (∀ j, j ≠ 2 → M'.1 15 j = M.1 15 j) ∧ CB s n fi la m ls M' ∧ M'.1 4 6 ≠ 0 ∧ CSr what fl0 M' p a (looks - k) ∧ oka fi la a looks ∧ M'.1 21 12 = bi (decide (p ≠ [])) := by
  have hg := hG.b
  obtain ⟨M1, r1, r2, r3, r4, r5, r6, r7⟩ := ready_eq hF hG hC hL hT
  unfold fX6_walk
  rw [r1, bv_eq]
  simp only [nm_eq]
  have hB1 : CB s n fi la m ls M1 := ⟨r7, r6, r5⟩
  have w1 : WF M1 (pI (pI (pI (pI (pI (pI M1 21 6 (ii what)) 21 7 (ii (afl what fl0 (a0 ll)))) 21 9 (-1)) 21 10 0) 21 13 0) 21 5 0) := ((((((WF.i (Or.inl rfl)).tr (WF.i (Or.inl rfl))).tr (WF.i (Or.inl rfl))).tr (WF.i (Or.inl rfl))).tr (WF.i (Or.inl rfl))).tr (WF.i (Or.inl rfl)))
  have hll1 : CLi M1 ll := hll.cong (by rw [(r2 15 (by decide)).1]) (by rw [(r2 16 (by decide)).2])
  have hM1 : CSr what fl0 (pI (pI (pI (pI (pI (pI M1 21 6 (ii what)) 21 7 (ii (afl what fl0 (a0 ll)))) 21 9 (-1)) 21 10 0) 21 13 0) 21 5 0) [] (a0 ll) 0 → True := fun _ => trivial
  have g1 : (pI (pI (pI (pI (pI (pI M1 21 6 (ii what)) 21 7 (ii (afl what fl0 (a0 ll)))) 21 9 (-1)) 21 10 0) 21 13 0) 21 5 0).1 21 5 = ii (([] : Pl).length : Nat) := by rw [pI_c, up_c]; rfl
  have g2 : (pI (pI (pI (pI (pI (pI M1 21 6 (ii what)) 21 7 (ii (afl what fl0 (a0 ll)))) 21 9 (-1)) 21 10 0) 21 13 0) 21 5 0).1 3 2 = ii fi := by
    rw [(w1.1 3 (by decide)).1]; exact r7.2.2.1
  rw [g2, pile6_eq g1 (by simp), bv_eq]
  have w2 := (((WF.l (M := (pI (pI (pI (pI (pI (pI M1 21 6 (ii what)) 21 7 (ii (afl what fl0 (a0 ll)))) 21 9 (-1)) 21 10 0) 21 13 0) 21 5 0)) (c := 22) (j := ([] : Pl).length) (v := (0 : Int64)) (Or.inr (Or.inr rfl))).tr (WF.i (c := 23) (j := ([] : Pl).length) (v := ii fi) (Or.inr (Or.inl rfl)))).tr (WF.i (c := 21) (j := 5) (v := ii ((([] : Pl).length + 1 : Nat) : Int)) (Or.inl rfl))).tr (WF.i (c := 21) (j := 11) (v := 0) (Or.inl rfl))
  have hst : CSr what fl0 (pI (pI (pI (pL (pI (pI (pI (pI (pI (pI M1 21 6 (ii what)) 21 7 (ii (afl what fl0 (a0 ll)))) 21 9 (-1)) 21 10 0) 21 13 0) 21 5 0) 22 ([] : Pl).length 0) 23 ([] : Pl).length (ii fi)) 21 5 (ii ((([] : Pl).length + 1 : Nat) : Int))) 21 11 0) (p0 fi) (a0 ll) 0 := by
    refine ⟨?_, ⟨?_, ?_, trivial⟩, ?_, ?_, ?_, ?_, ?_, ?_, ?_, ?_⟩
    · simp [pI_at, p0]
    · rw [pI_2, pI_2, pI_2, pL_c]
      show bt (vp_updL _ 0 0 0) = _
      rw [uL_c]
      funext t; exact bt_0 t
    · simp [pI_at]
    · simp [pI_at, pL_1]
    · simp [pI_at, pL_1]
    · simp [pI_at, pL_1, a0, aS]; rfl
    · intro h; exact absurd h (show ¬ (0 : Int) ≤ -1 by decide)
    · simp [pI_at, pL_1, a0, aC]; rfl
    · simp [pI_at, pL_1, a0, aO]; rfl
    · exact hll1.cong (by simp [pI_at, pL_1]) (by rw [pI_2, pI_2, pI_2, pL_d (by decide)]; rfl)
    · simp [pI_at]; rfl
  have w12 := w1.tr w2
  generalize (pI (pI (pI (pL (pI (pI (pI (pI (pI (pI M1 21 6 (ii what)) 21 7 (ii (afl what fl0 (a0 ll)))) 21 9 (-1)) 21 10 0) 21 13 0) 21 5 0) 22 ([] : Pl).length 0) 23 ([] : Pl).length (ii fi)) 21 5 (ii ((([] : Pl).length + 1 : Nat) : Int))) 21 11 0) = M2 at *
  obtain ⟨M', f1, f2, f3, f4, f5, f6⟩ := walk_L hF hG hwh hfl hlk (ii what) (ii (afl what fl0 (a0 ll))) looks F 0 M2 (p0 fi) (a0 ll) (by omega) (by omega) (hB1.sm w12.1 (fun c e1 e2 => by simp; omega)) (okp0 hG) ⟨show (-1 : Int) ≤ -1 ∧ (-1 : Int) ≤ 64 by decide, Nat.le_refl _, hll.2.1, fun h => absurd h (show ¬ (0 : Int) ≤ -1 by decide), hls⟩ hst
  have wall := w12.tr f2
  refine ⟨M', _, _, _, rfl, f3, f1, ?_, ?_, hB1.sm wall.1 (fun c e1 e2 => by simp; omega), ?_, f4, f5, f6⟩
  · exact (r2.mono (by decide)).tr (wall.1.mono (by decide))
  · intro j hj
    rw [wall.2 j hj, (r2 15 (by decide)).1]
  · rw [(wall.1 4 (by decide)).1]; exact r4
end SR
