/-! what holds between calls -/
/-- all but these cells, and but these fields of the reference, are as they were -/
def Fr (cs fs : List Nat) (M N : Mem) : Prop := Sm cs M N ∧ ∀ j, j ∉ fs → N.1 37 j = M.1 37 j
theorem Fr.rf {cs fs : List Nat} {M : Mem} : Fr cs fs M M := ⟨Sm.rf, fun _ _ => rfl⟩
theorem Fr.tr {cs fs : List Nat} {M N K : Mem} (h : Fr cs fs M N) (h2 : Fr cs fs N K) : Fr cs fs M K := ⟨h.1.tr h2.1, fun j hj => (h2.2 j hj).trans (h.2 j hj)⟩
theorem Fr.mono {cs ds fs gs : List Nat} {M N : Mem} (h : Fr cs fs M N) (h1 : ∀ c ∈ cs, c ∈ ds) (h2 : ∀ j ∈ fs, j ∈ gs) : Fr ds gs M N := ⟨h.1.mono h1, fun j hj => h.2 j (fun hm => hj (h2 j hm))⟩
theorem Fr.of {cs : List Nat} {M N : Mem} (h : Sm cs M N) (h37 : 37 ∉ cs) : Fr cs [] M N := ⟨h, fun j _ => by rw [(h 37 h37).1]⟩
theorem Fr.i {cs fs : List Nat} {M : Mem} {j : Nat} {v : Int32} (hc : 37 ∈ cs) (hj : j ∈ fs) : Fr cs fs M (pI M 37 j v) := ⟨Sm.i hc, fun i hi => by
  have hne : i ≠ j := fun e => hi (by rw [e]; exact hj)
  rw [pI_c, up_d hne]⟩
/-- the ground and the laws -/
def IA (s n fi la m : Nat) (ls : Nat → LawT) (M : Mem) : Prop := GV s n fi la ∧ CG s n fi la M ∧ RG s n fi la M ∧ CLs M m ls ∧ RLs M m ls ∧ (M.1 4 6 ≠ 0 → TH s n fi la m ls M)
/-- the eight sets -/
def IS (fi la : Nat) (M : Mem) : Prop := ∀ k, k < 8 → Sup fi la (bt (M.2 34 k)) ∧ Row M fi k (bt (M.2 34 k))
/-- what is listed -/
def IL (s n fi la : Nat) (ll : List (Nat → Bool)) (M : Mem) : Prop := CLi M ll ∧ RLi M fi ll ∧ ll.Pairwise ahd ∧ (∀ S ∈ ll, Sup fi la S) ∧ ∀ t' : Nat, t' < 8 → M.1 15 3 = ii t' → CKd s n fi la t' ll M
def IT (M : Mem) : Prop := ∃ T : Nat, T ≤ 500 ∧ M.1 1 1 = ii T ∧ M.1 37 2 = ii T ∧ ∀ j, j < T → ByR (M.1 2 j) (M.1 38 j)
def IW (M : Mem) : Prop := M.1 0 9 = M.1 37 16 ∧ (M.1 0 9 ≠ 0 → ∀ i, i < 4 → M.1 35 i = M.1 46 i)
def IC (fi la : Nat) (M : Mem) : Prop := M.1 0 11 = M.1 37 29 ∧ (M.1 0 11 ≠ 0 → ∀ x, fi ≤ x → x ≤ la → M.1 36 x = M.1 50 (x - fi))
def IK (M : Mem) : Prop := M.1 0 12 = M.1 37 17
def IR (c : Nat) (M : Mem) : Prop := ∃ r : Nat, r ≤ c ∧ M.1 30 2 = ii r ∧ ∀ p, p < 3661 → ∃ v : Nat, v ≤ r ∧ M.1 31 p = ii v
def IV (s n fi la m : Nat) (ls : Nat → LawT) (ll : List (Nat → Bool)) (c : Nat) (M : Mem) : Prop := IA s n fi la m ls M ∧ IS fi la M ∧ IL s n fi la ll M ∧ Agr fi M [] ∧ IT M ∧ IW M ∧ IC fi la M ∧ IK M ∧ IR c M
def Inv (c : Nat) (M : Mem) : Prop := ∃ (s n fi la m : Nat) (ls : Nat → LawT) (ll : List (Nat → Bool)), IV s n fi la m ls ll c M
section IX
variable {cs fs : List Nat} {M N : Mem} {s n fi la m c : Nat} {ls : Nat → LawT} {ll : List (Nat → Bool)}
theorem RG.f (h : RG s n fi la M) (f : Fr cs fs M N) (hf : ∀ j ∈ [3, 4, 5, 6], j ∉ fs) : RG s n fi la N := by
  unfold RG
  rw [f.2 3 (hf 3 (by decide)), f.2 4 (hf 4 (by decide)), f.2 5 (hf 5 (by decide)), f.2 6 (hf 6 (by decide))]
  exact h
theorem RLs.f (h : RLs M m ls) (f : Fr cs fs M N) (hc : ∀ c ∈ [40, 41, 42, 43, 44], c ∉ cs) (hf : 13 ∉ fs) : RLs N m ls := by
  unfold RLs
  rw [f.2 13 hf, (f.1 40 (hc 40 (by decide))).1, (f.1 41 (hc 41 (by decide))).1, (f.1 42 (hc 42 (by decide))).1, (f.1 43 (hc 43 (by decide))).1, (f.1 44 (hc 44 (by decide))).1]
  exact h
theorem IA.tr (h : IA s n fi la m ls M) (f : Fr cs fs M N) (hc : ∀ c ∈ [3, 4, 5, 6, 7, 8, 9, 10, 11, 14, 40, 41, 42, 43, 44], c ∉ cs) (hf : ∀ j ∈ [3, 4, 5, 6, 13], j ∉ fs) : IA s n fi la m ls N := by
  obtain ⟨a1, a2, a3, a4, a5, a6⟩ := h
  have hmem : ∀ c, 4 ≤ c → c < 12 → c ∈ [3, 4, 5, 6, 7, 8, 9, 10, 11, 14, 40, 41, 42, 43, 44] := fun c h1 h2 => by simp; omega
  refine ⟨a1, a2.sm f.1 (hc 3 (by decide)), a3.f f (fun j hj => hf j (by simp at hj ⊢; omega)), a4.sm f.1 (fun c h1 h2 => hc c (hmem c h1 h2)), a5.f f (fun c hm => hc c (by simp at hm ⊢; omega)) (hf 13 (by decide)), fun hn => ?_⟩
  rw [(f.1 4 (hc 4 (by decide))).1] at hn
  exact (a6 hn).sm f.1 (hc 14 (by decide))
theorem IS.tr (h : IS fi la M) (f : Fr cs fs M N) (hc : 34 ∉ cs) (h39 : ∀ j, j < 480 → N.1 39 j = M.1 39 j) : IS fi la N := by
  intro k hk
  rw [(f.1 34 hc).2]
  exact ⟨(h k hk).1, (h k hk).2.cong (fun j h1 h2 => h39 j (by omega))⟩
theorem IL.tr (h : IL s n fi la ll M) (f : Fr cs fs M N) (hc : ∀ c ∈ [15, 16, 18, 19, 20, 49], c ∉ cs) (hf : 23 ∉ fs) : IL s n fi la ll N := by
  obtain ⟨a1, a2, a3, a4, a5⟩ := h
  refine ⟨a1.cong (by rw [(f.1 15 (hc 15 (by decide))).1]) (by rw [(f.1 16 (hc 16 (by decide))).2]), a2.cong (f.2 23 hf) (by rw [(f.1 49 (hc 49 (by decide))).1]), a3, a4, fun t ht e => ?_⟩
  rw [(f.1 15 (hc 15 (by decide))).1] at e
  obtain ⟨L, l1, l2, l3⟩ := a5 t ht e
  refine ⟨L, l1, by rw [(f.1 15 (hc 15 (by decide))).1]; exact l2, fun x hx hLx => ?_⟩
  rw [(f.1 18 (hc 18 (by decide))).1, (f.1 19 (hc 19 (by decide))).1, (f.1 20 (hc 20 (by decide))).1]
  exact l3 x hx hLx
theorem Agr.tr (h : Agr fi M []) (f : Fr cs fs M N) (hc : 28 ∉ cs ∧ 29 ∉ cs) : Agr fi N [] := by
  unfold Agr
  rw [(f.1 28 hc.1).1, (f.1 29 hc.2).2]
  exact h
theorem IT.tr (h : IT M) (f : Fr cs fs M N) (hc : 1 ∉ cs ∧ 2 ∉ cs ∧ 38 ∉ cs) (hf : 2 ∉ fs) : IT N := by
  unfold IT
  rw [(f.1 1 hc.1).1, (f.1 2 hc.2.1).1, (f.1 38 hc.2.2).1, f.2 2 hf]
  exact h
theorem IW.tr (h : IW M) (f : Fr cs fs M N) (h0 : N.1 0 9 = M.1 0 9) (hc : 35 ∉ cs ∧ 46 ∉ cs) (hf : 16 ∉ fs) : IW N := by
  unfold IW
  rw [h0, (f.1 35 hc.1).1, (f.1 46 hc.2).1, f.2 16 hf]
  exact h
theorem IC.tr (h : IC fi la M) (f : Fr cs fs M N) (h0 : N.1 0 11 = M.1 0 11) (hc : 36 ∉ cs ∧ 50 ∉ cs) (hf : 29 ∉ fs) : IC fi la N := by
  unfold IC
  rw [h0, (f.1 36 hc.1).1, (f.1 50 hc.2).1, f.2 29 hf]
  exact h
theorem IK.tr (h : IK M) (f : Fr cs fs M N) (h0 : N.1 0 12 = M.1 0 12) (hf : 17 ∉ fs) : IK N := by
  unfold IK
  rw [h0, f.2 17 hf]
  exact h
theorem IR.tr (h : IR c M) (f : Fr cs fs M N) (hc : 30 ∉ cs ∧ 31 ∉ cs) : IR c N := by
  unfold IR
  rw [(f.1 30 hc.1).1, (f.1 31 hc.2).1]
  exact h
theorem IR.up (h : IR c M) : IR (c + 1) M := by
  obtain ⟨r, r1, r2⟩ := h
  exact ⟨r, by omega, r2⟩
/-- nothing that counts has changed -/
theorem IV.same (h : IV s n fi la m ls ll c M) (f : Fr cs fs M N) (hc : ∀ c ∈ [0, 1, 2, 3, 4, 5, 6, 7, 8, 9, 10, 11, 14, 15, 16, 18, 19, 20, 28, 29, 30, 31, 34, 35, 36, 38, 40, 41, 42, 43, 44, 46, 49, 50], c ∉ cs) (hf : ∀ j ∈ [2, 3, 4, 5, 6, 13, 16, 17, 23, 29], j ∉ fs) (h39 : ∀ j, j < 480 → N.1 39 j = M.1 39 j) : IV s n fi la m ls ll (c + 1) N := by
  obtain ⟨h1, h2, h3, h4, h5, h6, h7, h8, h9⟩ := h
  have e0 := (f.1 0 (hc 0 (by decide))).1
  exact ⟨h1.tr f (fun c hm => hc c (by simp at hm ⊢; omega)) (fun j hm => hf j (by simp at hm ⊢; omega)), h2.tr f (hc 34 (by decide)) h39, h3.tr f (fun c hm => hc c (by simp at hm ⊢; omega)) (hf 23 (by decide)), h4.tr f ⟨hc 28 (by decide), hc 29 (by decide)⟩, h5.tr f ⟨hc 1 (by decide), hc 2 (by decide), hc 38 (by decide)⟩ (hf 2 (by decide)), h6.tr f (by rw [e0]) ⟨hc 35 (by decide), hc 46 (by decide)⟩ (hf 16 (by decide)), h7.tr f (by rw [e0]) ⟨hc 36 (by decide), hc 50 (by decide)⟩ (hf 29 (by decide)), h8.tr f (by rw [e0]) (hf 17 (by decide)), (h9.tr f ⟨hc 30 (by decide), hc 31 (by decide)⟩).up⟩
theorem Inv.refuse (h : Inv c M) (v : Int32) : Inv (c + 1) (pI M 37 0 v) := by
  obtain ⟨s, n, fi, la, m, ls, ll, h⟩ := h
  exact ⟨s, n, fi, la, m, ls, ll, h.same (Fr.i (cs := [37]) (fs := [0]) (by decide) (by decide)) (by decide) (by decide) (fun j _ => by rw [pI_d (by decide)])⟩
end IX
