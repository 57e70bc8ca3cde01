/-! the search: the reference's, as it is called -/
theorem search_eq {F s n fi la m : Nat} {ls : Nat → LawT} (hF : 100000 ≤ F) (hG : GV s n fi la) {what : Nat} (hwh : what ≤ 2) {fl0 : Int} (hfl : -1 ≤ fl0 ∧ fl0 ≤ 64) (hf2 : what = 2 → fl0 = 0) {looks : Nat} (hlk : looks ≤ 50000) {M : Mem} (hR : RG s n fi la M) (hL : RLs M m ls) {L0 : Int} (h17 : M.1 37 17 = ii L0) {ll : List (Nat → Bool)} (hll : RLi M fi ll) (hls : ∀ S ∈ ll, Sup fi la S) (h25 : what = 1 → M.1 37 25 = ii fl0) :
    ∃ M' p a k, arun what fl0 la (ky s n fi la m ls) looks (p0 fi) (a0 ll) = (p, a, k) ∧ RFr M M' ∧ RAc what fl0 (L0 + looks) fi M' a k ∧ fX9_search F (ii what) (ii looks) M = some (ii (scode p a), M') := by
  have hg := hG.b
  unfold fX9_search
  simp only [nm_eq]
  have f1 : RFr M (pI (pI (pI M 37 18 (ii looks)) 37 19 (-1)) 37 24 0) := ((RFr.i37 (by omega)).tr (RFr.i37 (by omega))).tr (RFr.i37 (by omega))
  have hA1 : RAc what fl0 (L0 + looks) fi (pI (pI (pI M 37 18 (ii looks)) 37 19 (-1)) 37 24 0) (a0 ll) looks := by
    refine ⟨by simp [pI_at], ?_, by simp [pI_at, a0, aS]; rfl, by simp [pI_at, a0, aC]; rfl, hll.cong (by simp [pI_at]) (by rw [pI_d (by decide), pI_d (by decide), pI_d (by decide)]), fun h => by simpa [pI_at] using h25 h, fun h => absurd h (show ¬ (0 : Int) ≤ -1 by decide)⟩
    have : L0 + looks - looks = L0 := by omega
    rw [this]
    simpa [pI_at] using h17
  generalize pI (pI (pI M 37 18 (ii looks)) 37 19 (-1)) 37 24 0 = M1 at *
  obtain ⟨M2, c1, c2, c3, c4⟩ := clear_eq (F := F) (M := M1) (fi := fi) hF (r := 8) (by omega)
  rw [show (8 : Int32) = ii ((8 : Nat) : Int) from rfl, c1, bv_eq]
  have f2 : RFr M1 M2 := ⟨c2.mono (by decide), fun j _ _ _ _ _ => by rw [(c2 37 (by decide)).1], fun j hj => c4 j (by omega)⟩
  have h37 : ∀ j, M2.1 37 j = M1.1 37 j := fun j => by rw [(c2 37 (by decide)).1]
  obtain ⟨d1, d2, d3, d4, d5, d6, d7⟩ := hA1
  have hA2 : RAc what fl0 (L0 + looks) fi M2 (a0 ll) looks := ⟨by rw [h37]; exact d1, by rw [h37]; exact d2, by rw [h37]; exact d3, by rw [h37]; exact d4, d5.cong (h37 23) (by rw [(c2 49 (by decide)).1]), fun h => by rw [h37]; exact d6 h, fun h => (d7 h).cong (fun j j1 j2 => c4 j (by omega))⟩
  have hM2 : RHd fi la M2 0 (fun _ => false) := ⟨c3, fun x h => (by cases h), fun x h => (by cases h), by omega, fun j hj => by omega⟩
  obtain ⟨M', p', a', k', g1, g2, g3, g4⟩ := search_L hF hG hwh hfl hf2 (ii looks) hlk looks F 0 (fun _ => false) (a0 ll) M2 (Nat.le_refl _) (by omega) ((hR.fr f1).fr f2) ((hL.fr f1).fr f2) hM2 hA2 ⟨show (-1 : Int) ≤ -1 ∧ (-1 : Int) ≤ 64 by decide, Nat.zero_le _, hll.2.1, fun h => absurd h (show ¬ (0 : Int) ≤ -1 by decide), hls⟩ rfl
  refine ⟨M', p', a', k', g1, (f1.tr f2).tr g2, g3, ?_⟩
  have e : ct (fun _ => false) = 0 := fb_ct_zero.mpr (fun _ _ => rfl)
  rw [e] at g4
  exact g4
