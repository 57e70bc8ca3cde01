/-! THE LAW FROM ITS ENTRY: the objects are made; they are the system's cells, at the first memory. -/
def m0I : Nat → Nat → Int32
  | 3 => fun j => if j = 1 then 20 else if j = 2 then 1 else if j = 3 then 20 else 0
  | 6 => fun j => if j = 0 then 3 else if j = 2 then 1 else if j = 3 then 1 else if j = 4 then 1 else 0
  | 7 => fun j => if j = 0 then 3 else if j = 2 then 1 else if j = 3 then 1 else if j = 4 then 1 else 0
  | 8 => fun j => if j = 0 then 3 else if j = 2 then 1 else if j = 3 then 1 else if j = 4 then 1 else 0
  | 9 => fun j => if j = 0 then 3 else if j = 2 then 1 else if j = 3 then 1 else if j = 4 then 1 else 0
  | 10 => fun j => if j = 0 then 3 else if j = 2 then 1 else if j = 3 then 1 else if j = 4 then 1 else 0
  | 11 => fun j => if j = 0 then 3 else if j = 2 then 1 else if j = 3 then 1 else if j = 4 then 1 else 0
  | 15 => fun j => if j = 3 then (-1) else 0
  | 21 => fun j => if j = 6 then 2 else if j = 9 then (-1) else 0
  | 37 => fun j => if j = 4 then 20 else if j = 5 then 20 else if j = 6 then 1 else 0
  | _ => fun _ => 0
def m0L : Nat → Nat → Int64
  | 3 => fun j => if j = 4 then 2097150 else 0
  | _ => fun _ => 0
/-- the memory of two new objects -/
def M0 : Mem := (m0I, m0L)
/-- an array's cell by its places alone -/
theorem vq_congr {cA : ClassId} {n : Nat} {f g : Nat → Option Nat} (h : ∀ i, i < n → f i = g i) : vp_cell cA (n, .inr (.inr (.inr (.inr f)))) = vp_cell cA (n, .inr (.inr (.inr (.inr g)))) := by
  rw [vp_cell_q, vp_cell_q]
  unfold arrV
  congr 1
  exact congrArg Array.ofFn (funext fun j => congrArg va_rf (h j.val j.isLt))

def posM : List Nat := [0, 1, 2, 3, 4, 5, 9, 10, 11, 12, 13, 14, 6, 7, 8, 15, 16, 17, 18, 19, 20, 21, 22, 23, 24, 25, 26, 27, 28, 29, 30, 31, 32, 33, 34, 35, 36, 37, 38, 39, 40, 41, 42, 43, 44, 45, 46, 47, 48, 49, 50, 51, 52, 53, 54, 55]
theorem posM_inj : ∀ i ∈ csA, ∀ j ∈ csA, posM.getD i 0 = posM.getD j 0 → i = j := by decide +kernel
set_option maxRecDepth 200000 in
set_option maxHeartbeats 16000000 in
/-- the law, from its entry, out of the pure claim -/
theorem whole_pure {p : Program} {e : Env} {s : State} {m : MethodId} {below : List Frame} {meth : Method} {c : Code} (l : Launch) (hfl : l.flags = flags0) {b L : Nat} {xs : Nat → Int32} (C0 : lw_At p s m meth c b L xs) (hp : ∃ (F : Nat) (M' : Mem), fL_law F xs L 600 0 M0 = some M') : W p l e room_1 s m #[Value.ref b] below meth c s.heap [] 0 0 (lw_Z below #[Value.ref b] s) (entryFrame m ([Value.ref b] : List Value).toArray 7) := by
  obtain ⟨hx, hb, hr, hml, hown, hts0, hX, hbl, hlocks, hgv⟩ := C0
  have hl0 : l.stackTraces = false := by unfold Launch.stackTraces; rw [hfl]; decide +kernel
  have hts : ∀ w ∈ TG, w.before #[Value.ref b] s = true := fun w hw => hts0 w (List.mem_filter.mp hw).1
  have hN : NW s := fun w hw hn => va_Nw.of (nst_tab hn) (hts0 w hw)
  have hAO : va_AO "SumBench$Law" s := va_AO.of (hts0 (Cond.arrayOver (.object "SumBench$Law")) (tb_i 103 (by decide +kernel)))
  have hfl0 := flat_of_before _ hgv
  have hQ : NQ s := ⟨va_Nc.of (hfl0 (Cond.not (.castable exA exI)) (by decide +kernel)), va_Nc.of (hfl0 (Cond.not (.castable exN exI)) (by decide +kernel))⟩
  have hA : ∀ q : Nat, s.heap.size ≤ q → (fun q : Nat => s.heap.size ≤ q) q := fun _ h => h
  obtain ⟨c0, iS0, hKn0⟩ := u_known (C := RX0) (T := TX0) (N := 9) (n := 9) hts inTG_X0 (hts (.instantiable RX0 9) (tg_i 256 (by decide +kernel) rfl))
  obtain ⟨c1, iS1, hKn1⟩ := u_known (C := RX1) (T := TX1) (N := 5) (n := 5) hts inTG_X1 (hts (.instantiable RX1 5) (tg_i 45 (by decide +kernel) rfl))
  obtain ⟨c2, iS2, hKn2⟩ := u_known (C := RX2) (T := TX2) (N := 6) (n := 6) hts inTG_X2 (hts (.instantiable RX2 6) (tg_i 104 (by decide +kernel) rfl))
  obtain ⟨c3, iS3, hKn3⟩ := u_known (C := RX3) (T := TX3) (N := 7) (n := 7) hts inTG_X3 (hts (.instantiable RX3 7) (tg_i 97 (by decide +kernel) rfl))
  obtain ⟨c4, iS4, hKn4⟩ := u_known (C := RX4) (T := TX4) (N := 9) (n := 9) hts inTG_X4 (hts (.instantiable RX4 9) (tg_i 161 (by decide +kernel) rfl))
  obtain ⟨c5, iS5, hKn5⟩ := u_known (C := RX5) (T := TX5) (N := 6) (n := 6) hts inTG_X5 (hts (.instantiable RX5 6) (tg_i 291 (by decide +kernel) rfl))
  obtain ⟨c6, iS6, hKn6⟩ := u_known (C := RX6) (T := TX6) (N := 14) (n := 14) hts inTG_X6 (hts (.instantiable RX6 14) (tg_i 201 (by decide +kernel) rfl))
  obtain ⟨c7, iS7, hKn7⟩ := u_known (C := RX7) (T := TX7) (N := 2) (n := 2) hts inTG_X7 (hts (.instantiable RX7 2) (tg_i 30 (by decide +kernel) rfl))
  obtain ⟨c8, iS8, hKn8⟩ := u_known (C := RX8) (T := TX8) (N := 13) (n := 13) hts inTG_X8 (hts (.instantiable RX8 13) (tg_i 22 (by decide +kernel) rfl))
  obtain ⟨c9, iS9, hKn9⟩ := u_known (C := RX9) (T := TX9) (N := 32) (n := 32) hts inTG_X9 (hts (.instantiable RX9 32) (tg_i 977 (by decide +kernel) rfl))
  obtain ⟨D, hKc⟩ : ∃ D : va_G, ∀ (k : Nat) (q : vw_C), vwCl[k]? = some q → u_Kn s q.1 q.2.1 q.2.2 (D.1 k) (D.2 k) := by
    refine ⟨(fun k => if k = 0 then c0 else if k = 1 then c1 else if k = 2 then c2 else if k = 3 then c3 else if k = 4 then c4 else if k = 5 then c5 else if k = 6 then c6 else if k = 7 then c7 else if k = 8 then c8 else c9, fun k => if k = 0 then iS0 else if k = 1 then iS1 else if k = 2 then iS2 else if k = 3 then iS3 else if k = 4 then iS4 else if k = 5 then iS5 else if k = 6 then iS6 else if k = 7 then iS7 else if k = 8 then iS8 else iS9), ?_⟩
    intro k q hq
    match k, hq with
    | 0, hq => cases hq; exact hKn0
    | 1, hq => cases hq; exact hKn1
    | 2, hq => cases hq; exact hKn2
    | 3, hq => cases hq; exact hKn3
    | 4, hq => cases hq; exact hKn4
    | 5, hq => cases hq; exact hKn5
    | 6, hq => cases hq; exact hKn6
    | 7, hq => cases hq; exact hKn7
    | 8, hq => cases hq; exact hKn8
    | 9, hq => cases hq; exact hKn9
    | k + 10, hq => exact absurd hq (by simp [vwCl])
  have hS : va_S (fun q : Nat => s.heap.size ≤ q) s.heap s.heap [] := va_S.rf
  have hK : va_K D vwCl [] s := ⟨hKc, fun k q h => by simp at h⟩
  have hP : va_P D vwCl [] s.heap := fun k q h => by simp at h
  have hD : va_D (fun q : Nat => s.heap.size ≤ q) [] := ⟨fun i j p q h => by simp at h, fun k q h => by simp at h⟩
  have hl := lv_entry ([.ref b]) (n := 7) (Nat.le_of_ble_eq_true rfl)
  rw [lg_entry_eq]
  generalize (lg_sl ([.ref b]) ++ List.replicate (7 - (lg_sl ([.ref b])).length) Slot.unset).toArray = ls at hl ⊢
  have hl : lv_has ls 7 [(0, .ref b)] := hl
  refine va_new (pc := 0) (ci := 8) (fs := [.null, .null, .null, .null, .null, .null, .null, .null, .null, .int 0, .null, .int 0, .int 0]) (C := RX8) (T := TX8) (N := 13) hx hb hts inTG_X8 tyX8 tyX8_ok hown (hts _ (tg_i 21 (by decide +kernel) rfl)) (hts _ (tg_i 22 (by decide +kernel) rfl)) (hts _ (tg_i 1 (by decide +kernel) rfl)) hK hP hD hS hA rfl (fun j hj => by rcases (show j = 0 ∨ j = 1 ∨ j = 2 ∨ j = 3 ∨ j = 4 ∨ j = 5 ∨ j = 6 ∨ j = 7 ∨ j = 8 ∨ j = 9 ∨ j = 10 ∨ j = 11 ∨ j = 12 by omega) with rfl | rfl | rfl | rfl | rfl | rfl | rfl | rfl | rfl | rfl | rfl | rfl | rfl <;> rfl) (Nat.le_of_ble_eq_true rfl) (Nat.le_of_ble_eq_true rfl) dL_law_0 (fun x0 H hP hD hS => ?_)
  have hP : va_P D vwCl [(x0, .inr (8, [.null, .null, .null, .null, .null, .null, .null, .null, .null, .int 0, .null, .int 0, .int 0]))] H := hP
  have hD : va_D (fun q : Nat => s.heap.size ≤ q) [(x0, .inr (8, [.null, .null, .null, .null, .null, .null, .null, .null, .null, .int 0, .null, .int 0, .int 0]))] := hD
  refine W.widen (k := 1) (n := 13) (by decide) (by decide) ?_
  refine lv_dup (pc := 3) hx hb dL_law_3 rfl ?_
  have hPc := hP.sub (ws' := [(x0, .inr (8, [.null, .null, .null, .null, .null, .null, .null, .null, .null, .int 0, .null, .int 0, .int 0]))]) [0] rfl
  have hDc := hD.sub (ws' := [(x0, .inr (8, [.null, .null, .null, .null, .null, .null, .null, .null, .null, .int 0, .null, .int 0, .int 0]))]) [0] (by decide) rfl
  have hKc2 := hK.sub (tys' := []) [] rfl
  have hFc := va_free (wc := [(x0, .inr (8, [.null, .null, .null, .null, .null, .null, .null, .null, .null, .int 0, .null, .int 0, .int 0]))]) hD hS hA [0] rfl
  refine va_callv (pc := 4) (va_runI (As := []) (rest := [.ref x0]) ⟨hx, hb, hml, hown, hts⟩ (iniX8 l D x0 H.size) (cwI 0 hts (tg_cons (tg_i 25 (by decide +kernel) rfl)) rfl rfl rfl (hts _ (tg_i 1 (by decide +kernel) rfl)) (hts _ (tg_i 23 (by decide +kernel) rfl)) (hts _ (tg_i 24 (by decide +kernel) rfl)) rfl (by decide +kernel) ⟨Nat.le_of_ble_eq_true rfl, Nat.le_of_ble_eq_true rfl⟩) ⟨ct_blind, fun U hU hW => ⟨rfl, by rw [hU], by rw [hU]; exact hPc, va_K.moved hW.alike hKc2, hDc.weaken (fun _ _ _ _ => trivial), NW.warm hW hN, va_AO.moved hW.alike hAO⟩⟩ rfl rfl hl.1 rfl (lv_room (Nat.le_of_ble_eq_true rfl)) dL_law_4 ⟨Nat.le_of_ble_eq_true rfl, Nat.le_of_ble_eq_true rfl⟩) hS (fun q _ h => hFc q h) hFc (fun u8 t H1 locs ht hvm hw hB hz1 hk1 hS => ?_)
  obtain ⟨hP1, hK1, hD1⟩ := hB
  rw [ht] at hP1
  have hK1 := va_K.moved hvm.symm hK1
  obtain ⟨hP, hD⟩ := va_join (wr := []) (w1 := [(x0, .inr (8, [.ref (u8.1 0), .ref (u8.1 2), .ref (u8.1 3), .ref (u8.1 14), .ref (u8.1 20), .ref (u8.1 23), .ref (u8.1 29), .ref (u8.1 33), .ref (u8.1 34), .int 0, .ref (u8.1 35), .int 0, .int 0])), ((u8.1 0), .inr (7, [.ref (u8.1 1), .int 0])), ((u8.1 1), .inl ((u8.2 0), 500, .inl (fun _ => 0))), ((u8.1 2), .inr (1, [.int 0, .int 20, .int 1, .int 20, .long 2097150])), ((u8.1 3), .inr (3, [.ref (u8.1 2), .ref (u8.1 4), .int 0, .ref (u8.1 5), .ref (u8.1 6), .ref (u8.1 7), .int 0])), ((u8.1 4), .inl ((u8.2 1), 6, .inr (.inr (.inr (.inr (va_up (va_up (va_up (va_up (va_up (va_up (fun _ => none) 0 (some (u8.1 8))) 1 (some (u8.1 9))) 2 (some (u8.1 10))) 3 (some (u8.1 11))) 4 (some (u8.1 12))) 5 (some (u8.1 13)))))))), ((u8.1 5), .inl ((u8.2 2), 4, .inl (fun _ => 0))), ((u8.1 6), .inl ((u8.2 3), 1081, .inr (.inl (fun _ => 0)))), ((u8.1 7), .inl ((u8.2 4), 3721, .inr (.inl (fun _ => 0)))), ((u8.1 8), .inr (2, [.int 3, .int 0, .int 1, .int 1, .int 1, .int 0])), ((u8.1 9), .inr (2, [.int 3, .int 0, .int 1, .int 1, .int 1, .int 0])), ((u8.1 10), .inr (2, [.int 3, .int 0, .int 1, .int 1, .int 1, .int 0])), ((u8.1 11), .inr (2, [.int 3, .int 0, .int 1, .int 1, .int 1, .int 0])), ((u8.1 12), .inr (2, [.int 3, .int 0, .int 1, .int 1, .int 1, .int 0])), ((u8.1 13), .inr (2, [.int 3, .int 0, .int 1, .int 1, .int 1, .int 0])), ((u8.1 14), .inr (4, [.ref (u8.1 2), .ref (u8.1 15), .int 0, .int (-1), .int 0, .ref (u8.1 16), .ref (u8.1 17), .ref (u8.1 18), .ref (u8.1 19)])), ((u8.1 15), .inl ((u8.2 5), 300, .inr (.inl (fun _ => 0)))), ((u8.1 16), .inl ((u8.2 6), 300, .inl (fun _ => 0))), ((u8.1 17), .inl ((u8.2 7), 300, .inl (fun _ => 0))), ((u8.1 18), .inl ((u8.2 8), 300, .inl (fun _ => 0))), ((u8.1 19), .inl ((u8.2 9), 300, .inl (fun _ => 0))), ((u8.1 20), .inr (6, [.ref (u8.1 2), .ref (u8.1 3), .ref (u8.1 14), .ref (u8.1 21), .ref (u8.1 22), .int 0, .int 2, .int 0, .long 0, .int (-1), .int 0, .int 0, .int 0, .int 0])), ((u8.1 21), .inl ((u8.2 10), 62, .inr (.inl (fun _ => 0)))), ((u8.1 22), .inl ((u8.2 11), 62, .inl (fun _ => 0))), ((u8.1 23), .inr (0, [.ref (u8.1 2), .ref (u8.1 3), .ref (u8.1 24), .ref (u8.1 25), .int 0, .ref (u8.1 26), .ref (u8.1 27), .ref (u8.1 28), .int 0])), ((u8.1 24), .inl ((u8.2 12), 488, .inl (fun _ => 0))), ((u8.1 25), .inl ((u8.2 13), 488, .inl (fun _ => 0))), ((u8.1 26), .inl ((u8.2 14), 61, .inl (fun _ => 0))), ((u8.1 27), .inl ((u8.2 15), 61, .inl (fun _ => 0))), ((u8.1 28), .inl ((u8.2 16), 488, .inr (.inl (fun _ => 0)))), ((u8.1 29), .inr (5, [.ref (u8.1 2), .ref (u8.1 30), .int 0, .long 0, .ref (u8.1 31), .ref (u8.1 32)])), ((u8.1 30), .inl ((u8.2 17), 3661, .inl (fun _ => 0))), ((u8.1 31), .inl ((u8.2 18), 121, .inl (fun _ => 0))), ((u8.1 32), .inl ((u8.2 19), 61, .inl (fun _ => 0))), ((u8.1 33), .inl ((u8.2 20), 8, .inr (.inl (fun _ => 0)))), ((u8.1 34), .inl ((u8.2 21), 4, .inl (fun _ => 0))), ((u8.1 35), .inl ((u8.2 22), 61, .inl (fun _ => 0)))]) hP hD [0] [] rfl rfl (by decide) (by decide) hk1 hFc hP1 hD1
  have hK := hK.app hK1
  generalize H1 = H at hP hS ⊢
  have hP : va_P D vwCl [(x0, .inr (8, [.ref (u8.1 0), .ref (u8.1 2), .ref (u8.1 3), .ref (u8.1 14), .ref (u8.1 20), .ref (u8.1 23), .ref (u8.1 29), .ref (u8.1 33), .ref (u8.1 34), .int 0, .ref (u8.1 35), .int 0, .int 0])), ((u8.1 0), .inr (7, [.ref (u8.1 1), .int 0])), ((u8.1 1), .inl ((u8.2 0), 500, .inl (fun _ => 0))), ((u8.1 2), .inr (1, [.int 0, .int 20, .int 1, .int 20, .long 2097150])), ((u8.1 3), .inr (3, [.ref (u8.1 2), .ref (u8.1 4), .int 0, .ref (u8.1 5), .ref (u8.1 6), .ref (u8.1 7), .int 0])), ((u8.1 4), .inl ((u8.2 1), 6, .inr (.inr (.inr (.inr (va_up (va_up (va_up (va_up (va_up (va_up (fun _ => none) 0 (some (u8.1 8))) 1 (some (u8.1 9))) 2 (some (u8.1 10))) 3 (some (u8.1 11))) 4 (some (u8.1 12))) 5 (some (u8.1 13)))))))), ((u8.1 5), .inl ((u8.2 2), 4, .inl (fun _ => 0))), ((u8.1 6), .inl ((u8.2 3), 1081, .inr (.inl (fun _ => 0)))), ((u8.1 7), .inl ((u8.2 4), 3721, .inr (.inl (fun _ => 0)))), ((u8.1 8), .inr (2, [.int 3, .int 0, .int 1, .int 1, .int 1, .int 0])), ((u8.1 9), .inr (2, [.int 3, .int 0, .int 1, .int 1, .int 1, .int 0])), ((u8.1 10), .inr (2, [.int 3, .int 0, .int 1, .int 1, .int 1, .int 0])), ((u8.1 11), .inr (2, [.int 3, .int 0, .int 1, .int 1, .int 1, .int 0])), ((u8.1 12), .inr (2, [.int 3, .int 0, .int 1, .int 1, .int 1, .int 0])), ((u8.1 13), .inr (2, [.int 3, .int 0, .int 1, .int 1, .int 1, .int 0])), ((u8.1 14), .inr (4, [.ref (u8.1 2), .ref (u8.1 15), .int 0, .int (-1), .int 0, .ref (u8.1 16), .ref (u8.1 17), .ref (u8.1 18), .ref (u8.1 19)])), ((u8.1 15), .inl ((u8.2 5), 300, .inr (.inl (fun _ => 0)))), ((u8.1 16), .inl ((u8.2 6), 300, .inl (fun _ => 0))), ((u8.1 17), .inl ((u8.2 7), 300, .inl (fun _ => 0))), ((u8.1 18), .inl ((u8.2 8), 300, .inl (fun _ => 0))), ((u8.1 19), .inl ((u8.2 9), 300, .inl (fun _ => 0))), ((u8.1 20), .inr (6, [.ref (u8.1 2), .ref (u8.1 3), .ref (u8.1 14), .ref (u8.1 21), .ref (u8.1 22), .int 0, .int 2, .int 0, .long 0, .int (-1), .int 0, .int 0, .int 0, .int 0])), ((u8.1 21), .inl ((u8.2 10), 62, .inr (.inl (fun _ => 0)))), ((u8.1 22), .inl ((u8.2 11), 62, .inl (fun _ => 0))), ((u8.1 23), .inr (0, [.ref (u8.1 2), .ref (u8.1 3), .ref (u8.1 24), .ref (u8.1 25), .int 0, .ref (u8.1 26), .ref (u8.1 27), .ref (u8.1 28), .int 0])), ((u8.1 24), .inl ((u8.2 12), 488, .inl (fun _ => 0))), ((u8.1 25), .inl ((u8.2 13), 488, .inl (fun _ => 0))), ((u8.1 26), .inl ((u8.2 14), 61, .inl (fun _ => 0))), ((u8.1 27), .inl ((u8.2 15), 61, .inl (fun _ => 0))), ((u8.1 28), .inl ((u8.2 16), 488, .inr (.inl (fun _ => 0)))), ((u8.1 29), .inr (5, [.ref (u8.1 2), .ref (u8.1 30), .int 0, .long 0, .ref (u8.1 31), .ref (u8.1 32)])), ((u8.1 30), .inl ((u8.2 17), 3661, .inl (fun _ => 0))), ((u8.1 31), .inl ((u8.2 18), 121, .inl (fun _ => 0))), ((u8.1 32), .inl ((u8.2 19), 61, .inl (fun _ => 0))), ((u8.1 33), .inl ((u8.2 20), 8, .inr (.inl (fun _ => 0)))), ((u8.1 34), .inl ((u8.2 21), 4, .inl (fun _ => 0))), ((u8.1 35), .inl ((u8.2 22), 61, .inl (fun _ => 0)))] H := hP
  have hD : va_D (fun q : Nat => s.heap.size ≤ q) [(x0, .inr (8, [.ref (u8.1 0), .ref (u8.1 2), .ref (u8.1 3), .ref (u8.1 14), .ref (u8.1 20), .ref (u8.1 23), .ref (u8.1 29), .ref (u8.1 33), .ref (u8.1 34), .int 0, .ref (u8.1 35), .int 0, .int 0])), ((u8.1 0), .inr (7, [.ref (u8.1 1), .int 0])), ((u8.1 1), .inl ((u8.2 0), 500, .inl (fun _ => 0))), ((u8.1 2), .inr (1, [.int 0, .int 20, .int 1, .int 20, .long 2097150])), ((u8.1 3), .inr (3, [.ref (u8.1 2), .ref (u8.1 4), .int 0, .ref (u8.1 5), .ref (u8.1 6), .ref (u8.1 7), .int 0])), ((u8.1 4), .inl ((u8.2 1), 6, .inr (.inr (.inr (.inr (va_up (va_up (va_up (va_up (va_up (va_up (fun _ => none) 0 (some (u8.1 8))) 1 (some (u8.1 9))) 2 (some (u8.1 10))) 3 (some (u8.1 11))) 4 (some (u8.1 12))) 5 (some (u8.1 13)))))))), ((u8.1 5), .inl ((u8.2 2), 4, .inl (fun _ => 0))), ((u8.1 6), .inl ((u8.2 3), 1081, .inr (.inl (fun _ => 0)))), ((u8.1 7), .inl ((u8.2 4), 3721, .inr (.inl (fun _ => 0)))), ((u8.1 8), .inr (2, [.int 3, .int 0, .int 1, .int 1, .int 1, .int 0])), ((u8.1 9), .inr (2, [.int 3, .int 0, .int 1, .int 1, .int 1, .int 0])), ((u8.1 10), .inr (2, [.int 3, .int 0, .int 1, .int 1, .int 1, .int 0])), ((u8.1 11), .inr (2, [.int 3, .int 0, .int 1, .int 1, .int 1, .int 0])), ((u8.1 12), .inr (2, [.int 3, .int 0, .int 1, .int 1, .int 1, .int 0])), ((u8.1 13), .inr (2, [.int 3, .int 0, .int 1, .int 1, .int 1, .int 0])), ((u8.1 14), .inr (4, [.ref (u8.1 2), .ref (u8.1 15), .int 0, .int (-1), .int 0, .ref (u8.1 16), .ref (u8.1 17), .ref (u8.1 18), .ref (u8.1 19)])), ((u8.1 15), .inl ((u8.2 5), 300, .inr (.inl (fun _ => 0)))), ((u8.1 16), .inl ((u8.2 6), 300, .inl (fun _ => 0))), ((u8.1 17), .inl ((u8.2 7), 300, .inl (fun _ => 0))), ((u8.1 18), .inl ((u8.2 8), 300, .inl (fun _ => 0))), ((u8.1 19), .inl ((u8.2 9), 300, .inl (fun _ => 0))), ((u8.1 20), .inr (6, [.ref (u8.1 2), .ref (u8.1 3), .ref (u8.1 14), .ref (u8.1 21), .ref (u8.1 22), .int 0, .int 2, .int 0, .long 0, .int (-1), .int 0, .int 0, .int 0, .int 0])), ((u8.1 21), .inl ((u8.2 10), 62, .inr (.inl (fun _ => 0)))), ((u8.1 22), .inl ((u8.2 11), 62, .inl (fun _ => 0))), ((u8.1 23), .inr (0, [.ref (u8.1 2), .ref (u8.1 3), .ref (u8.1 24), .ref (u8.1 25), .int 0, .ref (u8.1 26), .ref (u8.1 27), .ref (u8.1 28), .int 0])), ((u8.1 24), .inl ((u8.2 12), 488, .inl (fun _ => 0))), ((u8.1 25), .inl ((u8.2 13), 488, .inl (fun _ => 0))), ((u8.1 26), .inl ((u8.2 14), 61, .inl (fun _ => 0))), ((u8.1 27), .inl ((u8.2 15), 61, .inl (fun _ => 0))), ((u8.1 28), .inl ((u8.2 16), 488, .inr (.inl (fun _ => 0)))), ((u8.1 29), .inr (5, [.ref (u8.1 2), .ref (u8.1 30), .int 0, .long 0, .ref (u8.1 31), .ref (u8.1 32)])), ((u8.1 30), .inl ((u8.2 17), 3661, .inl (fun _ => 0))), ((u8.1 31), .inl ((u8.2 18), 121, .inl (fun _ => 0))), ((u8.1 32), .inl ((u8.2 19), 61, .inl (fun _ => 0))), ((u8.1 33), .inl ((u8.2 20), 8, .inr (.inl (fun _ => 0)))), ((u8.1 34), .inl ((u8.2 21), 4, .inl (fun _ => 0))), ((u8.1 35), .inl ((u8.2 22), 61, .inl (fun _ => 0)))] := hD
  have hK : va_K D vwCl [((u8.2 0), .byte), ((u8.2 1), .object "SumBench$Law"), ((u8.2 2), .int), ((u8.2 3), .long), ((u8.2 4), .long), ((u8.2 5), .long), ((u8.2 6), .int), ((u8.2 7), .int), ((u8.2 8), .int), ((u8.2 9), .int), ((u8.2 10), .long), ((u8.2 11), .int), ((u8.2 12), .int), ((u8.2 13), .int), ((u8.2 14), .int), ((u8.2 15), .int), ((u8.2 16), .long), ((u8.2 17), .int), ((u8.2 18), .int), ((u8.2 19), .int), ((u8.2 20), .long), ((u8.2 21), .int), ((u8.2 22), .int)] s := hK
  refine W.widen (k := 37) (n := 12539) (by decide) (by decide) ?_
  refine lv_astore_n (pc := 7) (lv' := [(1, .ref x0), (0, .ref b)]) hx hb dL_law_7 rfl hl (by decide) rfl (fun ls hl => ?_)
  refine va_new (pc := 8) (ci := 9) (fs := [.int 0, .null, .int 0, .int 0, .int 0, .int 0, .int 0, .null, .null, .null, .null, .null, .null, .int 0, .null, .null, .int 0, .int 0, .int 0, .int 0, .null, .null, .null, .int 0, .int 0, .int 0, .null, .null, .null, .int 0, .null, .null]) (C := RX9) (T := TX9) (N := 32) hx hb hts inTG_X9 tyX9 tyX9_ok hown (hts _ (tg_i 976 (by decide +kernel) rfl)) (hts _ (tg_i 977 (by decide +kernel) rfl)) (hts _ (tg_i 10 (by decide +kernel) rfl)) hK hP hD hS hA rfl (fun j hj => by rcases (show j = 0 ∨ j = 1 ∨ j = 2 ∨ j = 3 ∨ j = 4 ∨ j = 5 ∨ j = 6 ∨ j = 7 ∨ j = 8 ∨ j = 9 ∨ j = 10 ∨ j = 11 ∨ j = 12 ∨ j = 13 ∨ j = 14 ∨ j = 15 ∨ j = 16 ∨ j = 17 ∨ j = 18 ∨ j = 19 ∨ j = 20 ∨ j = 21 ∨ j = 22 ∨ j = 23 ∨ j = 24 ∨ j = 25 ∨ j = 26 ∨ j = 27 ∨ j = 28 ∨ j = 29 ∨ j = 30 ∨ j = 31 by omega) with rfl | rfl | rfl | rfl | rfl | rfl | rfl | rfl | rfl | rfl | rfl | rfl | rfl | rfl | rfl | rfl | rfl | rfl | rfl | rfl | rfl | rfl | rfl | rfl | rfl | rfl | rfl | rfl | rfl | rfl | rfl | rfl <;> rfl) (Nat.le_of_ble_eq_true rfl) (Nat.le_of_ble_eq_true rfl) dL_law_8 (fun x1 H hP hD hS => ?_)
  have hP : va_P D vwCl [(x0, .inr (8, [.ref (u8.1 0), .ref (u8.1 2), .ref (u8.1 3), .ref (u8.1 14), .ref (u8.1 20), .ref (u8.1 23), .ref (u8.1 29), .ref (u8.1 33), .ref (u8.1 34), .int 0, .ref (u8.1 35), .int 0, .int 0])), ((u8.1 0), .inr (7, [.ref (u8.1 1), .int 0])), ((u8.1 1), .inl ((u8.2 0), 500, .inl (fun _ => 0))), ((u8.1 2), .inr (1, [.int 0, .int 20, .int 1, .int 20, .long 2097150])), ((u8.1 3), .inr (3, [.ref (u8.1 2), .ref (u8.1 4), .int 0, .ref (u8.1 5), .ref (u8.1 6), .ref (u8.1 7), .int 0])), ((u8.1 4), .inl ((u8.2 1), 6, .inr (.inr (.inr (.inr (va_up (va_up (va_up (va_up (va_up (va_up (fun _ => none) 0 (some (u8.1 8))) 1 (some (u8.1 9))) 2 (some (u8.1 10))) 3 (some (u8.1 11))) 4 (some (u8.1 12))) 5 (some (u8.1 13)))))))), ((u8.1 5), .inl ((u8.2 2), 4, .inl (fun _ => 0))), ((u8.1 6), .inl ((u8.2 3), 1081, .inr (.inl (fun _ => 0)))), ((u8.1 7), .inl ((u8.2 4), 3721, .inr (.inl (fun _ => 0)))), ((u8.1 8), .inr (2, [.int 3, .int 0, .int 1, .int 1, .int 1, .int 0])), ((u8.1 9), .inr (2, [.int 3, .int 0, .int 1, .int 1, .int 1, .int 0])), ((u8.1 10), .inr (2, [.int 3, .int 0, .int 1, .int 1, .int 1, .int 0])), ((u8.1 11), .inr (2, [.int 3, .int 0, .int 1, .int 1, .int 1, .int 0])), ((u8.1 12), .inr (2, [.int 3, .int 0, .int 1, .int 1, .int 1, .int 0])), ((u8.1 13), .inr (2, [.int 3, .int 0, .int 1, .int 1, .int 1, .int 0])), ((u8.1 14), .inr (4, [.ref (u8.1 2), .ref (u8.1 15), .int 0, .int (-1), .int 0, .ref (u8.1 16), .ref (u8.1 17), .ref (u8.1 18), .ref (u8.1 19)])), ((u8.1 15), .inl ((u8.2 5), 300, .inr (.inl (fun _ => 0)))), ((u8.1 16), .inl ((u8.2 6), 300, .inl (fun _ => 0))), ((u8.1 17), .inl ((u8.2 7), 300, .inl (fun _ => 0))), ((u8.1 18), .inl ((u8.2 8), 300, .inl (fun _ => 0))), ((u8.1 19), .inl ((u8.2 9), 300, .inl (fun _ => 0))), ((u8.1 20), .inr (6, [.ref (u8.1 2), .ref (u8.1 3), .ref (u8.1 14), .ref (u8.1 21), .ref (u8.1 22), .int 0, .int 2, .int 0, .long 0, .int (-1), .int 0, .int 0, .int 0, .int 0])), ((u8.1 21), .inl ((u8.2 10), 62, .inr (.inl (fun _ => 0)))), ((u8.1 22), .inl ((u8.2 11), 62, .inl (fun _ => 0))), ((u8.1 23), .inr (0, [.ref (u8.1 2), .ref (u8.1 3), .ref (u8.1 24), .ref (u8.1 25), .int 0, .ref (u8.1 26), .ref (u8.1 27), .ref (u8.1 28), .int 0])), ((u8.1 24), .inl ((u8.2 12), 488, .inl (fun _ => 0))), ((u8.1 25), .inl ((u8.2 13), 488, .inl (fun _ => 0))), ((u8.1 26), .inl ((u8.2 14), 61, .inl (fun _ => 0))), ((u8.1 27), .inl ((u8.2 15), 61, .inl (fun _ => 0))), ((u8.1 28), .inl ((u8.2 16), 488, .inr (.inl (fun _ => 0)))), ((u8.1 29), .inr (5, [.ref (u8.1 2), .ref (u8.1 30), .int 0, .long 0, .ref (u8.1 31), .ref (u8.1 32)])), ((u8.1 30), .inl ((u8.2 17), 3661, .inl (fun _ => 0))), ((u8.1 31), .inl ((u8.2 18), 121, .inl (fun _ => 0))), ((u8.1 32), .inl ((u8.2 19), 61, .inl (fun _ => 0))), ((u8.1 33), .inl ((u8.2 20), 8, .inr (.inl (fun _ => 0)))), ((u8.1 34), .inl ((u8.2 21), 4, .inl (fun _ => 0))), ((u8.1 35), .inl ((u8.2 22), 61, .inl (fun _ => 0))), (x1, .inr (9, [.int 0, .null, .int 0, .int 0, .int 0, .int 0, .int 0, .null, .null, .null, .null, .null, .null, .int 0, .null, .null, .int 0, .int 0, .int 0, .int 0, .null, .null, .null, .int 0, .int 0, .int 0, .null, .null, .null, .int 0, .null, .null]))] H := hP
  have hD : va_D (fun q : Nat => s.heap.size ≤ q) [(x0, .inr (8, [.ref (u8.1 0), .ref (u8.1 2), .ref (u8.1 3), .ref (u8.1 14), .ref (u8.1 20), .ref (u8.1 23), .ref (u8.1 29), .ref (u8.1 33), .ref (u8.1 34), .int 0, .ref (u8.1 35), .int 0, .int 0])), ((u8.1 0), .inr (7, [.ref (u8.1 1), .int 0])), ((u8.1 1), .inl ((u8.2 0), 500, .inl (fun _ => 0))), ((u8.1 2), .inr (1, [.int 0, .int 20, .int 1, .int 20, .long 2097150])), ((u8.1 3), .inr (3, [.ref (u8.1 2), .ref (u8.1 4), .int 0, .ref (u8.1 5), .ref (u8.1 6), .ref (u8.1 7), .int 0])), ((u8.1 4), .inl ((u8.2 1), 6, .inr (.inr (.inr (.inr (va_up (va_up (va_up (va_up (va_up (va_up (fun _ => none) 0 (some (u8.1 8))) 1 (some (u8.1 9))) 2 (some (u8.1 10))) 3 (some (u8.1 11))) 4 (some (u8.1 12))) 5 (some (u8.1 13)))))))), ((u8.1 5), .inl ((u8.2 2), 4, .inl (fun _ => 0))), ((u8.1 6), .inl ((u8.2 3), 1081, .inr (.inl (fun _ => 0)))), ((u8.1 7), .inl ((u8.2 4), 3721, .inr (.inl (fun _ => 0)))), ((u8.1 8), .inr (2, [.int 3, .int 0, .int 1, .int 1, .int 1, .int 0])), ((u8.1 9), .inr (2, [.int 3, .int 0, .int 1, .int 1, .int 1, .int 0])), ((u8.1 10), .inr (2, [.int 3, .int 0, .int 1, .int 1, .int 1, .int 0])), ((u8.1 11), .inr (2, [.int 3, .int 0, .int 1, .int 1, .int 1, .int 0])), ((u8.1 12), .inr (2, [.int 3, .int 0, .int 1, .int 1, .int 1, .int 0])), ((u8.1 13), .inr (2, [.int 3, .int 0, .int 1, .int 1, .int 1, .int 0])), ((u8.1 14), .inr (4, [.ref (u8.1 2), .ref (u8.1 15), .int 0, .int (-1), .int 0, .ref (u8.1 16), .ref (u8.1 17), .ref (u8.1 18), .ref (u8.1 19)])), ((u8.1 15), .inl ((u8.2 5), 300, .inr (.inl (fun _ => 0)))), ((u8.1 16), .inl ((u8.2 6), 300, .inl (fun _ => 0))), ((u8.1 17), .inl ((u8.2 7), 300, .inl (fun _ => 0))), ((u8.1 18), .inl ((u8.2 8), 300, .inl (fun _ => 0))), ((u8.1 19), .inl ((u8.2 9), 300, .inl (fun _ => 0))), ((u8.1 20), .inr (6, [.ref (u8.1 2), .ref (u8.1 3), .ref (u8.1 14), .ref (u8.1 21), .ref (u8.1 22), .int 0, .int 2, .int 0, .long 0, .int (-1), .int 0, .int 0, .int 0, .int 0])), ((u8.1 21), .inl ((u8.2 10), 62, .inr (.inl (fun _ => 0)))), ((u8.1 22), .inl ((u8.2 11), 62, .inl (fun _ => 0))), ((u8.1 23), .inr (0, [.ref (u8.1 2), .ref (u8.1 3), .ref (u8.1 24), .ref (u8.1 25), .int 0, .ref (u8.1 26), .ref (u8.1 27), .ref (u8.1 28), .int 0])), ((u8.1 24), .inl ((u8.2 12), 488, .inl (fun _ => 0))), ((u8.1 25), .inl ((u8.2 13), 488, .inl (fun _ => 0))), ((u8.1 26), .inl ((u8.2 14), 61, .inl (fun _ => 0))), ((u8.1 27), .inl ((u8.2 15), 61, .inl (fun _ => 0))), ((u8.1 28), .inl ((u8.2 16), 488, .inr (.inl (fun _ => 0)))), ((u8.1 29), .inr (5, [.ref (u8.1 2), .ref (u8.1 30), .int 0, .long 0, .ref (u8.1 31), .ref (u8.1 32)])), ((u8.1 30), .inl ((u8.2 17), 3661, .inl (fun _ => 0))), ((u8.1 31), .inl ((u8.2 18), 121, .inl (fun _ => 0))), ((u8.1 32), .inl ((u8.2 19), 61, .inl (fun _ => 0))), ((u8.1 33), .inl ((u8.2 20), 8, .inr (.inl (fun _ => 0)))), ((u8.1 34), .inl ((u8.2 21), 4, .inl (fun _ => 0))), ((u8.1 35), .inl ((u8.2 22), 61, .inl (fun _ => 0))), (x1, .inr (9, [.int 0, .null, .int 0, .int 0, .int 0, .int 0, .int 0, .null, .null, .null, .null, .null, .null, .int 0, .null, .null, .int 0, .int 0, .int 0, .int 0, .null, .null, .null, .int 0, .int 0, .int 0, .null, .null, .null, .int 0, .null, .null]))] := hD
  refine W.widen (k := 38) (n := 12571) (by decide) (by decide) ?_
  refine lv_dup (pc := 11) hx hb dL_law_11 rfl ?_
  have hPc := hP.sub (ws' := [(x1, .inr (9, [.int 0, .null, .int 0, .int 0, .int 0, .int 0, .int 0, .null, .null, .null, .null, .null, .null, .int 0, .null, .null, .int 0, .int 0, .int 0, .int 0, .null, .null, .null, .int 0, .int 0, .int 0, .null, .null, .null, .int 0, .null, .null]))]) [37] rfl
  have hDc := hD.sub (ws' := [(x1, .inr (9, [.int 0, .null, .int 0, .int 0, .int 0, .int 0, .int 0, .null, .null, .null, .null, .null, .null, .int 0, .null, .null, .int 0, .int 0, .int 0, .int 0, .null, .null, .null, .int 0, .int 0, .int 0, .null, .null, .null, .int 0, .null, .null]))]) [37] (by decide) rfl
  have hKc2 := hK.sub (tys' := []) [] rfl
  have hFc := va_free (wc := [(x1, .inr (9, [.int 0, .null, .int 0, .int 0, .int 0, .int 0, .int 0, .null, .null, .null, .null, .null, .null, .int 0, .null, .null, .int 0, .int 0, .int 0, .int 0, .null, .null, .null, .int 0, .int 0, .int 0, .null, .null, .null, .int 0, .null, .null]))]) hD hS hA [37] rfl
  refine va_callv (pc := 12) (va_runI (As := []) (rest := [.ref x1]) ⟨hx, hb, hml, hown, hts⟩ (iniX9 l D x1 H.size) (cwI 0 hts (tg_cons (tg_i 980 (by decide +kernel) rfl)) rfl rfl rfl (hts _ (tg_i 10 (by decide +kernel) rfl)) (hts _ (tg_i 978 (by decide +kernel) rfl)) (hts _ (tg_i 979 (by decide +kernel) rfl)) rfl (by decide +kernel) ⟨Nat.le_of_ble_eq_true rfl, Nat.le_of_ble_eq_true rfl⟩) ⟨ct_blind, fun U hU hW => ⟨rfl, by rw [hU], by rw [hU]; exact hPc, va_K.moved hW.alike hKc2, hDc.weaken (fun _ _ _ _ => trivial), NW.warm hW hN, va_AO.moved hW.alike hAO⟩⟩ rfl rfl hl.1 rfl (lv_room (Nat.le_of_ble_eq_true rfl)) dL_law_12 ⟨Nat.le_of_ble_eq_true rfl, Nat.le_of_ble_eq_true rfl⟩) hS (fun q _ h => hFc q h) hFc (fun u9 t H1 locs ht hvm hw hB hz1 hk1 hS => ?_)
  obtain ⟨hP1, hK1, hD1⟩ := hB
  rw [ht] at hP1
  have hK1 := va_K.moved hvm.symm hK1
  obtain ⟨hP, hD⟩ := va_join (wr := [(x0, .inr (8, [.ref (u8.1 0), .ref (u8.1 2), .ref (u8.1 3), .ref (u8.1 14), .ref (u8.1 20), .ref (u8.1 23), .ref (u8.1 29), .ref (u8.1 33), .ref (u8.1 34), .int 0, .ref (u8.1 35), .int 0, .int 0])), ((u8.1 0), .inr (7, [.ref (u8.1 1), .int 0])), ((u8.1 1), .inl ((u8.2 0), 500, .inl (fun _ => 0))), ((u8.1 2), .inr (1, [.int 0, .int 20, .int 1, .int 20, .long 2097150])), ((u8.1 3), .inr (3, [.ref (u8.1 2), .ref (u8.1 4), .int 0, .ref (u8.1 5), .ref (u8.1 6), .ref (u8.1 7), .int 0])), ((u8.1 4), .inl ((u8.2 1), 6, .inr (.inr (.inr (.inr (va_up (va_up (va_up (va_up (va_up (va_up (fun _ => none) 0 (some (u8.1 8))) 1 (some (u8.1 9))) 2 (some (u8.1 10))) 3 (some (u8.1 11))) 4 (some (u8.1 12))) 5 (some (u8.1 13)))))))), ((u8.1 5), .inl ((u8.2 2), 4, .inl (fun _ => 0))), ((u8.1 6), .inl ((u8.2 3), 1081, .inr (.inl (fun _ => 0)))), ((u8.1 7), .inl ((u8.2 4), 3721, .inr (.inl (fun _ => 0)))), ((u8.1 8), .inr (2, [.int 3, .int 0, .int 1, .int 1, .int 1, .int 0])), ((u8.1 9), .inr (2, [.int 3, .int 0, .int 1, .int 1, .int 1, .int 0])), ((u8.1 10), .inr (2, [.int 3, .int 0, .int 1, .int 1, .int 1, .int 0])), ((u8.1 11), .inr (2, [.int 3, .int 0, .int 1, .int 1, .int 1, .int 0])), ((u8.1 12), .inr (2, [.int 3, .int 0, .int 1, .int 1, .int 1, .int 0])), ((u8.1 13), .inr (2, [.int 3, .int 0, .int 1, .int 1, .int 1, .int 0])), ((u8.1 14), .inr (4, [.ref (u8.1 2), .ref (u8.1 15), .int 0, .int (-1), .int 0, .ref (u8.1 16), .ref (u8.1 17), .ref (u8.1 18), .ref (u8.1 19)])), ((u8.1 15), .inl ((u8.2 5), 300, .inr (.inl (fun _ => 0)))), ((u8.1 16), .inl ((u8.2 6), 300, .inl (fun _ => 0))), ((u8.1 17), .inl ((u8.2 7), 300, .inl (fun _ => 0))), ((u8.1 18), .inl ((u8.2 8), 300, .inl (fun _ => 0))), ((u8.1 19), .inl ((u8.2 9), 300, .inl (fun _ => 0))), ((u8.1 20), .inr (6, [.ref (u8.1 2), .ref (u8.1 3), .ref (u8.1 14), .ref (u8.1 21), .ref (u8.1 22), .int 0, .int 2, .int 0, .long 0, .int (-1), .int 0, .int 0, .int 0, .int 0])), ((u8.1 21), .inl ((u8.2 10), 62, .inr (.inl (fun _ => 0)))), ((u8.1 22), .inl ((u8.2 11), 62, .inl (fun _ => 0))), ((u8.1 23), .inr (0, [.ref (u8.1 2), .ref (u8.1 3), .ref (u8.1 24), .ref (u8.1 25), .int 0, .ref (u8.1 26), .ref (u8.1 27), .ref (u8.1 28), .int 0])), ((u8.1 24), .inl ((u8.2 12), 488, .inl (fun _ => 0))), ((u8.1 25), .inl ((u8.2 13), 488, .inl (fun _ => 0))), ((u8.1 26), .inl ((u8.2 14), 61, .inl (fun _ => 0))), ((u8.1 27), .inl ((u8.2 15), 61, .inl (fun _ => 0))), ((u8.1 28), .inl ((u8.2 16), 488, .inr (.inl (fun _ => 0)))), ((u8.1 29), .inr (5, [.ref (u8.1 2), .ref (u8.1 30), .int 0, .long 0, .ref (u8.1 31), .ref (u8.1 32)])), ((u8.1 30), .inl ((u8.2 17), 3661, .inl (fun _ => 0))), ((u8.1 31), .inl ((u8.2 18), 121, .inl (fun _ => 0))), ((u8.1 32), .inl ((u8.2 19), 61, .inl (fun _ => 0))), ((u8.1 33), .inl ((u8.2 20), 8, .inr (.inl (fun _ => 0)))), ((u8.1 34), .inl ((u8.2 21), 4, .inl (fun _ => 0))), ((u8.1 35), .inl ((u8.2 22), 61, .inl (fun _ => 0)))]) (w1 := [(x1, .inr (9, [.int 0, .ref (u9.1 0), .int 0, .int 0, .int 20, .int 20, .int 1, .ref (u9.1 1), .ref (u9.1 2), .ref (u9.1 3), .ref (u9.1 4), .ref (u9.1 5), .ref (u9.1 6), .int 0, .ref (u9.1 7), .ref (u9.1 8), .int 0, .int 0, .int 0, .int 0, .ref (u9.1 9), .ref (u9.1 10), .ref (u9.1 11), .int 0, .int 0, .int 0, .ref (u9.1 12), .ref (u9.1 13), .ref (u9.1 14), .int 0, .ref (u9.1 15), .ref (u9.1 16)])), ((u9.1 0), .inl ((u9.2 0), 500, .inl (fun _ => 0))), ((u9.1 1), .inl ((u9.2 1), 1020, .inl (fun _ => 0))), ((u9.1 2), .inl ((u9.2 2), 6, .inl (fun _ => 0))), ((u9.1 3), .inl ((u9.2 3), 6, .inl (fun _ => 0))), ((u9.1 4), .inl ((u9.2 4), 6, .inl (fun _ => 0))), ((u9.1 5), .inl ((u9.2 5), 6, .inl (fun _ => 0))), ((u9.1 6), .inl ((u9.2 6), 6, .inl (fun _ => 0))), ((u9.1 7), .inl ((u9.2 7), 4, .inl (fun _ => 0))), ((u9.1 8), .inl ((u9.2 8), 4, .inl (fun _ => 0))), ((u9.1 9), .inl ((u9.2 9), 61, .inl (fun _ => 0))), ((u9.1 10), .inl ((u9.2 10), 600, .inl (fun _ => 0))), ((u9.1 11), .inl ((u9.2 11), 18000, .inl (fun _ => 0))), ((u9.1 12), .inl ((u9.2 12), 60, .inl (fun _ => 0))), ((u9.1 13), .inl ((u9.2 13), 61, .inl (fun _ => 0))), ((u9.1 14), .inl ((u9.2 14), 62, .inl (fun _ => 0))), ((u9.1 15), .inl ((u9.2 15), 3700, .inl (fun _ => 0))), ((u9.1 16), .inl ((u9.2 16), 60, .inl (fun _ => 0)))]) hP hD [37] [0, 1, 2, 3, 4, 5, 6, 7, 8, 9, 10, 11, 12, 13, 14, 15, 16, 17, 18, 19, 20, 21, 22, 23, 24, 25, 26, 27, 28, 29, 30, 31, 32, 33, 34, 35, 36] rfl rfl (by decide) (by decide) hk1 hFc hP1 hD1
  have hK := hK.app hK1
  generalize H1 = H at hP hS ⊢
  have hP : va_P D vwCl [(x0, .inr (8, [.ref (u8.1 0), .ref (u8.1 2), .ref (u8.1 3), .ref (u8.1 14), .ref (u8.1 20), .ref (u8.1 23), .ref (u8.1 29), .ref (u8.1 33), .ref (u8.1 34), .int 0, .ref (u8.1 35), .int 0, .int 0])), ((u8.1 0), .inr (7, [.ref (u8.1 1), .int 0])), ((u8.1 1), .inl ((u8.2 0), 500, .inl (fun _ => 0))), ((u8.1 2), .inr (1, [.int 0, .int 20, .int 1, .int 20, .long 2097150])), ((u8.1 3), .inr (3, [.ref (u8.1 2), .ref (u8.1 4), .int 0, .ref (u8.1 5), .ref (u8.1 6), .ref (u8.1 7), .int 0])), ((u8.1 4), .inl ((u8.2 1), 6, .inr (.inr (.inr (.inr (va_up (va_up (va_up (va_up (va_up (va_up (fun _ => none) 0 (some (u8.1 8))) 1 (some (u8.1 9))) 2 (some (u8.1 10))) 3 (some (u8.1 11))) 4 (some (u8.1 12))) 5 (some (u8.1 13)))))))), ((u8.1 5), .inl ((u8.2 2), 4, .inl (fun _ => 0))), ((u8.1 6), .inl ((u8.2 3), 1081, .inr (.inl (fun _ => 0)))), ((u8.1 7), .inl ((u8.2 4), 3721, .inr (.inl (fun _ => 0)))), ((u8.1 8), .inr (2, [.int 3, .int 0, .int 1, .int 1, .int 1, .int 0])), ((u8.1 9), .inr (2, [.int 3, .int 0, .int 1, .int 1, .int 1, .int 0])), ((u8.1 10), .inr (2, [.int 3, .int 0, .int 1, .int 1, .int 1, .int 0])), ((u8.1 11), .inr (2, [.int 3, .int 0, .int 1, .int 1, .int 1, .int 0])), ((u8.1 12), .inr (2, [.int 3, .int 0, .int 1, .int 1, .int 1, .int 0])), ((u8.1 13), .inr (2, [.int 3, .int 0, .int 1, .int 1, .int 1, .int 0])), ((u8.1 14), .inr (4, [.ref (u8.1 2), .ref (u8.1 15), .int 0, .int (-1), .int 0, .ref (u8.1 16), .ref (u8.1 17), .ref (u8.1 18), .ref (u8.1 19)])), ((u8.1 15), .inl ((u8.2 5), 300, .inr (.inl (fun _ => 0)))), ((u8.1 16), .inl ((u8.2 6), 300, .inl (fun _ => 0))), ((u8.1 17), .inl ((u8.2 7), 300, .inl (fun _ => 0))), ((u8.1 18), .inl ((u8.2 8), 300, .inl (fun _ => 0))), ((u8.1 19), .inl ((u8.2 9), 300, .inl (fun _ => 0))), ((u8.1 20), .inr (6, [.ref (u8.1 2), .ref (u8.1 3), .ref (u8.1 14), .ref (u8.1 21), .ref (u8.1 22), .int 0, .int 2, .int 0, .long 0, .int (-1), .int 0, .int 0, .int 0, .int 0])), ((u8.1 21), .inl ((u8.2 10), 62, .inr (.inl (fun _ => 0)))), ((u8.1 22), .inl ((u8.2 11), 62, .inl (fun _ => 0))), ((u8.1 23), .inr (0, [.ref (u8.1 2), .ref (u8.1 3), .ref (u8.1 24), .ref (u8.1 25), .int 0, .ref (u8.1 26), .ref (u8.1 27), .ref (u8.1 28), .int 0])), ((u8.1 24), .inl ((u8.2 12), 488, .inl (fun _ => 0))), ((u8.1 25), .inl ((u8.2 13), 488, .inl (fun _ => 0))), ((u8.1 26), .inl ((u8.2 14), 61, .inl (fun _ => 0))), ((u8.1 27), .inl ((u8.2 15), 61, .inl (fun _ => 0))), ((u8.1 28), .inl ((u8.2 16), 488, .inr (.inl (fun _ => 0)))), ((u8.1 29), .inr (5, [.ref (u8.1 2), .ref (u8.1 30), .int 0, .long 0, .ref (u8.1 31), .ref (u8.1 32)])), ((u8.1 30), .inl ((u8.2 17), 3661, .inl (fun _ => 0))), ((u8.1 31), .inl ((u8.2 18), 121, .inl (fun _ => 0))), ((u8.1 32), .inl ((u8.2 19), 61, .inl (fun _ => 0))), ((u8.1 33), .inl ((u8.2 20), 8, .inr (.inl (fun _ => 0)))), ((u8.1 34), .inl ((u8.2 21), 4, .inl (fun _ => 0))), ((u8.1 35), .inl ((u8.2 22), 61, .inl (fun _ => 0))), (x1, .inr (9, [.int 0, .ref (u9.1 0), .int 0, .int 0, .int 20, .int 20, .int 1, .ref (u9.1 1), .ref (u9.1 2), .ref (u9.1 3), .ref (u9.1 4), .ref (u9.1 5), .ref (u9.1 6), .int 0, .ref (u9.1 7), .ref (u9.1 8), .int 0, .int 0, .int 0, .int 0, .ref (u9.1 9), .ref (u9.1 10), .ref (u9.1 11), .int 0, .int 0, .int 0, .ref (u9.1 12), .ref (u9.1 13), .ref (u9.1 14), .int 0, .ref (u9.1 15), .ref (u9.1 16)])), ((u9.1 0), .inl ((u9.2 0), 500, .inl (fun _ => 0))), ((u9.1 1), .inl ((u9.2 1), 1020, .inl (fun _ => 0))), ((u9.1 2), .inl ((u9.2 2), 6, .inl (fun _ => 0))), ((u9.1 3), .inl ((u9.2 3), 6, .inl (fun _ => 0))), ((u9.1 4), .inl ((u9.2 4), 6, .inl (fun _ => 0))), ((u9.1 5), .inl ((u9.2 5), 6, .inl (fun _ => 0))), ((u9.1 6), .inl ((u9.2 6), 6, .inl (fun _ => 0))), ((u9.1 7), .inl ((u9.2 7), 4, .inl (fun _ => 0))), ((u9.1 8), .inl ((u9.2 8), 4, .inl (fun _ => 0))), ((u9.1 9), .inl ((u9.2 9), 61, .inl (fun _ => 0))), ((u9.1 10), .inl ((u9.2 10), 600, .inl (fun _ => 0))), ((u9.1 11), .inl ((u9.2 11), 18000, .inl (fun _ => 0))), ((u9.1 12), .inl ((u9.2 12), 60, .inl (fun _ => 0))), ((u9.1 13), .inl ((u9.2 13), 61, .inl (fun _ => 0))), ((u9.1 14), .inl ((u9.2 14), 62, .inl (fun _ => 0))), ((u9.1 15), .inl ((u9.2 15), 3700, .inl (fun _ => 0))), ((u9.1 16), .inl ((u9.2 16), 60, .inl (fun _ => 0)))] H := hP
  have hD : va_D (fun q : Nat => s.heap.size ≤ q) [(x0, .inr (8, [.ref (u8.1 0), .ref (u8.1 2), .ref (u8.1 3), .ref (u8.1 14), .ref (u8.1 20), .ref (u8.1 23), .ref (u8.1 29), .ref (u8.1 33), .ref (u8.1 34), .int 0, .ref (u8.1 35), .int 0, .int 0])), ((u8.1 0), .inr (7, [.ref (u8.1 1), .int 0])), ((u8.1 1), .inl ((u8.2 0), 500, .inl (fun _ => 0))), ((u8.1 2), .inr (1, [.int 0, .int 20, .int 1, .int 20, .long 2097150])), ((u8.1 3), .inr (3, [.ref (u8.1 2), .ref (u8.1 4), .int 0, .ref (u8.1 5), .ref (u8.1 6), .ref (u8.1 7), .int 0])), ((u8.1 4), .inl ((u8.2 1), 6, .inr (.inr (.inr (.inr (va_up (va_up (va_up (va_up (va_up (va_up (fun _ => none) 0 (some (u8.1 8))) 1 (some (u8.1 9))) 2 (some (u8.1 10))) 3 (some (u8.1 11))) 4 (some (u8.1 12))) 5 (some (u8.1 13)))))))), ((u8.1 5), .inl ((u8.2 2), 4, .inl (fun _ => 0))), ((u8.1 6), .inl ((u8.2 3), 1081, .inr (.inl (fun _ => 0)))), ((u8.1 7), .inl ((u8.2 4), 3721, .inr (.inl (fun _ => 0)))), ((u8.1 8), .inr (2, [.int 3, .int 0, .int 1, .int 1, .int 1, .int 0])), ((u8.1 9), .inr (2, [.int 3, .int 0, .int 1, .int 1, .int 1, .int 0])), ((u8.1 10), .inr (2, [.int 3, .int 0, .int 1, .int 1, .int 1, .int 0])), ((u8.1 11), .inr (2, [.int 3, .int 0, .int 1, .int 1, .int 1, .int 0])), ((u8.1 12), .inr (2, [.int 3, .int 0, .int 1, .int 1, .int 1, .int 0])), ((u8.1 13), .inr (2, [.int 3, .int 0, .int 1, .int 1, .int 1, .int 0])), ((u8.1 14), .inr (4, [.ref (u8.1 2), .ref (u8.1 15), .int 0, .int (-1), .int 0, .ref (u8.1 16), .ref (u8.1 17), .ref (u8.1 18), .ref (u8.1 19)])), ((u8.1 15), .inl ((u8.2 5), 300, .inr (.inl (fun _ => 0)))), ((u8.1 16), .inl ((u8.2 6), 300, .inl (fun _ => 0))), ((u8.1 17), .inl ((u8.2 7), 300, .inl (fun _ => 0))), ((u8.1 18), .inl ((u8.2 8), 300, .inl (fun _ => 0))), ((u8.1 19), .inl ((u8.2 9), 300, .inl (fun _ => 0))), ((u8.1 20), .inr (6, [.ref (u8.1 2), .ref (u8.1 3), .ref (u8.1 14), .ref (u8.1 21), .ref (u8.1 22), .int 0, .int 2, .int 0, .long 0, .int (-1), .int 0, .int 0, .int 0, .int 0])), ((u8.1 21), .inl ((u8.2 10), 62, .inr (.inl (fun _ => 0)))), ((u8.1 22), .inl ((u8.2 11), 62, .inl (fun _ => 0))), ((u8.1 23), .inr (0, [.ref (u8.1 2), .ref (u8.1 3), .ref (u8.1 24), .ref (u8.1 25), .int 0, .ref (u8.1 26), .ref (u8.1 27), .ref (u8.1 28), .int 0])), ((u8.1 24), .inl ((u8.2 12), 488, .inl (fun _ => 0))), ((u8.1 25), .inl ((u8.2 13), 488, .inl (fun _ => 0))), ((u8.1 26), .inl ((u8.2 14), 61, .inl (fun _ => 0))), ((u8.1 27), .inl ((u8.2 15), 61, .inl (fun _ => 0))), ((u8.1 28), .inl ((u8.2 16), 488, .inr (.inl (fun _ => 0)))), ((u8.1 29), .inr (5, [.ref (u8.1 2), .ref (u8.1 30), .int 0, .long 0, .ref (u8.1 31), .ref (u8.1 32)])), ((u8.1 30), .inl ((u8.2 17), 3661, .inl (fun _ => 0))), ((u8.1 31), .inl ((u8.2 18), 121, .inl (fun _ => 0))), ((u8.1 32), .inl ((u8.2 19), 61, .inl (fun _ => 0))), ((u8.1 33), .inl ((u8.2 20), 8, .inr (.inl (fun _ => 0)))), ((u8.1 34), .inl ((u8.2 21), 4, .inl (fun _ => 0))), ((u8.1 35), .inl ((u8.2 22), 61, .inl (fun _ => 0))), (x1, .inr (9, [.int 0, .ref (u9.1 0), .int 0, .int 0, .int 20, .int 20, .int 1, .ref (u9.1 1), .ref (u9.1 2), .ref (u9.1 3), .ref (u9.1 4), .ref (u9.1 5), .ref (u9.1 6), .int 0, .ref (u9.1 7), .ref (u9.1 8), .int 0, .int 0, .int 0, .int 0, .ref (u9.1 9), .ref (u9.1 10), .ref (u9.1 11), .int 0, .int 0, .int 0, .ref (u9.1 12), .ref (u9.1 13), .ref (u9.1 14), .int 0, .ref (u9.1 15), .ref (u9.1 16)])), ((u9.1 0), .inl ((u9.2 0), 500, .inl (fun _ => 0))), ((u9.1 1), .inl ((u9.2 1), 1020, .inl (fun _ => 0))), ((u9.1 2), .inl ((u9.2 2), 6, .inl (fun _ => 0))), ((u9.1 3), .inl ((u9.2 3), 6, .inl (fun _ => 0))), ((u9.1 4), .inl ((u9.2 4), 6, .inl (fun _ => 0))), ((u9.1 5), .inl ((u9.2 5), 6, .inl (fun _ => 0))), ((u9.1 6), .inl ((u9.2 6), 6, .inl (fun _ => 0))), ((u9.1 7), .inl ((u9.2 7), 4, .inl (fun _ => 0))), ((u9.1 8), .inl ((u9.2 8), 4, .inl (fun _ => 0))), ((u9.1 9), .inl ((u9.2 9), 61, .inl (fun _ => 0))), ((u9.1 10), .inl ((u9.2 10), 600, .inl (fun _ => 0))), ((u9.1 11), .inl ((u9.2 11), 18000, .inl (fun _ => 0))), ((u9.1 12), .inl ((u9.2 12), 60, .inl (fun _ => 0))), ((u9.1 13), .inl ((u9.2 13), 61, .inl (fun _ => 0))), ((u9.1 14), .inl ((u9.2 14), 62, .inl (fun _ => 0))), ((u9.1 15), .inl ((u9.2 15), 3700, .inl (fun _ => 0))), ((u9.1 16), .inl ((u9.2 16), 60, .inl (fun _ => 0)))] := hD
  have hK : va_K D vwCl [((u8.2 0), .byte), ((u8.2 1), .object "SumBench$Law"), ((u8.2 2), .int), ((u8.2 3), .long), ((u8.2 4), .long), ((u8.2 5), .long), ((u8.2 6), .int), ((u8.2 7), .int), ((u8.2 8), .int), ((u8.2 9), .int), ((u8.2 10), .long), ((u8.2 11), .int), ((u8.2 12), .int), ((u8.2 13), .int), ((u8.2 14), .int), ((u8.2 15), .int), ((u8.2 16), .long), ((u8.2 17), .int), ((u8.2 18), .int), ((u8.2 19), .int), ((u8.2 20), .long), ((u8.2 21), .int), ((u8.2 22), .int), ((u9.2 0), .int), ((u9.2 1), .boolean), ((u9.2 2), .int), ((u9.2 3), .int), ((u9.2 4), .int), ((u9.2 5), .int), ((u9.2 6), .boolean), ((u9.2 7), .int), ((u9.2 8), .int), ((u9.2 9), .int), ((u9.2 10), .int), ((u9.2 11), .boolean), ((u9.2 12), .int), ((u9.2 13), .int), ((u9.2 14), .int), ((u9.2 15), .int), ((u9.2 16), .boolean)] s := hK
  refine W.widen (k := 55) (n := 36733) (by decide) (by decide) ?_
  refine lv_astore_n (pc := 15) (lv' := [(2, .ref x1), (1, .ref x0), (0, .ref b)]) hx hb dL_law_15 rfl hl (by decide) rfl (fun ls hl => ?_)
  refine lv_iconst (pc := 16) (v := 1) hx hb dL_law_16 (by decide) ?_
  refine va_newa (pc := 17) (atype := .long) (ty := .long) (N' := 1) (a0 := (1, .inr (.inl (fun _ => 0)))) hx hb (hts _ (tg_i 135 (by decide +kernel) rfl)) rfl hK hP hD hS hA (fun cA => rfl) (by decide) (by decide) (by decide) (Nat.le_of_ble_eq_true rfl) (Nat.le_of_ble_eq_true rfl) dL_law_17 (fun x2 cx H hK hP hD hS => ?_)
  have hP : va_P D vwCl [(x0, .inr (8, [.ref (u8.1 0), .ref (u8.1 2), .ref (u8.1 3), .ref (u8.1 14), .ref (u8.1 20), .ref (u8.1 23), .ref (u8.1 29), .ref (u8.1 33), .ref (u8.1 34), .int 0, .ref (u8.1 35), .int 0, .int 0])), ((u8.1 0), .inr (7, [.ref (u8.1 1), .int 0])), ((u8.1 1), .inl ((u8.2 0), 500, .inl (fun _ => 0))), ((u8.1 2), .inr (1, [.int 0, .int 20, .int 1, .int 20, .long 2097150])), ((u8.1 3), .inr (3, [.ref (u8.1 2), .ref (u8.1 4), .int 0, .ref (u8.1 5), .ref (u8.1 6), .ref (u8.1 7), .int 0])), ((u8.1 4), .inl ((u8.2 1), 6, .inr (.inr (.inr (.inr (va_up (va_up (va_up (va_up (va_up (va_up (fun _ => none) 0 (some (u8.1 8))) 1 (some (u8.1 9))) 2 (some (u8.1 10))) 3 (some (u8.1 11))) 4 (some (u8.1 12))) 5 (some (u8.1 13)))))))), ((u8.1 5), .inl ((u8.2 2), 4, .inl (fun _ => 0))), ((u8.1 6), .inl ((u8.2 3), 1081, .inr (.inl (fun _ => 0)))), ((u8.1 7), .inl ((u8.2 4), 3721, .inr (.inl (fun _ => 0)))), ((u8.1 8), .inr (2, [.int 3, .int 0, .int 1, .int 1, .int 1, .int 0])), ((u8.1 9), .inr (2, [.int 3, .int 0, .int 1, .int 1, .int 1, .int 0])), ((u8.1 10), .inr (2, [.int 3, .int 0, .int 1, .int 1, .int 1, .int 0])), ((u8.1 11), .inr (2, [.int 3, .int 0, .int 1, .int 1, .int 1, .int 0])), ((u8.1 12), .inr (2, [.int 3, .int 0, .int 1, .int 1, .int 1, .int 0])), ((u8.1 13), .inr (2, [.int 3, .int 0, .int 1, .int 1, .int 1, .int 0])), ((u8.1 14), .inr (4, [.ref (u8.1 2), .ref (u8.1 15), .int 0, .int (-1), .int 0, .ref (u8.1 16), .ref (u8.1 17), .ref (u8.1 18), .ref (u8.1 19)])), ((u8.1 15), .inl ((u8.2 5), 300, .inr (.inl (fun _ => 0)))), ((u8.1 16), .inl ((u8.2 6), 300, .inl (fun _ => 0))), ((u8.1 17), .inl ((u8.2 7), 300, .inl (fun _ => 0))), ((u8.1 18), .inl ((u8.2 8), 300, .inl (fun _ => 0))), ((u8.1 19), .inl ((u8.2 9), 300, .inl (fun _ => 0))), ((u8.1 20), .inr (6, [.ref (u8.1 2), .ref (u8.1 3), .ref (u8.1 14), .ref (u8.1 21), .ref (u8.1 22), .int 0, .int 2, .int 0, .long 0, .int (-1), .int 0, .int 0, .int 0, .int 0])), ((u8.1 21), .inl ((u8.2 10), 62, .inr (.inl (fun _ => 0)))), ((u8.1 22), .inl ((u8.2 11), 62, .inl (fun _ => 0))), ((u8.1 23), .inr (0, [.ref (u8.1 2), .ref (u8.1 3), .ref (u8.1 24), .ref (u8.1 25), .int 0, .ref (u8.1 26), .ref (u8.1 27), .ref (u8.1 28), .int 0])), ((u8.1 24), .inl ((u8.2 12), 488, .inl (fun _ => 0))), ((u8.1 25), .inl ((u8.2 13), 488, .inl (fun _ => 0))), ((u8.1 26), .inl ((u8.2 14), 61, .inl (fun _ => 0))), ((u8.1 27), .inl ((u8.2 15), 61, .inl (fun _ => 0))), ((u8.1 28), .inl ((u8.2 16), 488, .inr (.inl (fun _ => 0)))), ((u8.1 29), .inr (5, [.ref (u8.1 2), .ref (u8.1 30), .int 0, .long 0, .ref (u8.1 31), .ref (u8.1 32)])), ((u8.1 30), .inl ((u8.2 17), 3661, .inl (fun _ => 0))), ((u8.1 31), .inl ((u8.2 18), 121, .inl (fun _ => 0))), ((u8.1 32), .inl ((u8.2 19), 61, .inl (fun _ => 0))), ((u8.1 33), .inl ((u8.2 20), 8, .inr (.inl (fun _ => 0)))), ((u8.1 34), .inl ((u8.2 21), 4, .inl (fun _ => 0))), ((u8.1 35), .inl ((u8.2 22), 61, .inl (fun _ => 0))), (x1, .inr (9, [.int 0, .ref (u9.1 0), .int 0, .int 0, .int 20, .int 20, .int 1, .ref (u9.1 1), .ref (u9.1 2), .ref (u9.1 3), .ref (u9.1 4), .ref (u9.1 5), .ref (u9.1 6), .int 0, .ref (u9.1 7), .ref (u9.1 8), .int 0, .int 0, .int 0, .int 0, .ref (u9.1 9), .ref (u9.1 10), .ref (u9.1 11), .int 0, .int 0, .int 0, .ref (u9.1 12), .ref (u9.1 13), .ref (u9.1 14), .int 0, .ref (u9.1 15), .ref (u9.1 16)])), ((u9.1 0), .inl ((u9.2 0), 500, .inl (fun _ => 0))), ((u9.1 1), .inl ((u9.2 1), 1020, .inl (fun _ => 0))), ((u9.1 2), .inl ((u9.2 2), 6, .inl (fun _ => 0))), ((u9.1 3), .inl ((u9.2 3), 6, .inl (fun _ => 0))), ((u9.1 4), .inl ((u9.2 4), 6, .inl (fun _ => 0))), ((u9.1 5), .inl ((u9.2 5), 6, .inl (fun _ => 0))), ((u9.1 6), .inl ((u9.2 6), 6, .inl (fun _ => 0))), ((u9.1 7), .inl ((u9.2 7), 4, .inl (fun _ => 0))), ((u9.1 8), .inl ((u9.2 8), 4, .inl (fun _ => 0))), ((u9.1 9), .inl ((u9.2 9), 61, .inl (fun _ => 0))), ((u9.1 10), .inl ((u9.2 10), 600, .inl (fun _ => 0))), ((u9.1 11), .inl ((u9.2 11), 18000, .inl (fun _ => 0))), ((u9.1 12), .inl ((u9.2 12), 60, .inl (fun _ => 0))), ((u9.1 13), .inl ((u9.2 13), 61, .inl (fun _ => 0))), ((u9.1 14), .inl ((u9.2 14), 62, .inl (fun _ => 0))), ((u9.1 15), .inl ((u9.2 15), 3700, .inl (fun _ => 0))), ((u9.1 16), .inl ((u9.2 16), 60, .inl (fun _ => 0))), (x2, .inl (cx, 1, .inr (.inl (fun _ => 0))))] H := hP
  have hD : va_D (fun q : Nat => s.heap.size ≤ q) [(x0, .inr (8, [.ref (u8.1 0), .ref (u8.1 2), .ref (u8.1 3), .ref (u8.1 14), .ref (u8.1 20), .ref (u8.1 23), .ref (u8.1 29), .ref (u8.1 33), .ref (u8.1 34), .int 0, .ref (u8.1 35), .int 0, .int 0])), ((u8.1 0), .inr (7, [.ref (u8.1 1), .int 0])), ((u8.1 1), .inl ((u8.2 0), 500, .inl (fun _ => 0))), ((u8.1 2), .inr (1, [.int 0, .int 20, .int 1, .int 20, .long 2097150])), ((u8.1 3), .inr (3, [.ref (u8.1 2), .ref (u8.1 4), .int 0, .ref (u8.1 5), .ref (u8.1 6), .ref (u8.1 7), .int 0])), ((u8.1 4), .inl ((u8.2 1), 6, .inr (.inr (.inr (.inr (va_up (va_up (va_up (va_up (va_up (va_up (fun _ => none) 0 (some (u8.1 8))) 1 (some (u8.1 9))) 2 (some (u8.1 10))) 3 (some (u8.1 11))) 4 (some (u8.1 12))) 5 (some (u8.1 13)))))))), ((u8.1 5), .inl ((u8.2 2), 4, .inl (fun _ => 0))), ((u8.1 6), .inl ((u8.2 3), 1081, .inr (.inl (fun _ => 0)))), ((u8.1 7), .inl ((u8.2 4), 3721, .inr (.inl (fun _ => 0)))), ((u8.1 8), .inr (2, [.int 3, .int 0, .int 1, .int 1, .int 1, .int 0])), ((u8.1 9), .inr (2, [.int 3, .int 0, .int 1, .int 1, .int 1, .int 0])), ((u8.1 10), .inr (2, [.int 3, .int 0, .int 1, .int 1, .int 1, .int 0])), ((u8.1 11), .inr (2, [.int 3, .int 0, .int 1, .int 1, .int 1, .int 0])), ((u8.1 12), .inr (2, [.int 3, .int 0, .int 1, .int 1, .int 1, .int 0])), ((u8.1 13), .inr (2, [.int 3, .int 0, .int 1, .int 1, .int 1, .int 0])), ((u8.1 14), .inr (4, [.ref (u8.1 2), .ref (u8.1 15), .int 0, .int (-1), .int 0, .ref (u8.1 16), .ref (u8.1 17), .ref (u8.1 18), .ref (u8.1 19)])), ((u8.1 15), .inl ((u8.2 5), 300, .inr (.inl (fun _ => 0)))), ((u8.1 16), .inl ((u8.2 6), 300, .inl (fun _ => 0))), ((u8.1 17), .inl ((u8.2 7), 300, .inl (fun _ => 0))), ((u8.1 18), .inl ((u8.2 8), 300, .inl (fun _ => 0))), ((u8.1 19), .inl ((u8.2 9), 300, .inl (fun _ => 0))), ((u8.1 20), .inr (6, [.ref (u8.1 2), .ref (u8.1 3), .ref (u8.1 14), .ref (u8.1 21), .ref (u8.1 22), .int 0, .int 2, .int 0, .long 0, .int (-1), .int 0, .int 0, .int 0, .int 0])), ((u8.1 21), .inl ((u8.2 10), 62, .inr (.inl (fun _ => 0)))), ((u8.1 22), .inl ((u8.2 11), 62, .inl (fun _ => 0))), ((u8.1 23), .inr (0, [.ref (u8.1 2), .ref (u8.1 3), .ref (u8.1 24), .ref (u8.1 25), .int 0, .ref (u8.1 26), .ref (u8.1 27), .ref (u8.1 28), .int 0])), ((u8.1 24), .inl ((u8.2 12), 488, .inl (fun _ => 0))), ((u8.1 25), .inl ((u8.2 13), 488, .inl (fun _ => 0))), ((u8.1 26), .inl ((u8.2 14), 61, .inl (fun _ => 0))), ((u8.1 27), .inl ((u8.2 15), 61, .inl (fun _ => 0))), ((u8.1 28), .inl ((u8.2 16), 488, .inr (.inl (fun _ => 0)))), ((u8.1 29), .inr (5, [.ref (u8.1 2), .ref (u8.1 30), .int 0, .long 0, .ref (u8.1 31), .ref (u8.1 32)])), ((u8.1 30), .inl ((u8.2 17), 3661, .inl (fun _ => 0))), ((u8.1 31), .inl ((u8.2 18), 121, .inl (fun _ => 0))), ((u8.1 32), .inl ((u8.2 19), 61, .inl (fun _ => 0))), ((u8.1 33), .inl ((u8.2 20), 8, .inr (.inl (fun _ => 0)))), ((u8.1 34), .inl ((u8.2 21), 4, .inl (fun _ => 0))), ((u8.1 35), .inl ((u8.2 22), 61, .inl (fun _ => 0))), (x1, .inr (9, [.int 0, .ref (u9.1 0), .int 0, .int 0, .int 20, .int 20, .int 1, .ref (u9.1 1), .ref (u9.1 2), .ref (u9.1 3), .ref (u9.1 4), .ref (u9.1 5), .ref (u9.1 6), .int 0, .ref (u9.1 7), .ref (u9.1 8), .int 0, .int 0, .int 0, .int 0, .ref (u9.1 9), .ref (u9.1 10), .ref (u9.1 11), .int 0, .int 0, .int 0, .ref (u9.1 12), .ref (u9.1 13), .ref (u9.1 14), .int 0, .ref (u9.1 15), .ref (u9.1 16)])), ((u9.1 0), .inl ((u9.2 0), 500, .inl (fun _ => 0))), ((u9.1 1), .inl ((u9.2 1), 1020, .inl (fun _ => 0))), ((u9.1 2), .inl ((u9.2 2), 6, .inl (fun _ => 0))), ((u9.1 3), .inl ((u9.2 3), 6, .inl (fun _ => 0))), ((u9.1 4), .inl ((u9.2 4), 6, .inl (fun _ => 0))), ((u9.1 5), .inl ((u9.2 5), 6, .inl (fun _ => 0))), ((u9.1 6), .inl ((u9.2 6), 6, .inl (fun _ => 0))), ((u9.1 7), .inl ((u9.2 7), 4, .inl (fun _ => 0))), ((u9.1 8), .inl ((u9.2 8), 4, .inl (fun _ => 0))), ((u9.1 9), .inl ((u9.2 9), 61, .inl (fun _ => 0))), ((u9.1 10), .inl ((u9.2 10), 600, .inl (fun _ => 0))), ((u9.1 11), .inl ((u9.2 11), 18000, .inl (fun _ => 0))), ((u9.1 12), .inl ((u9.2 12), 60, .inl (fun _ => 0))), ((u9.1 13), .inl ((u9.2 13), 61, .inl (fun _ => 0))), ((u9.1 14), .inl ((u9.2 14), 62, .inl (fun _ => 0))), ((u9.1 15), .inl ((u9.2 15), 3700, .inl (fun _ => 0))), ((u9.1 16), .inl ((u9.2 16), 60, .inl (fun _ => 0))), (x2, .inl (cx, 1, .inr (.inl (fun _ => 0))))] := hD
  have hK : va_K D vwCl [((u8.2 0), .byte), ((u8.2 1), .object "SumBench$Law"), ((u8.2 2), .int), ((u8.2 3), .long), ((u8.2 4), .long), ((u8.2 5), .long), ((u8.2 6), .int), ((u8.2 7), .int), ((u8.2 8), .int), ((u8.2 9), .int), ((u8.2 10), .long), ((u8.2 11), .int), ((u8.2 12), .int), ((u8.2 13), .int), ((u8.2 14), .int), ((u8.2 15), .int), ((u8.2 16), .long), ((u8.2 17), .int), ((u8.2 18), .int), ((u8.2 19), .int), ((u8.2 20), .long), ((u8.2 21), .int), ((u8.2 22), .int), ((u9.2 0), .int), ((u9.2 1), .boolean), ((u9.2 2), .int), ((u9.2 3), .int), ((u9.2 4), .int), ((u9.2 5), .int), ((u9.2 6), .boolean), ((u9.2 7), .int), ((u9.2 8), .int), ((u9.2 9), .int), ((u9.2 10), .int), ((u9.2 11), .boolean), ((u9.2 12), .int), ((u9.2 13), .int), ((u9.2 14), .int), ((u9.2 15), .int), ((u9.2 16), .boolean), (cx, .long)] s := hK
  refine W.widen (k := 56) (n := 36734) (by decide) (by decide) ?_
  refine lv_astore_n (pc := 19) (lv' := [(3, .ref x2), (2, .ref x1), (1, .ref x0), (0, .ref b)]) hx hb dL_law_19 rfl hl (by decide) rfl (fun ls hl => ?_)
  refine lv_iconst (pc := 20) (v := 0) hx hb dL_law_20 (by decide) ?_
  refine lv_istore (pc := 21) (lv' := [(4, .int 0), (3, .ref x2), (2, .ref x1), (1, .ref x0), (0, .ref b)]) hx hb dL_law_21 hl (by decide) rfl (fun ls hl => ?_)
  obtain ⟨ad, ead⟩ : ∃ z : Nat → Nat, z = (fun k => if k = 0 then x0 else if k = 1 then (u8.1 0) else if k = 2 then (u8.1 1) else if k = 3 then (u8.1 2) else if k = 4 then (u8.1 3) else if k = 5 then (u8.1 4) else if k = 6 then (u8.1 8) else if k = 7 then (u8.1 9) else if k = 8 then (u8.1 10) else if k = 9 then (u8.1 11) else if k = 10 then (u8.1 12) else if k = 11 then (u8.1 13) else if k = 12 then (u8.1 5) else if k = 13 then (u8.1 6) else if k = 14 then (u8.1 7) else if k = 15 then (u8.1 14) else if k = 16 then (u8.1 15) else if k = 17 then (u8.1 16) else if k = 18 then (u8.1 17) else if k = 19 then (u8.1 18) else if k = 20 then (u8.1 19) else if k = 21 then (u8.1 20) else if k = 22 then (u8.1 21) else if k = 23 then (u8.1 22) else if k = 24 then (u8.1 23) else if k = 25 then (u8.1 24) else if k = 26 then (u8.1 25) else if k = 27 then (u8.1 26) else if k = 28 then (u8.1 27) else if k = 29 then (u8.1 28) else if k = 30 then (u8.1 29) else if k = 31 then (u8.1 30) else if k = 32 then (u8.1 31) else if k = 33 then (u8.1 32) else if k = 34 then (u8.1 33) else if k = 35 then (u8.1 34) else if k = 36 then (u8.1 35) else if k = 37 then x1 else if k = 38 then (u9.1 0) else if k = 39 then (u9.1 1) else if k = 40 then (u9.1 2) else if k = 41 then (u9.1 3) else if k = 42 then (u9.1 4) else if k = 43 then (u9.1 5) else if k = 44 then (u9.1 6) else if k = 45 then (u9.1 7) else if k = 46 then (u9.1 8) else if k = 47 then (u9.1 9) else if k = 48 then (u9.1 10) else if k = 49 then (u9.1 11) else if k = 50 then (u9.1 12) else if k = 51 then (u9.1 13) else if k = 52 then (u9.1 14) else if k = 53 then (u9.1 15) else if k = 54 then (u9.1 16) else x2) := ⟨_, rfl⟩
  obtain ⟨ca, eca⟩ : ∃ z : Nat → ClassId, z = (fun k => if k = 2 then (u8.2 0) else if k = 5 then (u8.2 1) else if k = 12 then (u8.2 2) else if k = 13 then (u8.2 3) else if k = 14 then (u8.2 4) else if k = 16 then (u8.2 5) else if k = 17 then (u8.2 6) else if k = 18 then (u8.2 7) else if k = 19 then (u8.2 8) else if k = 20 then (u8.2 9) else if k = 22 then (u8.2 10) else if k = 23 then (u8.2 11) else if k = 25 then (u8.2 12) else if k = 26 then (u8.2 13) else if k = 27 then (u8.2 14) else if k = 28 then (u8.2 15) else if k = 29 then (u8.2 16) else if k = 31 then (u8.2 17) else if k = 32 then (u8.2 18) else if k = 33 then (u8.2 19) else if k = 34 then (u8.2 20) else if k = 35 then (u8.2 21) else if k = 36 then (u8.2 22) else if k = 38 then (u9.2 0) else if k = 39 then (u9.2 1) else if k = 40 then (u9.2 2) else if k = 41 then (u9.2 3) else if k = 42 then (u9.2 4) else if k = 43 then (u9.2 5) else if k = 44 then (u9.2 6) else if k = 45 then (u9.2 7) else if k = 46 then (u9.2 8) else if k = 47 then (u9.2 9) else if k = 48 then (u9.2 10) else if k = 49 then (u9.2 11) else if k = 50 then (u9.2 12) else if k = 51 then (u9.2 13) else if k = 52 then (u9.2 14) else if k = 53 then (u9.2 15) else if k = 54 then (u9.2 16) else cx) := ⟨_, rfl⟩
  have a0 : ad 0 = x0 := by rw [ead]; rfl
  have a1 : ad 1 = (u8.1 0) := by rw [ead]; rfl
  have a2 : ad 2 = (u8.1 1) := by rw [ead]; rfl
  have a3 : ad 3 = (u8.1 2) := by rw [ead]; rfl
  have a4 : ad 4 = (u8.1 3) := by rw [ead]; rfl
  have a5 : ad 5 = (u8.1 4) := by rw [ead]; rfl
  have a6 : ad 6 = (u8.1 8) := by rw [ead]; rfl
  have a7 : ad 7 = (u8.1 9) := by rw [ead]; rfl
  have a8 : ad 8 = (u8.1 10) := by rw [ead]; rfl
  have a9 : ad 9 = (u8.1 11) := by rw [ead]; rfl
  have a10 : ad 10 = (u8.1 12) := by rw [ead]; rfl
  have a11 : ad 11 = (u8.1 13) := by rw [ead]; rfl
  have a12 : ad 12 = (u8.1 5) := by rw [ead]; rfl
  have a13 : ad 13 = (u8.1 6) := by rw [ead]; rfl
  have a14 : ad 14 = (u8.1 7) := by rw [ead]; rfl
  have a15 : ad 15 = (u8.1 14) := by rw [ead]; rfl
  have a16 : ad 16 = (u8.1 15) := by rw [ead]; rfl
  have a17 : ad 17 = (u8.1 16) := by rw [ead]; rfl
  have a18 : ad 18 = (u8.1 17) := by rw [ead]; rfl
  have a19 : ad 19 = (u8.1 18) := by rw [ead]; rfl
  have a20 : ad 20 = (u8.1 19) := by rw [ead]; rfl
  have a21 : ad 21 = (u8.1 20) := by rw [ead]; rfl
  have a22 : ad 22 = (u8.1 21) := by rw [ead]; rfl
  have a23 : ad 23 = (u8.1 22) := by rw [ead]; rfl
  have a24 : ad 24 = (u8.1 23) := by rw [ead]; rfl
  have a25 : ad 25 = (u8.1 24) := by rw [ead]; rfl
  have a26 : ad 26 = (u8.1 25) := by rw [ead]; rfl
  have a27 : ad 27 = (u8.1 26) := by rw [ead]; rfl
  have a28 : ad 28 = (u8.1 27) := by rw [ead]; rfl
  have a29 : ad 29 = (u8.1 28) := by rw [ead]; rfl
  have a30 : ad 30 = (u8.1 29) := by rw [ead]; rfl
  have a31 : ad 31 = (u8.1 30) := by rw [ead]; rfl
  have a32 : ad 32 = (u8.1 31) := by rw [ead]; rfl
  have a33 : ad 33 = (u8.1 32) := by rw [ead]; rfl
  have a34 : ad 34 = (u8.1 33) := by rw [ead]; rfl
  have a35 : ad 35 = (u8.1 34) := by rw [ead]; rfl
  have a36 : ad 36 = (u8.1 35) := by rw [ead]; rfl
  have a37 : ad 37 = x1 := by rw [ead]; rfl
  have a38 : ad 38 = (u9.1 0) := by rw [ead]; rfl
  have a39 : ad 39 = (u9.1 1) := by rw [ead]; rfl
  have a40 : ad 40 = (u9.1 2) := by rw [ead]; rfl
  have a41 : ad 41 = (u9.1 3) := by rw [ead]; rfl
  have a42 : ad 42 = (u9.1 4) := by rw [ead]; rfl
  have a43 : ad 43 = (u9.1 5) := by rw [ead]; rfl
  have a44 : ad 44 = (u9.1 6) := by rw [ead]; rfl
  have a45 : ad 45 = (u9.1 7) := by rw [ead]; rfl
  have a46 : ad 46 = (u9.1 8) := by rw [ead]; rfl
  have a47 : ad 47 = (u9.1 9) := by rw [ead]; rfl
  have a48 : ad 48 = (u9.1 10) := by rw [ead]; rfl
  have a49 : ad 49 = (u9.1 11) := by rw [ead]; rfl
  have a50 : ad 50 = (u9.1 12) := by rw [ead]; rfl
  have a51 : ad 51 = (u9.1 13) := by rw [ead]; rfl
  have a52 : ad 52 = (u9.1 14) := by rw [ead]; rfl
  have a53 : ad 53 = (u9.1 15) := by rw [ead]; rfl
  have a54 : ad 54 = (u9.1 16) := by rw [ead]; rfl
  have a55 : ad 55 = x2 := by rw [ead]; rfl
  have k2 : ca 2 = (u8.2 0) := by rw [eca]; rfl
  have k5 : ca 5 = (u8.2 1) := by rw [eca]; rfl
  have k12 : ca 12 = (u8.2 2) := by rw [eca]; rfl
  have k13 : ca 13 = (u8.2 3) := by rw [eca]; rfl
  have k14 : ca 14 = (u8.2 4) := by rw [eca]; rfl
  have k16 : ca 16 = (u8.2 5) := by rw [eca]; rfl
  have k17 : ca 17 = (u8.2 6) := by rw [eca]; rfl
  have k18 : ca 18 = (u8.2 7) := by rw [eca]; rfl
  have k19 : ca 19 = (u8.2 8) := by rw [eca]; rfl
  have k20 : ca 20 = (u8.2 9) := by rw [eca]; rfl
  have k22 : ca 22 = (u8.2 10) := by rw [eca]; rfl
  have k23 : ca 23 = (u8.2 11) := by rw [eca]; rfl
  have k25 : ca 25 = (u8.2 12) := by rw [eca]; rfl
  have k26 : ca 26 = (u8.2 13) := by rw [eca]; rfl
  have k27 : ca 27 = (u8.2 14) := by rw [eca]; rfl
  have k28 : ca 28 = (u8.2 15) := by rw [eca]; rfl
  have k29 : ca 29 = (u8.2 16) := by rw [eca]; rfl
  have k31 : ca 31 = (u8.2 17) := by rw [eca]; rfl
  have k32 : ca 32 = (u8.2 18) := by rw [eca]; rfl
  have k33 : ca 33 = (u8.2 19) := by rw [eca]; rfl
  have k34 : ca 34 = (u8.2 20) := by rw [eca]; rfl
  have k35 : ca 35 = (u8.2 21) := by rw [eca]; rfl
  have k36 : ca 36 = (u8.2 22) := by rw [eca]; rfl
  have k38 : ca 38 = (u9.2 0) := by rw [eca]; rfl
  have k39 : ca 39 = (u9.2 1) := by rw [eca]; rfl
  have k40 : ca 40 = (u9.2 2) := by rw [eca]; rfl
  have k41 : ca 41 = (u9.2 3) := by rw [eca]; rfl
  have k42 : ca 42 = (u9.2 4) := by rw [eca]; rfl
  have k43 : ca 43 = (u9.2 5) := by rw [eca]; rfl
  have k44 : ca 44 = (u9.2 6) := by rw [eca]; rfl
  have k45 : ca 45 = (u9.2 7) := by rw [eca]; rfl
  have k46 : ca 46 = (u9.2 8) := by rw [eca]; rfl
  have k47 : ca 47 = (u9.2 9) := by rw [eca]; rfl
  have k48 : ca 48 = (u9.2 10) := by rw [eca]; rfl
  have k49 : ca 49 = (u9.2 11) := by rw [eca]; rfl
  have k50 : ca 50 = (u9.2 12) := by rw [eca]; rfl
  have k51 : ca 51 = (u9.2 13) := by rw [eca]; rfl
  have k52 : ca 52 = (u9.2 14) := by rw [eca]; rfl
  have k53 : ca 53 = (u9.2 15) := by rw [eca]; rfl
  have k54 : ca 54 = (u9.2 16) := by rw [eca]; rfl
  have k55 : ca 55 = cx := by rw [eca]; rfl
  have hpos : ∀ c ∈ csA, ∃ e, ([(x0, .inr (8, [.ref (u8.1 0), .ref (u8.1 2), .ref (u8.1 3), .ref (u8.1 14), .ref (u8.1 20), .ref (u8.1 23), .ref (u8.1 29), .ref (u8.1 33), .ref (u8.1 34), .int 0, .ref (u8.1 35), .int 0, .int 0])), ((u8.1 0), .inr (7, [.ref (u8.1 1), .int 0])), ((u8.1 1), .inl ((u8.2 0), 500, .inl (fun _ => 0))), ((u8.1 2), .inr (1, [.int 0, .int 20, .int 1, .int 20, .long 2097150])), ((u8.1 3), .inr (3, [.ref (u8.1 2), .ref (u8.1 4), .int 0, .ref (u8.1 5), .ref (u8.1 6), .ref (u8.1 7), .int 0])), ((u8.1 4), .inl ((u8.2 1), 6, .inr (.inr (.inr (.inr (va_up (va_up (va_up (va_up (va_up (va_up (fun _ => none) 0 (some (u8.1 8))) 1 (some (u8.1 9))) 2 (some (u8.1 10))) 3 (some (u8.1 11))) 4 (some (u8.1 12))) 5 (some (u8.1 13)))))))), ((u8.1 5), .inl ((u8.2 2), 4, .inl (fun _ => 0))), ((u8.1 6), .inl ((u8.2 3), 1081, .inr (.inl (fun _ => 0)))), ((u8.1 7), .inl ((u8.2 4), 3721, .inr (.inl (fun _ => 0)))), ((u8.1 8), .inr (2, [.int 3, .int 0, .int 1, .int 1, .int 1, .int 0])), ((u8.1 9), .inr (2, [.int 3, .int 0, .int 1, .int 1, .int 1, .int 0])), ((u8.1 10), .inr (2, [.int 3, .int 0, .int 1, .int 1, .int 1, .int 0])), ((u8.1 11), .inr (2, [.int 3, .int 0, .int 1, .int 1, .int 1, .int 0])), ((u8.1 12), .inr (2, [.int 3, .int 0, .int 1, .int 1, .int 1, .int 0])), ((u8.1 13), .inr (2, [.int 3, .int 0, .int 1, .int 1, .int 1, .int 0])), ((u8.1 14), .inr (4, [.ref (u8.1 2), .ref (u8.1 15), .int 0, .int (-1), .int 0, .ref (u8.1 16), .ref (u8.1 17), .ref (u8.1 18), .ref (u8.1 19)])), ((u8.1 15), .inl ((u8.2 5), 300, .inr (.inl (fun _ => 0)))), ((u8.1 16), .inl ((u8.2 6), 300, .inl (fun _ => 0))), ((u8.1 17), .inl ((u8.2 7), 300, .inl (fun _ => 0))), ((u8.1 18), .inl ((u8.2 8), 300, .inl (fun _ => 0))), ((u8.1 19), .inl ((u8.2 9), 300, .inl (fun _ => 0))), ((u8.1 20), .inr (6, [.ref (u8.1 2), .ref (u8.1 3), .ref (u8.1 14), .ref (u8.1 21), .ref (u8.1 22), .int 0, .int 2, .int 0, .long 0, .int (-1), .int 0, .int 0, .int 0, .int 0])), ((u8.1 21), .inl ((u8.2 10), 62, .inr (.inl (fun _ => 0)))), ((u8.1 22), .inl ((u8.2 11), 62, .inl (fun _ => 0))), ((u8.1 23), .inr (0, [.ref (u8.1 2), .ref (u8.1 3), .ref (u8.1 24), .ref (u8.1 25), .int 0, .ref (u8.1 26), .ref (u8.1 27), .ref (u8.1 28), .int 0])), ((u8.1 24), .inl ((u8.2 12), 488, .inl (fun _ => 0))), ((u8.1 25), .inl ((u8.2 13), 488, .inl (fun _ => 0))), ((u8.1 26), .inl ((u8.2 14), 61, .inl (fun _ => 0))), ((u8.1 27), .inl ((u8.2 15), 61, .inl (fun _ => 0))), ((u8.1 28), .inl ((u8.2 16), 488, .inr (.inl (fun _ => 0)))), ((u8.1 29), .inr (5, [.ref (u8.1 2), .ref (u8.1 30), .int 0, .long 0, .ref (u8.1 31), .ref (u8.1 32)])), ((u8.1 30), .inl ((u8.2 17), 3661, .inl (fun _ => 0))), ((u8.1 31), .inl ((u8.2 18), 121, .inl (fun _ => 0))), ((u8.1 32), .inl ((u8.2 19), 61, .inl (fun _ => 0))), ((u8.1 33), .inl ((u8.2 20), 8, .inr (.inl (fun _ => 0)))), ((u8.1 34), .inl ((u8.2 21), 4, .inl (fun _ => 0))), ((u8.1 35), .inl ((u8.2 22), 61, .inl (fun _ => 0))), (x1, .inr (9, [.int 0, .ref (u9.1 0), .int 0, .int 0, .int 20, .int 20, .int 1, .ref (u9.1 1), .ref (u9.1 2), .ref (u9.1 3), .ref (u9.1 4), .ref (u9.1 5), .ref (u9.1 6), .int 0, .ref (u9.1 7), .ref (u9.1 8), .int 0, .int 0, .int 0, .int 0, .ref (u9.1 9), .ref (u9.1 10), .ref (u9.1 11), .int 0, .int 0, .int 0, .ref (u9.1 12), .ref (u9.1 13), .ref (u9.1 14), .int 0, .ref (u9.1 15), .ref (u9.1 16)])), ((u9.1 0), .inl ((u9.2 0), 500, .inl (fun _ => 0))), ((u9.1 1), .inl ((u9.2 1), 1020, .inl (fun _ => 0))), ((u9.1 2), .inl ((u9.2 2), 6, .inl (fun _ => 0))), ((u9.1 3), .inl ((u9.2 3), 6, .inl (fun _ => 0))), ((u9.1 4), .inl ((u9.2 4), 6, .inl (fun _ => 0))), ((u9.1 5), .inl ((u9.2 5), 6, .inl (fun _ => 0))), ((u9.1 6), .inl ((u9.2 6), 6, .inl (fun _ => 0))), ((u9.1 7), .inl ((u9.2 7), 4, .inl (fun _ => 0))), ((u9.1 8), .inl ((u9.2 8), 4, .inl (fun _ => 0))), ((u9.1 9), .inl ((u9.2 9), 61, .inl (fun _ => 0))), ((u9.1 10), .inl ((u9.2 10), 600, .inl (fun _ => 0))), ((u9.1 11), .inl ((u9.2 11), 18000, .inl (fun _ => 0))), ((u9.1 12), .inl ((u9.2 12), 60, .inl (fun _ => 0))), ((u9.1 13), .inl ((u9.2 13), 61, .inl (fun _ => 0))), ((u9.1 14), .inl ((u9.2 14), 62, .inl (fun _ => 0))), ((u9.1 15), .inl ((u9.2 15), 3700, .inl (fun _ => 0))), ((u9.1 16), .inl ((u9.2 16), 60, .inl (fun _ => 0))), (x2, .inl (cx, 1, .inr (.inl (fun _ => 0))))] : va_W)[posM.getD c 0]? = some (ad c, e) := by
    intro c hc
    have hc2 : c < 56 := List.mem_range.mp hc
    match c, hc2 with
    | 0, _ => rw [a0]; exact ⟨_, rfl⟩
    | 1, _ => rw [a1]; exact ⟨_, rfl⟩
    | 2, _ => rw [a2]; exact ⟨_, rfl⟩
    | 3, _ => rw [a3]; exact ⟨_, rfl⟩
    | 4, _ => rw [a4]; exact ⟨_, rfl⟩
    | 5, _ => rw [a5]; exact ⟨_, rfl⟩
    | 6, _ => rw [a6]; exact ⟨_, rfl⟩
    | 7, _ => rw [a7]; exact ⟨_, rfl⟩
    | 8, _ => rw [a8]; exact ⟨_, rfl⟩
    | 9, _ => rw [a9]; exact ⟨_, rfl⟩
    | 10, _ => rw [a10]; exact ⟨_, rfl⟩
    | 11, _ => rw [a11]; exact ⟨_, rfl⟩
    | 12, _ => rw [a12]; exact ⟨_, rfl⟩
    | 13, _ => rw [a13]; exact ⟨_, rfl⟩
    | 14, _ => rw [a14]; exact ⟨_, rfl⟩
    | 15, _ => rw [a15]; exact ⟨_, rfl⟩
    | 16, _ => rw [a16]; exact ⟨_, rfl⟩
    | 17, _ => rw [a17]; exact ⟨_, rfl⟩
    | 18, _ => rw [a18]; exact ⟨_, rfl⟩
    | 19, _ => rw [a19]; exact ⟨_, rfl⟩
    | 20, _ => rw [a20]; exact ⟨_, rfl⟩
    | 21, _ => rw [a21]; exact ⟨_, rfl⟩
    | 22, _ => rw [a22]; exact ⟨_, rfl⟩
    | 23, _ => rw [a23]; exact ⟨_, rfl⟩
    | 24, _ => rw [a24]; exact ⟨_, rfl⟩
    | 25, _ => rw [a25]; exact ⟨_, rfl⟩
    | 26, _ => rw [a26]; exact ⟨_, rfl⟩
    | 27, _ => rw [a27]; exact ⟨_, rfl⟩
    | 28, _ => rw [a28]; exact ⟨_, rfl⟩
    | 29, _ => rw [a29]; exact ⟨_, rfl⟩
    | 30, _ => rw [a30]; exact ⟨_, rfl⟩
    | 31, _ => rw [a31]; exact ⟨_, rfl⟩
    | 32, _ => rw [a32]; exact ⟨_, rfl⟩
    | 33, _ => rw [a33]; exact ⟨_, rfl⟩
    | 34, _ => rw [a34]; exact ⟨_, rfl⟩
    | 35, _ => rw [a35]; exact ⟨_, rfl⟩
    | 36, _ => rw [a36]; exact ⟨_, rfl⟩
    | 37, _ => rw [a37]; exact ⟨_, rfl⟩
    | 38, _ => rw [a38]; exact ⟨_, rfl⟩
    | 39, _ => rw [a39]; exact ⟨_, rfl⟩
    | 40, _ => rw [a40]; exact ⟨_, rfl⟩
    | 41, _ => rw [a41]; exact ⟨_, rfl⟩
    | 42, _ => rw [a42]; exact ⟨_, rfl⟩
    | 43, _ => rw [a43]; exact ⟨_, rfl⟩
    | 44, _ => rw [a44]; exact ⟨_, rfl⟩
    | 45, _ => rw [a45]; exact ⟨_, rfl⟩
    | 46, _ => rw [a46]; exact ⟨_, rfl⟩
    | 47, _ => rw [a47]; exact ⟨_, rfl⟩
    | 48, _ => rw [a48]; exact ⟨_, rfl⟩
    | 49, _ => rw [a49]; exact ⟨_, rfl⟩
    | 50, _ => rw [a50]; exact ⟨_, rfl⟩
    | 51, _ => rw [a51]; exact ⟨_, rfl⟩
    | 52, _ => rw [a52]; exact ⟨_, rfl⟩
    | 53, _ => rw [a53]; exact ⟨_, rfl⟩
    | 54, _ => rw [a54]; exact ⟨_, rfl⟩
    | 55, _ => rw [a55]; exact ⟨_, rfl⟩
    | n + 56, h => exact absurd h (by omega)
  have hCS : CS csA ad := by
    refine ⟨by decide +kernel, fun i hi j hj e => ?_⟩
    obtain ⟨e1, g1⟩ := hpos i hi
    obtain ⟨e2, g2⟩ := hpos j hj
    exact posM_inj i hi j hj (hD.1 _ _ _ _ g1 g2 e)
  have hAd : ∀ k ∈ csA, AL s (ad k) := fun k hk => by
    obtain ⟨e1, g1⟩ := hpos k hk
    exact hD.2 _ _ g1
  have hPM : va_P D vwCl (wsM csA ad ca M0) H := by
    intro k q hq
    obtain ⟨c, -, hc, rfl⟩ := ws_lt hq
    have hc2 : c < 56 := List.mem_range.mp hc
    match c, hc2 with
    | 0, _ =>
      show va_at D vwCl (ad 0, .inr (8, [.ref (ad 1), .ref (ad 3), .ref (ad 4), .ref (ad 15), .ref (ad 21), .ref (ad 24), .ref (ad 30), .ref (ad 34), .ref (ad 35), .int (M0.1 0 9), .ref (ad 36), .int (M0.1 0 11), .int (M0.1 0 12)])) H
      rw [a0, a1, a3, a4, a15, a21, a24, a30, a34, a35, a36]
      exact hP 0 _ rfl
    | 1, _ =>
      show va_at D vwCl (ad 1, .inr (7, [.ref (ad 2), .int (M0.1 1 1)])) H
      rw [a1, a2]
      exact hP 1 _ rfl
    | 2, _ =>
      show va_at D vwCl (ad 2, .inl (ca 2, 500, .inl (M0.1 2))) H
      rw [a2, k2]
      exact hP 2 _ rfl
    | 3, _ =>
      show va_at D vwCl (ad 3, .inr (1, [.int (M0.1 3 0), .int (M0.1 3 1), .int (M0.1 3 2), .int (M0.1 3 3), .long (M0.2 3 4)])) H
      rw [a3]
      exact hP 3 _ rfl
    | 4, _ =>
      show va_at D vwCl (ad 4, .inr (3, [.ref (ad 3), .ref (ad 5), .int (M0.1 4 2), .ref (ad 12), .ref (ad 13), .ref (ad 14), .int (M0.1 4 6)])) H
      rw [a3, a4, a5, a12, a13, a14]
      exact hP 4 _ rfl
    | 5, _ =>
      have h9 := hP 5 _ rfl
      show H[ad 5]? = some (vp_cell (ca 5) (6, .inr (.inr (.inr (.inr (fun i => some (ad (6 + i))))))))
      rw [a5, k5]
      refine Eq.trans (show _ = some (vp_cell _ _) from h9) (congrArg some (vq_congr (fun i hi => ?_)))
      match i, hi with
      | 0, _ => show _ = some (ad 6); rw [a6]; rfl
      | 1, _ => show _ = some (ad 7); rw [a7]; rfl
      | 2, _ => show _ = some (ad 8); rw [a8]; rfl
      | 3, _ => show _ = some (ad 9); rw [a9]; rfl
      | 4, _ => show _ = some (ad 10); rw [a10]; rfl
      | 5, _ => show _ = some (ad 11); rw [a11]; rfl
      | n + 6, h => exact absurd h (by omega)
    | 6, _ =>
      show va_at D vwCl (ad 6, .inr (2, [.int (M0.1 6 0), .int (M0.1 6 1), .int (M0.1 6 2), .int (M0.1 6 3), .int (M0.1 6 4), .int (M0.1 6 5)])) H
      rw [a6]
      exact hP 9 _ rfl
    | 7, _ =>
      show va_at D vwCl (ad 7, .inr (2, [.int (M0.1 7 0), .int (M0.1 7 1), .int (M0.1 7 2), .int (M0.1 7 3), .int (M0.1 7 4), .int (M0.1 7 5)])) H
      rw [a7]
      exact hP 10 _ rfl
    | 8, _ =>
      show va_at D vwCl (ad 8, .inr (2, [.int (M0.1 8 0), .int (M0.1 8 1), .int (M0.1 8 2), .int (M0.1 8 3), .int (M0.1 8 4), .int (M0.1 8 5)])) H
      rw [a8]
      exact hP 11 _ rfl
    | 9, _ =>
      show va_at D vwCl (ad 9, .inr (2, [.int (M0.1 9 0), .int (M0.1 9 1), .int (M0.1 9 2), .int (M0.1 9 3), .int (M0.1 9 4), .int (M0.1 9 5)])) H
      rw [a9]
      exact hP 12 _ rfl
    | 10, _ =>
      show va_at D vwCl (ad 10, .inr (2, [.int (M0.1 10 0), .int (M0.1 10 1), .int (M0.1 10 2), .int (M0.1 10 3), .int (M0.1 10 4), .int (M0.1 10 5)])) H
      rw [a10]
      exact hP 13 _ rfl
    | 11, _ =>
      show va_at D vwCl (ad 11, .inr (2, [.int (M0.1 11 0), .int (M0.1 11 1), .int (M0.1 11 2), .int (M0.1 11 3), .int (M0.1 11 4), .int (M0.1 11 5)])) H
      rw [a11]
      exact hP 14 _ rfl
    | 12, _ =>
      show va_at D vwCl (ad 12, .inl (ca 12, 4, .inl (M0.1 12))) H
      rw [a12, k12]
      exact hP 6 _ rfl
    | 13, _ =>
      show va_at D vwCl (ad 13, .inl (ca 13, 1081, .inr (.inl (M0.2 13)))) H
      rw [a13, k13]
      exact hP 7 _ rfl
    | 14, _ =>
      show va_at D vwCl (ad 14, .inl (ca 14, 3721, .inr (.inl (M0.2 14)))) H
      rw [a14, k14]
      exact hP 8 _ rfl
    | 15, _ =>
      show va_at D vwCl (ad 15, .inr (4, [.ref (ad 3), .ref (ad 16), .int (M0.1 15 2), .int (M0.1 15 3), .int (M0.1 15 4), .ref (ad 17), .ref (ad 18), .ref (ad 19), .ref (ad 20)])) H
      rw [a3, a15, a16, a17, a18, a19, a20]
      exact hP 15 _ rfl
    | 16, _ =>
      show va_at D vwCl (ad 16, .inl (ca 16, 300, .inr (.inl (M0.2 16)))) H
      rw [a16, k16]
      exact hP 16 _ rfl
    | 17, _ =>
      show va_at D vwCl (ad 17, .inl (ca 17, 300, .inl (M0.1 17))) H
      rw [a17, k17]
      exact hP 17 _ rfl
    | 18, _ =>
      show va_at D vwCl (ad 18, .inl (ca 18, 300, .inl (M0.1 18))) H
      rw [a18, k18]
      exact hP 18 _ rfl
    | 19, _ =>
      show va_at D vwCl (ad 19, .inl (ca 19, 300, .inl (M0.1 19))) H
      rw [a19, k19]
      exact hP 19 _ rfl
    | 20, _ =>
      show va_at D vwCl (ad 20, .inl (ca 20, 300, .inl (M0.1 20))) H
      rw [a20, k20]
      exact hP 20 _ rfl
    | 21, _ =>
      show va_at D vwCl (ad 21, .inr (6, [.ref (ad 3), .ref (ad 4), .ref (ad 15), .ref (ad 22), .ref (ad 23), .int (M0.1 21 5), .int (M0.1 21 6), .int (M0.1 21 7), .long (M0.2 21 8), .int (M0.1 21 9), .int (M0.1 21 10), .int (M0.1 21 11), .int (M0.1 21 12), .int (M0.1 21 13)])) H
      rw [a3, a4, a15, a21, a22, a23]
      exact hP 21 _ rfl
    | 22, _ =>
      show va_at D vwCl (ad 22, .inl (ca 22, 62, .inr (.inl (M0.2 22)))) H
      rw [a22, k22]
      exact hP 22 _ rfl
    | 23, _ =>
      show va_at D vwCl (ad 23, .inl (ca 23, 62, .inl (M0.1 23))) H
      rw [a23, k23]
      exact hP 23 _ rfl
    | 24, _ =>
      show va_at D vwCl (ad 24, .inr (0, [.ref (ad 3), .ref (ad 4), .ref (ad 25), .ref (ad 26), .int (M0.1 24 4), .ref (ad 27), .ref (ad 28), .ref (ad 29), .int (M0.1 24 8)])) H
      rw [a3, a4, a24, a25, a26, a27, a28, a29]
      exact hP 24 _ rfl
    | 25, _ =>
      show va_at D vwCl (ad 25, .inl (ca 25, 488, .inl (M0.1 25))) H
      rw [a25, k25]
      exact hP 25 _ rfl
    | 26, _ =>
      show va_at D vwCl (ad 26, .inl (ca 26, 488, .inl (M0.1 26))) H
      rw [a26, k26]
      exact hP 26 _ rfl
    | 27, _ =>
      show va_at D vwCl (ad 27, .inl (ca 27, 61, .inl (M0.1 27))) H
      rw [a27, k27]
      exact hP 27 _ rfl
    | 28, _ =>
      show va_at D vwCl (ad 28, .inl (ca 28, 61, .inl (M0.1 28))) H
      rw [a28, k28]
      exact hP 28 _ rfl
    | 29, _ =>
      show va_at D vwCl (ad 29, .inl (ca 29, 488, .inr (.inl (M0.2 29)))) H
      rw [a29, k29]
      exact hP 29 _ rfl
    | 30, _ =>
      show va_at D vwCl (ad 30, .inr (5, [.ref (ad 3), .ref (ad 31), .int (M0.1 30 2), .long (M0.2 30 3), .ref (ad 32), .ref (ad 33)])) H
      rw [a3, a30, a31, a32, a33]
      exact hP 30 _ rfl
    | 31, _ =>
      show va_at D vwCl (ad 31, .inl (ca 31, 3661, .inl (M0.1 31))) H
      rw [a31, k31]
      exact hP 31 _ rfl
    | 32, _ =>
      show va_at D vwCl (ad 32, .inl (ca 32, 121, .inl (M0.1 32))) H
      rw [a32, k32]
      exact hP 32 _ rfl
    | 33, _ =>
      show va_at D vwCl (ad 33, .inl (ca 33, 61, .inl (M0.1 33))) H
      rw [a33, k33]
      exact hP 33 _ rfl
    | 34, _ =>
      show va_at D vwCl (ad 34, .inl (ca 34, 8, .inr (.inl (M0.2 34)))) H
      rw [a34, k34]
      exact hP 34 _ rfl
    | 35, _ =>
      show va_at D vwCl (ad 35, .inl (ca 35, 4, .inl (M0.1 35))) H
      rw [a35, k35]
      exact hP 35 _ rfl
    | 36, _ =>
      show va_at D vwCl (ad 36, .inl (ca 36, 61, .inl (M0.1 36))) H
      rw [a36, k36]
      exact hP 36 _ rfl
    | 37, _ =>
      show va_at D vwCl (ad 37, .inr (9, [.int (M0.1 37 0), .ref (ad 38), .int (M0.1 37 2), .int (M0.1 37 3), .int (M0.1 37 4), .int (M0.1 37 5), .int (M0.1 37 6), .ref (ad 39), .ref (ad 40), .ref (ad 41), .ref (ad 42), .ref (ad 43), .ref (ad 44), .int (M0.1 37 13), .ref (ad 45), .ref (ad 46), .int (M0.1 37 16), .int (M0.1 37 17), .int (M0.1 37 18), .int (M0.1 37 19), .ref (ad 47), .ref (ad 48), .ref (ad 49), .int (M0.1 37 23), .int (M0.1 37 24), .int (M0.1 37 25), .ref (ad 50), .ref (ad 51), .ref (ad 52), .int (M0.1 37 29), .ref (ad 53), .ref (ad 54)])) H
      rw [a37, a38, a39, a40, a41, a42, a43, a44, a45, a46, a47, a48, a49, a50, a51, a52, a53, a54]
      exact hP 37 _ rfl
    | 38, _ =>
      show va_at D vwCl (ad 38, .inl (ca 38, 500, .inl (M0.1 38))) H
      rw [a38, k38]
      exact hP 38 _ rfl
    | 39, _ =>
      show va_at D vwCl (ad 39, .inl (ca 39, 1020, .inl (M0.1 39))) H
      rw [a39, k39]
      exact hP 39 _ rfl
    | 40, _ =>
      show va_at D vwCl (ad 40, .inl (ca 40, 6, .inl (M0.1 40))) H
      rw [a40, k40]
      exact hP 40 _ rfl
    | 41, _ =>
      show va_at D vwCl (ad 41, .inl (ca 41, 6, .inl (M0.1 41))) H
      rw [a41, k41]
      exact hP 41 _ rfl
    | 42, _ =>
      show va_at D vwCl (ad 42, .inl (ca 42, 6, .inl (M0.1 42))) H
      rw [a42, k42]
      exact hP 42 _ rfl
    | 43, _ =>
      show va_at D vwCl (ad 43, .inl (ca 43, 6, .inl (M0.1 43))) H
      rw [a43, k43]
      exact hP 43 _ rfl
    | 44, _ =>
      show va_at D vwCl (ad 44, .inl (ca 44, 6, .inl (M0.1 44))) H
      rw [a44, k44]
      exact hP 44 _ rfl
    | 45, _ =>
      show va_at D vwCl (ad 45, .inl (ca 45, 4, .inl (M0.1 45))) H
      rw [a45, k45]
      exact hP 45 _ rfl
    | 46, _ =>
      show va_at D vwCl (ad 46, .inl (ca 46, 4, .inl (M0.1 46))) H
      rw [a46, k46]
      exact hP 46 _ rfl
    | 47, _ =>
      show va_at D vwCl (ad 47, .inl (ca 47, 61, .inl (M0.1 47))) H
      rw [a47, k47]
      exact hP 47 _ rfl
    | 48, _ =>
      show va_at D vwCl (ad 48, .inl (ca 48, 600, .inl (M0.1 48))) H
      rw [a48, k48]
      exact hP 48 _ rfl
    | 49, _ =>
      show va_at D vwCl (ad 49, .inl (ca 49, 18000, .inl (M0.1 49))) H
      rw [a49, k49]
      exact hP 49 _ rfl
    | 50, _ =>
      show va_at D vwCl (ad 50, .inl (ca 50, 60, .inl (M0.1 50))) H
      rw [a50, k50]
      exact hP 50 _ rfl
    | 51, _ =>
      show va_at D vwCl (ad 51, .inl (ca 51, 61, .inl (M0.1 51))) H
      rw [a51, k51]
      exact hP 51 _ rfl
    | 52, _ =>
      show va_at D vwCl (ad 52, .inl (ca 52, 62, .inl (M0.1 52))) H
      rw [a52, k52]
      exact hP 52 _ rfl
    | 53, _ =>
      show va_at D vwCl (ad 53, .inl (ca 53, 3700, .inl (M0.1 53))) H
      rw [a53, k53]
      exact hP 53 _ rfl
    | 54, _ =>
      show va_at D vwCl (ad 54, .inl (ca 54, 60, .inl (M0.1 54))) H
      rw [a54, k54]
      exact hP 54 _ rfl
    | 55, _ =>
      show va_at D vwCl (ad 55, .inl (ca 55, 1, .inr (.inl (M0.2 55)))) H
      rw [a55, k55]
      exact hP 55 _ rfl
    | n + 56, h => exact absurd h (by omega)
  have hKM : va_K D vwCl (tyM csA ca) s := by
    show va_K D vwCl [(ca 2, .byte), (ca 5, .object "SumBench$Law"), (ca 12, .int), (ca 13, .long), (ca 14, .long), (ca 16, .long), (ca 17, .int), (ca 18, .int), (ca 19, .int), (ca 20, .int), (ca 22, .long), (ca 23, .int), (ca 25, .int), (ca 26, .int), (ca 27, .int), (ca 28, .int), (ca 29, .long), (ca 31, .int), (ca 32, .int), (ca 33, .int), (ca 34, .long), (ca 35, .int), (ca 36, .int), (ca 38, .int), (ca 39, .boolean), (ca 40, .int), (ca 41, .int), (ca 42, .int), (ca 43, .int), (ca 44, .boolean), (ca 45, .int), (ca 46, .int), (ca 47, .int), (ca 48, .int), (ca 49, .boolean), (ca 50, .int), (ca 51, .int), (ca 52, .int), (ca 53, .int), (ca 54, .boolean), (ca 55, .long)] s
    rw [k2, k5, k12, k13, k14, k16, k17, k18, k19, k20, k22, k23, k25, k26, k27, k28, k29, k31, k32, k33, k34, k35, k36, k38, k39, k40, k41, k42, k43, k44, k45, k46, k47, k48, k49, k50, k51, k52, k53, k54, k55]
    exact hK.sub [0, 1, 2, 3, 4, 5, 6, 7, 8, 9, 10, 11, 12, 13, 14, 15, 16, 17, 18, 19, 20, 21, 22, 23, 24, 25, 26, 27, 28, 29, 30, 31, 32, 33, 34, 35, 36, 37, 38, 39, 40] rfl
  have hnA : ∀ a : Nat, a < s.heap.size → ¬ AD csA ad a := fun a ha h => by
    obtain ⟨k, hk, rfl⟩ := h
    exact Nat.not_le.mpr ha (hAd k hk)
  have hXT : XT csA ad s := by
    refine ⟨vx_Zqof (args := #[Value.ref b]) (hts0 _ (tb_i 470 (by decide +kernel))) (hts _ (tg_i 12 (by decide +kernel) rfl)) (hfl0 _ (by decide +kernel)) hnA, vx_Zqof (args := #[Value.ref b]) (hts0 _ (tb_i 472 (by decide +kernel))) (hts _ (tg_i 12 (by decide +kernel) rfl)) (hfl0 _ (by decide +kernel)) hnA, ?_⟩
    have key : ∀ (i : Nat) (t : String), (Cond.stringRef RX8 i t).before #[Value.ref b] s = true → (Cond.exactly (.string RX8 i) "java/lang/String").before #[Value.ref b] s = true → ∃ sa, vk_R RX8 i t sa s := fun i t h1 h2 => by
      obtain ⟨sa, -, -, -, h3, -⟩ := Cond.exactly_spec h2
      exact ⟨sa, vk_R.of h1 h3⟩
    intro q hq
    simp only [stx, List.mem_cons, List.not_mem_nil, or_false] at hq
    rcases hq with rfl | rfl | rfl | rfl | rfl | rfl | rfl | rfl
    · exact key _ _ (hts0 _ (tb_i 484 (by decide +kernel))) (hfl0 _ (by decide +kernel))
    · exact key _ _ (hts0 _ (tb_i 519 (by decide +kernel))) (hfl0 _ (by decide +kernel))
    · exact key _ _ (hts0 _ (tb_i 573 (by decide +kernel))) (hfl0 _ (by decide +kernel))
    · exact key _ _ (hts0 _ (tb_i 690 (by decide +kernel))) (hfl0 _ (by decide +kernel))
    · exact key _ _ (hts0 _ (tb_i 750 (by decide +kernel))) (hfl0 _ (by decide +kernel))
    · exact key _ _ (hts0 _ (tb_i 798 (by decide +kernel))) (hfl0 _ (by decide +kernel))
    · exact key _ _ (hts0 _ (tb_i 870 (by decide +kernel))) (hfl0 _ (by decide +kernel))
    · exact key _ _ (hts0 _ (tb_i 975 (by decide +kernel))) (hfl0 _ (by decide +kernel))
  obtain ⟨F, M', hf⟩ := hp
  have hV := wL_law (l := l) (D := D) (ad := ad) (ca := ca) (b := b) (L := L) (xs := xs) hl0 600 56 36734 _ 0 M0 ⟨p, e, s, m, #[Value.ref b], below, meth, c, ⟨hx, hb, hml, hown, hts, hKM, hCS, hN, hr, hlocks, hAd, ⟨hX, hbl⟩, hXT, hQ⟩, rfl⟩ (by decide) hf
  refine hV H _ ls hPM hS ?_
  show lv_has ls 7 [(0, .ref b), (1, .ref (ad 0)), (2, .ref (ad 37)), (3, .ref (ad 55)), (4, .int 0)]
  rw [a0, a37, a55]
  exact lv_sub hl [4, 3, 2, 1, 0] rfl
