theorem sameX8_requireSet {F : Nat} {a0 : Int32} {M N : Mem} (h : fX8_requireSet F a0 M = some N) : M = N := by
  unfold fX8_requireSet at h
  repeat' (split at h)
  all_goals first | exact (sv_i h).symm | cases h
theorem sameX8_requireLooks {F : Nat} {a0 : Int32} {M N : Mem} (h : fX8_requireLooks F a0 M = some N) : M = N := by
  unfold fX8_requireLooks at h
  repeat' (split at h)
  all_goals first | exact (sv_i h).symm | cases h
theorem sameX8_requireTurns {F : Nat} {a0 : Int32} {M N : Mem} (h : fX8_requireTurns F a0 M = some N) : M = N := by
  unfold fX8_requireTurns at h
  repeat' (split at h)
  all_goals first | exact (sv_i h).symm | cases h
theorem sameX8_requireColours {F : Nat} {a0 : Int32} {M N : Mem} (h : fX8_requireColours F a0 M = some N) : M = N := by
  unfold fX8_requireColours at h
  repeat' (split at h)
  all_goals first | exact (sv_i h).symm | cases h
theorem sameJ13_bitCount_95d88 {F : Nat} {a0 : Int64} {M N : Mem} {r : Int32} (h : fJ13_bitCount_95d88 F a0 M = some (r, N)) : M = N := by
  unfold fJ13_bitCount_95d88 at h
  simp only [nm] at h
  exact (sp_i h).2.symm
theorem tg_allL {L : List Cond} (h : (L.filter goodWord).all (fun w => decide (w ∈ lw_tbl)) = true) : ∀ w ∈ L.filter goodWord, w ∈ TG := fun w hw => by
  have h1 := List.all_eq_true.mp h w hw
  exact tg_of (decide_eq_true_eq.mp h1) (List.mem_filter.mp hw).2
set_option maxRecDepth 100000 in
theorem tx_112 : TX 110 112 114 exA := ⟨by decide +kernel, (tg_i 510 (by decide +kernel) rfl), (tg_i 16 (by decide +kernel) rfl), ⟨"no such width", by decide +kernel⟩, tg_allL (by decide +kernel), by decide +kernel, by decide +kernel⟩
set_option maxRecDepth 100000 in
theorem tx_261 : TX 110 261 114 exA := ⟨by decide +kernel, (tg_i 510 (by decide +kernel) rfl), (tg_i 16 (by decide +kernel) rfl), ⟨"no such seed", by decide +kernel⟩, tg_allL (by decide +kernel), by decide +kernel, by decide +kernel⟩
set_option maxRecDepth 100000 in
theorem tx_272 : TX 110 272 114 exA := ⟨by decide +kernel, (tg_i 510 (by decide +kernel) rfl), (tg_i 16 (by decide +kernel) rfl), ⟨"no such number of looks", by decide +kernel⟩, tg_allL (by decide +kernel), by decide +kernel, by decide +kernel⟩
set_option maxRecDepth 100000 in
theorem tx_274 : TX 110 274 114 exA := ⟨by decide +kernel, (tg_i 510 (by decide +kernel) rfl), (tg_i 16 (by decide +kernel) rfl), ⟨"no such turns", by decide +kernel⟩, tg_allL (by decide +kernel), by decide +kernel, by decide +kernel⟩
set_option maxRecDepth 100000 in
theorem tx_276 : TX 110 276 114 exA := ⟨by decide +kernel, (tg_i 510 (by decide +kernel) rfl), (tg_i 16 (by decide +kernel) rfl), ⟨"no such number of colours", by decide +kernel⟩, tg_allL (by decide +kernel), by decide +kernel, by decide +kernel⟩
set_option maxRecDepth 100000 in
theorem tn_137 : TN 135 137 139 := ⟨(tg_i 564 (by decide +kernel) rfl), (tg_i 18 (by decide +kernel) rfl), ⟨"no such number of the set", by decide +kernel⟩, by decide +kernel⟩
set_option maxRecDepth 100000 in
theorem tn_169 : TN 135 169 139 := ⟨(tg_i 564 (by decide +kernel) rfl), (tg_i 18 (by decide +kernel) rfl), ⟨"no such number of a clash", by decide +kernel⟩, by decide +kernel⟩
set_option maxRecDepth 100000 in
theorem tx_268 : TX 266 268 270 exI := ⟨by decide +kernel, (tg_i 443 (by decide +kernel) rfl), (tg_i 15 (by decide +kernel) rfl), ⟨"no such set", by decide +kernel⟩, tg_allL (by decide +kernel), by decide +kernel, by decide +kernel⟩
def tX8_witness (F : Nat) (a1 : Int32) (M : Mem) : Option String := if (M.1 0 9) = 0 then (some exN) else (if a1 < 0 then (some exN) else (if a1 < (4 : Int32) then (none) else (some exN)))
set_option maxRecDepth 100000 in
set_option maxHeartbeats 4000000 in
theorem coxX8_witness {l : Launch} {D : va_G} {ad : Nat → Nat} {ca : Nat → ClassId} {F : Nat} {a1 : Int32} {M : Mem} {E : String} (hl : l.stackTraces = false) (hf : tX8_witness F a1 M = some E) : ConX csA l D ad ca yX8_witness cX8_witness 2 (some .int) 6 84 [.ref (ad 0), .int a1] M E := by
  refine ConX_of (by decide) (Nat.le_of_ble_eq_true rfl) (fun V (h : MchX csA l (rmX 6 84) D ad ca RX8 cX8_witness 2 (some .int) E M V) => ?_)
  show V M 0 [(0, .ref (ad 0)), (1, .int a1)] []
  unfold tX8_witness at hf
  refine r_aload_n (pc := 0) h dX8_witness_0 0 rfl rfl ?_
  refine r_geti (pc := 1) h fl_X8_72 (by decide) rfl rfl dX8_witness_1 ?_
  refine r_if_eq (pc := 4) h 16 dX8_witness_4 (by decide) (fun hc1 => ?_) (fun hc1 => ?_)
  · have hf := ite_p hc1 hf
    have hE := Option.some.inj hf
    subst hE
    exact r_throwN (pc := 16) h hl tn_169 dX8_witness_16 dX8_witness_19 dX8_witness_20 dX8_witness_22 dX8_witness_25 (by decide) (by decide) (by decide) (by decide)
  · have hf := ite_n hc1 hf
    refine r_iload_n (pc := 7) h dX8_witness_7 1 rfl rfl ?_
    refine r_if_lt (pc := 8) h 16 dX8_witness_8 (by decide) (fun hc2 => ?_) (fun hc2 => ?_)
    · have hf := ite_p hc2 hf
      have hE := Option.some.inj hf
      subst hE
      exact r_throwN (pc := 16) h hl tn_169 dX8_witness_16 dX8_witness_19 dX8_witness_20 dX8_witness_22 dX8_witness_25 (by decide) (by decide) (by decide) (by decide)
    · have hf := ite_n hc2 hf
      refine r_iload_n (pc := 11) h dX8_witness_11 1 rfl rfl ?_
      refine r_iconst (pc := 12) (v := (4 : Int32)) h dX8_witness_12 (by decide) ?_
      refine r_icmp_lt (pc := 13) h 26 dX8_witness_13 (by decide) (fun hc3 => ?_) (fun hc3 => ?_)
      · have hf := ite_p hc3 hf
        cases hf
      · have hf := ite_n hc3 hf
        have hE := Option.some.inj hf
        subst hE
        exact r_throwN (pc := 16) h hl tn_169 dX8_witness_16 dX8_witness_19 dX8_witness_20 dX8_witness_22 dX8_witness_25 (by decide) (by decide) (by decide) (by decide)
def tX8_requireColours (F : Nat) (a0 : Int32) (M : Mem) : Option String := if a0 < (1 : Int32) then (some exA) else (if a0 ≤ (8 : Int32) then (none) else (some exA))
set_option maxRecDepth 100000 in
set_option maxHeartbeats 4000000 in
theorem coxX8_requireColours {l : Launch} {D : va_G} {ad : Nat → Nat} {ca : Nat → ClassId} {F : Nat} {a0 : Int32} {M : Mem} {E : String} (hl : l.stackTraces = false) (hf : tX8_requireColours F a0 M = some E) : ConX csA l D ad ca yX8_requireColours cX8_requireColours 1 none 6 84 [.int a0] M E := by
  refine ConX_of (by decide) (Nat.le_of_ble_eq_true rfl) (fun V (h : MchX csA l (rmX 6 84) D ad ca RX8 cX8_requireColours 1 none E M V) => ?_)
  show V M 0 [(0, .int a0)] []
  unfold tX8_requireColours at hf
  refine r_iload_n (pc := 0) h dX8_requireColours_0 0 rfl rfl ?_
  refine r_iconst (pc := 1) (v := (1 : Int32)) h dX8_requireColours_1 (by decide) ?_
  refine r_icmp_lt (pc := 2) h 11 dX8_requireColours_2 (by decide) (fun hc1 => ?_) (fun hc1 => ?_)
  · have hf := ite_p hc1 hf
    have hE := Option.some.inj hf
    subst hE
    exact r_throwW (pc := 11) h hl tx_276 dX8_requireColours_11 dX8_requireColours_14 dX8_requireColours_15 dX8_requireColours_18 dX8_requireColours_21 (by decide) (by decide) (by decide) (by decide)
  · have hf := ite_n hc1 hf
    refine r_iload_n (pc := 5) h dX8_requireColours_5 0 rfl rfl ?_
    refine r_bipush (pc := 6) (v := (8 : Int32)) h dX8_requireColours_6 (by decide) ?_
    refine r_icmp_le (pc := 8) h 22 dX8_requireColours_8 (by decide) (fun hc2 => ?_) (fun hc2 => ?_)
    · have hf := ite_p hc2 hf
      cases hf
    · have hf := ite_n hc2 hf
      have hE := Option.some.inj hf
      subst hE
      exact r_throwW (pc := 11) h hl tx_276 dX8_requireColours_11 dX8_requireColours_14 dX8_requireColours_15 dX8_requireColours_18 dX8_requireColours_21 (by decide) (by decide) (by decide) (by decide)
def tX8_requireTurns (F : Nat) (a0 : Int32) (M : Mem) : Option String := if a0 < 0 then (some exA) else (if a0 ≤ (7 : Int32) then (none) else (some exA))
set_option maxRecDepth 100000 in
set_option maxHeartbeats 4000000 in
theorem coxX8_requireTurns {l : Launch} {D : va_G} {ad : Nat → Nat} {ca : Nat → ClassId} {F : Nat} {a0 : Int32} {M : Mem} {E : String} (hl : l.stackTraces = false) (hf : tX8_requireTurns F a0 M = some E) : ConX csA l D ad ca yX8_requireTurns cX8_requireTurns 1 none 6 84 [.int a0] M E := by
  refine ConX_of (by decide) (Nat.le_of_ble_eq_true rfl) (fun V (h : MchX csA l (rmX 6 84) D ad ca RX8 cX8_requireTurns 1 none E M V) => ?_)
  show V M 0 [(0, .int a0)] []
  unfold tX8_requireTurns at hf
  refine r_iload_n (pc := 0) h dX8_requireTurns_0 0 rfl rfl ?_
  refine r_if_lt (pc := 1) h 10 dX8_requireTurns_1 (by decide) (fun hc1 => ?_) (fun hc1 => ?_)
  · have hf := ite_p hc1 hf
    have hE := Option.some.inj hf
    subst hE
    exact r_throwW (pc := 10) h hl tx_274 dX8_requireTurns_10 dX8_requireTurns_13 dX8_requireTurns_14 dX8_requireTurns_17 dX8_requireTurns_20 (by decide) (by decide) (by decide) (by decide)
  · have hf := ite_n hc1 hf
    refine r_iload_n (pc := 4) h dX8_requireTurns_4 0 rfl rfl ?_
    refine r_bipush (pc := 5) (v := (7 : Int32)) h dX8_requireTurns_5 (by decide) ?_
    refine r_icmp_le (pc := 7) h 21 dX8_requireTurns_7 (by decide) (fun hc2 => ?_) (fun hc2 => ?_)
    · have hf := ite_p hc2 hf
      cases hf
    · have hf := ite_n hc2 hf
      have hE := Option.some.inj hf
      subst hE
      exact r_throwW (pc := 10) h hl tx_274 dX8_requireTurns_10 dX8_requireTurns_13 dX8_requireTurns_14 dX8_requireTurns_17 dX8_requireTurns_20 (by decide) (by decide) (by decide) (by decide)
def tX8_requireSet (F : Nat) (a0 : Int32) (M : Mem) : Option String := if a0 < 0 then (some exI) else (if a0 < (8 : Int32) then (none) else (some exI))
set_option maxRecDepth 100000 in
set_option maxHeartbeats 4000000 in
theorem coxX8_requireSet {l : Launch} {D : va_G} {ad : Nat → Nat} {ca : Nat → ClassId} {F : Nat} {a0 : Int32} {M : Mem} {E : String} (hl : l.stackTraces = false) (hf : tX8_requireSet F a0 M = some E) : ConX csA l D ad ca yX8_requireSet cX8_requireSet 1 none 6 84 [.int a0] M E := by
  refine ConX_of (by decide) (Nat.le_of_ble_eq_true rfl) (fun V (h : MchX csA l (rmX 6 84) D ad ca RX8 cX8_requireSet 1 none E M V) => ?_)
  show V M 0 [(0, .int a0)] []
  unfold tX8_requireSet at hf
  refine r_iload_n (pc := 0) h dX8_requireSet_0 0 rfl rfl ?_
  refine r_if_lt (pc := 1) h 10 dX8_requireSet_1 (by decide) (fun hc1 => ?_) (fun hc1 => ?_)
  · have hf := ite_p hc1 hf
    have hE := Option.some.inj hf
    subst hE
    exact r_throwW (pc := 10) h hl tx_268 dX8_requireSet_10 dX8_requireSet_13 dX8_requireSet_14 dX8_requireSet_17 dX8_requireSet_20 (by decide) (by decide) (by decide) (by decide)
  · have hf := ite_n hc1 hf
    refine r_iload_n (pc := 4) h dX8_requireSet_4 0 rfl rfl ?_
    refine r_bipush (pc := 5) (v := (8 : Int32)) h dX8_requireSet_5 (by decide) ?_
    refine r_icmp_lt (pc := 7) h 21 dX8_requireSet_7 (by decide) (fun hc2 => ?_) (fun hc2 => ?_)
    · have hf := ite_p hc2 hf
      cases hf
    · have hf := ite_n hc2 hf
      have hE := Option.some.inj hf
      subst hE
      exact r_throwW (pc := 10) h hl tx_268 dX8_requireSet_10 dX8_requireSet_13 dX8_requireSet_14 dX8_requireSet_17 dX8_requireSet_20 (by decide) (by decide) (by decide) (by decide)
def tX8_requireLooks (F : Nat) (a0 : Int32) (M : Mem) : Option String := if a0 < (1 : Int32) then (some exA) else (if a0 ≤ (50000 : Int32) then (none) else (some exA))
set_option maxRecDepth 100000 in
set_option maxHeartbeats 4000000 in
theorem coxX8_requireLooks {l : Launch} {D : va_G} {ad : Nat → Nat} {ca : Nat → ClassId} {F : Nat} {a0 : Int32} {M : Mem} {E : String} (hl : l.stackTraces = false) (hf : tX8_requireLooks F a0 M = some E) : ConX csA l D ad ca yX8_requireLooks cX8_requireLooks 1 none 6 84 [.int a0] M E := by
  refine ConX_of (by decide) (Nat.le_of_ble_eq_true rfl) (fun V (h : MchX csA l (rmX 6 84) D ad ca RX8 cX8_requireLooks 1 none E M V) => ?_)
  show V M 0 [(0, .int a0)] []
  unfold tX8_requireLooks at hf
  refine r_iload_n (pc := 0) h dX8_requireLooks_0 0 rfl rfl ?_
  refine r_iconst (pc := 1) (v := (1 : Int32)) h dX8_requireLooks_1 (by decide) ?_
  refine r_icmp_lt (pc := 2) h 12 dX8_requireLooks_2 (by decide) (fun hc1 => ?_) (fun hc1 => ?_)
  · have hf := ite_p hc1 hf
    have hE := Option.some.inj hf
    subst hE
    exact r_throwW (pc := 12) h hl tx_272 dX8_requireLooks_12 dX8_requireLooks_15 dX8_requireLooks_16 dX8_requireLooks_19 dX8_requireLooks_22 (by decide) (by decide) (by decide) (by decide)
  · have hf := ite_n hc1 hf
    refine r_iload_n (pc := 5) h dX8_requireLooks_5 0 rfl rfl ?_
    refine r_ldcw (pc := 6) (v := 50000) h cn_X8_271 dX8_requireLooks_6 ?_
    refine r_icmp_le (pc := 9) h 23 dX8_requireLooks_9 (by decide) (fun hc2 => ?_) (fun hc2 => ?_)
    · have hf := ite_p hc2 hf
      cases hf
    · have hf := ite_n hc2 hf
      have hE := Option.some.inj hf
      subst hE
      exact r_throwW (pc := 12) h hl tx_272 dX8_requireLooks_12 dX8_requireLooks_15 dX8_requireLooks_16 dX8_requireLooks_19 dX8_requireLooks_22 (by decide) (by decide) (by decide) (by decide)
def tX8_sheet (F : Nat) (a1 : Int32) (a2 : Int32) (M : Mem) : Option String := tor (tX8_requireSet F a1 M) (bv (fX8_requireSet F a1 M) (fun M => if a2 < 0 then (some exA) else (if a2 < (4 : Int32) then (none) else (some exA))))
set_option maxRecDepth 100000 in
set_option maxHeartbeats 4000000 in
theorem coxX8_sheet {l : Launch} {D : va_G} {ad : Nat → Nat} {ca : Nat → ClassId} {F : Nat} {a1 : Int32} {a2 : Int32} {M : Mem} {E : String} (hl : l.stackTraces = false) (hf : tX8_sheet F a1 a2 M = some E) : ConX csA l D ad ca yX8_sheet cX8_sheet 10 (some .int) 7 104 [.ref (ad 0), .int a1, .int a2] M E := by
  refine ConX_of (by decide) (Nat.le_of_ble_eq_true rfl) (fun V (h : MchX csA l (rmX 7 104) D ad ca RX8 cX8_sheet 10 (some .int) E M V) => ?_)
  show V M 0 [(0, .ref (ad 0)), (1, .int a1), (2, .int a2)] []
  unfold tX8_sheet at hf
  refine r_iload_n (pc := 0) h dX8_sheet_0 1 rfl rfl ?_
  rcases tor_some hf with hq1 | ⟨-, hf⟩
  · exact r_callSX (pc := 1) (As := [.int a1]) (rest := []) h ms_X8_107 (tg_i 440 (by decide +kernel) rfl) dX8_sheet_1 (coxX8_requireSet hl hq1) rfl rfl (by decide) (Nat.le_of_ble_eq_true rfl) (by decide)
  obtain ⟨N2, hc3, hf⟩ := bv_some hf
  have hs := sameX8_requireSet hc3
  subst hs
  refine r_callSv (pc := 1) (As := [.int a1]) (rest := []) h ms_X8_107 dX8_sheet_1 (conX8_requireSet hc3) rfl rfl (by decide) (Nat.le_of_ble_eq_true rfl) ⟨Nat.zero_le _, Nat.zero_le _⟩ ?_
  refine r_iload_n (pc := 4) h dX8_sheet_4 2 rfl rfl ?_
  refine r_if_lt (pc := 5) h 13 dX8_sheet_5 (by decide) (fun hc4 => ?_) (fun hc4 => ?_)
  · have hf := ite_p hc4 hf
    have hE := Option.some.inj hf
    subst hE
    exact r_throwS (pc := 13) h hl tx_112 dX8_sheet_13 dX8_sheet_16 dX8_sheet_17 dX8_sheet_19 dX8_sheet_22 (by decide) (by decide) (by decide) (by decide)
  · have hf := ite_n hc4 hf
    refine r_iload_n (pc := 8) h dX8_sheet_8 2 rfl rfl ?_
    refine r_iconst (pc := 9) (v := (4 : Int32)) h dX8_sheet_9 (by decide) ?_
    refine r_icmp_lt (pc := 10) h 23 dX8_sheet_10 (by decide) (fun hc5 => ?_) (fun hc5 => ?_)
    · have hf := ite_p hc5 hf
      cases hf
    · have hf := ite_n hc5 hf
      have hE := Option.some.inj hf
      subst hE
      exact r_throwS (pc := 13) h hl tx_112 dX8_sheet_13 dX8_sheet_16 dX8_sheet_17 dX8_sheet_19 dX8_sheet_22 (by decide) (by decide) (by decide) (by decide)
def tX8_at (F : Nat) (a1 : Int32) (a2 : Int32) (M : Mem) : Option String := tor (tX8_requireSet F a1 M) (bv (fX8_requireSet F a1 M) (fun M => if a2 < 0 then (some exN) else (gd (inb a1 8) (bd (fJ13_bitCount_95d88 F (M.2 34 (Int32.toNatClampNeg a1)) M) (fun u8 M => if a2 < u8 then (none) else (some exN))))))
set_option maxRecDepth 100000 in
set_option maxHeartbeats 4000000 in
theorem coxX8_at {l : Launch} {D : va_G} {ad : Nat → Nat} {ca : Nat → ClassId} {F : Nat} {a1 : Int32} {a2 : Int32} {M : Mem} {E : String} (hl : l.stackTraces = false) (hf : tX8_at F a1 a2 M = some E) : ConX csA l D ad ca yX8_at cX8_at 3 (some .int) 7 104 [.ref (ad 0), .int a1, .int a2] M E := by
  refine ConX_of (by decide) (Nat.le_of_ble_eq_true rfl) (fun V (h : MchX csA l (rmX 7 104) D ad ca RX8 cX8_at 3 (some .int) E M V) => ?_)
  show V M 0 [(0, .ref (ad 0)), (1, .int a1), (2, .int a2)] []
  unfold tX8_at at hf
  refine r_iload_n (pc := 0) h dX8_at_0 1 rfl rfl ?_
  rcases tor_some hf with hq1 | ⟨-, hf⟩
  · exact r_callSX (pc := 1) (As := [.int a1]) (rest := []) h ms_X8_107 (tg_i 440 (by decide +kernel) rfl) dX8_at_1 (coxX8_requireSet hl hq1) rfl rfl (by decide) (Nat.le_of_ble_eq_true rfl) (by decide)
  obtain ⟨N2, hc3, hf⟩ := bv_some hf
  have hs := sameX8_requireSet hc3
  subst hs
  refine r_callSv (pc := 1) (As := [.int a1]) (rest := []) h ms_X8_107 dX8_at_1 (conX8_requireSet hc3) rfl rfl (by decide) (Nat.le_of_ble_eq_true rfl) ⟨Nat.zero_le _, Nat.zero_le _⟩ ?_
  refine r_iload_n (pc := 4) h dX8_at_4 2 rfl rfl ?_
  refine r_if_lt (pc := 5) h 21 dX8_at_5 (by decide) (fun hc4 => ?_) (fun hc4 => ?_)
  · have hf := ite_p hc4 hf
    have hE := Option.some.inj hf
    subst hE
    exact r_throwN (pc := 21) h hl tn_137 dX8_at_21 dX8_at_24 dX8_at_25 dX8_at_27 dX8_at_30 (by decide) (by decide) (by decide) (by decide)
  · have hf := ite_n hc4 hf
    refine r_iload_n (pc := 8) h dX8_at_8 2 rfl rfl ?_
    refine r_aload_n (pc := 9) h dX8_at_9 0 rfl rfl ?_
    refine r_getr (pc := 10) (q := 34) h fl_X8_64 (by decide) rfl rfl dX8_at_10 ?_
    refine r_iload_n (pc := 13) h dX8_at_13 1 rfl rfl ?_
    obtain ⟨hi5, hf⟩ := gd_some hf
    refine r_lald (pc := 14) h (by decide) rfl hi5 dX8_at_14 ?_
    obtain ⟨u8, N6, hc7, hf⟩ := bd_some hf
    have hs := sameJ13_bitCount_95d88 hc7
    subst hs
    refine r_callSi (pc := 15) (As := [.long (M.2 34 (Int32.toNatClampNeg a1))]) (rest := [.int a2]) h ms_X8_125 dX8_at_15 (conJ13_bitCount_95d88 hc7) rfl rfl (by decide) (Nat.le_of_ble_eq_true rfl) ⟨Nat.zero_le _, Nat.zero_le _⟩ ?_
    refine r_icmp_lt (pc := 18) h 31 dX8_at_18 (by decide) (fun hc9 => ?_) (fun hc9 => ?_)
    · have hf := ite_p hc9 hf
      cases hf
    · have hf := ite_n hc9 hf
      have hE := Option.some.inj hf
      subst hE
      exact r_throwN (pc := 21) h hl tn_137 dX8_at_21 dX8_at_24 dX8_at_25 dX8_at_27 dX8_at_30 (by decide) (by decide) (by decide) (by decide)
def tX8_has (F : Nat) (a1 : Int32) (a2 : Int32) (M : Mem) : Option String := tor (tX8_requireSet F a1 M) (bv (fX8_requireSet F a1 M) (fun M => none))
set_option maxRecDepth 100000 in
set_option maxHeartbeats 4000000 in
theorem coxX8_has {l : Launch} {D : va_G} {ad : Nat → Nat} {ca : Nat → ClassId} {F : Nat} {a1 : Int32} {a2 : Int32} {M : Mem} {E : String} (hl : l.stackTraces = false) (hf : tX8_has F a1 a2 M = some E) : ConX csA l D ad ca yX8_has cX8_has 3 (some .boolean) 7 104 [.ref (ad 0), .int a1, .int a2] M E := by
  refine ConX_of (by decide) (Nat.le_of_ble_eq_true rfl) (fun V (h : MchX csA l (rmX 7 104) D ad ca RX8 cX8_has 3 (some .boolean) E M V) => ?_)
  show V M 0 [(0, .ref (ad 0)), (1, .int a1), (2, .int a2)] []
  unfold tX8_has at hf
  refine r_iload_n (pc := 0) h dX8_has_0 1 rfl rfl ?_
  rcases tor_some hf with hq1 | ⟨-, hf⟩
  · exact r_callSX (pc := 1) (As := [.int a1]) (rest := []) h ms_X8_107 (tg_i 440 (by decide +kernel) rfl) dX8_has_1 (coxX8_requireSet hl hq1) rfl rfl (by decide) (Nat.le_of_ble_eq_true rfl) (by decide)
  obtain ⟨N2, hc3, hf⟩ := bv_some hf
  have hs := sameX8_requireSet hc3
  subst hs
  refine r_callSv (pc := 1) (As := [.int a1]) (rest := []) h ms_X8_107 dX8_has_1 (conX8_requireSet hc3) rfl rfl (by decide) (Nat.le_of_ble_eq_true rfl) ⟨Nat.zero_le _, Nat.zero_le _⟩ ?_
  cases hf
def tX8_put (F : Nat) (a1 : Int32) (a2 : Int32) (a3 : Int32) (M : Mem) : Option String := tor (tX8_requireSet F a1 M) (bv (fX8_requireSet F a1 M) (fun M => none))
set_option maxRecDepth 100000 in
set_option maxHeartbeats 4000000 in
theorem coxX8_put {l : Launch} {D : va_G} {ad : Nat → Nat} {ca : Nat → ClassId} {F : Nat} {a1 : Int32} {a2 : Int32} {a3 : Int32} {M : Mem} {E : String} (hl : l.stackTraces = false) (hf : tX8_put F a1 a2 a3 M = some E) : ConX csA l D ad ca yX8_put cX8_put 4 (some .boolean) 7 104 [.ref (ad 0), .int a1, .int a2, .int a3] M E := by
  refine ConX_of (by decide) (Nat.le_of_ble_eq_true rfl) (fun V (h : MchX csA l (rmX 7 104) D ad ca RX8 cX8_put 4 (some .boolean) E M V) => ?_)
  show V M 0 [(0, .ref (ad 0)), (1, .int a1), (2, .int a2), (3, .int a3)] []
  unfold tX8_put at hf
  refine r_iload_n (pc := 0) h dX8_put_0 1 rfl rfl ?_
  rcases tor_some hf with hq1 | ⟨-, hf⟩
  · exact r_callSX (pc := 1) (As := [.int a1]) (rest := []) h ms_X8_107 (tg_i 440 (by decide +kernel) rfl) dX8_put_1 (coxX8_requireSet hl hq1) rfl rfl (by decide) (Nat.le_of_ble_eq_true rfl) (by decide)
  obtain ⟨N2, hc3, hf⟩ := bv_some hf
  have hs := sameX8_requireSet hc3
  subst hs
  refine r_callSv (pc := 1) (As := [.int a1]) (rest := []) h ms_X8_107 dX8_put_1 (conX8_requireSet hc3) rfl rfl (by decide) (Nat.le_of_ble_eq_true rfl) ⟨Nat.zero_le _, Nat.zero_le _⟩ ?_
  cases hf
def tX8_listed (F : Nat) (a1 : Int32) (a2 : Int32) (M : Mem) : Option String := tor (tX8_requireSet F a1 M) (bv (fX8_requireSet F a1 M) (fun M => none))
set_option maxRecDepth 100000 in
set_option maxHeartbeats 4000000 in
theorem coxX8_listed {l : Launch} {D : va_G} {ad : Nat → Nat} {ca : Nat → ClassId} {F : Nat} {a1 : Int32} {a2 : Int32} {M : Mem} {E : String} (hl : l.stackTraces = false) (hf : tX8_listed F a1 a2 M = some E) : ConX csA l D ad ca yX8_listed cX8_listed 3 (some .int) 7 104 [.ref (ad 0), .int a1, .int a2] M E := by
  refine ConX_of (by decide) (Nat.le_of_ble_eq_true rfl) (fun V (h : MchX csA l (rmX 7 104) D ad ca RX8 cX8_listed 3 (some .int) E M V) => ?_)
  show V M 0 [(0, .ref (ad 0)), (1, .int a1), (2, .int a2)] []
  unfold tX8_listed at hf
  refine r_iload_n (pc := 0) h dX8_listed_0 1 rfl rfl ?_
  rcases tor_some hf with hq1 | ⟨-, hf⟩
  · exact r_callSX (pc := 1) (As := [.int a1]) (rest := []) h ms_X8_107 (tg_i 440 (by decide +kernel) rfl) dX8_listed_1 (coxX8_requireSet hl hq1) rfl rfl (by decide) (Nat.le_of_ble_eq_true rfl) (by decide)
  obtain ⟨N2, hc3, hf⟩ := bv_some hf
  have hs := sameX8_requireSet hc3
  subst hs
  refine r_callSv (pc := 1) (As := [.int a1]) (rest := []) h ms_X8_107 dX8_listed_1 (conX8_requireSet hc3) rfl rfl (by decide) (Nat.le_of_ble_eq_true rfl) ⟨Nat.zero_le _, Nat.zero_le _⟩ ?_
  cases hf
def tX8_size (F : Nat) (a1 : Int32) (M : Mem) : Option String := tor (tX8_requireSet F a1 M) (bv (fX8_requireSet F a1 M) (fun M => none))
set_option maxRecDepth 100000 in
set_option maxHeartbeats 4000000 in
theorem coxX8_size {l : Launch} {D : va_G} {ad : Nat → Nat} {ca : Nat → ClassId} {F : Nat} {a1 : Int32} {M : Mem} {E : String} (hl : l.stackTraces = false) (hf : tX8_size F a1 M = some E) : ConX csA l D ad ca yX8_size cX8_size 2 (some .int) 7 104 [.ref (ad 0), .int a1] M E := by
  refine ConX_of (by decide) (Nat.le_of_ble_eq_true rfl) (fun V (h : MchX csA l (rmX 7 104) D ad ca RX8 cX8_size 2 (some .int) E M V) => ?_)
  show V M 0 [(0, .ref (ad 0)), (1, .int a1)] []
  unfold tX8_size at hf
  refine r_iload_n (pc := 0) h dX8_size_0 1 rfl rfl ?_
  rcases tor_some hf with hq1 | ⟨-, hf⟩
  · exact r_callSX (pc := 1) (As := [.int a1]) (rest := []) h ms_X8_107 (tg_i 440 (by decide +kernel) rfl) dX8_size_1 (coxX8_requireSet hl hq1) rfl rfl (by decide) (Nat.le_of_ble_eq_true rfl) (by decide)
  obtain ⟨N2, hc3, hf⟩ := bv_some hf
  have hs := sameX8_requireSet hc3
  subst hs
  refine r_callSv (pc := 1) (As := [.int a1]) (rest := []) h ms_X8_107 dX8_size_1 (conX8_requireSet hc3) rfl rfl (by decide) (Nat.le_of_ble_eq_true rfl) ⟨Nat.zero_le _, Nat.zero_le _⟩ ?_
  cases hf
def tX8_energy (F : Nat) (a1 : Int32) (M : Mem) : Option String := tor (tX8_requireSet F a1 M) (bv (fX8_requireSet F a1 M) (fun M => none))
set_option maxRecDepth 100000 in
set_option maxHeartbeats 4000000 in
theorem coxX8_energy {l : Launch} {D : va_G} {ad : Nat → Nat} {ca : Nat → ClassId} {F : Nat} {a1 : Int32} {M : Mem} {E : String} (hl : l.stackTraces = false) (hf : tX8_energy F a1 M = some E) : ConX csA l D ad ca yX8_energy cX8_energy 2 (some .int) 7 104 [.ref (ad 0), .int a1] M E := by
  refine ConX_of (by decide) (Nat.le_of_ble_eq_true rfl) (fun V (h : MchX csA l (rmX 7 104) D ad ca RX8 cX8_energy 2 (some .int) E M V) => ?_)
  show V M 0 [(0, .ref (ad 0)), (1, .int a1)] []
  unfold tX8_energy at hf
  refine r_iload_n (pc := 0) h dX8_energy_0 1 rfl rfl ?_
  rcases tor_some hf with hq1 | ⟨-, hf⟩
  · exact r_callSX (pc := 1) (As := [.int a1]) (rest := []) h ms_X8_107 (tg_i 440 (by decide +kernel) rfl) dX8_energy_1 (coxX8_requireSet hl hq1) rfl rfl (by decide) (Nat.le_of_ble_eq_true rfl) (by decide)
  obtain ⟨N2, hc3, hf⟩ := bv_some hf
  have hs := sameX8_requireSet hc3
  subst hs
  refine r_callSv (pc := 1) (As := [.int a1]) (rest := []) h ms_X8_107 dX8_energy_1 (conX8_requireSet hc3) rfl rfl (by decide) (Nat.le_of_ble_eq_true rfl) ⟨Nat.zero_le _, Nat.zero_le _⟩ ?_
  cases hf
def tX8_order (F : Nat) (a1 : Int32) (M : Mem) : Option String := tor (tX8_requireSet F a1 M) (bv (fX8_requireSet F a1 M) (fun M => none))
set_option maxRecDepth 100000 in
set_option maxHeartbeats 4000000 in
theorem coxX8_order {l : Launch} {D : va_G} {ad : Nat → Nat} {ca : Nat → ClassId} {F : Nat} {a1 : Int32} {M : Mem} {E : String} (hl : l.stackTraces = false) (hf : tX8_order F a1 M = some E) : ConX csA l D ad ca yX8_order cX8_order 2 (some .int) 7 104 [.ref (ad 0), .int a1] M E := by
  refine ConX_of (by decide) (Nat.le_of_ble_eq_true rfl) (fun V (h : MchX csA l (rmX 7 104) D ad ca RX8 cX8_order 2 (some .int) E M V) => ?_)
  show V M 0 [(0, .ref (ad 0)), (1, .int a1)] []
  unfold tX8_order at hf
  refine r_iload_n (pc := 0) h dX8_order_0 1 rfl rfl ?_
  rcases tor_some hf with hq1 | ⟨-, hf⟩
  · exact r_callSX (pc := 1) (As := [.int a1]) (rest := []) h ms_X8_107 (tg_i 440 (by decide +kernel) rfl) dX8_order_1 (coxX8_requireSet hl hq1) rfl rfl (by decide) (Nat.le_of_ble_eq_true rfl) (by decide)
  obtain ⟨N2, hc3, hf⟩ := bv_some hf
  have hs := sameX8_requireSet hc3
  subst hs
  refine r_callSv (pc := 1) (As := [.int a1]) (rest := []) h ms_X8_107 dX8_order_1 (conX8_requireSet hc3) rfl rfl (by decide) (Nat.le_of_ble_eq_true rfl) ⟨Nat.zero_le _, Nat.zero_le _⟩ ?_
  cases hf
def tX8_sums (F : Nat) (a1 : Int32) (a2 : Int32) (a3 : Int32) (a4 : Int32) (M : Mem) : Option String := tor (tX8_requireSet F a1 M) (bv (fX8_requireSet F a1 M) (fun M => tor (tX8_requireSet F a2 M) (bv (fX8_requireSet F a2 M) (fun M => tor (tX8_requireSet F a4 M) (bv (fX8_requireSet F a4 M) (fun M => none))))))
set_option maxRecDepth 100000 in
set_option maxHeartbeats 4000000 in
theorem coxX8_sums {l : Launch} {D : va_G} {ad : Nat → Nat} {ca : Nat → ClassId} {F : Nat} {a1 : Int32} {a2 : Int32} {a3 : Int32} {a4 : Int32} {M : Mem} {E : String} (hl : l.stackTraces = false) (hf : tX8_sums F a1 a2 a3 a4 M = some E) : ConX csA l D ad ca yX8_sums cX8_sums 6 (some .int) 7 128 [.ref (ad 0), .int a1, .int a2, .int a3, .int a4] M E := by
  refine ConX_of (by decide) (Nat.le_of_ble_eq_true rfl) (fun V (h : MchX csA l (rmX 7 128) D ad ca RX8 cX8_sums 6 (some .int) E M V) => ?_)
  show V M 0 [(0, .ref (ad 0)), (1, .int a1), (2, .int a2), (3, .int a3), (4, .int a4)] []
  unfold tX8_sums at hf
  refine r_iload_n (pc := 0) h dX8_sums_0 1 rfl rfl ?_
  rcases tor_some hf with hq1 | ⟨-, hf⟩
  · exact r_callSX (pc := 1) (As := [.int a1]) (rest := []) h ms_X8_107 (tg_i 440 (by decide +kernel) rfl) dX8_sums_1 (coxX8_requireSet hl hq1) rfl rfl (by decide) (Nat.le_of_ble_eq_true rfl) (by decide)
  obtain ⟨N2, hc3, hf⟩ := bv_some hf
  have hs := sameX8_requireSet hc3
  subst hs
  refine r_callSv (pc := 1) (As := [.int a1]) (rest := []) h ms_X8_107 dX8_sums_1 (conX8_requireSet hc3) rfl rfl (by decide) (Nat.le_of_ble_eq_true rfl) ⟨Nat.zero_le _, Nat.zero_le _⟩ ?_
  refine r_iload_n (pc := 4) h dX8_sums_4 2 rfl rfl ?_
  rcases tor_some hf with hq4 | ⟨-, hf⟩
  · exact r_callSX (pc := 5) (As := [.int a2]) (rest := []) h ms_X8_107 (tg_i 440 (by decide +kernel) rfl) dX8_sums_5 (coxX8_requireSet hl hq4) rfl rfl (by decide) (Nat.le_of_ble_eq_true rfl) (by decide)
  obtain ⟨N5, hc6, hf⟩ := bv_some hf
  have hs := sameX8_requireSet hc6
  subst hs
  refine r_callSv (pc := 5) (As := [.int a2]) (rest := []) h ms_X8_107 dX8_sums_5 (conX8_requireSet hc6) rfl rfl (by decide) (Nat.le_of_ble_eq_true rfl) ⟨Nat.zero_le _, Nat.zero_le _⟩ ?_
  refine r_iload (pc := 8) h dX8_sums_8 4 rfl ?_
  rcases tor_some hf with hq7 | ⟨-, hf⟩
  · exact r_callSX (pc := 10) (As := [.int a4]) (rest := []) h ms_X8_107 (tg_i 440 (by decide +kernel) rfl) dX8_sums_10 (coxX8_requireSet hl hq7) rfl rfl (by decide) (Nat.le_of_ble_eq_true rfl) (by decide)
  obtain ⟨N8, hc9, hf⟩ := bv_some hf
  have hs := sameX8_requireSet hc9
  subst hs
  refine r_callSv (pc := 10) (As := [.int a4]) (rest := []) h ms_X8_107 dX8_sums_10 (conX8_requireSet hc9) rfl rfl (by decide) (Nat.le_of_ble_eq_true rfl) ⟨Nat.zero_le _, Nat.zero_le _⟩ ?_
  cases hf
def tX8_keep (F : Nat) (a1 : Int32) (a2 : Int32) (M : Mem) : Option String := tor (tX8_requireSet F a1 M) (bv (fX8_requireSet F a1 M) (fun M => if a2 < 0 then (some exA) else (if a2 < (65536 : Int32) then (none) else (some exA))))
set_option maxRecDepth 100000 in
set_option maxHeartbeats 4000000 in
theorem coxX8_keep {l : Launch} {D : va_G} {ad : Nat → Nat} {ca : Nat → ClassId} {F : Nat} {a1 : Int32} {a2 : Int32} {M : Mem} {E : String} (hl : l.stackTraces = false) (hf : tX8_keep F a1 a2 M = some E) : ConX csA l D ad ca yX8_keep cX8_keep 10 (some .int) 7 147 [.ref (ad 0), .int a1, .int a2] M E := by
  refine ConX_of (by decide) (Nat.le_of_ble_eq_true rfl) (fun V (h : MchX csA l (rmX 7 147) D ad ca RX8 cX8_keep 10 (some .int) E M V) => ?_)
  show V M 0 [(0, .ref (ad 0)), (1, .int a1), (2, .int a2)] []
  unfold tX8_keep at hf
  refine r_iload_n (pc := 0) h dX8_keep_0 1 rfl rfl ?_
  rcases tor_some hf with hq1 | ⟨-, hf⟩
  · exact r_callSX (pc := 1) (As := [.int a1]) (rest := []) h ms_X8_107 (tg_i 440 (by decide +kernel) rfl) dX8_keep_1 (coxX8_requireSet hl hq1) rfl rfl (by decide) (Nat.le_of_ble_eq_true rfl) (by decide)
  obtain ⟨N2, hc3, hf⟩ := bv_some hf
  have hs := sameX8_requireSet hc3
  subst hs
  refine r_callSv (pc := 1) (As := [.int a1]) (rest := []) h ms_X8_107 dX8_keep_1 (conX8_requireSet hc3) rfl rfl (by decide) (Nat.le_of_ble_eq_true rfl) ⟨Nat.zero_le _, Nat.zero_le _⟩ ?_
  refine r_iload_n (pc := 4) h dX8_keep_4 2 rfl rfl ?_
  refine r_if_lt (pc := 5) h 15 dX8_keep_5 (by decide) (fun hc4 => ?_) (fun hc4 => ?_)
  · have hf := ite_p hc4 hf
    have hE := Option.some.inj hf
    subst hE
    exact r_throwW (pc := 15) h hl tx_261 dX8_keep_15 dX8_keep_18 dX8_keep_19 dX8_keep_22 dX8_keep_25 (by decide) (by decide) (by decide) (by decide)
  · have hf := ite_n hc4 hf
    refine r_iload_n (pc := 8) h dX8_keep_8 2 rfl rfl ?_
    refine r_ldcw (pc := 9) (v := 65536) h cn_X8_260 dX8_keep_9 ?_
    refine r_icmp_lt (pc := 12) h 26 dX8_keep_12 (by decide) (fun hc5 => ?_) (fun hc5 => ?_)
    · have hf := ite_p hc5 hf
      cases hf
    · have hf := ite_n hc5 hf
      have hE := Option.some.inj hf
      subst hE
      exact r_throwW (pc := 15) h hl tx_261 dX8_keep_15 dX8_keep_18 dX8_keep_19 dX8_keep_22 dX8_keep_25 (by decide) (by decide) (by decide) (by decide)
def tX8_kinds (F : Nat) (a1 : Int32) (M : Mem) : Option String := tor (tX8_requireTurns F a1 M) (bv (fX8_requireTurns F a1 M) (fun M => none))
set_option maxRecDepth 100000 in
set_option maxHeartbeats 4000000 in
theorem coxX8_kinds {l : Launch} {D : va_G} {ad : Nat → Nat} {ca : Nat → ClassId} {F : Nat} {a1 : Int32} {M : Mem} {E : String} (hl : l.stackTraces = false) (hf : tX8_kinds F a1 M = some E) : ConX csA l D ad ca yX8_kinds cX8_kinds 2 (some .int) 7 172 [.ref (ad 0), .int a1] M E := by
  refine ConX_of (by decide) (Nat.le_of_ble_eq_true rfl) (fun V (h : MchX csA l (rmX 7 172) D ad ca RX8 cX8_kinds 2 (some .int) E M V) => ?_)
  show V M 0 [(0, .ref (ad 0)), (1, .int a1)] []
  unfold tX8_kinds at hf
  refine r_iload_n (pc := 0) h dX8_kinds_0 1 rfl rfl ?_
  rcases tor_some hf with hq1 | ⟨-, hf⟩
  · exact r_callSX (pc := 1) (As := [.int a1]) (rest := []) h ms_X8_208 (tg_i 795 (by decide +kernel) rfl) dX8_kinds_1 (coxX8_requireTurns hl hq1) rfl rfl (by decide) (Nat.le_of_ble_eq_true rfl) (by decide)
  obtain ⟨N2, hc3, hf⟩ := bv_some hf
  have hs := sameX8_requireTurns hc3
  subst hs
  refine r_callSv (pc := 1) (As := [.int a1]) (rest := []) h ms_X8_208 dX8_kinds_1 (conX8_requireTurns hc3) rfl rfl (by decide) (Nat.le_of_ble_eq_true rfl) ⟨Nat.zero_le _, Nat.zero_le _⟩ ?_
  cases hf
def tX8_kind (F : Nat) (a1 : Int32) (a2 : Int32) (a3 : Int32) (M : Mem) : Option String := tor (tX8_requireTurns F a1 M) (bv (fX8_requireTurns F a1 M) (fun M => none))
set_option maxRecDepth 100000 in
set_option maxHeartbeats 4000000 in
theorem coxX8_kind {l : Launch} {D : va_G} {ad : Nat → Nat} {ca : Nat → ClassId} {F : Nat} {a1 : Int32} {a2 : Int32} {a3 : Int32} {M : Mem} {E : String} (hl : l.stackTraces = false) (hf : tX8_kind F a1 a2 a3 M = some E) : ConX csA l D ad ca yX8_kind cX8_kind 4 (some .int) 7 172 [.ref (ad 0), .int a1, .int a2, .int a3] M E := by
  refine ConX_of (by decide) (Nat.le_of_ble_eq_true rfl) (fun V (h : MchX csA l (rmX 7 172) D ad ca RX8 cX8_kind 4 (some .int) E M V) => ?_)
  show V M 0 [(0, .ref (ad 0)), (1, .int a1), (2, .int a2), (3, .int a3)] []
  unfold tX8_kind at hf
  refine r_iload_n (pc := 0) h dX8_kind_0 1 rfl rfl ?_
  rcases tor_some hf with hq1 | ⟨-, hf⟩
  · exact r_callSX (pc := 1) (As := [.int a1]) (rest := []) h ms_X8_208 (tg_i 795 (by decide +kernel) rfl) dX8_kind_1 (coxX8_requireTurns hl hq1) rfl rfl (by decide) (Nat.le_of_ble_eq_true rfl) (by decide)
  obtain ⟨N2, hc3, hf⟩ := bv_some hf
  have hs := sameX8_requireTurns hc3
  subst hs
  refine r_callSv (pc := 1) (As := [.int a1]) (rest := []) h ms_X8_208 dX8_kind_1 (conX8_requireTurns hc3) rfl rfl (by decide) (Nat.le_of_ble_eq_true rfl) ⟨Nat.zero_le _, Nat.zero_le _⟩ ?_
  cases hf
def tX8_room (F : Nat) (a1 : Int32) (M : Mem) : Option String := tor (tX8_requireSet F a1 M) (bv (fX8_requireSet F a1 M) (fun M => none))
set_option maxRecDepth 100000 in
set_option maxHeartbeats 4000000 in
theorem coxX8_room {l : Launch} {D : va_G} {ad : Nat → Nat} {ca : Nat → ClassId} {F : Nat} {a1 : Int32} {M : Mem} {E : String} (hl : l.stackTraces = false) (hf : tX8_room F a1 M = some E) : ConX csA l D ad ca yX8_room cX8_room 3 (some .int) 7 180 [.ref (ad 0), .int a1] M E := by
  refine ConX_of (by decide) (Nat.le_of_ble_eq_true rfl) (fun V (h : MchX csA l (rmX 7 180) D ad ca RX8 cX8_room 3 (some .int) E M V) => ?_)
  show V M 0 [(0, .ref (ad 0)), (1, .int a1)] []
  unfold tX8_room at hf
  refine r_iload_n (pc := 0) h dX8_room_0 1 rfl rfl ?_
  rcases tor_some hf with hq1 | ⟨-, hf⟩
  · exact r_callSX (pc := 1) (As := [.int a1]) (rest := []) h ms_X8_107 (tg_i 440 (by decide +kernel) rfl) dX8_room_1 (coxX8_requireSet hl hq1) rfl rfl (by decide) (Nat.le_of_ble_eq_true rfl) (by decide)
  obtain ⟨N2, hc3, hf⟩ := bv_some hf
  have hs := sameX8_requireSet hc3
  subst hs
  refine r_callSv (pc := 1) (As := [.int a1]) (rest := []) h ms_X8_107 dX8_room_1 (conX8_requireSet hc3) rfl rfl (by decide) (Nat.le_of_ble_eq_true rfl) ⟨Nat.zero_le _, Nat.zero_le _⟩ ?_
  cases hf
def tX8_clash (F : Nat) (a1 : Int32) (M : Mem) : Option String := tor (tX8_requireSet F a1 M) (bv (fX8_requireSet F a1 M) (fun M => none))
set_option maxRecDepth 100000 in
set_option maxHeartbeats 4000000 in
theorem coxX8_clash {l : Launch} {D : va_G} {ad : Nat → Nat} {ca : Nat → ClassId} {F : Nat} {a1 : Int32} {M : Mem} {E : String} (hl : l.stackTraces = false) (hf : tX8_clash F a1 M = some E) : ConX csA l D ad ca yX8_clash cX8_clash 3 (some .int) 7 180 [.ref (ad 0), .int a1] M E := by
  refine ConX_of (by decide) (Nat.le_of_ble_eq_true rfl) (fun V (h : MchX csA l (rmX 7 180) D ad ca RX8 cX8_clash 3 (some .int) E M V) => ?_)
  show V M 0 [(0, .ref (ad 0)), (1, .int a1)] []
  unfold tX8_clash at hf
  refine r_iload_n (pc := 0) h dX8_clash_0 1 rfl rfl ?_
  rcases tor_some hf with hq1 | ⟨-, hf⟩
  · exact r_callSX (pc := 1) (As := [.int a1]) (rest := []) h ms_X8_107 (tg_i 440 (by decide +kernel) rfl) dX8_clash_1 (coxX8_requireSet hl hq1) rfl rfl (by decide) (Nat.le_of_ble_eq_true rfl) (by decide)
  obtain ⟨N2, hc3, hf⟩ := bv_some hf
  have hs := sameX8_requireSet hc3
  subst hs
  refine r_callSv (pc := 1) (As := [.int a1]) (rest := []) h ms_X8_107 dX8_clash_1 (conX8_requireSet hc3) rfl rfl (by decide) (Nat.le_of_ble_eq_true rfl) ⟨Nat.zero_le _, Nat.zero_le _⟩ ?_
  cases hf
def tX8_greatest (F : Nat) (a1 : Int32) (a2 : Int32) (M : Mem) : Option String := tor (tX8_requireSet F a1 M) (bv (fX8_requireSet F a1 M) (fun M => tor (tX8_requireLooks F a2 M) (bv (fX8_requireLooks F a2 M) (fun M => none))))
set_option maxRecDepth 100000 in
set_option maxHeartbeats 4000000 in
theorem coxX8_greatest {l : Launch} {D : va_G} {ad : Nat → Nat} {ca : Nat → ClassId} {F : Nat} {a1 : Int32} {a2 : Int32} {M : Mem} {E : String} (hl : l.stackTraces = false) (hf : tX8_greatest F a1 a2 M = some E) : ConX csA l D ad ca yX8_greatest cX8_greatest 3 (some .int) 7 183 [.ref (ad 0), .int a1, .int a2] M E := by
  refine ConX_of (by decide) (Nat.le_of_ble_eq_true rfl) (fun V (h : MchX csA l (rmX 7 183) D ad ca RX8 cX8_greatest 3 (some .int) E M V) => ?_)
  show V M 0 [(0, .ref (ad 0)), (1, .int a1), (2, .int a2)] []
  unfold tX8_greatest at hf
  refine r_iload_n (pc := 0) h dX8_greatest_0 1 rfl rfl ?_
  rcases tor_some hf with hq1 | ⟨-, hf⟩
  · exact r_callSX (pc := 1) (As := [.int a1]) (rest := []) h ms_X8_107 (tg_i 440 (by decide +kernel) rfl) dX8_greatest_1 (coxX8_requireSet hl hq1) rfl rfl (by decide) (Nat.le_of_ble_eq_true rfl) (by decide)
  obtain ⟨N2, hc3, hf⟩ := bv_some hf
  have hs := sameX8_requireSet hc3
  subst hs
  refine r_callSv (pc := 1) (As := [.int a1]) (rest := []) h ms_X8_107 dX8_greatest_1 (conX8_requireSet hc3) rfl rfl (by decide) (Nat.le_of_ble_eq_true rfl) ⟨Nat.zero_le _, Nat.zero_le _⟩ ?_
  refine r_iload_n (pc := 4) h dX8_greatest_4 2 rfl rfl ?_
  rcases tor_some hf with hq4 | ⟨-, hf⟩
  · exact r_callSX (pc := 5) (As := [.int a2]) (rest := []) h ms_X8_183 (tg_i 746 (by decide +kernel) rfl) dX8_greatest_5 (coxX8_requireLooks hl hq4) rfl rfl (by decide) (Nat.le_of_ble_eq_true rfl) (by decide)
  obtain ⟨N5, hc6, hf⟩ := bv_some hf
  have hs := sameX8_requireLooks hc6
  subst hs
  refine r_callSv (pc := 5) (As := [.int a2]) (rest := []) h ms_X8_183 dX8_greatest_5 (conX8_requireLooks hc6) rfl rfl (by decide) (Nat.le_of_ble_eq_true rfl) ⟨Nat.zero_le _, Nat.zero_le _⟩ ?_
  cases hf
def tX8_count (F : Nat) (a1 : Int32) (M : Mem) : Option String := tor (tX8_requireLooks F a1 M) (bv (fX8_requireLooks F a1 M) (fun M => none))
set_option maxRecDepth 100000 in
set_option maxHeartbeats 4000000 in
theorem coxX8_count {l : Launch} {D : va_G} {ad : Nat → Nat} {ca : Nat → ClassId} {F : Nat} {a1 : Int32} {M : Mem} {E : String} (hl : l.stackTraces = false) (hf : tX8_count F a1 M = some E) : ConX csA l D ad ca yX8_count cX8_count 2 (some .int) 7 183 [.ref (ad 0), .int a1] M E := by
  refine ConX_of (by decide) (Nat.le_of_ble_eq_true rfl) (fun V (h : MchX csA l (rmX 7 183) D ad ca RX8 cX8_count 2 (some .int) E M V) => ?_)
  show V M 0 [(0, .ref (ad 0)), (1, .int a1)] []
  unfold tX8_count at hf
  refine r_iload_n (pc := 0) h dX8_count_0 1 rfl rfl ?_
  rcases tor_some hf with hq1 | ⟨-, hf⟩
  · exact r_callSX (pc := 1) (As := [.int a1]) (rest := []) h ms_X8_183 (tg_i 746 (by decide +kernel) rfl) dX8_count_1 (coxX8_requireLooks hl hq1) rfl rfl (by decide) (Nat.le_of_ble_eq_true rfl) (by decide)
  obtain ⟨N2, hc3, hf⟩ := bv_some hf
  have hs := sameX8_requireLooks hc3
  subst hs
  refine r_callSv (pc := 1) (As := [.int a1]) (rest := []) h ms_X8_183 dX8_count_1 (conX8_requireLooks hc3) rfl rfl (by decide) (Nat.le_of_ble_eq_true rfl) ⟨Nat.zero_le _, Nat.zero_le _⟩ ?_
  cases hf
def tX8_list (F : Nat) (a1 : Int32) (M : Mem) : Option String := tor (tX8_requireLooks F a1 M) (bv (fX8_requireLooks F a1 M) (fun M => none))
set_option maxRecDepth 100000 in
set_option maxHeartbeats 4000000 in
theorem coxX8_list {l : Launch} {D : va_G} {ad : Nat → Nat} {ca : Nat → ClassId} {F : Nat} {a1 : Int32} {M : Mem} {E : String} (hl : l.stackTraces = false) (hf : tX8_list F a1 M = some E) : ConX csA l D ad ca yX8_list cX8_list 2 (some .int) 7 183 [.ref (ad 0), .int a1] M E := by
  refine ConX_of (by decide) (Nat.le_of_ble_eq_true rfl) (fun V (h : MchX csA l (rmX 7 183) D ad ca RX8 cX8_list 2 (some .int) E M V) => ?_)
  show V M 0 [(0, .ref (ad 0)), (1, .int a1)] []
  unfold tX8_list at hf
  refine r_iload_n (pc := 0) h dX8_list_0 1 rfl rfl ?_
  rcases tor_some hf with hq1 | ⟨-, hf⟩
  · exact r_callSX (pc := 1) (As := [.int a1]) (rest := []) h ms_X8_183 (tg_i 746 (by decide +kernel) rfl) dX8_list_1 (coxX8_requireLooks hl hq1) rfl rfl (by decide) (Nat.le_of_ble_eq_true rfl) (by decide)
  obtain ⟨N2, hc3, hf⟩ := bv_some hf
  have hs := sameX8_requireLooks hc3
  subst hs
  refine r_callSv (pc := 1) (As := [.int a1]) (rest := []) h ms_X8_183 dX8_list_1 (conX8_requireLooks hc3) rfl rfl (by decide) (Nat.le_of_ble_eq_true rfl) ⟨Nat.zero_le _, Nat.zero_le _⟩ ?_
  cases hf
def tX8_colours (F : Nat) (a1 : Int32) (a2 : Int32) (M : Mem) : Option String := tor (tX8_requireColours F a1 M) (bv (fX8_requireColours F a1 M) (fun M => tor (tX8_requireLooks F a2 M) (bv (fX8_requireLooks F a2 M) (fun M => none))))
set_option maxRecDepth 100000 in
set_option maxHeartbeats 4000000 in
theorem coxX8_colours {l : Launch} {D : va_G} {ad : Nat → Nat} {ca : Nat → ClassId} {F : Nat} {a1 : Int32} {a2 : Int32} {M : Mem} {E : String} (hl : l.stackTraces = false) (hf : tX8_colours F a1 a2 M = some E) : ConX csA l D ad ca yX8_colours cX8_colours 4 (some .int) 7 185 [.ref (ad 0), .int a1, .int a2] M E := by
  refine ConX_of (by decide) (Nat.le_of_ble_eq_true rfl) (fun V (h : MchX csA l (rmX 7 185) D ad ca RX8 cX8_colours 4 (some .int) E M V) => ?_)
  show V M 0 [(0, .ref (ad 0)), (1, .int a1), (2, .int a2)] []
  unfold tX8_colours at hf
  refine r_iload_n (pc := 0) h dX8_colours_0 1 rfl rfl ?_
  rcases tor_some hf with hq1 | ⟨-, hf⟩
  · exact r_callSX (pc := 1) (As := [.int a1]) (rest := []) h ms_X8_229 (tg_i 867 (by decide +kernel) rfl) dX8_colours_1 (coxX8_requireColours hl hq1) rfl rfl (by decide) (Nat.le_of_ble_eq_true rfl) (by decide)
  obtain ⟨N2, hc3, hf⟩ := bv_some hf
  have hs := sameX8_requireColours hc3
  subst hs
  refine r_callSv (pc := 1) (As := [.int a1]) (rest := []) h ms_X8_229 dX8_colours_1 (conX8_requireColours hc3) rfl rfl (by decide) (Nat.le_of_ble_eq_true rfl) ⟨Nat.zero_le _, Nat.zero_le _⟩ ?_
  refine r_iload_n (pc := 4) h dX8_colours_4 2 rfl rfl ?_
  rcases tor_some hf with hq4 | ⟨-, hf⟩
  · exact r_callSX (pc := 5) (As := [.int a2]) (rest := []) h ms_X8_183 (tg_i 746 (by decide +kernel) rfl) dX8_colours_5 (coxX8_requireLooks hl hq4) rfl rfl (by decide) (Nat.le_of_ble_eq_true rfl) (by decide)
  obtain ⟨N5, hc6, hf⟩ := bv_some hf
  have hs := sameX8_requireLooks hc6
  subst hs
  refine r_callSv (pc := 5) (As := [.int a2]) (rest := []) h ms_X8_183 dX8_colours_5 (conX8_requireLooks hc6) rfl rfl (by decide) (Nat.le_of_ble_eq_true rfl) ⟨Nat.zero_le _, Nat.zero_le _⟩ ?_
  cases hf
def tX8_forced (F : Nat) (a1 : Int32) (a2 : Int32) (M : Mem) : Option String := tor (tX8_requireColours F a1 M) (bv (fX8_requireColours F a1 M) (fun M => tor (tX8_requireLooks F a2 M) (bv (fX8_requireLooks F a2 M) (fun M => none))))
set_option maxRecDepth 100000 in
set_option maxHeartbeats 4000000 in
theorem coxX8_forced {l : Launch} {D : va_G} {ad : Nat → Nat} {ca : Nat → ClassId} {F : Nat} {a1 : Int32} {a2 : Int32} {M : Mem} {E : String} (hl : l.stackTraces = false) (hf : tX8_forced F a1 a2 M = some E) : ConX csA l D ad ca yX8_forced cX8_forced 5 (some .int) 7 185 [.ref (ad 0), .int a1, .int a2] M E := by
  refine ConX_of (by decide) (Nat.le_of_ble_eq_true rfl) (fun V (h : MchX csA l (rmX 7 185) D ad ca RX8 cX8_forced 5 (some .int) E M V) => ?_)
  show V M 0 [(0, .ref (ad 0)), (1, .int a1), (2, .int a2)] []
  unfold tX8_forced at hf
  refine r_iload_n (pc := 0) h dX8_forced_0 1 rfl rfl ?_
  rcases tor_some hf with hq1 | ⟨-, hf⟩
  · exact r_callSX (pc := 1) (As := [.int a1]) (rest := []) h ms_X8_229 (tg_i 867 (by decide +kernel) rfl) dX8_forced_1 (coxX8_requireColours hl hq1) rfl rfl (by decide) (Nat.le_of_ble_eq_true rfl) (by decide)
  obtain ⟨N2, hc3, hf⟩ := bv_some hf
  have hs := sameX8_requireColours hc3
  subst hs
  refine r_callSv (pc := 1) (As := [.int a1]) (rest := []) h ms_X8_229 dX8_forced_1 (conX8_requireColours hc3) rfl rfl (by decide) (Nat.le_of_ble_eq_true rfl) ⟨Nat.zero_le _, Nat.zero_le _⟩ ?_
  refine r_iload_n (pc := 4) h dX8_forced_4 2 rfl rfl ?_
  rcases tor_some hf with hq4 | ⟨-, hf⟩
  · exact r_callSX (pc := 5) (As := [.int a2]) (rest := []) h ms_X8_183 (tg_i 746 (by decide +kernel) rfl) dX8_forced_5 (coxX8_requireLooks hl hq4) rfl rfl (by decide) (Nat.le_of_ble_eq_true rfl) (by decide)
  obtain ⟨N5, hc6, hf⟩ := bv_some hf
  have hs := sameX8_requireLooks hc6
  subst hs
  refine r_callSv (pc := 5) (As := [.int a2]) (rest := []) h ms_X8_183 dX8_forced_5 (conX8_requireLooks hc6) rfl rfl (by decide) (Nat.le_of_ble_eq_true rfl) ⟨Nat.zero_le _, Nat.zero_le _⟩ ?_
  cases hf
