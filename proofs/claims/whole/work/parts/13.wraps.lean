def fL_at (F : Nat) (a1 : Int32) (a2 : Int32) (M : Mem) : Option (Int32 × Mem) := bd (fX8_at F a1 a2 M) (fun u3 N1 => gd (inb (0 : Int32) 1) (nm (pL N1 55 (Int32.toNatClampNeg (0 : Int32)) (Int32.toInt64 u3)) (fun N5 : Mem => some ((0 : Int32), N5))))
set_option maxRecDepth 100000 in
set_option maxHeartbeats 4000000 in
theorem conL_at {l : Launch} {D : va_G} {ad : Nat → Nat} {ca : Nat → ClassId} {F : Nat} {a1 : Int32} {a2 : Int32} {M : Mem} {r : Int32} {M' : Mem} (hf : fL_at F a1 a2 M = some (r, M')) : ConW csA l D ad ca yL_at cL_at 5 [(0, 10, 13, 13), (0, 10, 17, 32)] 8 126 [.ref (ad 0), .int a1, .int a2, .ref (ad 55)] M r M' := by
  refine ConW_of (by decide) (Nat.le_of_ble_eq_true rfl) (fun V (h : MchW csA l (rmX 8 126) D ad ca RL cL_at 5 [(0, 10, 13, 13), (0, 10, 17, 32)] 0 0 r M' V) => ?_)
  show V M 0 [(0, .ref (ad 0)), (1, .int a1), (2, .int a2), (3, .ref (ad 55))] []
  unfold fL_at at hf
  refine r_aload_n (pc := 0) h dL_at_0 3 rfl rfl ?_
  refine r_iconst (pc := 1) (v := (0 : Int32)) h dL_at_1 (by decide) ?_
  refine r_aload_n (pc := 2) h dL_at_2 0 rfl rfl ?_
  refine r_iload_n (pc := 3) h dL_at_3 1 rfl rfl ?_
  refine r_iload_n (pc := 4) h dL_at_4 2 rfl rfl ?_
  obtain ⟨u3, N1, hc2, hf⟩ := bd_some hf
  refine r_callVi (pc := 5) (o := 0) (As := [.int a1, .int a2]) (rest := [.int (0 : Int32), .ref (ad 55)]) h mv_L_29 dL_at_5 (by decide) rfl rfl (conX8_at hc2) rfl rfl (by decide) (Nat.le_of_ble_eq_true rfl) ⟨Nat.zero_le _, Nat.zero_le _⟩ ?_
  refine r_i2l (pc := 8) h dL_at_8 ?_
  obtain ⟨hi4, hf⟩ := gd_some hf
  refine r_last (pc := 9) h (by decide) rfl hi4 dL_at_9 ?_
  refine r_mem (fun N5 eN5 => ?_)
  have hf := nm_app eN5 hf
  refine r_goto (pc := 10) h 21 dL_at_10 (by decide) ?_
  refine r_iconst (pc := 21) (v := (0 : Int32)) h dL_at_21 (by decide) ?_
  obtain ⟨rfl, rfl⟩ := sp_i hf
  exact r_iretW (pc := 22) h (by decide) dL_at_22
set_option maxRecDepth 100000 in
set_option maxHeartbeats 4000000 in
theorem coxL_at_exI {l : Launch} {D : va_G} {ad : Nat → Nat} {ca : Nat → ClassId} {F : Nat} {a1 : Int32} {a2 : Int32} {M : Mem} (hl : l.stackTraces = false) (hf : tX8_at F a1 a2 M = some exI) : ConW csA l D ad ca yL_at cL_at 5 [(0, 10, 13, 13), (0, 10, 17, 32)] 8 126 [.ref (ad 0), .int a1, .int a2, .ref (ad 55)] M 1 M := by
  refine ConW_of (by decide) (Nat.le_of_ble_eq_true rfl) (fun V (h : MchW csA l (rmX 8 126) D ad ca RL cL_at 5 [(0, 10, 13, 13), (0, 10, 17, 32)] 0 0 1 M V) => ?_)
  show V M 0 [(0, .ref (ad 0)), (1, .int a1), (2, .int a2), (3, .ref (ad 55))] []
  refine r_aload_n (pc := 0) h dL_at_0 3 rfl rfl ?_
  refine r_iconst (pc := 1) (v := (0 : Int32)) h dL_at_1 (by decide) ?_
  refine r_aload_n (pc := 2) h dL_at_2 0 rfl rfl ?_
  refine r_iload_n (pc := 3) h dL_at_3 1 rfl rfl ?_
  refine r_iload_n (pc := 4) h dL_at_4 2 rfl rfl ?_
  refine r_callVXc (pc := 5) (o := 0) (As := [.int a1, .int a2]) (rest := [.int (0 : Int32), .ref (ad 55)]) h mv_L_29 dL_at_5 (by decide) rfl rfl (coxX8_at hl hf) rfl rfl (by decide) (Nat.le_of_ble_eq_true rfl) (by decide) [] ⟨0, 10, 13, 13⟩ [⟨0, 10, 17, 32⟩] rfl (fun z hz => nomatch hz) (by decide) (by decide) (tg_i 434 (by decide +kernel) rfl) (tb_i 445 (by decide +kernel)) (fun V1 h q => ?_)
  refine r_astore (pc := 13) (lv' := [(4, .ref q), (0, .ref (ad 0)), (1, .int a1), (2, .int a2), (3, .ref (ad 55))]) h dL_at_13 (by decide) rfl ?_
  refine r_iconst (pc := 15) (v := (1 : Int32)) h dL_at_15 (by decide) ?_
  exact r_iretW (pc := 16) h (by decide) dL_at_16
set_option maxRecDepth 100000 in
set_option maxHeartbeats 4000000 in
theorem coxL_at_exN {l : Launch} {D : va_G} {ad : Nat → Nat} {ca : Nat → ClassId} {F : Nat} {a1 : Int32} {a2 : Int32} {M : Mem} (hl : l.stackTraces = false) (hf : tX8_at F a1 a2 M = some exN) : ConW csA l D ad ca yL_at cL_at 5 [(0, 10, 13, 13), (0, 10, 17, 32)] 8 126 [.ref (ad 0), .int a1, .int a2, .ref (ad 55)] M 2 M := by
  refine ConW_of (by decide) (Nat.le_of_ble_eq_true rfl) (fun V (h : MchW csA l (rmX 8 126) D ad ca RL cL_at 5 [(0, 10, 13, 13), (0, 10, 17, 32)] 0 0 2 M V) => ?_)
  show V M 0 [(0, .ref (ad 0)), (1, .int a1), (2, .int a2), (3, .ref (ad 55))] []
  refine r_aload_n (pc := 0) h dL_at_0 3 rfl rfl ?_
  refine r_iconst (pc := 1) (v := (0 : Int32)) h dL_at_1 (by decide) ?_
  refine r_aload_n (pc := 2) h dL_at_2 0 rfl rfl ?_
  refine r_iload_n (pc := 3) h dL_at_3 1 rfl rfl ?_
  refine r_iload_n (pc := 4) h dL_at_4 2 rfl rfl ?_
  refine r_callVXc (pc := 5) (o := 0) (As := [.int a1, .int a2]) (rest := [.int (0 : Int32), .ref (ad 55)]) h mv_L_29 dL_at_5 (by decide) rfl rfl (coxX8_at hl hf) rfl rfl (by decide) (Nat.le_of_ble_eq_true rfl) (by decide) [⟨0, 10, 13, 13⟩] ⟨0, 10, 17, 32⟩ [] rfl (fun z hz => by rcases List.mem_singleton.mp hz with rfl; exact ⟨by decide, by decide, (tg_i 434 (by decide +kernel) rfl), Or.inr rfl⟩) (by decide) (by decide) (tg_i 559 (by decide +kernel) rfl) (tb_i 566 (by decide +kernel)) (fun V1 h q => ?_)
  refine r_astore (pc := 17) (lv' := [(4, .ref q), (0, .ref (ad 0)), (1, .int a1), (2, .int a2), (3, .ref (ad 55))]) h dL_at_17 (by decide) rfl ?_
  refine r_iconst (pc := 19) (v := (2 : Int32)) h dL_at_19 (by decide) ?_
  exact r_iretW (pc := 20) h (by decide) dL_at_20
def fL_clash (F : Nat) (a1 : Int32) (M : Mem) : Option (Int32 × Mem) := bd (fX8_clash F a1 M) (fun u3 N1 => gd (inb (0 : Int32) 1) (nm (pL N1 55 (Int32.toNatClampNeg (0 : Int32)) (Int32.toInt64 u3)) (fun N5 : Mem => some ((0 : Int32), N5))))
set_option maxRecDepth 100000 in
set_option maxHeartbeats 4000000 in
theorem conL_clash {l : Launch} {D : va_G} {ad : Nat → Nat} {ca : Nat → ClassId} {F : Nat} {a1 : Int32} {M : Mem} {r : Int32} {M' : Mem} (hf : fL_clash F a1 M = some (r, M')) : ConW csA l D ad ca yL_clash cL_clash 4 [(0, 9, 12, 13)] 8 202 [.ref (ad 0), .int a1, .ref (ad 55)] M r M' := by
  refine ConW_of (by decide) (Nat.le_of_ble_eq_true rfl) (fun V (h : MchW csA l (rmX 8 202) D ad ca RL cL_clash 4 [(0, 9, 12, 13)] 0 0 r M' V) => ?_)
  show V M 0 [(0, .ref (ad 0)), (1, .int a1), (2, .ref (ad 55))] []
  unfold fL_clash at hf
  refine r_aload_n (pc := 0) h dL_clash_0 2 rfl rfl ?_
  refine r_iconst (pc := 1) (v := (0 : Int32)) h dL_clash_1 (by decide) ?_
  refine r_aload_n (pc := 2) h dL_clash_2 0 rfl rfl ?_
  refine r_iload_n (pc := 3) h dL_clash_3 1 rfl rfl ?_
  obtain ⟨u3, N1, hc2, hf⟩ := bd_some hf
  refine r_callVi (pc := 4) (o := 0) (As := [.int a1]) (rest := [.int (0 : Int32), .ref (ad 55)]) h mv_L_34 dL_clash_4 (by decide) rfl rfl (conX8_clash hc2) rfl rfl (by decide) (Nat.le_of_ble_eq_true rfl) ⟨Nat.zero_le _, Nat.zero_le _⟩ ?_
  refine r_i2l (pc := 7) h dL_clash_7 ?_
  obtain ⟨hi4, hf⟩ := gd_some hf
  refine r_last (pc := 8) h (by decide) rfl hi4 dL_clash_8 ?_
  refine r_mem (fun N5 eN5 => ?_)
  have hf := nm_app eN5 hf
  refine r_goto (pc := 9) h 15 dL_clash_9 (by decide) ?_
  refine r_iconst (pc := 15) (v := (0 : Int32)) h dL_clash_15 (by decide) ?_
  obtain ⟨rfl, rfl⟩ := sp_i hf
  exact r_iretW (pc := 16) h (by decide) dL_clash_16
set_option maxRecDepth 100000 in
set_option maxHeartbeats 4000000 in
theorem coxL_clash_exI {l : Launch} {D : va_G} {ad : Nat → Nat} {ca : Nat → ClassId} {F : Nat} {a1 : Int32} {M : Mem} (hl : l.stackTraces = false) (hf : tX8_clash F a1 M = some exI) : ConW csA l D ad ca yL_clash cL_clash 4 [(0, 9, 12, 13)] 8 202 [.ref (ad 0), .int a1, .ref (ad 55)] M 1 M := by
  refine ConW_of (by decide) (Nat.le_of_ble_eq_true rfl) (fun V (h : MchW csA l (rmX 8 202) D ad ca RL cL_clash 4 [(0, 9, 12, 13)] 0 0 1 M V) => ?_)
  show V M 0 [(0, .ref (ad 0)), (1, .int a1), (2, .ref (ad 55))] []
  refine r_aload_n (pc := 0) h dL_clash_0 2 rfl rfl ?_
  refine r_iconst (pc := 1) (v := (0 : Int32)) h dL_clash_1 (by decide) ?_
  refine r_aload_n (pc := 2) h dL_clash_2 0 rfl rfl ?_
  refine r_iload_n (pc := 3) h dL_clash_3 1 rfl rfl ?_
  refine r_callVXc (pc := 4) (o := 0) (As := [.int a1]) (rest := [.int (0 : Int32), .ref (ad 55)]) h mv_L_34 dL_clash_4 (by decide) rfl rfl (coxX8_clash hl hf) rfl rfl (by decide) (Nat.le_of_ble_eq_true rfl) (by decide) [] ⟨0, 9, 12, 13⟩ [] rfl (fun z hz => nomatch hz) (by decide) (by decide) (tg_i 434 (by decide +kernel) rfl) (tb_i 445 (by decide +kernel)) (fun V1 h q => ?_)
  refine r_astore_n (pc := 12) (lv' := [(3, .ref q), (0, .ref (ad 0)), (1, .int a1), (2, .ref (ad 55))]) h dL_clash_12 rfl (by decide) rfl ?_
  refine r_iconst (pc := 13) (v := (1 : Int32)) h dL_clash_13 (by decide) ?_
  exact r_iretW (pc := 14) h (by decide) dL_clash_14
def fL_colours (F : Nat) (a1 : Int32) (a2 : Int32) (M : Mem) : Option (Int32 × Mem) := bd (fX8_colours F a1 a2 M) (fun u3 N1 => gd (inb (0 : Int32) 1) (nm (pL N1 55 (Int32.toNatClampNeg (0 : Int32)) (Int32.toInt64 u3)) (fun N5 : Mem => some ((0 : Int32), N5))))
set_option maxRecDepth 100000 in
set_option maxHeartbeats 4000000 in
theorem conL_colours {l : Launch} {D : va_G} {ad : Nat → Nat} {ca : Nat → ClassId} {F : Nat} {a1 : Int32} {a2 : Int32} {M : Mem} {r : Int32} {M' : Mem} (hf : fL_colours F a1 a2 M = some (r, M')) : ConW csA l D ad ca yL_colours cL_colours 5 [(0, 10, 13, 15)] 8 208 [.ref (ad 0), .int a1, .int a2, .ref (ad 55)] M r M' := by
  refine ConW_of (by decide) (Nat.le_of_ble_eq_true rfl) (fun V (h : MchW csA l (rmX 8 208) D ad ca RL cL_colours 5 [(0, 10, 13, 15)] 0 0 r M' V) => ?_)
  show V M 0 [(0, .ref (ad 0)), (1, .int a1), (2, .int a2), (3, .ref (ad 55))] []
  unfold fL_colours at hf
  refine r_aload_n (pc := 0) h dL_colours_0 3 rfl rfl ?_
  refine r_iconst (pc := 1) (v := (0 : Int32)) h dL_colours_1 (by decide) ?_
  refine r_aload_n (pc := 2) h dL_colours_2 0 rfl rfl ?_
  refine r_iload_n (pc := 3) h dL_colours_3 1 rfl rfl ?_
  refine r_iload_n (pc := 4) h dL_colours_4 2 rfl rfl ?_
  obtain ⟨u3, N1, hc2, hf⟩ := bd_some hf
  refine r_callVi (pc := 5) (o := 0) (As := [.int a1, .int a2]) (rest := [.int (0 : Int32), .ref (ad 55)]) h mv_L_62 dL_colours_5 (by decide) rfl rfl (conX8_colours hc2) rfl rfl (by decide) (Nat.le_of_ble_eq_true rfl) ⟨Nat.zero_le _, Nat.zero_le _⟩ ?_
  refine r_i2l (pc := 8) h dL_colours_8 ?_
  obtain ⟨hi4, hf⟩ := gd_some hf
  refine r_last (pc := 9) h (by decide) rfl hi4 dL_colours_9 ?_
  refine r_mem (fun N5 eN5 => ?_)
  have hf := nm_app eN5 hf
  refine r_goto (pc := 10) h 17 dL_colours_10 (by decide) ?_
  refine r_iconst (pc := 17) (v := (0 : Int32)) h dL_colours_17 (by decide) ?_
  obtain ⟨rfl, rfl⟩ := sp_i hf
  exact r_iretW (pc := 18) h (by decide) dL_colours_18
set_option maxRecDepth 100000 in
set_option maxHeartbeats 4000000 in
theorem coxL_colours_exA {l : Launch} {D : va_G} {ad : Nat → Nat} {ca : Nat → ClassId} {F : Nat} {a1 : Int32} {a2 : Int32} {M : Mem} (hl : l.stackTraces = false) (hf : tX8_colours F a1 a2 M = some exA) : ConW csA l D ad ca yL_colours cL_colours 5 [(0, 10, 13, 15)] 8 208 [.ref (ad 0), .int a1, .int a2, .ref (ad 55)] M 1 M := by
  refine ConW_of (by decide) (Nat.le_of_ble_eq_true rfl) (fun V (h : MchW csA l (rmX 8 208) D ad ca RL cL_colours 5 [(0, 10, 13, 15)] 0 0 1 M V) => ?_)
  show V M 0 [(0, .ref (ad 0)), (1, .int a1), (2, .int a2), (3, .ref (ad 55))] []
  refine r_aload_n (pc := 0) h dL_colours_0 3 rfl rfl ?_
  refine r_iconst (pc := 1) (v := (0 : Int32)) h dL_colours_1 (by decide) ?_
  refine r_aload_n (pc := 2) h dL_colours_2 0 rfl rfl ?_
  refine r_iload_n (pc := 3) h dL_colours_3 1 rfl rfl ?_
  refine r_iload_n (pc := 4) h dL_colours_4 2 rfl rfl ?_
  refine r_callVXc (pc := 5) (o := 0) (As := [.int a1, .int a2]) (rest := [.int (0 : Int32), .ref (ad 55)]) h mv_L_62 dL_colours_5 (by decide) rfl rfl (coxX8_colours hl hf) rfl rfl (by decide) (Nat.le_of_ble_eq_true rfl) (by decide) [] ⟨0, 10, 13, 15⟩ [] rfl (fun z hz => nomatch hz) (by decide) (by decide) (tg_i 435 (by decide +kernel) rfl) (tb_i 512 (by decide +kernel)) (fun V1 h q => ?_)
  refine r_astore (pc := 13) (lv' := [(4, .ref q), (0, .ref (ad 0)), (1, .int a1), (2, .int a2), (3, .ref (ad 55))]) h dL_colours_13 (by decide) rfl ?_
  refine r_iconst (pc := 15) (v := (1 : Int32)) h dL_colours_15 (by decide) ?_
  exact r_iretW (pc := 16) h (by decide) dL_colours_16
def fL_count (F : Nat) (a1 : Int32) (M : Mem) : Option (Int32 × Mem) := bd (fX8_count F a1 M) (fun u3 N1 => gd (inb (0 : Int32) 1) (nm (pL N1 55 (Int32.toNatClampNeg (0 : Int32)) (Int32.toInt64 u3)) (fun N5 : Mem => some ((0 : Int32), N5))))
set_option maxRecDepth 100000 in
set_option maxHeartbeats 4000000 in
theorem conL_count {l : Launch} {D : va_G} {ad : Nat → Nat} {ca : Nat → ClassId} {F : Nat} {a1 : Int32} {M : Mem} {r : Int32} {M' : Mem} (hf : fL_count F a1 M = some (r, M')) : ConW csA l D ad ca yL_count cL_count 4 [(0, 9, 12, 15)] 8 204 [.ref (ad 0), .int a1, .ref (ad 55)] M r M' := by
  refine ConW_of (by decide) (Nat.le_of_ble_eq_true rfl) (fun V (h : MchW csA l (rmX 8 204) D ad ca RL cL_count 4 [(0, 9, 12, 15)] 0 0 r M' V) => ?_)
  show V M 0 [(0, .ref (ad 0)), (1, .int a1), (2, .ref (ad 55))] []
  unfold fL_count at hf
  refine r_aload_n (pc := 0) h dL_count_0 2 rfl rfl ?_
  refine r_iconst (pc := 1) (v := (0 : Int32)) h dL_count_1 (by decide) ?_
  refine r_aload_n (pc := 2) h dL_count_2 0 rfl rfl ?_
  refine r_iload_n (pc := 3) h dL_count_3 1 rfl rfl ?_
  obtain ⟨u3, N1, hc2, hf⟩ := bd_some hf
  refine r_callVi (pc := 4) (o := 0) (As := [.int a1]) (rest := [.int (0 : Int32), .ref (ad 55)]) h mv_L_59 dL_count_4 (by decide) rfl rfl (conX8_count hc2) rfl rfl (by decide) (Nat.le_of_ble_eq_true rfl) ⟨Nat.zero_le _, Nat.zero_le _⟩ ?_
  refine r_i2l (pc := 7) h dL_count_7 ?_
  obtain ⟨hi4, hf⟩ := gd_some hf
  refine r_last (pc := 8) h (by decide) rfl hi4 dL_count_8 ?_
  refine r_mem (fun N5 eN5 => ?_)
  have hf := nm_app eN5 hf
  refine r_goto (pc := 9) h 15 dL_count_9 (by decide) ?_
  refine r_iconst (pc := 15) (v := (0 : Int32)) h dL_count_15 (by decide) ?_
  obtain ⟨rfl, rfl⟩ := sp_i hf
  exact r_iretW (pc := 16) h (by decide) dL_count_16
set_option maxRecDepth 100000 in
set_option maxHeartbeats 4000000 in
theorem coxL_count_exA {l : Launch} {D : va_G} {ad : Nat → Nat} {ca : Nat → ClassId} {F : Nat} {a1 : Int32} {M : Mem} (hl : l.stackTraces = false) (hf : tX8_count F a1 M = some exA) : ConW csA l D ad ca yL_count cL_count 4 [(0, 9, 12, 15)] 8 204 [.ref (ad 0), .int a1, .ref (ad 55)] M 1 M := by
  refine ConW_of (by decide) (Nat.le_of_ble_eq_true rfl) (fun V (h : MchW csA l (rmX 8 204) D ad ca RL cL_count 4 [(0, 9, 12, 15)] 0 0 1 M V) => ?_)
  show V M 0 [(0, .ref (ad 0)), (1, .int a1), (2, .ref (ad 55))] []
  refine r_aload_n (pc := 0) h dL_count_0 2 rfl rfl ?_
  refine r_iconst (pc := 1) (v := (0 : Int32)) h dL_count_1 (by decide) ?_
  refine r_aload_n (pc := 2) h dL_count_2 0 rfl rfl ?_
  refine r_iload_n (pc := 3) h dL_count_3 1 rfl rfl ?_
  refine r_callVXc (pc := 4) (o := 0) (As := [.int a1]) (rest := [.int (0 : Int32), .ref (ad 55)]) h mv_L_59 dL_count_4 (by decide) rfl rfl (coxX8_count hl hf) rfl rfl (by decide) (Nat.le_of_ble_eq_true rfl) (by decide) [] ⟨0, 9, 12, 15⟩ [] rfl (fun z hz => nomatch hz) (by decide) (by decide) (tg_i 435 (by decide +kernel) rfl) (tb_i 512 (by decide +kernel)) (fun V1 h q => ?_)
  refine r_astore_n (pc := 12) (lv' := [(3, .ref q), (0, .ref (ad 0)), (1, .int a1), (2, .ref (ad 55))]) h dL_count_12 rfl (by decide) rfl ?_
  refine r_iconst (pc := 13) (v := (1 : Int32)) h dL_count_13 (by decide) ?_
  exact r_iretW (pc := 14) h (by decide) dL_count_14
def fL_energy (F : Nat) (a1 : Int32) (M : Mem) : Option (Int32 × Mem) := bd (fX8_energy F a1 M) (fun u3 N1 => gd (inb (0 : Int32) 1) (nm (pL N1 55 (Int32.toNatClampNeg (0 : Int32)) (Int32.toInt64 u3)) (fun N5 : Mem => some ((0 : Int32), N5))))
set_option maxRecDepth 100000 in
set_option maxHeartbeats 4000000 in
theorem conL_energy {l : Launch} {D : va_G} {ad : Nat → Nat} {ca : Nat → ClassId} {F : Nat} {a1 : Int32} {M : Mem} {r : Int32} {M' : Mem} (hf : fL_energy F a1 M = some (r, M')) : ConW csA l D ad ca yL_energy cL_energy 4 [(0, 9, 12, 13)] 8 125 [.ref (ad 0), .int a1, .ref (ad 55)] M r M' := by
  refine ConW_of (by decide) (Nat.le_of_ble_eq_true rfl) (fun V (h : MchW csA l (rmX 8 125) D ad ca RL cL_energy 4 [(0, 9, 12, 13)] 0 0 r M' V) => ?_)
  show V M 0 [(0, .ref (ad 0)), (1, .int a1), (2, .ref (ad 55))] []
  unfold fL_energy at hf
  refine r_aload_n (pc := 0) h dL_energy_0 2 rfl rfl ?_
  refine r_iconst (pc := 1) (v := (0 : Int32)) h dL_energy_1 (by decide) ?_
  refine r_aload_n (pc := 2) h dL_energy_2 0 rfl rfl ?_
  refine r_iload_n (pc := 3) h dL_energy_3 1 rfl rfl ?_
  obtain ⟨u3, N1, hc2, hf⟩ := bd_some hf
  refine r_callVi (pc := 4) (o := 0) (As := [.int a1]) (rest := [.int (0 : Int32), .ref (ad 55)]) h mv_L_72 dL_energy_4 (by decide) rfl rfl (conX8_energy hc2) rfl rfl (by decide) (Nat.le_of_ble_eq_true rfl) ⟨Nat.zero_le _, Nat.zero_le _⟩ ?_
  refine r_i2l (pc := 7) h dL_energy_7 ?_
  obtain ⟨hi4, hf⟩ := gd_some hf
  refine r_last (pc := 8) h (by decide) rfl hi4 dL_energy_8 ?_
  refine r_mem (fun N5 eN5 => ?_)
  have hf := nm_app eN5 hf
  refine r_goto (pc := 9) h 15 dL_energy_9 (by decide) ?_
  refine r_iconst (pc := 15) (v := (0 : Int32)) h dL_energy_15 (by decide) ?_
  obtain ⟨rfl, rfl⟩ := sp_i hf
  exact r_iretW (pc := 16) h (by decide) dL_energy_16
set_option maxRecDepth 100000 in
set_option maxHeartbeats 4000000 in
theorem coxL_energy_exI {l : Launch} {D : va_G} {ad : Nat → Nat} {ca : Nat → ClassId} {F : Nat} {a1 : Int32} {M : Mem} (hl : l.stackTraces = false) (hf : tX8_energy F a1 M = some exI) : ConW csA l D ad ca yL_energy cL_energy 4 [(0, 9, 12, 13)] 8 125 [.ref (ad 0), .int a1, .ref (ad 55)] M 1 M := by
  refine ConW_of (by decide) (Nat.le_of_ble_eq_true rfl) (fun V (h : MchW csA l (rmX 8 125) D ad ca RL cL_energy 4 [(0, 9, 12, 13)] 0 0 1 M V) => ?_)
  show V M 0 [(0, .ref (ad 0)), (1, .int a1), (2, .ref (ad 55))] []
  refine r_aload_n (pc := 0) h dL_energy_0 2 rfl rfl ?_
  refine r_iconst (pc := 1) (v := (0 : Int32)) h dL_energy_1 (by decide) ?_
  refine r_aload_n (pc := 2) h dL_energy_2 0 rfl rfl ?_
  refine r_iload_n (pc := 3) h dL_energy_3 1 rfl rfl ?_
  refine r_callVXc (pc := 4) (o := 0) (As := [.int a1]) (rest := [.int (0 : Int32), .ref (ad 55)]) h mv_L_72 dL_energy_4 (by decide) rfl rfl (coxX8_energy hl hf) rfl rfl (by decide) (Nat.le_of_ble_eq_true rfl) (by decide) [] ⟨0, 9, 12, 13⟩ [] rfl (fun z hz => nomatch hz) (by decide) (by decide) (tg_i 434 (by decide +kernel) rfl) (tb_i 445 (by decide +kernel)) (fun V1 h q => ?_)
  refine r_astore_n (pc := 12) (lv' := [(3, .ref q), (0, .ref (ad 0)), (1, .int a1), (2, .ref (ad 55))]) h dL_energy_12 rfl (by decide) rfl ?_
  refine r_iconst (pc := 13) (v := (1 : Int32)) h dL_energy_13 (by decide) ?_
  exact r_iretW (pc := 14) h (by decide) dL_energy_14
def fL_forced (F : Nat) (a1 : Int32) (a2 : Int32) (M : Mem) : Option (Int32 × Mem) := bd (fX8_forced F a1 a2 M) (fun u3 N1 => gd (inb (0 : Int32) 1) (nm (pL N1 55 (Int32.toNatClampNeg (0 : Int32)) (Int32.toInt64 u3)) (fun N5 : Mem => some ((0 : Int32), N5))))
set_option maxRecDepth 100000 in
set_option maxHeartbeats 4000000 in
theorem conL_forced {l : Launch} {D : va_G} {ad : Nat → Nat} {ca : Nat → ClassId} {F : Nat} {a1 : Int32} {a2 : Int32} {M : Mem} {r : Int32} {M' : Mem} (hf : fL_forced F a1 a2 M = some (r, M')) : ConW csA l D ad ca yL_forced cL_forced 5 [(0, 10, 13, 15)] 8 209 [.ref (ad 0), .int a1, .int a2, .ref (ad 55)] M r M' := by
  refine ConW_of (by decide) (Nat.le_of_ble_eq_true rfl) (fun V (h : MchW csA l (rmX 8 209) D ad ca RL cL_forced 5 [(0, 10, 13, 15)] 0 0 r M' V) => ?_)
  show V M 0 [(0, .ref (ad 0)), (1, .int a1), (2, .int a2), (3, .ref (ad 55))] []
  unfold fL_forced at hf
  refine r_aload_n (pc := 0) h dL_forced_0 3 rfl rfl ?_
  refine r_iconst (pc := 1) (v := (0 : Int32)) h dL_forced_1 (by decide) ?_
  refine r_aload_n (pc := 2) h dL_forced_2 0 rfl rfl ?_
  refine r_iload_n (pc := 3) h dL_forced_3 1 rfl rfl ?_
  refine r_iload_n (pc := 4) h dL_forced_4 2 rfl rfl ?_
  obtain ⟨u3, N1, hc2, hf⟩ := bd_some hf
  refine r_callVi (pc := 5) (o := 0) (As := [.int a1, .int a2]) (rest := [.int (0 : Int32), .ref (ad 55)]) h mv_L_65 dL_forced_5 (by decide) rfl rfl (conX8_forced hc2) rfl rfl (by decide) (Nat.le_of_ble_eq_true rfl) ⟨Nat.zero_le _, Nat.zero_le _⟩ ?_
  refine r_i2l (pc := 8) h dL_forced_8 ?_
  obtain ⟨hi4, hf⟩ := gd_some hf
  refine r_last (pc := 9) h (by decide) rfl hi4 dL_forced_9 ?_
  refine r_mem (fun N5 eN5 => ?_)
  have hf := nm_app eN5 hf
  refine r_goto (pc := 10) h 17 dL_forced_10 (by decide) ?_
  refine r_iconst (pc := 17) (v := (0 : Int32)) h dL_forced_17 (by decide) ?_
  obtain ⟨rfl, rfl⟩ := sp_i hf
  exact r_iretW (pc := 18) h (by decide) dL_forced_18
set_option maxRecDepth 100000 in
set_option maxHeartbeats 4000000 in
theorem coxL_forced_exA {l : Launch} {D : va_G} {ad : Nat → Nat} {ca : Nat → ClassId} {F : Nat} {a1 : Int32} {a2 : Int32} {M : Mem} (hl : l.stackTraces = false) (hf : tX8_forced F a1 a2 M = some exA) : ConW csA l D ad ca yL_forced cL_forced 5 [(0, 10, 13, 15)] 8 209 [.ref (ad 0), .int a1, .int a2, .ref (ad 55)] M 1 M := by
  refine ConW_of (by decide) (Nat.le_of_ble_eq_true rfl) (fun V (h : MchW csA l (rmX 8 209) D ad ca RL cL_forced 5 [(0, 10, 13, 15)] 0 0 1 M V) => ?_)
  show V M 0 [(0, .ref (ad 0)), (1, .int a1), (2, .int a2), (3, .ref (ad 55))] []
  refine r_aload_n (pc := 0) h dL_forced_0 3 rfl rfl ?_
  refine r_iconst (pc := 1) (v := (0 : Int32)) h dL_forced_1 (by decide) ?_
  refine r_aload_n (pc := 2) h dL_forced_2 0 rfl rfl ?_
  refine r_iload_n (pc := 3) h dL_forced_3 1 rfl rfl ?_
  refine r_iload_n (pc := 4) h dL_forced_4 2 rfl rfl ?_
  refine r_callVXc (pc := 5) (o := 0) (As := [.int a1, .int a2]) (rest := [.int (0 : Int32), .ref (ad 55)]) h mv_L_65 dL_forced_5 (by decide) rfl rfl (coxX8_forced hl hf) rfl rfl (by decide) (Nat.le_of_ble_eq_true rfl) (by decide) [] ⟨0, 10, 13, 15⟩ [] rfl (fun z hz => nomatch hz) (by decide) (by decide) (tg_i 435 (by decide +kernel) rfl) (tb_i 512 (by decide +kernel)) (fun V1 h q => ?_)
  refine r_astore (pc := 13) (lv' := [(4, .ref q), (0, .ref (ad 0)), (1, .int a1), (2, .int a2), (3, .ref (ad 55))]) h dL_forced_13 (by decide) rfl ?_
  refine r_iconst (pc := 15) (v := (1 : Int32)) h dL_forced_15 (by decide) ?_
  exact r_iretW (pc := 16) h (by decide) dL_forced_16
def fL_greatest (F : Nat) (a1 : Int32) (a2 : Int32) (M : Mem) : Option (Int32 × Mem) := bd (fX8_greatest F a1 a2 M) (fun u3 N1 => gd (inb (0 : Int32) 1) (nm (pL N1 55 (Int32.toNatClampNeg (0 : Int32)) (Int32.toInt64 u3)) (fun N5 : Mem => some ((0 : Int32), N5))))
set_option maxRecDepth 100000 in
set_option maxHeartbeats 4000000 in
theorem conL_greatest {l : Launch} {D : va_G} {ad : Nat → Nat} {ca : Nat → ClassId} {F : Nat} {a1 : Int32} {a2 : Int32} {M : Mem} {r : Int32} {M' : Mem} (hf : fL_greatest F a1 a2 M = some (r, M')) : ConW csA l D ad ca yL_greatest cL_greatest 5 [(0, 10, 13, 13), (0, 10, 17, 15)] 8 205 [.ref (ad 0), .int a1, .int a2, .ref (ad 55)] M r M' := by
  refine ConW_of (by decide) (Nat.le_of_ble_eq_true rfl) (fun V (h : MchW csA l (rmX 8 205) D ad ca RL cL_greatest 5 [(0, 10, 13, 13), (0, 10, 17, 15)] 0 0 r M' V) => ?_)
  show V M 0 [(0, .ref (ad 0)), (1, .int a1), (2, .int a2), (3, .ref (ad 55))] []
  unfold fL_greatest at hf
  refine r_aload_n (pc := 0) h dL_greatest_0 3 rfl rfl ?_
  refine r_iconst (pc := 1) (v := (0 : Int32)) h dL_greatest_1 (by decide) ?_
  refine r_aload_n (pc := 2) h dL_greatest_2 0 rfl rfl ?_
  refine r_iload_n (pc := 3) h dL_greatest_3 1 rfl rfl ?_
  refine r_iload_n (pc := 4) h dL_greatest_4 2 rfl rfl ?_
  obtain ⟨u3, N1, hc2, hf⟩ := bd_some hf
  refine r_callVi (pc := 5) (o := 0) (As := [.int a1, .int a2]) (rest := [.int (0 : Int32), .ref (ad 55)]) h mv_L_43 dL_greatest_5 (by decide) rfl rfl (conX8_greatest hc2) rfl rfl (by decide) (Nat.le_of_ble_eq_true rfl) ⟨Nat.zero_le _, Nat.zero_le _⟩ ?_
  refine r_i2l (pc := 8) h dL_greatest_8 ?_
  obtain ⟨hi4, hf⟩ := gd_some hf
  refine r_last (pc := 9) h (by decide) rfl hi4 dL_greatest_9 ?_
  refine r_mem (fun N5 eN5 => ?_)
  have hf := nm_app eN5 hf
  refine r_goto (pc := 10) h 21 dL_greatest_10 (by decide) ?_
  refine r_iconst (pc := 21) (v := (0 : Int32)) h dL_greatest_21 (by decide) ?_
  obtain ⟨rfl, rfl⟩ := sp_i hf
  exact r_iretW (pc := 22) h (by decide) dL_greatest_22
set_option maxRecDepth 100000 in
set_option maxHeartbeats 4000000 in
theorem coxL_greatest_exI {l : Launch} {D : va_G} {ad : Nat → Nat} {ca : Nat → ClassId} {F : Nat} {a1 : Int32} {a2 : Int32} {M : Mem} (hl : l.stackTraces = false) (hf : tX8_greatest F a1 a2 M = some exI) : ConW csA l D ad ca yL_greatest cL_greatest 5 [(0, 10, 13, 13), (0, 10, 17, 15)] 8 205 [.ref (ad 0), .int a1, .int a2, .ref (ad 55)] M 1 M := by
  refine ConW_of (by decide) (Nat.le_of_ble_eq_true rfl) (fun V (h : MchW csA l (rmX 8 205) D ad ca RL cL_greatest 5 [(0, 10, 13, 13), (0, 10, 17, 15)] 0 0 1 M V) => ?_)
  show V M 0 [(0, .ref (ad 0)), (1, .int a1), (2, .int a2), (3, .ref (ad 55))] []
  refine r_aload_n (pc := 0) h dL_greatest_0 3 rfl rfl ?_
  refine r_iconst (pc := 1) (v := (0 : Int32)) h dL_greatest_1 (by decide) ?_
  refine r_aload_n (pc := 2) h dL_greatest_2 0 rfl rfl ?_
  refine r_iload_n (pc := 3) h dL_greatest_3 1 rfl rfl ?_
  refine r_iload_n (pc := 4) h dL_greatest_4 2 rfl rfl ?_
  refine r_callVXc (pc := 5) (o := 0) (As := [.int a1, .int a2]) (rest := [.int (0 : Int32), .ref (ad 55)]) h mv_L_43 dL_greatest_5 (by decide) rfl rfl (coxX8_greatest hl hf) rfl rfl (by decide) (Nat.le_of_ble_eq_true rfl) (by decide) [] ⟨0, 10, 13, 13⟩ [⟨0, 10, 17, 15⟩] rfl (fun z hz => nomatch hz) (by decide) (by decide) (tg_i 434 (by decide +kernel) rfl) (tb_i 445 (by decide +kernel)) (fun V1 h q => ?_)
  refine r_astore (pc := 13) (lv' := [(4, .ref q), (0, .ref (ad 0)), (1, .int a1), (2, .int a2), (3, .ref (ad 55))]) h dL_greatest_13 (by decide) rfl ?_
  refine r_iconst (pc := 15) (v := (1 : Int32)) h dL_greatest_15 (by decide) ?_
  exact r_iretW (pc := 16) h (by decide) dL_greatest_16
set_option maxRecDepth 100000 in
set_option maxHeartbeats 4000000 in
theorem coxL_greatest_exA {l : Launch} {D : va_G} {ad : Nat → Nat} {ca : Nat → ClassId} {F : Nat} {a1 : Int32} {a2 : Int32} {M : Mem} (hl : l.stackTraces = false) (hf : tX8_greatest F a1 a2 M = some exA) : ConW csA l D ad ca yL_greatest cL_greatest 5 [(0, 10, 13, 13), (0, 10, 17, 15)] 8 205 [.ref (ad 0), .int a1, .int a2, .ref (ad 55)] M 2 M := by
  refine ConW_of (by decide) (Nat.le_of_ble_eq_true rfl) (fun V (h : MchW csA l (rmX 8 205) D ad ca RL cL_greatest 5 [(0, 10, 13, 13), (0, 10, 17, 15)] 0 0 2 M V) => ?_)
  show V M 0 [(0, .ref (ad 0)), (1, .int a1), (2, .int a2), (3, .ref (ad 55))] []
  refine r_aload_n (pc := 0) h dL_greatest_0 3 rfl rfl ?_
  refine r_iconst (pc := 1) (v := (0 : Int32)) h dL_greatest_1 (by decide) ?_
  refine r_aload_n (pc := 2) h dL_greatest_2 0 rfl rfl ?_
  refine r_iload_n (pc := 3) h dL_greatest_3 1 rfl rfl ?_
  refine r_iload_n (pc := 4) h dL_greatest_4 2 rfl rfl ?_
  refine r_callVXc (pc := 5) (o := 0) (As := [.int a1, .int a2]) (rest := [.int (0 : Int32), .ref (ad 55)]) h mv_L_43 dL_greatest_5 (by decide) rfl rfl (coxX8_greatest hl hf) rfl rfl (by decide) (Nat.le_of_ble_eq_true rfl) (by decide) [⟨0, 10, 13, 13⟩] ⟨0, 10, 17, 15⟩ [] rfl (fun z hz => by rcases List.mem_singleton.mp hz with rfl; exact ⟨by decide, by decide, (tg_i 434 (by decide +kernel) rfl), Or.inl rfl⟩) (by decide) (by decide) (tg_i 435 (by decide +kernel) rfl) (tb_i 512 (by decide +kernel)) (fun V1 h q => ?_)
  refine r_astore (pc := 17) (lv' := [(4, .ref q), (0, .ref (ad 0)), (1, .int a1), (2, .int a2), (3, .ref (ad 55))]) h dL_greatest_17 (by decide) rfl ?_
  refine r_iconst (pc := 19) (v := (2 : Int32)) h dL_greatest_19 (by decide) ?_
  exact r_iretW (pc := 20) h (by decide) dL_greatest_20
def fL_has (F : Nat) (a1 : Int32) (a2 : Int32) (M : Mem) : Option (Int32 × Mem) := bd (fX8_has F a1 a2 M) (fun u3 N1 => if u3 = 0 then (gd (inb (0 : Int32) 1) (nm (pL N1 55 (Int32.toNatClampNeg (0 : Int32)) (0 : Int64)) (fun N8 : Mem => some ((0 : Int32), N8)))) else (gd (inb (0 : Int32) 1) (nm (pL N1 55 (Int32.toNatClampNeg (0 : Int32)) (1 : Int64)) (fun N6 : Mem => some ((0 : Int32), N6)))))
set_option maxRecDepth 100000 in
set_option maxHeartbeats 4000000 in
theorem conL_has {l : Launch} {D : va_G} {ad : Nat → Nat} {ca : Nat → ClassId} {F : Nat} {a1 : Int32} {a2 : Int32} {M : Mem} {r : Int32} {M' : Mem} (hf : fL_has F a1 a2 M = some (r, M')) : ConW csA l D ad ca yL_has cL_has 5 [(0, 17, 20, 13)] 8 126 [.ref (ad 0), .int a1, .int a2, .ref (ad 55)] M r M' := by
  refine ConW_of (by decide) (Nat.le_of_ble_eq_true rfl) (fun V (h : MchW csA l (rmX 8 126) D ad ca RL cL_has 5 [(0, 17, 20, 13)] 0 0 r M' V) => ?_)
  show V M 0 [(0, .ref (ad 0)), (1, .int a1), (2, .int a2), (3, .ref (ad 55))] []
  unfold fL_has at hf
  refine r_aload_n (pc := 0) h dL_has_0 3 rfl rfl ?_
  refine r_iconst (pc := 1) (v := (0 : Int32)) h dL_has_1 (by decide) ?_
  refine r_aload_n (pc := 2) h dL_has_2 0 rfl rfl ?_
  refine r_iload_n (pc := 3) h dL_has_3 1 rfl rfl ?_
  refine r_iload_n (pc := 4) h dL_has_4 2 rfl rfl ?_
  obtain ⟨u3, N1, hc2, hf⟩ := bd_some hf
  refine r_callVi (pc := 5) (o := 0) (As := [.int a1, .int a2]) (rest := [.int (0 : Int32), .ref (ad 55)]) h mv_L_21 dL_has_5 (by decide) rfl rfl (conX8_has hc2) rfl rfl (by decide) (Nat.le_of_ble_eq_true rfl) ⟨Nat.zero_le _, Nat.zero_le _⟩ ?_
  refine r_if_eq (pc := 8) h 15 dL_has_8 (by decide) (fun hc4 => ?_) (fun hc4 => ?_)
  · have hf := ite_p hc4 hf
    refine r_lconst (pc := 15) (v := (0 : Int64)) h dL_has_15 (by decide) ?_
    obtain ⟨hi7, hf⟩ := gd_some hf
    refine r_last (pc := 16) h (by decide) rfl hi7 dL_has_16 ?_
    refine r_mem (fun N8 eN8 => ?_)
    have hf := nm_app eN8 hf
    refine r_goto (pc := 17) h 24 dL_has_17 (by decide) ?_
    refine r_iconst (pc := 24) (v := (0 : Int32)) h dL_has_24 (by decide) ?_
    obtain ⟨rfl, rfl⟩ := sp_i hf
    exact r_iretW (pc := 25) h (by decide) dL_has_25
  · have hf := ite_n hc4 hf
    refine r_lconst (pc := 11) (v := (1 : Int64)) h dL_has_11 (by decide) ?_
    refine r_goto (pc := 12) h 16 dL_has_12 (by decide) ?_
    obtain ⟨hi5, hf⟩ := gd_some hf
    refine r_last (pc := 16) h (by decide) rfl hi5 dL_has_16 ?_
    refine r_mem (fun N6 eN6 => ?_)
    have hf := nm_app eN6 hf
    refine r_goto (pc := 17) h 24 dL_has_17 (by decide) ?_
    refine r_iconst (pc := 24) (v := (0 : Int32)) h dL_has_24 (by decide) ?_
    obtain ⟨rfl, rfl⟩ := sp_i hf
    exact r_iretW (pc := 25) h (by decide) dL_has_25
set_option maxRecDepth 100000 in
set_option maxHeartbeats 4000000 in
theorem coxL_has_exI {l : Launch} {D : va_G} {ad : Nat → Nat} {ca : Nat → ClassId} {F : Nat} {a1 : Int32} {a2 : Int32} {M : Mem} (hl : l.stackTraces = false) (hf : tX8_has F a1 a2 M = some exI) : ConW csA l D ad ca yL_has cL_has 5 [(0, 17, 20, 13)] 8 126 [.ref (ad 0), .int a1, .int a2, .ref (ad 55)] M 1 M := by
  refine ConW_of (by decide) (Nat.le_of_ble_eq_true rfl) (fun V (h : MchW csA l (rmX 8 126) D ad ca RL cL_has 5 [(0, 17, 20, 13)] 0 0 1 M V) => ?_)
  show V M 0 [(0, .ref (ad 0)), (1, .int a1), (2, .int a2), (3, .ref (ad 55))] []
  refine r_aload_n (pc := 0) h dL_has_0 3 rfl rfl ?_
  refine r_iconst (pc := 1) (v := (0 : Int32)) h dL_has_1 (by decide) ?_
  refine r_aload_n (pc := 2) h dL_has_2 0 rfl rfl ?_
  refine r_iload_n (pc := 3) h dL_has_3 1 rfl rfl ?_
  refine r_iload_n (pc := 4) h dL_has_4 2 rfl rfl ?_
  refine r_callVXc (pc := 5) (o := 0) (As := [.int a1, .int a2]) (rest := [.int (0 : Int32), .ref (ad 55)]) h mv_L_21 dL_has_5 (by decide) rfl rfl (coxX8_has hl hf) rfl rfl (by decide) (Nat.le_of_ble_eq_true rfl) (by decide) [] ⟨0, 17, 20, 13⟩ [] rfl (fun z hz => nomatch hz) (by decide) (by decide) (tg_i 434 (by decide +kernel) rfl) (tb_i 445 (by decide +kernel)) (fun V1 h q => ?_)
  refine r_astore (pc := 20) (lv' := [(4, .ref q), (0, .ref (ad 0)), (1, .int a1), (2, .int a2), (3, .ref (ad 55))]) h dL_has_20 (by decide) rfl ?_
  refine r_iconst (pc := 22) (v := (1 : Int32)) h dL_has_22 (by decide) ?_
  exact r_iretW (pc := 23) h (by decide) dL_has_23
def fL_keep (F : Nat) (a1 : Int32) (a2 : Int32) (M : Mem) : Option (Int32 × Mem) := bd (fX8_keep F a1 a2 M) (fun u3 N1 => gd (inb (0 : Int32) 1) (nm (pL N1 55 (Int32.toNatClampNeg (0 : Int32)) (Int32.toInt64 u3)) (fun N5 : Mem => some ((0 : Int32), N5))))
set_option maxRecDepth 100000 in
set_option maxHeartbeats 4000000 in
theorem conL_keep {l : Launch} {D : va_G} {ad : Nat → Nat} {ca : Nat → ClassId} {F : Nat} {a1 : Int32} {a2 : Int32} {M : Mem} {r : Int32} {M' : Mem} (hf : fL_keep F a1 a2 M = some (r, M')) : ConW csA l D ad ca yL_keep cL_keep 5 [(0, 10, 13, 13), (0, 10, 17, 15)] 8 176 [.ref (ad 0), .int a1, .int a2, .ref (ad 55)] M r M' := by
  refine ConW_of (by decide) (Nat.le_of_ble_eq_true rfl) (fun V (h : MchW csA l (rmX 8 176) D ad ca RL cL_keep 5 [(0, 10, 13, 13), (0, 10, 17, 15)] 0 0 r M' V) => ?_)
  show V M 0 [(0, .ref (ad 0)), (1, .int a1), (2, .int a2), (3, .ref (ad 55))] []
  unfold fL_keep at hf
  refine r_aload_n (pc := 0) h dL_keep_0 3 rfl rfl ?_
  refine r_iconst (pc := 1) (v := (0 : Int32)) h dL_keep_1 (by decide) ?_
  refine r_aload_n (pc := 2) h dL_keep_2 0 rfl rfl ?_
  refine r_iload_n (pc := 3) h dL_keep_3 1 rfl rfl ?_
  refine r_iload_n (pc := 4) h dL_keep_4 2 rfl rfl ?_
  obtain ⟨u3, N1, hc2, hf⟩ := bd_some hf
  refine r_callVi (pc := 5) (o := 0) (As := [.int a1, .int a2]) (rest := [.int (0 : Int32), .ref (ad 55)]) h mv_L_78 dL_keep_5 (by decide) rfl rfl (conX8_keep hc2) rfl rfl (by decide) (Nat.le_of_ble_eq_true rfl) ⟨Nat.zero_le _, Nat.zero_le _⟩ ?_
  refine r_i2l (pc := 8) h dL_keep_8 ?_
  obtain ⟨hi4, hf⟩ := gd_some hf
  refine r_last (pc := 9) h (by decide) rfl hi4 dL_keep_9 ?_
  refine r_mem (fun N5 eN5 => ?_)
  have hf := nm_app eN5 hf
  refine r_goto (pc := 10) h 21 dL_keep_10 (by decide) ?_
  refine r_iconst (pc := 21) (v := (0 : Int32)) h dL_keep_21 (by decide) ?_
  obtain ⟨rfl, rfl⟩ := sp_i hf
  exact r_iretW (pc := 22) h (by decide) dL_keep_22
set_option maxRecDepth 100000 in
set_option maxHeartbeats 4000000 in
theorem coxL_keep_exI {l : Launch} {D : va_G} {ad : Nat → Nat} {ca : Nat → ClassId} {F : Nat} {a1 : Int32} {a2 : Int32} {M : Mem} (hl : l.stackTraces = false) (hf : tX8_keep F a1 a2 M = some exI) : ConW csA l D ad ca yL_keep cL_keep 5 [(0, 10, 13, 13), (0, 10, 17, 15)] 8 176 [.ref (ad 0), .int a1, .int a2, .ref (ad 55)] M 1 M := by
  refine ConW_of (by decide) (Nat.le_of_ble_eq_true rfl) (fun V (h : MchW csA l (rmX 8 176) D ad ca RL cL_keep 5 [(0, 10, 13, 13), (0, 10, 17, 15)] 0 0 1 M V) => ?_)
  show V M 0 [(0, .ref (ad 0)), (1, .int a1), (2, .int a2), (3, .ref (ad 55))] []
  refine r_aload_n (pc := 0) h dL_keep_0 3 rfl rfl ?_
  refine r_iconst (pc := 1) (v := (0 : Int32)) h dL_keep_1 (by decide) ?_
  refine r_aload_n (pc := 2) h dL_keep_2 0 rfl rfl ?_
  refine r_iload_n (pc := 3) h dL_keep_3 1 rfl rfl ?_
  refine r_iload_n (pc := 4) h dL_keep_4 2 rfl rfl ?_
  refine r_callVXc (pc := 5) (o := 0) (As := [.int a1, .int a2]) (rest := [.int (0 : Int32), .ref (ad 55)]) h mv_L_78 dL_keep_5 (by decide) rfl rfl (coxX8_keep hl hf) rfl rfl (by decide) (Nat.le_of_ble_eq_true rfl) (by decide) [] ⟨0, 10, 13, 13⟩ [⟨0, 10, 17, 15⟩] rfl (fun z hz => nomatch hz) (by decide) (by decide) (tg_i 434 (by decide +kernel) rfl) (tb_i 445 (by decide +kernel)) (fun V1 h q => ?_)
  refine r_astore (pc := 13) (lv' := [(4, .ref q), (0, .ref (ad 0)), (1, .int a1), (2, .int a2), (3, .ref (ad 55))]) h dL_keep_13 (by decide) rfl ?_
  refine r_iconst (pc := 15) (v := (1 : Int32)) h dL_keep_15 (by decide) ?_
  exact r_iretW (pc := 16) h (by decide) dL_keep_16
set_option maxRecDepth 100000 in
set_option maxHeartbeats 4000000 in
theorem coxL_keep_exA {l : Launch} {D : va_G} {ad : Nat → Nat} {ca : Nat → ClassId} {F : Nat} {a1 : Int32} {a2 : Int32} {M : Mem} (hl : l.stackTraces = false) (hf : tX8_keep F a1 a2 M = some exA) : ConW csA l D ad ca yL_keep cL_keep 5 [(0, 10, 13, 13), (0, 10, 17, 15)] 8 176 [.ref (ad 0), .int a1, .int a2, .ref (ad 55)] M 2 M := by
  refine ConW_of (by decide) (Nat.le_of_ble_eq_true rfl) (fun V (h : MchW csA l (rmX 8 176) D ad ca RL cL_keep 5 [(0, 10, 13, 13), (0, 10, 17, 15)] 0 0 2 M V) => ?_)
  show V M 0 [(0, .ref (ad 0)), (1, .int a1), (2, .int a2), (3, .ref (ad 55))] []
  refine r_aload_n (pc := 0) h dL_keep_0 3 rfl rfl ?_
  refine r_iconst (pc := 1) (v := (0 : Int32)) h dL_keep_1 (by decide) ?_
  refine r_aload_n (pc := 2) h dL_keep_2 0 rfl rfl ?_
  refine r_iload_n (pc := 3) h dL_keep_3 1 rfl rfl ?_
  refine r_iload_n (pc := 4) h dL_keep_4 2 rfl rfl ?_
  refine r_callVXc (pc := 5) (o := 0) (As := [.int a1, .int a2]) (rest := [.int (0 : Int32), .ref (ad 55)]) h mv_L_78 dL_keep_5 (by decide) rfl rfl (coxX8_keep hl hf) rfl rfl (by decide) (Nat.le_of_ble_eq_true rfl) (by decide) [⟨0, 10, 13, 13⟩] ⟨0, 10, 17, 15⟩ [] rfl (fun z hz => by rcases List.mem_singleton.mp hz with rfl; exact ⟨by decide, by decide, (tg_i 434 (by decide +kernel) rfl), Or.inl rfl⟩) (by decide) (by decide) (tg_i 435 (by decide +kernel) rfl) (tb_i 512 (by decide +kernel)) (fun V1 h q => ?_)
  refine r_astore (pc := 17) (lv' := [(4, .ref q), (0, .ref (ad 0)), (1, .int a1), (2, .int a2), (3, .ref (ad 55))]) h dL_keep_17 (by decide) rfl ?_
  refine r_iconst (pc := 19) (v := (2 : Int32)) h dL_keep_19 (by decide) ?_
  exact r_iretW (pc := 20) h (by decide) dL_keep_20
def fL_kind (F : Nat) (a1 : Int32) (a2 : Int32) (a3 : Int32) (M : Mem) : Option (Int32 × Mem) := bd (fX8_kind F a1 a2 a3 M) (fun u3 N1 => gd (inb (0 : Int32) 1) (nm (pL N1 55 (Int32.toNatClampNeg (0 : Int32)) (Int32.toInt64 u3)) (fun N5 : Mem => some ((0 : Int32), N5))))
set_option maxRecDepth 100000 in
set_option maxHeartbeats 4000000 in
theorem conL_kind {l : Launch} {D : va_G} {ad : Nat → Nat} {ca : Nat → ClassId} {F : Nat} {a1 : Int32} {a2 : Int32} {a3 : Int32} {M : Mem} {r : Int32} {M' : Mem} (hf : fL_kind F a1 a2 a3 M = some (r, M')) : ConW csA l D ad ca yL_kind cL_kind 6 [(0, 12, 15, 15)] 8 195 [.ref (ad 0), .int a1, .int a2, .int a3, .ref (ad 55)] M r M' := by
  refine ConW_of (by decide) (Nat.le_of_ble_eq_true rfl) (fun V (h : MchW csA l (rmX 8 195) D ad ca RL cL_kind 6 [(0, 12, 15, 15)] 0 0 r M' V) => ?_)
  show V M 0 [(0, .ref (ad 0)), (1, .int a1), (2, .int a2), (3, .int a3), (4, .ref (ad 55))] []
  unfold fL_kind at hf
  refine r_aload (pc := 0) h dL_kind_0 4 rfl ?_
  refine r_iconst (pc := 2) (v := (0 : Int32)) h dL_kind_2 (by decide) ?_
  refine r_aload_n (pc := 3) h dL_kind_3 0 rfl rfl ?_
  refine r_iload_n (pc := 4) h dL_kind_4 1 rfl rfl ?_
  refine r_iload_n (pc := 5) h dL_kind_5 2 rfl rfl ?_
  refine r_iload_n (pc := 6) h dL_kind_6 3 rfl rfl ?_
  obtain ⟨u3, N1, hc2, hf⟩ := bd_some hf
  refine r_callVi (pc := 7) (o := 0) (As := [.int a1, .int a2, .int a3]) (rest := [.int (0 : Int32), .ref (ad 55)]) h mv_L_55 dL_kind_7 (by decide) rfl rfl (conX8_kind hc2) rfl rfl (by decide) (Nat.le_of_ble_eq_true rfl) ⟨Nat.zero_le _, Nat.zero_le _⟩ ?_
  refine r_i2l (pc := 10) h dL_kind_10 ?_
  obtain ⟨hi4, hf⟩ := gd_some hf
  refine r_last (pc := 11) h (by decide) rfl hi4 dL_kind_11 ?_
  refine r_mem (fun N5 eN5 => ?_)
  have hf := nm_app eN5 hf
  refine r_goto (pc := 12) h 19 dL_kind_12 (by decide) ?_
  refine r_iconst (pc := 19) (v := (0 : Int32)) h dL_kind_19 (by decide) ?_
  obtain ⟨rfl, rfl⟩ := sp_i hf
  exact r_iretW (pc := 20) h (by decide) dL_kind_20
set_option maxRecDepth 100000 in
set_option maxHeartbeats 4000000 in
theorem coxL_kind_exA {l : Launch} {D : va_G} {ad : Nat → Nat} {ca : Nat → ClassId} {F : Nat} {a1 : Int32} {a2 : Int32} {a3 : Int32} {M : Mem} (hl : l.stackTraces = false) (hf : tX8_kind F a1 a2 a3 M = some exA) : ConW csA l D ad ca yL_kind cL_kind 6 [(0, 12, 15, 15)] 8 195 [.ref (ad 0), .int a1, .int a2, .int a3, .ref (ad 55)] M 1 M := by
  refine ConW_of (by decide) (Nat.le_of_ble_eq_true rfl) (fun V (h : MchW csA l (rmX 8 195) D ad ca RL cL_kind 6 [(0, 12, 15, 15)] 0 0 1 M V) => ?_)
  show V M 0 [(0, .ref (ad 0)), (1, .int a1), (2, .int a2), (3, .int a3), (4, .ref (ad 55))] []
  refine r_aload (pc := 0) h dL_kind_0 4 rfl ?_
  refine r_iconst (pc := 2) (v := (0 : Int32)) h dL_kind_2 (by decide) ?_
  refine r_aload_n (pc := 3) h dL_kind_3 0 rfl rfl ?_
  refine r_iload_n (pc := 4) h dL_kind_4 1 rfl rfl ?_
  refine r_iload_n (pc := 5) h dL_kind_5 2 rfl rfl ?_
  refine r_iload_n (pc := 6) h dL_kind_6 3 rfl rfl ?_
  refine r_callVXc (pc := 7) (o := 0) (As := [.int a1, .int a2, .int a3]) (rest := [.int (0 : Int32), .ref (ad 55)]) h mv_L_55 dL_kind_7 (by decide) rfl rfl (coxX8_kind hl hf) rfl rfl (by decide) (Nat.le_of_ble_eq_true rfl) (by decide) [] ⟨0, 12, 15, 15⟩ [] rfl (fun z hz => nomatch hz) (by decide) (by decide) (tg_i 435 (by decide +kernel) rfl) (tb_i 512 (by decide +kernel)) (fun V1 h q => ?_)
  refine r_astore (pc := 15) (lv' := [(5, .ref q), (0, .ref (ad 0)), (1, .int a1), (2, .int a2), (3, .int a3), (4, .ref (ad 55))]) h dL_kind_15 (by decide) rfl ?_
  refine r_iconst (pc := 17) (v := (1 : Int32)) h dL_kind_17 (by decide) ?_
  exact r_iretW (pc := 18) h (by decide) dL_kind_18
def fL_kinds (F : Nat) (a1 : Int32) (M : Mem) : Option (Int32 × Mem) := bd (fX8_kinds F a1 M) (fun u3 N1 => gd (inb (0 : Int32) 1) (nm (pL N1 55 (Int32.toNatClampNeg (0 : Int32)) (Int32.toInt64 u3)) (fun N5 : Mem => some ((0 : Int32), N5))))
set_option maxRecDepth 100000 in
set_option maxHeartbeats 4000000 in
theorem conL_kinds {l : Launch} {D : va_G} {ad : Nat → Nat} {ca : Nat → ClassId} {F : Nat} {a1 : Int32} {M : Mem} {r : Int32} {M' : Mem} (hf : fL_kinds F a1 M = some (r, M')) : ConW csA l D ad ca yL_kinds cL_kinds 4 [(0, 9, 12, 15)] 8 193 [.ref (ad 0), .int a1, .ref (ad 55)] M r M' := by
  refine ConW_of (by decide) (Nat.le_of_ble_eq_true rfl) (fun V (h : MchW csA l (rmX 8 193) D ad ca RL cL_kinds 4 [(0, 9, 12, 15)] 0 0 r M' V) => ?_)
  show V M 0 [(0, .ref (ad 0)), (1, .int a1), (2, .ref (ad 55))] []
  unfold fL_kinds at hf
  refine r_aload_n (pc := 0) h dL_kinds_0 2 rfl rfl ?_
  refine r_iconst (pc := 1) (v := (0 : Int32)) h dL_kinds_1 (by decide) ?_
  refine r_aload_n (pc := 2) h dL_kinds_2 0 rfl rfl ?_
  refine r_iload_n (pc := 3) h dL_kinds_3 1 rfl rfl ?_
  obtain ⟨u3, N1, hc2, hf⟩ := bd_some hf
  refine r_callVi (pc := 4) (o := 0) (As := [.int a1]) (rest := [.int (0 : Int32), .ref (ad 55)]) h mv_L_52 dL_kinds_4 (by decide) rfl rfl (conX8_kinds hc2) rfl rfl (by decide) (Nat.le_of_ble_eq_true rfl) ⟨Nat.zero_le _, Nat.zero_le _⟩ ?_
  refine r_i2l (pc := 7) h dL_kinds_7 ?_
  obtain ⟨hi4, hf⟩ := gd_some hf
  refine r_last (pc := 8) h (by decide) rfl hi4 dL_kinds_8 ?_
  refine r_mem (fun N5 eN5 => ?_)
  have hf := nm_app eN5 hf
  refine r_goto (pc := 9) h 15 dL_kinds_9 (by decide) ?_
  refine r_iconst (pc := 15) (v := (0 : Int32)) h dL_kinds_15 (by decide) ?_
  obtain ⟨rfl, rfl⟩ := sp_i hf
  exact r_iretW (pc := 16) h (by decide) dL_kinds_16
set_option maxRecDepth 100000 in
set_option maxHeartbeats 4000000 in
theorem coxL_kinds_exA {l : Launch} {D : va_G} {ad : Nat → Nat} {ca : Nat → ClassId} {F : Nat} {a1 : Int32} {M : Mem} (hl : l.stackTraces = false) (hf : tX8_kinds F a1 M = some exA) : ConW csA l D ad ca yL_kinds cL_kinds 4 [(0, 9, 12, 15)] 8 193 [.ref (ad 0), .int a1, .ref (ad 55)] M 1 M := by
  refine ConW_of (by decide) (Nat.le_of_ble_eq_true rfl) (fun V (h : MchW csA l (rmX 8 193) D ad ca RL cL_kinds 4 [(0, 9, 12, 15)] 0 0 1 M V) => ?_)
  show V M 0 [(0, .ref (ad 0)), (1, .int a1), (2, .ref (ad 55))] []
  refine r_aload_n (pc := 0) h dL_kinds_0 2 rfl rfl ?_
  refine r_iconst (pc := 1) (v := (0 : Int32)) h dL_kinds_1 (by decide) ?_
  refine r_aload_n (pc := 2) h dL_kinds_2 0 rfl rfl ?_
  refine r_iload_n (pc := 3) h dL_kinds_3 1 rfl rfl ?_
  refine r_callVXc (pc := 4) (o := 0) (As := [.int a1]) (rest := [.int (0 : Int32), .ref (ad 55)]) h mv_L_52 dL_kinds_4 (by decide) rfl rfl (coxX8_kinds hl hf) rfl rfl (by decide) (Nat.le_of_ble_eq_true rfl) (by decide) [] ⟨0, 9, 12, 15⟩ [] rfl (fun z hz => nomatch hz) (by decide) (by decide) (tg_i 435 (by decide +kernel) rfl) (tb_i 512 (by decide +kernel)) (fun V1 h q => ?_)
  refine r_astore_n (pc := 12) (lv' := [(3, .ref q), (0, .ref (ad 0)), (1, .int a1), (2, .ref (ad 55))]) h dL_kinds_12 rfl (by decide) rfl ?_
  refine r_iconst (pc := 13) (v := (1 : Int32)) h dL_kinds_13 (by decide) ?_
  exact r_iretW (pc := 14) h (by decide) dL_kinds_14
def fL_list (F : Nat) (a1 : Int32) (M : Mem) : Option (Int32 × Mem) := bd (fX8_list F a1 M) (fun u3 N1 => gd (inb (0 : Int32) 1) (nm (pL N1 55 (Int32.toNatClampNeg (0 : Int32)) (Int32.toInt64 u3)) (fun N5 : Mem => some ((0 : Int32), N5))))
set_option maxRecDepth 100000 in
set_option maxHeartbeats 4000000 in
theorem conL_list {l : Launch} {D : va_G} {ad : Nat → Nat} {ca : Nat → ClassId} {F : Nat} {a1 : Int32} {M : Mem} {r : Int32} {M' : Mem} (hf : fL_list F a1 M = some (r, M')) : ConW csA l D ad ca yL_list cL_list 4 [(0, 9, 12, 15)] 8 204 [.ref (ad 0), .int a1, .ref (ad 55)] M r M' := by
  refine ConW_of (by decide) (Nat.le_of_ble_eq_true rfl) (fun V (h : MchW csA l (rmX 8 204) D ad ca RL cL_list 4 [(0, 9, 12, 15)] 0 0 r M' V) => ?_)
  show V M 0 [(0, .ref (ad 0)), (1, .int a1), (2, .ref (ad 55))] []
  unfold fL_list at hf
  refine r_aload_n (pc := 0) h dL_list_0 2 rfl rfl ?_
  refine r_iconst (pc := 1) (v := (0 : Int32)) h dL_list_1 (by decide) ?_
  refine r_aload_n (pc := 2) h dL_list_2 0 rfl rfl ?_
  refine r_iload_n (pc := 3) h dL_list_3 1 rfl rfl ?_
  obtain ⟨u3, N1, hc2, hf⟩ := bd_some hf
  refine r_callVi (pc := 4) (o := 0) (As := [.int a1]) (rest := [.int (0 : Int32), .ref (ad 55)]) h mv_L_46 dL_list_4 (by decide) rfl rfl (conX8_list hc2) rfl rfl (by decide) (Nat.le_of_ble_eq_true rfl) ⟨Nat.zero_le _, Nat.zero_le _⟩ ?_
  refine r_i2l (pc := 7) h dL_list_7 ?_
  obtain ⟨hi4, hf⟩ := gd_some hf
  refine r_last (pc := 8) h (by decide) rfl hi4 dL_list_8 ?_
  refine r_mem (fun N5 eN5 => ?_)
  have hf := nm_app eN5 hf
  refine r_goto (pc := 9) h 15 dL_list_9 (by decide) ?_
  refine r_iconst (pc := 15) (v := (0 : Int32)) h dL_list_15 (by decide) ?_
  obtain ⟨rfl, rfl⟩ := sp_i hf
  exact r_iretW (pc := 16) h (by decide) dL_list_16
set_option maxRecDepth 100000 in
set_option maxHeartbeats 4000000 in
theorem coxL_list_exA {l : Launch} {D : va_G} {ad : Nat → Nat} {ca : Nat → ClassId} {F : Nat} {a1 : Int32} {M : Mem} (hl : l.stackTraces = false) (hf : tX8_list F a1 M = some exA) : ConW csA l D ad ca yL_list cL_list 4 [(0, 9, 12, 15)] 8 204 [.ref (ad 0), .int a1, .ref (ad 55)] M 1 M := by
  refine ConW_of (by decide) (Nat.le_of_ble_eq_true rfl) (fun V (h : MchW csA l (rmX 8 204) D ad ca RL cL_list 4 [(0, 9, 12, 15)] 0 0 1 M V) => ?_)
  show V M 0 [(0, .ref (ad 0)), (1, .int a1), (2, .ref (ad 55))] []
  refine r_aload_n (pc := 0) h dL_list_0 2 rfl rfl ?_
  refine r_iconst (pc := 1) (v := (0 : Int32)) h dL_list_1 (by decide) ?_
  refine r_aload_n (pc := 2) h dL_list_2 0 rfl rfl ?_
  refine r_iload_n (pc := 3) h dL_list_3 1 rfl rfl ?_
  refine r_callVXc (pc := 4) (o := 0) (As := [.int a1]) (rest := [.int (0 : Int32), .ref (ad 55)]) h mv_L_46 dL_list_4 (by decide) rfl rfl (coxX8_list hl hf) rfl rfl (by decide) (Nat.le_of_ble_eq_true rfl) (by decide) [] ⟨0, 9, 12, 15⟩ [] rfl (fun z hz => nomatch hz) (by decide) (by decide) (tg_i 435 (by decide +kernel) rfl) (tb_i 512 (by decide +kernel)) (fun V1 h q => ?_)
  refine r_astore_n (pc := 12) (lv' := [(3, .ref q), (0, .ref (ad 0)), (1, .int a1), (2, .ref (ad 55))]) h dL_list_12 rfl (by decide) rfl ?_
  refine r_iconst (pc := 13) (v := (1 : Int32)) h dL_list_13 (by decide) ?_
  exact r_iretW (pc := 14) h (by decide) dL_list_14
def fL_listed (F : Nat) (a1 : Int32) (a2 : Int32) (M : Mem) : Option (Int32 × Mem) := bd (fX8_listed F a1 a2 M) (fun u3 N1 => gd (inb (0 : Int32) 1) (nm (pL N1 55 (Int32.toNatClampNeg (0 : Int32)) (Int32.toInt64 u3)) (fun N5 : Mem => some ((0 : Int32), N5))))
set_option maxRecDepth 100000 in
set_option maxHeartbeats 4000000 in
theorem conL_listed {l : Launch} {D : va_G} {ad : Nat → Nat} {ca : Nat → ClassId} {F : Nat} {a1 : Int32} {a2 : Int32} {M : Mem} {r : Int32} {M' : Mem} (hf : fL_listed F a1 a2 M = some (r, M')) : ConW csA l D ad ca yL_listed cL_listed 5 [(0, 10, 13, 13)] 8 126 [.ref (ad 0), .int a1, .int a2, .ref (ad 55)] M r M' := by
  refine ConW_of (by decide) (Nat.le_of_ble_eq_true rfl) (fun V (h : MchW csA l (rmX 8 126) D ad ca RL cL_listed 5 [(0, 10, 13, 13)] 0 0 r M' V) => ?_)
  show V M 0 [(0, .ref (ad 0)), (1, .int a1), (2, .int a2), (3, .ref (ad 55))] []
  unfold fL_listed at hf
  refine r_aload_n (pc := 0) h dL_listed_0 3 rfl rfl ?_
  refine r_iconst (pc := 1) (v := (0 : Int32)) h dL_listed_1 (by decide) ?_
  refine r_aload_n (pc := 2) h dL_listed_2 0 rfl rfl ?_
  refine r_iload_n (pc := 3) h dL_listed_3 1 rfl rfl ?_
  refine r_iload_n (pc := 4) h dL_listed_4 2 rfl rfl ?_
  obtain ⟨u3, N1, hc2, hf⟩ := bd_some hf
  refine r_callVi (pc := 5) (o := 0) (As := [.int a1, .int a2]) (rest := [.int (0 : Int32), .ref (ad 55)]) h mv_L_49 dL_listed_5 (by decide) rfl rfl (conX8_listed hc2) rfl rfl (by decide) (Nat.le_of_ble_eq_true rfl) ⟨Nat.zero_le _, Nat.zero_le _⟩ ?_
  refine r_i2l (pc := 8) h dL_listed_8 ?_
  obtain ⟨hi4, hf⟩ := gd_some hf
  refine r_last (pc := 9) h (by decide) rfl hi4 dL_listed_9 ?_
  refine r_mem (fun N5 eN5 => ?_)
  have hf := nm_app eN5 hf
  refine r_goto (pc := 10) h 17 dL_listed_10 (by decide) ?_
  refine r_iconst (pc := 17) (v := (0 : Int32)) h dL_listed_17 (by decide) ?_
  obtain ⟨rfl, rfl⟩ := sp_i hf
  exact r_iretW (pc := 18) h (by decide) dL_listed_18
set_option maxRecDepth 100000 in
set_option maxHeartbeats 4000000 in
theorem coxL_listed_exI {l : Launch} {D : va_G} {ad : Nat → Nat} {ca : Nat → ClassId} {F : Nat} {a1 : Int32} {a2 : Int32} {M : Mem} (hl : l.stackTraces = false) (hf : tX8_listed F a1 a2 M = some exI) : ConW csA l D ad ca yL_listed cL_listed 5 [(0, 10, 13, 13)] 8 126 [.ref (ad 0), .int a1, .int a2, .ref (ad 55)] M 1 M := by
  refine ConW_of (by decide) (Nat.le_of_ble_eq_true rfl) (fun V (h : MchW csA l (rmX 8 126) D ad ca RL cL_listed 5 [(0, 10, 13, 13)] 0 0 1 M V) => ?_)
  show V M 0 [(0, .ref (ad 0)), (1, .int a1), (2, .int a2), (3, .ref (ad 55))] []
  refine r_aload_n (pc := 0) h dL_listed_0 3 rfl rfl ?_
  refine r_iconst (pc := 1) (v := (0 : Int32)) h dL_listed_1 (by decide) ?_
  refine r_aload_n (pc := 2) h dL_listed_2 0 rfl rfl ?_
  refine r_iload_n (pc := 3) h dL_listed_3 1 rfl rfl ?_
  refine r_iload_n (pc := 4) h dL_listed_4 2 rfl rfl ?_
  refine r_callVXc (pc := 5) (o := 0) (As := [.int a1, .int a2]) (rest := [.int (0 : Int32), .ref (ad 55)]) h mv_L_49 dL_listed_5 (by decide) rfl rfl (coxX8_listed hl hf) rfl rfl (by decide) (Nat.le_of_ble_eq_true rfl) (by decide) [] ⟨0, 10, 13, 13⟩ [] rfl (fun z hz => nomatch hz) (by decide) (by decide) (tg_i 434 (by decide +kernel) rfl) (tb_i 445 (by decide +kernel)) (fun V1 h q => ?_)
  refine r_astore (pc := 13) (lv' := [(4, .ref q), (0, .ref (ad 0)), (1, .int a1), (2, .int a2), (3, .ref (ad 55))]) h dL_listed_13 (by decide) rfl ?_
  refine r_iconst (pc := 15) (v := (1 : Int32)) h dL_listed_15 (by decide) ?_
  exact r_iretW (pc := 16) h (by decide) dL_listed_16
def fL_order (F : Nat) (a1 : Int32) (M : Mem) : Option (Int32 × Mem) := bd (fX8_order F a1 M) (fun u3 N1 => gd (inb (0 : Int32) 1) (nm (pL N1 55 (Int32.toNatClampNeg (0 : Int32)) (Int32.toInt64 u3)) (fun N5 : Mem => some ((0 : Int32), N5))))
set_option maxRecDepth 100000 in
set_option maxHeartbeats 4000000 in
theorem conL_order {l : Launch} {D : va_G} {ad : Nat → Nat} {ca : Nat → ClassId} {F : Nat} {a1 : Int32} {M : Mem} {r : Int32} {M' : Mem} (hf : fL_order F a1 M = some (r, M')) : ConW csA l D ad ca yL_order cL_order 4 [(0, 9, 12, 13)] 8 125 [.ref (ad 0), .int a1, .ref (ad 55)] M r M' := by
  refine ConW_of (by decide) (Nat.le_of_ble_eq_true rfl) (fun V (h : MchW csA l (rmX 8 125) D ad ca RL cL_order 4 [(0, 9, 12, 13)] 0 0 r M' V) => ?_)
  show V M 0 [(0, .ref (ad 0)), (1, .int a1), (2, .ref (ad 55))] []
  unfold fL_order at hf
  refine r_aload_n (pc := 0) h dL_order_0 2 rfl rfl ?_
  refine r_iconst (pc := 1) (v := (0 : Int32)) h dL_order_1 (by decide) ?_
  refine r_aload_n (pc := 2) h dL_order_2 0 rfl rfl ?_
  refine r_iload_n (pc := 3) h dL_order_3 1 rfl rfl ?_
  obtain ⟨u3, N1, hc2, hf⟩ := bd_some hf
  refine r_callVi (pc := 4) (o := 0) (As := [.int a1]) (rest := [.int (0 : Int32), .ref (ad 55)]) h mv_L_75 dL_order_4 (by decide) rfl rfl (conX8_order hc2) rfl rfl (by decide) (Nat.le_of_ble_eq_true rfl) ⟨Nat.zero_le _, Nat.zero_le _⟩ ?_
  refine r_i2l (pc := 7) h dL_order_7 ?_
  obtain ⟨hi4, hf⟩ := gd_some hf
  refine r_last (pc := 8) h (by decide) rfl hi4 dL_order_8 ?_
  refine r_mem (fun N5 eN5 => ?_)
  have hf := nm_app eN5 hf
  refine r_goto (pc := 9) h 15 dL_order_9 (by decide) ?_
  refine r_iconst (pc := 15) (v := (0 : Int32)) h dL_order_15 (by decide) ?_
  obtain ⟨rfl, rfl⟩ := sp_i hf
  exact r_iretW (pc := 16) h (by decide) dL_order_16
set_option maxRecDepth 100000 in
set_option maxHeartbeats 4000000 in
theorem coxL_order_exI {l : Launch} {D : va_G} {ad : Nat → Nat} {ca : Nat → ClassId} {F : Nat} {a1 : Int32} {M : Mem} (hl : l.stackTraces = false) (hf : tX8_order F a1 M = some exI) : ConW csA l D ad ca yL_order cL_order 4 [(0, 9, 12, 13)] 8 125 [.ref (ad 0), .int a1, .ref (ad 55)] M 1 M := by
  refine ConW_of (by decide) (Nat.le_of_ble_eq_true rfl) (fun V (h : MchW csA l (rmX 8 125) D ad ca RL cL_order 4 [(0, 9, 12, 13)] 0 0 1 M V) => ?_)
  show V M 0 [(0, .ref (ad 0)), (1, .int a1), (2, .ref (ad 55))] []
  refine r_aload_n (pc := 0) h dL_order_0 2 rfl rfl ?_
  refine r_iconst (pc := 1) (v := (0 : Int32)) h dL_order_1 (by decide) ?_
  refine r_aload_n (pc := 2) h dL_order_2 0 rfl rfl ?_
  refine r_iload_n (pc := 3) h dL_order_3 1 rfl rfl ?_
  refine r_callVXc (pc := 4) (o := 0) (As := [.int a1]) (rest := [.int (0 : Int32), .ref (ad 55)]) h mv_L_75 dL_order_4 (by decide) rfl rfl (coxX8_order hl hf) rfl rfl (by decide) (Nat.le_of_ble_eq_true rfl) (by decide) [] ⟨0, 9, 12, 13⟩ [] rfl (fun z hz => nomatch hz) (by decide) (by decide) (tg_i 434 (by decide +kernel) rfl) (tb_i 445 (by decide +kernel)) (fun V1 h q => ?_)
  refine r_astore_n (pc := 12) (lv' := [(3, .ref q), (0, .ref (ad 0)), (1, .int a1), (2, .ref (ad 55))]) h dL_order_12 rfl (by decide) rfl ?_
  refine r_iconst (pc := 13) (v := (1 : Int32)) h dL_order_13 (by decide) ?_
  exact r_iretW (pc := 14) h (by decide) dL_order_14
def fL_put (F : Nat) (a1 : Int32) (a2 : Int32) (a3 : Int32) (M : Mem) : Option (Int32 × Mem) := bd (fX8_put F a1 a2 a3 M) (fun u3 N1 => if u3 = 0 then (gd (inb (0 : Int32) 1) (nm (pL N1 55 (Int32.toNatClampNeg (0 : Int32)) (0 : Int64)) (fun N8 : Mem => some ((0 : Int32), N8)))) else (gd (inb (0 : Int32) 1) (nm (pL N1 55 (Int32.toNatClampNeg (0 : Int32)) (1 : Int64)) (fun N6 : Mem => some ((0 : Int32), N6)))))
set_option maxRecDepth 100000 in
set_option maxHeartbeats 4000000 in
theorem conL_put {l : Launch} {D : va_G} {ad : Nat → Nat} {ca : Nat → ClassId} {F : Nat} {a1 : Int32} {a2 : Int32} {a3 : Int32} {M : Mem} {r : Int32} {M' : Mem} (hf : fL_put F a1 a2 a3 M = some (r, M')) : ConW csA l D ad ca yL_put cL_put 6 [(0, 19, 22, 13)] 8 127 [.ref (ad 0), .int a1, .int a2, .int a3, .ref (ad 55)] M r M' := by
  refine ConW_of (by decide) (Nat.le_of_ble_eq_true rfl) (fun V (h : MchW csA l (rmX 8 127) D ad ca RL cL_put 6 [(0, 19, 22, 13)] 0 0 r M' V) => ?_)
  show V M 0 [(0, .ref (ad 0)), (1, .int a1), (2, .int a2), (3, .int a3), (4, .ref (ad 55))] []
  unfold fL_put at hf
  refine r_aload (pc := 0) h dL_put_0 4 rfl ?_
  refine r_iconst (pc := 2) (v := (0 : Int32)) h dL_put_2 (by decide) ?_
  refine r_aload_n (pc := 3) h dL_put_3 0 rfl rfl ?_
  refine r_iload_n (pc := 4) h dL_put_4 1 rfl rfl ?_
  refine r_iload_n (pc := 5) h dL_put_5 2 rfl rfl ?_
  refine r_iload_n (pc := 6) h dL_put_6 3 rfl rfl ?_
  obtain ⟨u3, N1, hc2, hf⟩ := bd_some hf
  refine r_callVi (pc := 7) (o := 0) (As := [.int a1, .int a2, .int a3]) (rest := [.int (0 : Int32), .ref (ad 55)]) h mv_L_17 dL_put_7 (by decide) rfl rfl (conX8_put hc2) rfl rfl (by decide) (Nat.le_of_ble_eq_true rfl) ⟨Nat.zero_le _, Nat.zero_le _⟩ ?_
  refine r_if_eq (pc := 10) h 17 dL_put_10 (by decide) (fun hc4 => ?_) (fun hc4 => ?_)
  · have hf := ite_p hc4 hf
    refine r_lconst (pc := 17) (v := (0 : Int64)) h dL_put_17 (by decide) ?_
    obtain ⟨hi7, hf⟩ := gd_some hf
    refine r_last (pc := 18) h (by decide) rfl hi7 dL_put_18 ?_
    refine r_mem (fun N8 eN8 => ?_)
    have hf := nm_app eN8 hf
    refine r_goto (pc := 19) h 26 dL_put_19 (by decide) ?_
    refine r_iconst (pc := 26) (v := (0 : Int32)) h dL_put_26 (by decide) ?_
    obtain ⟨rfl, rfl⟩ := sp_i hf
    exact r_iretW (pc := 27) h (by decide) dL_put_27
  · have hf := ite_n hc4 hf
    refine r_lconst (pc := 13) (v := (1 : Int64)) h dL_put_13 (by decide) ?_
    refine r_goto (pc := 14) h 18 dL_put_14 (by decide) ?_
    obtain ⟨hi5, hf⟩ := gd_some hf
    refine r_last (pc := 18) h (by decide) rfl hi5 dL_put_18 ?_
    refine r_mem (fun N6 eN6 => ?_)
    have hf := nm_app eN6 hf
    refine r_goto (pc := 19) h 26 dL_put_19 (by decide) ?_
    refine r_iconst (pc := 26) (v := (0 : Int32)) h dL_put_26 (by decide) ?_
    obtain ⟨rfl, rfl⟩ := sp_i hf
    exact r_iretW (pc := 27) h (by decide) dL_put_27
set_option maxRecDepth 100000 in
set_option maxHeartbeats 4000000 in
theorem coxL_put_exI {l : Launch} {D : va_G} {ad : Nat → Nat} {ca : Nat → ClassId} {F : Nat} {a1 : Int32} {a2 : Int32} {a3 : Int32} {M : Mem} (hl : l.stackTraces = false) (hf : tX8_put F a1 a2 a3 M = some exI) : ConW csA l D ad ca yL_put cL_put 6 [(0, 19, 22, 13)] 8 127 [.ref (ad 0), .int a1, .int a2, .int a3, .ref (ad 55)] M 1 M := by
  refine ConW_of (by decide) (Nat.le_of_ble_eq_true rfl) (fun V (h : MchW csA l (rmX 8 127) D ad ca RL cL_put 6 [(0, 19, 22, 13)] 0 0 1 M V) => ?_)
  show V M 0 [(0, .ref (ad 0)), (1, .int a1), (2, .int a2), (3, .int a3), (4, .ref (ad 55))] []
  refine r_aload (pc := 0) h dL_put_0 4 rfl ?_
  refine r_iconst (pc := 2) (v := (0 : Int32)) h dL_put_2 (by decide) ?_
  refine r_aload_n (pc := 3) h dL_put_3 0 rfl rfl ?_
  refine r_iload_n (pc := 4) h dL_put_4 1 rfl rfl ?_
  refine r_iload_n (pc := 5) h dL_put_5 2 rfl rfl ?_
  refine r_iload_n (pc := 6) h dL_put_6 3 rfl rfl ?_
  refine r_callVXc (pc := 7) (o := 0) (As := [.int a1, .int a2, .int a3]) (rest := [.int (0 : Int32), .ref (ad 55)]) h mv_L_17 dL_put_7 (by decide) rfl rfl (coxX8_put hl hf) rfl rfl (by decide) (Nat.le_of_ble_eq_true rfl) (by decide) [] ⟨0, 19, 22, 13⟩ [] rfl (fun z hz => nomatch hz) (by decide) (by decide) (tg_i 434 (by decide +kernel) rfl) (tb_i 445 (by decide +kernel)) (fun V1 h q => ?_)
  refine r_astore (pc := 22) (lv' := [(5, .ref q), (0, .ref (ad 0)), (1, .int a1), (2, .int a2), (3, .int a3), (4, .ref (ad 55))]) h dL_put_22 (by decide) rfl ?_
  refine r_iconst (pc := 24) (v := (1 : Int32)) h dL_put_24 (by decide) ?_
  exact r_iretW (pc := 25) h (by decide) dL_put_25
def fL_room (F : Nat) (a1 : Int32) (M : Mem) : Option (Int32 × Mem) := bd (fX8_room F a1 M) (fun u3 N1 => gd (inb (0 : Int32) 1) (nm (pL N1 55 (Int32.toNatClampNeg (0 : Int32)) (Int32.toInt64 u3)) (fun N5 : Mem => some ((0 : Int32), N5))))
set_option maxRecDepth 100000 in
set_option maxHeartbeats 4000000 in
theorem conL_room {l : Launch} {D : va_G} {ad : Nat → Nat} {ca : Nat → ClassId} {F : Nat} {a1 : Int32} {M : Mem} {r : Int32} {M' : Mem} (hf : fL_room F a1 M = some (r, M')) : ConW csA l D ad ca yL_room cL_room 4 [(0, 9, 12, 13)] 8 202 [.ref (ad 0), .int a1, .ref (ad 55)] M r M' := by
  refine ConW_of (by decide) (Nat.le_of_ble_eq_true rfl) (fun V (h : MchW csA l (rmX 8 202) D ad ca RL cL_room 4 [(0, 9, 12, 13)] 0 0 r M' V) => ?_)
  show V M 0 [(0, .ref (ad 0)), (1, .int a1), (2, .ref (ad 55))] []
  unfold fL_room at hf
  refine r_aload_n (pc := 0) h dL_room_0 2 rfl rfl ?_
  refine r_iconst (pc := 1) (v := (0 : Int32)) h dL_room_1 (by decide) ?_
  refine r_aload_n (pc := 2) h dL_room_2 0 rfl rfl ?_
  refine r_iload_n (pc := 3) h dL_room_3 1 rfl rfl ?_
  obtain ⟨u3, N1, hc2, hf⟩ := bd_some hf
  refine r_callVi (pc := 4) (o := 0) (As := [.int a1]) (rest := [.int (0 : Int32), .ref (ad 55)]) h mv_L_40 dL_room_4 (by decide) rfl rfl (conX8_room hc2) rfl rfl (by decide) (Nat.le_of_ble_eq_true rfl) ⟨Nat.zero_le _, Nat.zero_le _⟩ ?_
  refine r_i2l (pc := 7) h dL_room_7 ?_
  obtain ⟨hi4, hf⟩ := gd_some hf
  refine r_last (pc := 8) h (by decide) rfl hi4 dL_room_8 ?_
  refine r_mem (fun N5 eN5 => ?_)
  have hf := nm_app eN5 hf
  refine r_goto (pc := 9) h 15 dL_room_9 (by decide) ?_
  refine r_iconst (pc := 15) (v := (0 : Int32)) h dL_room_15 (by decide) ?_
  obtain ⟨rfl, rfl⟩ := sp_i hf
  exact r_iretW (pc := 16) h (by decide) dL_room_16
set_option maxRecDepth 100000 in
set_option maxHeartbeats 4000000 in
theorem coxL_room_exI {l : Launch} {D : va_G} {ad : Nat → Nat} {ca : Nat → ClassId} {F : Nat} {a1 : Int32} {M : Mem} (hl : l.stackTraces = false) (hf : tX8_room F a1 M = some exI) : ConW csA l D ad ca yL_room cL_room 4 [(0, 9, 12, 13)] 8 202 [.ref (ad 0), .int a1, .ref (ad 55)] M 1 M := by
  refine ConW_of (by decide) (Nat.le_of_ble_eq_true rfl) (fun V (h : MchW csA l (rmX 8 202) D ad ca RL cL_room 4 [(0, 9, 12, 13)] 0 0 1 M V) => ?_)
  show V M 0 [(0, .ref (ad 0)), (1, .int a1), (2, .ref (ad 55))] []
  refine r_aload_n (pc := 0) h dL_room_0 2 rfl rfl ?_
  refine r_iconst (pc := 1) (v := (0 : Int32)) h dL_room_1 (by decide) ?_
  refine r_aload_n (pc := 2) h dL_room_2 0 rfl rfl ?_
  refine r_iload_n (pc := 3) h dL_room_3 1 rfl rfl ?_
  refine r_callVXc (pc := 4) (o := 0) (As := [.int a1]) (rest := [.int (0 : Int32), .ref (ad 55)]) h mv_L_40 dL_room_4 (by decide) rfl rfl (coxX8_room hl hf) rfl rfl (by decide) (Nat.le_of_ble_eq_true rfl) (by decide) [] ⟨0, 9, 12, 13⟩ [] rfl (fun z hz => nomatch hz) (by decide) (by decide) (tg_i 434 (by decide +kernel) rfl) (tb_i 445 (by decide +kernel)) (fun V1 h q => ?_)
  refine r_astore_n (pc := 12) (lv' := [(3, .ref q), (0, .ref (ad 0)), (1, .int a1), (2, .ref (ad 55))]) h dL_room_12 rfl (by decide) rfl ?_
  refine r_iconst (pc := 13) (v := (1 : Int32)) h dL_room_13 (by decide) ?_
  exact r_iretW (pc := 14) h (by decide) dL_room_14
def fL_sheet (F : Nat) (a1 : Int32) (a2 : Int32) (M : Mem) : Option (Int32 × Mem) := bd (fX8_sheet F a1 a2 M) (fun u3 N1 => gd (inb (0 : Int32) 1) (nm (pL N1 55 (Int32.toNatClampNeg (0 : Int32)) (Int32.toInt64 u3)) (fun N5 : Mem => some ((0 : Int32), N5))))
set_option maxRecDepth 100000 in
set_option maxHeartbeats 4000000 in
theorem conL_sheet {l : Launch} {D : va_G} {ad : Nat → Nat} {ca : Nat → ClassId} {F : Nat} {a1 : Int32} {a2 : Int32} {M : Mem} {r : Int32} {M' : Mem} (hf : fL_sheet F a1 a2 M = some (r, M')) : ConW csA l D ad ca yL_sheet cL_sheet 5 [(0, 10, 13, 13), (0, 10, 17, 15)] 8 133 [.ref (ad 0), .int a1, .int a2, .ref (ad 55)] M r M' := by
  refine ConW_of (by decide) (Nat.le_of_ble_eq_true rfl) (fun V (h : MchW csA l (rmX 8 133) D ad ca RL cL_sheet 5 [(0, 10, 13, 13), (0, 10, 17, 15)] 0 0 r M' V) => ?_)
  show V M 0 [(0, .ref (ad 0)), (1, .int a1), (2, .int a2), (3, .ref (ad 55))] []
  unfold fL_sheet at hf
  refine r_aload_n (pc := 0) h dL_sheet_0 3 rfl rfl ?_
  refine r_iconst (pc := 1) (v := (0 : Int32)) h dL_sheet_1 (by decide) ?_
  refine r_aload_n (pc := 2) h dL_sheet_2 0 rfl rfl ?_
  refine r_iload_n (pc := 3) h dL_sheet_3 1 rfl rfl ?_
  refine r_iload_n (pc := 4) h dL_sheet_4 2 rfl rfl ?_
  obtain ⟨u3, N1, hc2, hf⟩ := bd_some hf
  refine r_callVi (pc := 5) (o := 0) (As := [.int a1, .int a2]) (rest := [.int (0 : Int32), .ref (ad 55)]) h mv_L_7 dL_sheet_5 (by decide) rfl rfl (conX8_sheet hc2) rfl rfl (by decide) (Nat.le_of_ble_eq_true rfl) ⟨Nat.zero_le _, Nat.zero_le _⟩ ?_
  refine r_i2l (pc := 8) h dL_sheet_8 ?_
  obtain ⟨hi4, hf⟩ := gd_some hf
  refine r_last (pc := 9) h (by decide) rfl hi4 dL_sheet_9 ?_
  refine r_mem (fun N5 eN5 => ?_)
  have hf := nm_app eN5 hf
  refine r_goto (pc := 10) h 21 dL_sheet_10 (by decide) ?_
  refine r_iconst (pc := 21) (v := (0 : Int32)) h dL_sheet_21 (by decide) ?_
  obtain ⟨rfl, rfl⟩ := sp_i hf
  exact r_iretW (pc := 22) h (by decide) dL_sheet_22
set_option maxRecDepth 100000 in
set_option maxHeartbeats 4000000 in
theorem coxL_sheet_exI {l : Launch} {D : va_G} {ad : Nat → Nat} {ca : Nat → ClassId} {F : Nat} {a1 : Int32} {a2 : Int32} {M : Mem} (hl : l.stackTraces = false) (hf : tX8_sheet F a1 a2 M = some exI) : ConW csA l D ad ca yL_sheet cL_sheet 5 [(0, 10, 13, 13), (0, 10, 17, 15)] 8 133 [.ref (ad 0), .int a1, .int a2, .ref (ad 55)] M 1 M := by
  refine ConW_of (by decide) (Nat.le_of_ble_eq_true rfl) (fun V (h : MchW csA l (rmX 8 133) D ad ca RL cL_sheet 5 [(0, 10, 13, 13), (0, 10, 17, 15)] 0 0 1 M V) => ?_)
  show V M 0 [(0, .ref (ad 0)), (1, .int a1), (2, .int a2), (3, .ref (ad 55))] []
  refine r_aload_n (pc := 0) h dL_sheet_0 3 rfl rfl ?_
  refine r_iconst (pc := 1) (v := (0 : Int32)) h dL_sheet_1 (by decide) ?_
  refine r_aload_n (pc := 2) h dL_sheet_2 0 rfl rfl ?_
  refine r_iload_n (pc := 3) h dL_sheet_3 1 rfl rfl ?_
  refine r_iload_n (pc := 4) h dL_sheet_4 2 rfl rfl ?_
  refine r_callVXc (pc := 5) (o := 0) (As := [.int a1, .int a2]) (rest := [.int (0 : Int32), .ref (ad 55)]) h mv_L_7 dL_sheet_5 (by decide) rfl rfl (coxX8_sheet hl hf) rfl rfl (by decide) (Nat.le_of_ble_eq_true rfl) (by decide) [] ⟨0, 10, 13, 13⟩ [⟨0, 10, 17, 15⟩] rfl (fun z hz => nomatch hz) (by decide) (by decide) (tg_i 434 (by decide +kernel) rfl) (tb_i 445 (by decide +kernel)) (fun V1 h q => ?_)
  refine r_astore (pc := 13) (lv' := [(4, .ref q), (0, .ref (ad 0)), (1, .int a1), (2, .int a2), (3, .ref (ad 55))]) h dL_sheet_13 (by decide) rfl ?_
  refine r_iconst (pc := 15) (v := (1 : Int32)) h dL_sheet_15 (by decide) ?_
  exact r_iretW (pc := 16) h (by decide) dL_sheet_16
set_option maxRecDepth 100000 in
set_option maxHeartbeats 4000000 in
theorem coxL_sheet_exA {l : Launch} {D : va_G} {ad : Nat → Nat} {ca : Nat → ClassId} {F : Nat} {a1 : Int32} {a2 : Int32} {M : Mem} (hl : l.stackTraces = false) (hf : tX8_sheet F a1 a2 M = some exA) : ConW csA l D ad ca yL_sheet cL_sheet 5 [(0, 10, 13, 13), (0, 10, 17, 15)] 8 133 [.ref (ad 0), .int a1, .int a2, .ref (ad 55)] M 2 M := by
  refine ConW_of (by decide) (Nat.le_of_ble_eq_true rfl) (fun V (h : MchW csA l (rmX 8 133) D ad ca RL cL_sheet 5 [(0, 10, 13, 13), (0, 10, 17, 15)] 0 0 2 M V) => ?_)
  show V M 0 [(0, .ref (ad 0)), (1, .int a1), (2, .int a2), (3, .ref (ad 55))] []
  refine r_aload_n (pc := 0) h dL_sheet_0 3 rfl rfl ?_
  refine r_iconst (pc := 1) (v := (0 : Int32)) h dL_sheet_1 (by decide) ?_
  refine r_aload_n (pc := 2) h dL_sheet_2 0 rfl rfl ?_
  refine r_iload_n (pc := 3) h dL_sheet_3 1 rfl rfl ?_
  refine r_iload_n (pc := 4) h dL_sheet_4 2 rfl rfl ?_
  refine r_callVXc (pc := 5) (o := 0) (As := [.int a1, .int a2]) (rest := [.int (0 : Int32), .ref (ad 55)]) h mv_L_7 dL_sheet_5 (by decide) rfl rfl (coxX8_sheet hl hf) rfl rfl (by decide) (Nat.le_of_ble_eq_true rfl) (by decide) [⟨0, 10, 13, 13⟩] ⟨0, 10, 17, 15⟩ [] rfl (fun z hz => by rcases List.mem_singleton.mp hz with rfl; exact ⟨by decide, by decide, (tg_i 434 (by decide +kernel) rfl), Or.inl rfl⟩) (by decide) (by decide) (tg_i 435 (by decide +kernel) rfl) (tb_i 512 (by decide +kernel)) (fun V1 h q => ?_)
  refine r_astore (pc := 17) (lv' := [(4, .ref q), (0, .ref (ad 0)), (1, .int a1), (2, .int a2), (3, .ref (ad 55))]) h dL_sheet_17 (by decide) rfl ?_
  refine r_iconst (pc := 19) (v := (2 : Int32)) h dL_sheet_19 (by decide) ?_
  exact r_iretW (pc := 20) h (by decide) dL_sheet_20
def fL_size (F : Nat) (a1 : Int32) (M : Mem) : Option (Int32 × Mem) := bd (fX8_size F a1 M) (fun u3 N1 => gd (inb (0 : Int32) 1) (nm (pL N1 55 (Int32.toNatClampNeg (0 : Int32)) (Int32.toInt64 u3)) (fun N5 : Mem => some ((0 : Int32), N5))))
set_option maxRecDepth 100000 in
set_option maxHeartbeats 4000000 in
theorem conL_size {l : Launch} {D : va_G} {ad : Nat → Nat} {ca : Nat → ClassId} {F : Nat} {a1 : Int32} {M : Mem} {r : Int32} {M' : Mem} (hf : fL_size F a1 M = some (r, M')) : ConW csA l D ad ca yL_size cL_size 4 [(0, 9, 12, 13)] 8 125 [.ref (ad 0), .int a1, .ref (ad 55)] M r M' := by
  refine ConW_of (by decide) (Nat.le_of_ble_eq_true rfl) (fun V (h : MchW csA l (rmX 8 125) D ad ca RL cL_size 4 [(0, 9, 12, 13)] 0 0 r M' V) => ?_)
  show V M 0 [(0, .ref (ad 0)), (1, .int a1), (2, .ref (ad 55))] []
  unfold fL_size at hf
  refine r_aload_n (pc := 0) h dL_size_0 2 rfl rfl ?_
  refine r_iconst (pc := 1) (v := (0 : Int32)) h dL_size_1 (by decide) ?_
  refine r_aload_n (pc := 2) h dL_size_2 0 rfl rfl ?_
  refine r_iload_n (pc := 3) h dL_size_3 1 rfl rfl ?_
  obtain ⟨u3, N1, hc2, hf⟩ := bd_some hf
  refine r_callVi (pc := 4) (o := 0) (As := [.int a1]) (rest := [.int (0 : Int32), .ref (ad 55)]) h mv_L_25 dL_size_4 (by decide) rfl rfl (conX8_size hc2) rfl rfl (by decide) (Nat.le_of_ble_eq_true rfl) ⟨Nat.zero_le _, Nat.zero_le _⟩ ?_
  refine r_i2l (pc := 7) h dL_size_7 ?_
  obtain ⟨hi4, hf⟩ := gd_some hf
  refine r_last (pc := 8) h (by decide) rfl hi4 dL_size_8 ?_
  refine r_mem (fun N5 eN5 => ?_)
  have hf := nm_app eN5 hf
  refine r_goto (pc := 9) h 15 dL_size_9 (by decide) ?_
  refine r_iconst (pc := 15) (v := (0 : Int32)) h dL_size_15 (by decide) ?_
  obtain ⟨rfl, rfl⟩ := sp_i hf
  exact r_iretW (pc := 16) h (by decide) dL_size_16
set_option maxRecDepth 100000 in
set_option maxHeartbeats 4000000 in
theorem coxL_size_exI {l : Launch} {D : va_G} {ad : Nat → Nat} {ca : Nat → ClassId} {F : Nat} {a1 : Int32} {M : Mem} (hl : l.stackTraces = false) (hf : tX8_size F a1 M = some exI) : ConW csA l D ad ca yL_size cL_size 4 [(0, 9, 12, 13)] 8 125 [.ref (ad 0), .int a1, .ref (ad 55)] M 1 M := by
  refine ConW_of (by decide) (Nat.le_of_ble_eq_true rfl) (fun V (h : MchW csA l (rmX 8 125) D ad ca RL cL_size 4 [(0, 9, 12, 13)] 0 0 1 M V) => ?_)
  show V M 0 [(0, .ref (ad 0)), (1, .int a1), (2, .ref (ad 55))] []
  refine r_aload_n (pc := 0) h dL_size_0 2 rfl rfl ?_
  refine r_iconst (pc := 1) (v := (0 : Int32)) h dL_size_1 (by decide) ?_
  refine r_aload_n (pc := 2) h dL_size_2 0 rfl rfl ?_
  refine r_iload_n (pc := 3) h dL_size_3 1 rfl rfl ?_
  refine r_callVXc (pc := 4) (o := 0) (As := [.int a1]) (rest := [.int (0 : Int32), .ref (ad 55)]) h mv_L_25 dL_size_4 (by decide) rfl rfl (coxX8_size hl hf) rfl rfl (by decide) (Nat.le_of_ble_eq_true rfl) (by decide) [] ⟨0, 9, 12, 13⟩ [] rfl (fun z hz => nomatch hz) (by decide) (by decide) (tg_i 434 (by decide +kernel) rfl) (tb_i 445 (by decide +kernel)) (fun V1 h q => ?_)
  refine r_astore_n (pc := 12) (lv' := [(3, .ref q), (0, .ref (ad 0)), (1, .int a1), (2, .ref (ad 55))]) h dL_size_12 rfl (by decide) rfl ?_
  refine r_iconst (pc := 13) (v := (1 : Int32)) h dL_size_13 (by decide) ?_
  exact r_iretW (pc := 14) h (by decide) dL_size_14
def fL_sums (F : Nat) (a1 : Int32) (a2 : Int32) (a3 : Int32) (a4 : Int32) (M : Mem) : Option (Int32 × Mem) := bd (fX8_sums F a1 a2 a3 a4 M) (fun u3 N1 => gd (inb (0 : Int32) 1) (nm (pL N1 55 (Int32.toNatClampNeg (0 : Int32)) (Int32.toInt64 u3)) (fun N5 : Mem => some ((0 : Int32), N5))))
set_option maxRecDepth 100000 in
set_option maxHeartbeats 4000000 in
theorem conL_sums {l : Launch} {D : va_G} {ad : Nat → Nat} {ca : Nat → ClassId} {F : Nat} {a1 : Int32} {a2 : Int32} {a3 : Int32} {a4 : Int32} {M : Mem} {r : Int32} {M' : Mem} (hf : fL_sums F a1 a2 a3 a4 M = some (r, M')) : ConW csA l D ad ca yL_sums cL_sums 7 [(0, 14, 17, 13)] 8 153 [.ref (ad 0), .int a1, .int a2, .int a3, .int a4, .ref (ad 55)] M r M' := by
  refine ConW_of (by decide) (Nat.le_of_ble_eq_true rfl) (fun V (h : MchW csA l (rmX 8 153) D ad ca RL cL_sums 7 [(0, 14, 17, 13)] 0 0 r M' V) => ?_)
  show V M 0 [(0, .ref (ad 0)), (1, .int a1), (2, .int a2), (3, .int a3), (4, .int a4), (5, .ref (ad 55))] []
  unfold fL_sums at hf
  refine r_aload (pc := 0) h dL_sums_0 5 rfl ?_
  refine r_iconst (pc := 2) (v := (0 : Int32)) h dL_sums_2 (by decide) ?_
  refine r_aload_n (pc := 3) h dL_sums_3 0 rfl rfl ?_
  refine r_iload_n (pc := 4) h dL_sums_4 1 rfl rfl ?_
  refine r_iload_n (pc := 5) h dL_sums_5 2 rfl rfl ?_
  refine r_iload_n (pc := 6) h dL_sums_6 3 rfl rfl ?_
  refine r_iload (pc := 7) h dL_sums_7 4 rfl ?_
  obtain ⟨u3, N1, hc2, hf⟩ := bd_some hf
  refine r_callVi (pc := 9) (o := 0) (As := [.int a1, .int a2, .int a3, .int a4]) (rest := [.int (0 : Int32), .ref (ad 55)]) h mv_L_68 dL_sums_9 (by decide) rfl rfl (conX8_sums hc2) rfl rfl (by decide) (Nat.le_of_ble_eq_true rfl) ⟨Nat.zero_le _, Nat.zero_le _⟩ ?_
  refine r_i2l (pc := 12) h dL_sums_12 ?_
  obtain ⟨hi4, hf⟩ := gd_some hf
  refine r_last (pc := 13) h (by decide) rfl hi4 dL_sums_13 ?_
  refine r_mem (fun N5 eN5 => ?_)
  have hf := nm_app eN5 hf
  refine r_goto (pc := 14) h 21 dL_sums_14 (by decide) ?_
  refine r_iconst (pc := 21) (v := (0 : Int32)) h dL_sums_21 (by decide) ?_
  obtain ⟨rfl, rfl⟩ := sp_i hf
  exact r_iretW (pc := 22) h (by decide) dL_sums_22
set_option maxRecDepth 100000 in
set_option maxHeartbeats 4000000 in
theorem coxL_sums_exI {l : Launch} {D : va_G} {ad : Nat → Nat} {ca : Nat → ClassId} {F : Nat} {a1 : Int32} {a2 : Int32} {a3 : Int32} {a4 : Int32} {M : Mem} (hl : l.stackTraces = false) (hf : tX8_sums F a1 a2 a3 a4 M = some exI) : ConW csA l D ad ca yL_sums cL_sums 7 [(0, 14, 17, 13)] 8 153 [.ref (ad 0), .int a1, .int a2, .int a3, .int a4, .ref (ad 55)] M 1 M := by
  refine ConW_of (by decide) (Nat.le_of_ble_eq_true rfl) (fun V (h : MchW csA l (rmX 8 153) D ad ca RL cL_sums 7 [(0, 14, 17, 13)] 0 0 1 M V) => ?_)
  show V M 0 [(0, .ref (ad 0)), (1, .int a1), (2, .int a2), (3, .int a3), (4, .int a4), (5, .ref (ad 55))] []
  refine r_aload (pc := 0) h dL_sums_0 5 rfl ?_
  refine r_iconst (pc := 2) (v := (0 : Int32)) h dL_sums_2 (by decide) ?_
  refine r_aload_n (pc := 3) h dL_sums_3 0 rfl rfl ?_
  refine r_iload_n (pc := 4) h dL_sums_4 1 rfl rfl ?_
  refine r_iload_n (pc := 5) h dL_sums_5 2 rfl rfl ?_
  refine r_iload_n (pc := 6) h dL_sums_6 3 rfl rfl ?_
  refine r_iload (pc := 7) h dL_sums_7 4 rfl ?_
  refine r_callVXc (pc := 9) (o := 0) (As := [.int a1, .int a2, .int a3, .int a4]) (rest := [.int (0 : Int32), .ref (ad 55)]) h mv_L_68 dL_sums_9 (by decide) rfl rfl (coxX8_sums hl hf) rfl rfl (by decide) (Nat.le_of_ble_eq_true rfl) (by decide) [] ⟨0, 14, 17, 13⟩ [] rfl (fun z hz => nomatch hz) (by decide) (by decide) (tg_i 434 (by decide +kernel) rfl) (tb_i 445 (by decide +kernel)) (fun V1 h q => ?_)
  refine r_astore (pc := 17) (lv' := [(6, .ref q), (0, .ref (ad 0)), (1, .int a1), (2, .int a2), (3, .int a3), (4, .int a4), (5, .ref (ad 55))]) h dL_sums_17 (by decide) rfl ?_
  refine r_iconst (pc := 19) (v := (1 : Int32)) h dL_sums_19 (by decide) ?_
  exact r_iretW (pc := 20) h (by decide) dL_sums_20
def fL_witness (F : Nat) (a1 : Int32) (M : Mem) : Option (Int32 × Mem) := bd (fX8_witness F a1 M) (fun u3 N1 => gd (inb (0 : Int32) 1) (nm (pL N1 55 (Int32.toNatClampNeg (0 : Int32)) (Int32.toInt64 u3)) (fun N5 : Mem => some ((0 : Int32), N5))))
set_option maxRecDepth 100000 in
set_option maxHeartbeats 4000000 in
theorem conL_witness {l : Launch} {D : va_G} {ad : Nat → Nat} {ca : Nat → ClassId} {F : Nat} {a1 : Int32} {M : Mem} {r : Int32} {M' : Mem} (hf : fL_witness F a1 M = some (r, M')) : ConW csA l D ad ca yL_witness cL_witness 4 [(0, 9, 12, 32)] 7 105 [.ref (ad 0), .int a1, .ref (ad 55)] M r M' := by
  refine ConW_of (by decide) (Nat.le_of_ble_eq_true rfl) (fun V (h : MchW csA l (rmX 7 105) D ad ca RL cL_witness 4 [(0, 9, 12, 32)] 0 0 r M' V) => ?_)
  show V M 0 [(0, .ref (ad 0)), (1, .int a1), (2, .ref (ad 55))] []
  unfold fL_witness at hf
  refine r_aload_n (pc := 0) h dL_witness_0 2 rfl rfl ?_
  refine r_iconst (pc := 1) (v := (0 : Int32)) h dL_witness_1 (by decide) ?_
  refine r_aload_n (pc := 2) h dL_witness_2 0 rfl rfl ?_
  refine r_iload_n (pc := 3) h dL_witness_3 1 rfl rfl ?_
  obtain ⟨u3, N1, hc2, hf⟩ := bd_some hf
  refine r_callVi (pc := 4) (o := 0) (As := [.int a1]) (rest := [.int (0 : Int32), .ref (ad 55)]) h mv_L_37 dL_witness_4 (by decide) rfl rfl (conX8_witness hc2) rfl rfl (by decide) (Nat.le_of_ble_eq_true rfl) ⟨Nat.zero_le _, Nat.zero_le _⟩ ?_
  refine r_i2l (pc := 7) h dL_witness_7 ?_
  obtain ⟨hi4, hf⟩ := gd_some hf
  refine r_last (pc := 8) h (by decide) rfl hi4 dL_witness_8 ?_
  refine r_mem (fun N5 eN5 => ?_)
  have hf := nm_app eN5 hf
  refine r_goto (pc := 9) h 15 dL_witness_9 (by decide) ?_
  refine r_iconst (pc := 15) (v := (0 : Int32)) h dL_witness_15 (by decide) ?_
  obtain ⟨rfl, rfl⟩ := sp_i hf
  exact r_iretW (pc := 16) h (by decide) dL_witness_16
set_option maxRecDepth 100000 in
set_option maxHeartbeats 4000000 in
theorem coxL_witness_exN {l : Launch} {D : va_G} {ad : Nat → Nat} {ca : Nat → ClassId} {F : Nat} {a1 : Int32} {M : Mem} (hl : l.stackTraces = false) (hf : tX8_witness F a1 M = some exN) : ConW csA l D ad ca yL_witness cL_witness 4 [(0, 9, 12, 32)] 7 105 [.ref (ad 0), .int a1, .ref (ad 55)] M 1 M := by
  refine ConW_of (by decide) (Nat.le_of_ble_eq_true rfl) (fun V (h : MchW csA l (rmX 7 105) D ad ca RL cL_witness 4 [(0, 9, 12, 32)] 0 0 1 M V) => ?_)
  show V M 0 [(0, .ref (ad 0)), (1, .int a1), (2, .ref (ad 55))] []
  refine r_aload_n (pc := 0) h dL_witness_0 2 rfl rfl ?_
  refine r_iconst (pc := 1) (v := (0 : Int32)) h dL_witness_1 (by decide) ?_
  refine r_aload_n (pc := 2) h dL_witness_2 0 rfl rfl ?_
  refine r_iload_n (pc := 3) h dL_witness_3 1 rfl rfl ?_
  refine r_callVXc (pc := 4) (o := 0) (As := [.int a1]) (rest := [.int (0 : Int32), .ref (ad 55)]) h mv_L_37 dL_witness_4 (by decide) rfl rfl (coxX8_witness hl hf) rfl rfl (by decide) (Nat.le_of_ble_eq_true rfl) (by decide) [] ⟨0, 9, 12, 32⟩ [] rfl (fun z hz => nomatch hz) (by decide) (by decide) (tg_i 559 (by decide +kernel) rfl) (tb_i 566 (by decide +kernel)) (fun V1 h q => ?_)
  refine r_astore_n (pc := 12) (lv' := [(3, .ref q), (0, .ref (ad 0)), (1, .int a1), (2, .ref (ad 55))]) h dL_witness_12 rfl (by decide) rfl ?_
  refine r_iconst (pc := 13) (v := (1 : Int32)) h dL_witness_13 (by decide) ?_
  exact r_iretW (pc := 14) h (by decide) dL_witness_14
