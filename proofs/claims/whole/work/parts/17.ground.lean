/-! Ground() calls lay(0, 20) while the ground is all there is: the same walks over the cell 3 alone. -/
set_option maxRecDepth 100000 in
set_option maxHeartbeats 4000000 in
theorem cogX1_fits {l : Launch} {D : va_G} {ad : Nat → Nat} {ca : Nat → ClassId} {F : Nat} {a0 : Int32} {a1 : Int32} {M : Mem} {r : Int32} {M' : Mem} (hf : fX1_fits F a0 a1 M = some (r, M')) : Con [3] l D ad ca yX1_fits cX1_fits 2 (some .boolean) 0 0 [.int a0, .int a1] M (some (.int r)) M' := by
  refine Con_of (by decide) (Nat.le_of_ble_eq_true rfl) (fun V (h : Mch [3] l (rmN 0 0) D ad ca RX1 cX1_fits 2 (some .boolean) (some (.int r)) M' V) => ?_)
  show V M 0 [(0, .int a0), (1, .int a1)] []
  unfold fX1_fits at hf
  refine r_iload_n (pc := 0) h dX1_fits_0 0 rfl rfl ?_
  by_cases hc1 : a0 = 0
  · have hf := ite_p hc1 hf
    refine r_tableIn (pc := 1) h 28 dX1_fits_1 (by rw [hc1]; decide) (by rw [hc1]; decide) (by rw [hc1] <;> rfl) (by decide) ?_
    refine r_iload_n (pc := 28) h dX1_fits_28 1 rfl rfl ?_
    refine r_iconst (pc := 29) (v := (1 : Int32)) h dX1_fits_29 (by decide) ?_
    refine r_icmp_lt (pc := 30) h 43 dX1_fits_30 (by decide) (fun hc2 => ?_) (fun hc2 => ?_)
    · have hf := ite_p hc2 hf
      refine r_iconst (pc := 43) (v := (0 : Int32)) h dX1_fits_43 (by decide) ?_
      obtain ⟨rfl, rfl⟩ := sp_i hf
      exact r_zret (pc := 44) h (Or.inl rfl) dX1_fits_44
    · have hf := ite_n hc2 hf
      refine r_iload_n (pc := 33) h dX1_fits_33 1 rfl rfl ?_
      refine r_bipush (pc := 34) (v := (60 : Int32)) h dX1_fits_34 (by decide) ?_
      refine r_icmp_gt (pc := 36) h 43 dX1_fits_36 (by decide) (fun hc3 => ?_) (fun hc3 => ?_)
      · have hf := ite_p hc3 hf
        refine r_iconst (pc := 43) (v := (0 : Int32)) h dX1_fits_43 (by decide) ?_
        obtain ⟨rfl, rfl⟩ := sp_i hf
        exact r_zret (pc := 44) h (Or.inl rfl) dX1_fits_44
      · have hf := ite_n hc3 hf
        refine r_iconst (pc := 39) (v := (1 : Int32)) h dX1_fits_39 (by decide) ?_
        refine r_goto (pc := 40) h 44 dX1_fits_40 (by decide) ?_
        obtain ⟨rfl, rfl⟩ := sp_i hf
        exact r_zret (pc := 44) h (Or.inr rfl) dX1_fits_44
  · have hf := ite_n hc1 hf
    by_cases hc4 : a0 = 1
    · have hf := ite_p hc4 hf
      refine r_tableIn (pc := 1) h 45 dX1_fits_1 (by rw [hc4]; decide) (by rw [hc4]; decide) (by rw [hc4] <;> rfl) (by decide) ?_
      refine r_iload_n (pc := 45) h dX1_fits_45 1 rfl rfl ?_
      refine r_iconst (pc := 46) (v := (2 : Int32)) h dX1_fits_46 (by decide) ?_
      refine r_icmp_lt (pc := 47) h 60 dX1_fits_47 (by decide) (fun hc5 => ?_) (fun hc5 => ?_)
      · have hf := ite_p hc5 hf
        refine r_iconst (pc := 60) (v := (0 : Int32)) h dX1_fits_60 (by decide) ?_
        obtain ⟨rfl, rfl⟩ := sp_i hf
        exact r_zret (pc := 61) h (Or.inl rfl) dX1_fits_61
      · have hf := ite_n hc5 hf
        refine r_iload_n (pc := 50) h dX1_fits_50 1 rfl rfl ?_
        refine r_bipush (pc := 51) (v := (60 : Int32)) h dX1_fits_51 (by decide) ?_
        refine r_icmp_gt (pc := 53) h 60 dX1_fits_53 (by decide) (fun hc6 => ?_) (fun hc6 => ?_)
        · have hf := ite_p hc6 hf
          refine r_iconst (pc := 60) (v := (0 : Int32)) h dX1_fits_60 (by decide) ?_
          obtain ⟨rfl, rfl⟩ := sp_i hf
          exact r_zret (pc := 61) h (Or.inl rfl) dX1_fits_61
        · have hf := ite_n hc6 hf
          refine r_iconst (pc := 56) (v := (1 : Int32)) h dX1_fits_56 (by decide) ?_
          refine r_goto (pc := 57) h 61 dX1_fits_57 (by decide) ?_
          obtain ⟨rfl, rfl⟩ := sp_i hf
          exact r_zret (pc := 61) h (Or.inr rfl) dX1_fits_61
    · have hf := ite_n hc4 hf
      by_cases hc7 : a0 = 2
      · have hf := ite_p hc7 hf
        refine r_tableIn (pc := 1) h 62 dX1_fits_1 (by rw [hc7]; decide) (by rw [hc7]; decide) (by rw [hc7] <;> rfl) (by decide) ?_
        refine r_iload_n (pc := 62) h dX1_fits_62 1 rfl rfl ?_
        refine r_iconst (pc := 63) (v := (1 : Int32)) h dX1_fits_63 (by decide) ?_
        refine r_icmp_lt (pc := 64) h 76 dX1_fits_64 (by decide) (fun hc8 => ?_) (fun hc8 => ?_)
        · have hf := ite_p hc8 hf
          refine r_iconst (pc := 76) (v := (0 : Int32)) h dX1_fits_76 (by decide) ?_
          obtain ⟨rfl, rfl⟩ := sp_i hf
          exact r_zret (pc := 77) h (Or.inl rfl) dX1_fits_77
        · have hf := ite_n hc8 hf
          refine r_iload_n (pc := 67) h dX1_fits_67 1 rfl rfl ?_
          refine r_iconst (pc := 68) (v := (3 : Int32)) h dX1_fits_68 (by decide) ?_
          refine r_icmp_gt (pc := 69) h 76 dX1_fits_69 (by decide) (fun hc9 => ?_) (fun hc9 => ?_)
          · have hf := ite_p hc9 hf
            refine r_iconst (pc := 76) (v := (0 : Int32)) h dX1_fits_76 (by decide) ?_
            obtain ⟨rfl, rfl⟩ := sp_i hf
            exact r_zret (pc := 77) h (Or.inl rfl) dX1_fits_77
          · have hf := ite_n hc9 hf
            refine r_iconst (pc := 72) (v := (1 : Int32)) h dX1_fits_72 (by decide) ?_
            refine r_goto (pc := 73) h 77 dX1_fits_73 (by decide) ?_
            obtain ⟨rfl, rfl⟩ := sp_i hf
            exact r_zret (pc := 77) h (Or.inr rfl) dX1_fits_77
      · have hf := ite_n hc7 hf
        refine r_tableOut (pc := 1) h 78 dX1_fits_1 (by have q0 := lv_neT (a := 0) hc1 rfl; have q1 := lv_neT (a := 1) hc4 rfl; have q2 := lv_neT (a := 2) hc7 rfl; omega) (by decide) ?_
        refine r_iconst (pc := 78) (v := (0 : Int32)) h dX1_fits_78 (by decide) ?_
        obtain ⟨rfl, rfl⟩ := sp_i hf
        exact r_zret (pc := 79) h (Or.inl rfl) dX1_fits_79

set_option maxRecDepth 100000 in
set_option maxHeartbeats 4000000 in
theorem wgX1_lastOf_L19 {l : Launch} {D : va_G} {ad : Nat → Nat} {ca : Nat → ClassId} {F : Nat} {a0 : Int32} {a1 : Int32} {r : Int32} {M' : Mem} {V : Jdg} (h : Mch [3] l (rmN 0 0) D ad ca RX1 cX1_lastOf 4 (some .int) (some (.int r)) M' V) : ∀ (n : Nat) (x2 : Int32) (x3 : Int32) (M : Mem), fX1_lastOf_L19 F a0 a1 n x2 x3 M = some (r, M') → V M 19 [(1, .int a1), (2, .int x2), (3, .int x3)] [] := by
  intro n
  induction n with
  | zero =>
    intro x2 x3 M hf
    have hf : (none : Option (Int32 × Mem)) = some (r, M') := hf
    cases hf
  | succ n ih =>
    intro x2 x3 M hf
    rw [fX1_lastOf_L19] at hf
    refine r_iload_n (pc := 19) h dX1_lastOf_19 2 rfl rfl ?_
    refine r_iload_n (pc := 20) h dX1_lastOf_20 0 rfl rfl ?_
    refine r_icmp_ge (pc := 21) h 34 dX1_lastOf_21 (by decide) (fun hc1 => ?_) (fun hc1 => ?_)
    · have hf := ite_p hc1 hf
      refine r_iload_n (pc := 34) h dX1_lastOf_34 1 rfl rfl ?_
      refine r_iconst (pc := 35) (v := (1 : Int32)) h dX1_lastOf_35 (by decide) ?_
      refine r_isub (pc := 36) h dX1_lastOf_36 ?_
      obtain ⟨rfl, rfl⟩ := sp_i hf
      exact r_iret (pc := 37) h dX1_lastOf_37
    · have hf := ite_n hc1 hf
      refine r_iload_n (pc := 24) h dX1_lastOf_24 1 rfl rfl ?_
      refine r_iconst (pc := 25) (v := (3 : Int32)) h dX1_lastOf_25 (by decide) ?_
      refine r_imul (pc := 26) h dX1_lastOf_26 ?_
      refine r_topi (fun v2 ev2 => ?_)
      have hf := nm_app ev2 hf
      refine r_istore_n (pc := 27) (lv' := [(2, .int v2), (1, .int a1), (3, .int x3)]) h dX1_lastOf_27 rfl (by decide) rfl ?_
      obtain ⟨v3, ev3⟩ : ∃ y : Int32, y = x3 + (1 : Int32) := ⟨_, rfl⟩
      have hf := nm_app ev3 hf
      refine r_iinc (pc := 28) (v := v3) (lv' := [(3, .int v3), (2, .int v2), (1, .int a1)]) h dX1_lastOf_28 2 rfl (by rw [ev3]; rfl) (by decide) rfl ?_
      refine r_goto (pc := 31) h 19 dX1_lastOf_31 (by decide) ?_
      refine r_sub h [2, 1, 0] rfl ?_
      exact ih _ _ M hf
set_option maxRecDepth 100000 in
set_option maxHeartbeats 4000000 in
theorem cogX1_lastOf {l : Launch} {D : va_G} {ad : Nat → Nat} {ca : Nat → ClassId} {F : Nat} {a0 : Int32} {a1 : Int32} {M : Mem} {r : Int32} {M' : Mem} (hf : fX1_lastOf F a0 a1 M = some (r, M')) : Con [3] l D ad ca yX1_lastOf cX1_lastOf 4 (some .int) 0 0 [.int a0, .int a1] M (some (.int r)) M' := by
  refine Con_of (by decide) (Nat.le_of_ble_eq_true rfl) (fun V (h : Mch [3] l (rmN 0 0) D ad ca RX1 cX1_lastOf 4 (some .int) (some (.int r)) M' V) => ?_)
  show V M 0 [(0, .int a0), (1, .int a1)] []
  unfold fX1_lastOf at hf
  refine r_iload_n (pc := 0) h dX1_lastOf_0 0 rfl rfl ?_
  refine r_if_ne (pc := 1) h 6 dX1_lastOf_1 (by decide) (fun hc1 => ?_) (fun hc1 => ?_)
  · have hf := ite_n hc1 hf
    refine r_iload_n (pc := 6) h dX1_lastOf_6 0 rfl rfl ?_
    refine r_iconst (pc := 7) (v := (1 : Int32)) h dX1_lastOf_7 (by decide) ?_
    refine r_icmp_ne (pc := 8) h 15 dX1_lastOf_8 (by decide) (fun hc2 => ?_) (fun hc2 => ?_)
    · have hf := ite_n hc2 hf
      refine r_iconst (pc := 15) (v := (1 : Int32)) h dX1_lastOf_15 (by decide) ?_
      refine r_istore_n (pc := 16) (lv' := [(2, .int (1 : Int32)), (0, .int a0), (1, .int a1)]) h dX1_lastOf_16 rfl (by decide) rfl ?_
      refine r_iconst (pc := 17) (v := (0 : Int32)) h dX1_lastOf_17 (by decide) ?_
      refine r_istore_n (pc := 18) (lv' := [(3, .int (0 : Int32)), (2, .int (1 : Int32)), (0, .int a0), (1, .int a1)]) h dX1_lastOf_18 rfl (by decide) rfl ?_
      refine r_sub h [3, 1, 0] rfl ?_
      refine wgX1_lastOf_L19 h F _ _ M hf
    · have hf := ite_p hc2 hf
      refine r_iload_n (pc := 11) h dX1_lastOf_11 1 rfl rfl ?_
      refine r_iconst (pc := 12) (v := (1 : Int32)) h dX1_lastOf_12 (by decide) ?_
      refine r_isub (pc := 13) h dX1_lastOf_13 ?_
      obtain ⟨rfl, rfl⟩ := sp_i hf
      exact r_iret (pc := 14) h dX1_lastOf_14
  · have hf := ite_p hc1 hf
    refine r_iload_n (pc := 4) h dX1_lastOf_4 1 rfl rfl ?_
    obtain ⟨rfl, rfl⟩ := sp_i hf
    exact r_iret (pc := 5) h dX1_lastOf_5

set_option maxRecDepth 100000 in
set_option maxHeartbeats 4000000 in
theorem wgX1_lay_L55 {l : Launch} {D : va_G} {ad : Nat → Nat} {ca : Nat → ClassId} {F : Nat} {a1 : Int32} {a2 : Int32} {r : Int32} {M' : Mem} {V : Jdg} (h : Mch [3] l (rmN 1 23) D ad ca RX1 cX1_lay 4 (some .boolean) (some (.int r)) M' V) : ∀ (n : Nat) (x3 : Int32) (M : Mem), fX1_lay_L55 F a1 a2 n x3 M = some (r, M') → V M 55 [(0, .ref (ad 3)), (3, .int x3)] [] := by
  intro n
  induction n with
  | zero =>
    intro x3 M hf
    have hf : (none : Option (Int32 × Mem)) = some (r, M') := hf
    cases hf
  | succ n ih =>
    intro x3 M hf
    rw [fX1_lay_L55] at hf
    refine r_iload_n (pc := 55) h dX1_lay_55 1 rfl rfl ?_
    refine r_aload_n (pc := 56) h dX1_lay_56 0 rfl rfl ?_
    refine r_geti (pc := 57) h fl_X1_32 (by decide) rfl rfl dX1_lay_57 ?_
    refine r_icmp_gt (pc := 60) h 81 dX1_lay_60 (by decide) (fun hc1 => ?_) (fun hc1 => ?_)
    · have hf := ite_p hc1 hf
      refine r_iconst (pc := 81) (v := (1 : Int32)) h dX1_lay_81 (by decide) ?_
      obtain ⟨rfl, rfl⟩ := sp_i hf
      exact r_zret (pc := 82) h (Or.inr rfl) dX1_lay_82
    · have hf := ite_n hc1 hf
      refine r_aload_n (pc := 63) h dX1_lay_63 0 rfl rfl ?_
      refine r_dup (pc := 64) h dX1_lay_64 rfl ?_
      refine r_getl (pc := 65) h fl_X1_35 (by decide) rfl rfl dX1_lay_65 ?_
      refine r_lconst (pc := 68) (v := (1 : Int64)) h dX1_lay_68 (by decide) ?_
      refine r_iload_n (pc := 69) h dX1_lay_69 1 rfl rfl ?_
      refine r_lshl (pc := 70) h dX1_lay_70 ?_
      refine r_lor (pc := 71) h dX1_lay_71 ?_
      refine r_putl (pc := 72) h fp_X1_35 (by decide) rfl rfl dX1_lay_72 ?_
      refine r_mem (fun N2 eN2 => ?_)
      have hf := nm_app eN2 hf
      obtain ⟨v3, ev3⟩ : ∃ y : Int32, y = x3 + (1 : Int32) := ⟨_, rfl⟩
      have hf := nm_app ev3 hf
      refine r_iinc (pc := 75) (v := v3) (lv' := [(3, .int v3), (0, .ref (ad 3))]) h dX1_lay_75 1 rfl (by rw [ev3]; rfl) (by decide) rfl ?_
      refine r_goto (pc := 78) h 55 dX1_lay_78 (by decide) ?_
      refine r_sub h [1, 0] rfl ?_
      exact ih _ N2 hf
set_option maxRecDepth 100000 in
set_option maxHeartbeats 4000000 in
theorem wgX1_lay_L33 {l : Launch} {D : va_G} {ad : Nat → Nat} {ca : Nat → ClassId} {F : Nat} {a1 : Int32} {a2 : Int32} {r : Int32} {M' : Mem} {V : Jdg} (h : Mch [3] l (rmN 1 23) D ad ca RX1 cX1_lay 4 (some .boolean) (some (.int r)) M' V) : ∀ (s0 : Int32) (M : Mem), fX1_lay_L33 F a1 a2 s0 M = some (r, M') → V M 33 [(0, .ref (ad 3)), (1, .int a1), (2, .int a2)] [.int s0, .ref (ad 3)] := by
  intro s0 M hf
  unfold fX1_lay_L33 at hf
  refine r_puti (pc := 33) h fp_X1_25 (by decide) rfl rfl dX1_lay_33 ?_
  refine r_mem (fun N1 eN1 => ?_)
  have hf := nm_app eN1 hf
  refine r_aload_n (pc := 36) h dX1_lay_36 0 rfl rfl ?_
  refine r_iload_n (pc := 37) h dX1_lay_37 1 rfl rfl ?_
  refine r_iload_n (pc := 38) h dX1_lay_38 2 rfl rfl ?_
  obtain ⟨u4, N2, hc3, hf⟩ := bd_some hf
  refine r_callSi (pc := 39) (As := [.int a1, .int a2]) (rest := [.ref (ad 3)]) h ms_X1_28 dX1_lay_39 (cogX1_lastOf hc3) rfl rfl (by decide) (Nat.le_of_ble_eq_true rfl) ⟨Nat.zero_le _, Nat.zero_le _⟩ ?_
  refine r_puti (pc := 42) h fp_X1_32 (by decide) rfl rfl dX1_lay_42 ?_
  refine r_mem (fun N5 eN5 => ?_)
  have hf := nm_app eN5 hf
  refine r_aload_n (pc := 45) h dX1_lay_45 0 rfl rfl ?_
  refine r_lconst (pc := 46) (v := (0 : Int64)) h dX1_lay_46 (by decide) ?_
  refine r_putl (pc := 47) h fp_X1_35 (by decide) rfl rfl dX1_lay_47 ?_
  refine r_mem (fun N6 eN6 => ?_)
  have hf := nm_app eN6 hf
  refine r_aload_n (pc := 50) h dX1_lay_50 0 rfl rfl ?_
  refine r_geti (pc := 51) h fl_X1_25 (by decide) rfl rfl dX1_lay_51 ?_
  refine r_topi (fun v7 ev7 => ?_)
  have hf := nm_app ev7 hf
  refine r_istore_n (pc := 54) (lv' := [(3, .int v7), (0, .ref (ad 3)), (1, .int a1), (2, .int a2)]) h dX1_lay_54 rfl (by decide) rfl ?_
  refine r_sub h [1, 0] rfl ?_
  refine wgX1_lay_L55 h F _ N6 hf
set_option maxRecDepth 100000 in
set_option maxHeartbeats 4000000 in
theorem cogX1_lay {l : Launch} {D : va_G} {ad : Nat → Nat} {ca : Nat → ClassId} {F : Nat} {a1 : Int32} {a2 : Int32} {M : Mem} {r : Int32} {M' : Mem} (hf : fX1_lay F a1 a2 M = some (r, M')) : Con [3] l D ad ca yX1_lay cX1_lay 4 (some .boolean) 1 23 [.ref (ad 3), .int a1, .int a2] M (some (.int r)) M' := by
  refine Con_of (by decide) (Nat.le_of_ble_eq_true rfl) (fun V (h : Mch [3] l (rmN 1 23) D ad ca RX1 cX1_lay 4 (some .boolean) (some (.int r)) M' V) => ?_)
  show V M 0 [(0, .ref (ad 3)), (1, .int a1), (2, .int a2)] []
  unfold fX1_lay at hf
  refine r_iload_n (pc := 0) h dX1_lay_0 1 rfl rfl ?_
  refine r_iload_n (pc := 1) h dX1_lay_1 2 rfl rfl ?_
  obtain ⟨u3, N1, hc2, hf⟩ := bd_some hf
  refine r_callSi (pc := 2) (As := [.int a1, .int a2]) (rest := []) h ms_X1_15 dX1_lay_2 (cogX1_fits hc2) rfl rfl (by decide) (Nat.le_of_ble_eq_true rfl) ⟨Nat.zero_le _, Nat.zero_le _⟩ ?_
  refine r_if_ne (pc := 5) h 10 dX1_lay_5 (by decide) (fun hc4 => ?_) (fun hc4 => ?_)
  · have hf := ite_n hc4 hf
    refine r_aload_n (pc := 10) h dX1_lay_10 0 rfl rfl ?_
    refine r_iload_n (pc := 11) h dX1_lay_11 1 rfl rfl ?_
    refine r_puti (pc := 12) h fp_X1_18 (by decide) rfl rfl dX1_lay_12 ?_
    refine r_mem (fun N5 eN5 => ?_)
    have hf := nm_app eN5 hf
    refine r_aload_n (pc := 15) h dX1_lay_15 0 rfl rfl ?_
    refine r_iload_n (pc := 16) h dX1_lay_16 2 rfl rfl ?_
    refine r_puti (pc := 17) h fp_X1_22 (by decide) rfl rfl dX1_lay_17 ?_
    refine r_mem (fun N6 eN6 => ?_)
    have hf := nm_app eN6 hf
    refine r_aload_n (pc := 20) h dX1_lay_20 0 rfl rfl ?_
    refine r_aload_n (pc := 21) h dX1_lay_21 0 rfl rfl ?_
    refine r_geti (pc := 22) h fl_X1_18 (by decide) rfl rfl dX1_lay_22 ?_
    refine r_if_ne (pc := 25) h 32 dX1_lay_25 (by decide) (fun hc7 => ?_) (fun hc7 => ?_)
    · have hf := ite_n hc7 hf
      refine r_iconst (pc := 32) (v := (0 : Int32)) h dX1_lay_32 (by decide) ?_
      refine wgX1_lay_L33 h _ N6 hf
    · have hf := ite_p hc7 hf
      refine r_iconst (pc := 28) (v := (1 : Int32)) h dX1_lay_28 (by decide) ?_
      refine r_goto (pc := 29) h 33 dX1_lay_29 (by decide) ?_
      refine wgX1_lay_L33 h _ N6 hf
  · have hf := ite_p hc4 hf
    refine r_iconst (pc := 8) (v := (0 : Int32)) h dX1_lay_8 (by decide) ?_
    obtain ⟨rfl, rfl⟩ := sp_i hf
    exact r_zret (pc := 9) h (Or.inl rfl) dX1_lay_9

def gMz : Mem := (fun _ _ => 0, fun _ _ => 0)
def gM1 : Mem := ((fX1_lay 40 0 20 gMz).getD (0, gMz)).2
theorem gM1_eq : fX1_lay 40 0 20 gMz = some (1, gM1) := by
  have h1 : (fX1_lay 40 0 20 gMz).isSome = true := by decide +kernel
  have h2 : ((fX1_lay 40 0 20 gMz).getD (0, gMz)).1 = 1 := by decide +kernel
  unfold gM1
  cases h : fX1_lay 40 0 20 gMz with
  | none => rw [h] at h1; cases h1
  | some x =>
    rw [h] at h2
    have h3 : x.1 = 1 := h2
    show some x = some (1, x.2)
    rw [← h3]
theorem gM1_v : gM1.1 3 0 = 0 ∧ gM1.1 3 1 = 20 ∧ gM1.1 3 2 = 1 ∧ gM1.1 3 3 = 20 ∧ gM1.2 3 4 = 2097150 := by decide +kernel
theorem gM1_w (h0 : Nat) (ca : Nat → ClassId) : wsM [3] (fun _ => h0) ca gM1 = [(h0, .inr (1, [.int 0, .int 20, .int 1, .int 20, .long 2097150]))] := by
  obtain ⟨e0, e1, e2, e3, e4⟩ := gM1_v
  show [(h0, Sum.inr (1, [Value.int (gM1.1 3 0), .int (gM1.1 3 1), .int (gM1.1 3 2), .int (gM1.1 3 3), .long (gM1.2 3 4)]))] = _
  rw [e0, e1, e2, e3, e4]
set_option maxRecDepth 100000 in
set_option maxHeartbeats 8000000 in
theorem iniX1 (l : Launch) (D : va_G) (h0 : Nat) (sz : Nat) : Met l yX1_init (.code yX1_init cX1_init 1 none :: TG) { frames := 2, cells := 0, slots := 0, locals := 46 } (va_Pc [.ref h0] (ctP D [(h0, .inr (1, [.int 0, .int 0, .int 0, .int 0, .long 0]))] sz)) (va_Qv (fun _ : (Nat → Nat) × (Nat → ClassId) => True) (fun u t => va_P D vwCl [(h0, .inr (1, [.int 0, .int 20, .int 1, .int 20, .long 2097150]))] t.heap ∧ va_K D vwCl [] t ∧ va_D (va_A [(h0, .inr (1, [.int 0, .int 0, .int 0, .int 0, .long 0]))] sz) [(h0, .inr (1, [.int 0, .int 20, .int 1, .int 20, .long 2097150]))]) (va_A [(h0, .inr (1, [.int 0, .int 0, .int 0, .int 0, .long 0]))] sz)) 0 0 (va_A [(h0, .inr (1, [.int 0, .int 0, .int 0, .int 0, .long 0]))] sz) := by
  refine Met.ofW (cc := cX1_init) (maxL := 1) (ret := none) (by decide) rfl ?_
  intro p e s m args below meth c s₁ B hml hv
  obtain ⟨rfl, hsz, hP, hK, hD0, hN, hAO⟩ := hv
  have hx := B.exec
  have hb := B.bytes
  have hr := B.returns
  have hts : ∀ w ∈ TG, w.before [.ref h0].toArray s = true := fun w hw => atoms_spec (ws := .code yX1_init cX1_init 1 none :: TG) B.pre w (List.mem_cons_of_mem _ hw)
  have hown : s.vm.findClass RX1 = some m.cls := findClass_of_methodNamed B.named
  have hlocks := B.notSynchronized
  subst hsz
  have hD := hD0.self (sz := s.heap.size)
  have h0A : va_A [(h0, .inr (1, [.int 0, .int 0, .int 0, .int 0, .long 0]))] s.heap.size h0 := hD.2 0 _ rfl
  generalize hAe : va_A [(h0, .inr (1, [.int 0, .int 0, .int 0, .int 0, .long 0]))] s.heap.size = A at hD h0A ⊢
  have hS : va_S A s.heap s.heap [] := va_S.rf
  have hl := lv_entry ([.ref h0]) (n := 1) (Nat.le_of_ble_eq_true rfl)
  rw [lg_entry_eq]
  generalize (lg_sl ([.ref h0]) ++ List.replicate (1 - (lg_sl ([.ref h0])).length) Slot.unset).toArray = ls at hl ⊢
  have hl : lv_has ls 1 [(0, .ref h0)] := hl
  refine lv_aload_n (pc := 0) hx hb dX1_init_0 rfl (lv_at hl 0 rfl) ?_
  refine W.objInit hx hb hown (hts _ (tg_i 49 (by decide +kernel) rfl)) (hts _ (tg_i 27 (by decide +kernel) rfl)) (hts _ (tg_i 28 (by decide +kernel) rfl)) rfl (by rw [hml]; exact hl.1) rfl dX1_init_1 (Nat.le_of_ble_eq_true rfl) (Nat.le_of_ble_eq_true rfl) ?_
  refine W.eq (g2 := F0 m 4 ls []) rfl ?_
  refine lv_aload_n (pc := 4) hx hb dX1_init_4 rfl (lv_at hl 0 rfl) ?_
  refine lv_iconst (pc := 5) (v := 0) hx hb dX1_init_5 (by decide) ?_
  refine lv_bipush (pc := 6) (v := 20) hx hb dX1_init_6 (by decide) ?_
  have hc : Con [3] l D (fun _ => h0) (fun _ => 0) yX1_lay cX1_lay 4 (some .boolean) 1 23 [.ref h0, .int 0, .int 20] gMz (some (.int 1)) gM1 := cogX1_lay (ad := fun _ => h0) gM1_eq
  have hP3 : va_P D vwCl (wsM [3] (fun _ => h0) (fun _ => 0) gMz) s.heap := hP
  have hK3 : va_K D vwCl (tyM [3] (fun _ => 0)) s := hK
  have hI : CS [3] (fun _ => h0) := ⟨by decide, fun i hi j hj _ => by rw [List.mem_singleton.mp hi, List.mem_singleton.mp hj]⟩
  obtain ⟨m1, m2, m3, m4, m5, m6, m7, m8, m9⟩ := mv_X1_9
  have hG : GoodIn TG (wsV RX1 9 RX1 yX1_lay (.code yX1_lay cX1_lay 4 (some .boolean) :: TG)) := by
    intro w hw
    unfold wsV at hw
    rcases List.mem_append.mp hw with h1 | h1
    · simp only [List.mem_cons, List.not_mem_nil, or_false] at h1
      rcases h1 with rfl | rfl | rfl | rfl
      · exact tg_self _ m1
      · exact tg_self _ m2
      · exact tg_self _ m3
      · exact tg_self _ m4
    · exact tg_cons m5 w h1
  refine r_run (cs := [3]) (ad := fun _ => h0) (A := A) (kc := 0) (ks := 0) (pc := 8) (va_runV (As := [.int 0, .int 20]) (rest := []) ⟨hx, hb, hml, hown, hts⟩ hc (cwV 2 hts hG rfl rfl rfl ⟨m6, m7, m8, m9⟩ ⟨Nat.le_of_ble_eq_true rfl, Nat.le_of_ble_eq_true rfl⟩) ⟨sw_blind, va_recv hK hP (ci := 1) (q0 := 0) rfl rfl, sw_call hP3 hK3 hI hN _⟩ rfl rfl hl.1 rfl (lv_room (Nat.le_of_ble_eq_true rfl)) dX1_init_8 ⟨Nat.le_of_ble_eq_true rfl, Nat.le_of_ble_eq_true rfl⟩) (fun k _ => h0A) hS (fun H locs hP hS => ?_)
  refine lv_pop (pc := 11) hx hb dX1_init_11 rfl ?_
  rw [gM1_w] at hP
  have hD9 : va_D A [(h0, .inr (1, [.int 0, .int 20, .int 1, .int 20, .long 2097150]))] := hD.set (p := 0) (a := h0) (e0 := .inr (1, [.int 0, .int 0, .int 0, .int 0, .long 0])) rfl
  exact W.vret hx hb hr (fun t ht hW => ⟨⟨((fun _ => 0), (fun _ => 0)), rfl, trivial, by rw [ht]; exact hP, va_K.moved hW.alike hK, hD9⟩, hS.F ht⟩) hS.2.2 dX1_init_12
