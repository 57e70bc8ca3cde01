def wL_at (F : Nat) (a1 : Int32) (a2 : Int32) (M : Mem) : Option (Int32 × Mem) := match tX8_at F a1 a2 M with
  | some E => if E = exI then some (1, M) else if E = exN then some (2, M) else none
  | none => fL_at F a1 a2 M
theorem cwL_at {l : Launch} {D : va_G} {ad : Nat → Nat} {ca : Nat → ClassId} {F : Nat} {a1 : Int32} {a2 : Int32} {M : Mem} {r : Int32} {M' : Mem} (hl : l.stackTraces = false) (hf : wL_at F a1 a2 M = some (r, M')) : ConW csA l D ad ca yL_at cL_at 5 [(0, 10, 13, 13), (0, 10, 17, 32)] 8 126 [.ref (ad 0), .int a1, .int a2, .ref (ad 55)] M r M' := by
  unfold wL_at at hf
  cases ht : tX8_at F a1 a2 M with
  | none => rw [ht] at hf; exact conL_at hf
  | some E =>
    rw [ht] at hf
    have hf : (if E = exI then some (1, M) else if E = exN then some (2, M) else none : Option (Int32 × Mem)) = some (r, M') := hf
    by_cases h0 : E = exI
    · have hf := ite_p h0 hf
      obtain ⟨rfl, rfl⟩ := sp_i hf
      rw [h0] at ht
      exact coxL_at_exI hl ht
    · have hf := ite_n h0 hf
      by_cases h1 : E = exN
      · have hf := ite_p h1 hf
        obtain ⟨rfl, rfl⟩ := sp_i hf
        rw [h1] at ht
        exact coxL_at_exN hl ht
      · have hf := ite_n h1 hf
        cases hf
theorem mw_L_120 : MW RL 120 yL_at cL_at 5 [(0, 10, 13, 13), (0, 10, 17, 32)] 4 := ⟨(tg_i 556 (by decide +kernel) rfl), (tg_i 557 (by decide +kernel) rfl), (tg_i 0 (by decide +kernel) rfl), (tg_i 558 (by decide +kernel) rfl), by decide +kernel, by decide +kernel, by decide +kernel⟩
def wL_clash (F : Nat) (a1 : Int32) (M : Mem) : Option (Int32 × Mem) := match tX8_clash F a1 M with
  | some E => if E = exI then some (1, M) else none
  | none => fL_clash F a1 M
theorem cwL_clash {l : Launch} {D : va_G} {ad : Nat → Nat} {ca : Nat → ClassId} {F : Nat} {a1 : Int32} {M : Mem} {r : Int32} {M' : Mem} (hl : l.stackTraces = false) (hf : wL_clash F a1 M = some (r, M')) : ConW csA l D ad ca yL_clash cL_clash 4 [(0, 9, 12, 13)] 8 202 [.ref (ad 0), .int a1, .ref (ad 55)] M r M' := by
  unfold wL_clash at hf
  cases ht : tX8_clash F a1 M with
  | none => rw [ht] at hf; exact conL_clash hf
  | some E =>
    rw [ht] at hf
    have hf : (if E = exI then some (1, M) else none : Option (Int32 × Mem)) = some (r, M') := hf
    by_cases h0 : E = exI
    · have hf := ite_p h0 hf
      obtain ⟨rfl, rfl⟩ := sp_i hf
      rw [h0] at ht
      exact coxL_clash_exI hl ht
    · have hf := ite_n h0 hf
      cases hf
theorem mw_L_132 : MW RL 132 yL_clash cL_clash 4 [(0, 9, 12, 13)] 3 := ⟨(tg_i 586 (by decide +kernel) rfl), (tg_i 587 (by decide +kernel) rfl), (tg_i 0 (by decide +kernel) rfl), (tg_i 588 (by decide +kernel) rfl), by decide +kernel, by decide +kernel, by decide +kernel⟩
def wL_colours (F : Nat) (a1 : Int32) (a2 : Int32) (M : Mem) : Option (Int32 × Mem) := match tX8_colours F a1 a2 M with
  | some E => if E = exA then some (1, M) else none
  | none => fL_colours F a1 a2 M
theorem cwL_colours {l : Launch} {D : va_G} {ad : Nat → Nat} {ca : Nat → ClassId} {F : Nat} {a1 : Int32} {a2 : Int32} {M : Mem} {r : Int32} {M' : Mem} (hl : l.stackTraces = false) (hf : wL_colours F a1 a2 M = some (r, M')) : ConW csA l D ad ca yL_colours cL_colours 5 [(0, 10, 13, 15)] 8 208 [.ref (ad 0), .int a1, .int a2, .ref (ad 55)] M r M' := by
  unfold wL_colours at hf
  cases ht : tX8_colours F a1 a2 M with
  | none => rw [ht] at hf; exact conL_colours hf
  | some E =>
    rw [ht] at hf
    have hf : (if E = exA then some (1, M) else none : Option (Int32 × Mem)) = some (r, M') := hf
    by_cases h0 : E = exA
    · have hf := ite_p h0 hf
      obtain ⟨rfl, rfl⟩ := sp_i hf
      rw [h0] at ht
      exact coxL_colours_exA hl ht
    · have hf := ite_n h0 hf
      cases hf
theorem mw_L_160 : MW RL 160 yL_colours cL_colours 5 [(0, 10, 13, 15)] 4 := ⟨(tg_i 860 (by decide +kernel) rfl), (tg_i 861 (by decide +kernel) rfl), (tg_i 0 (by decide +kernel) rfl), (tg_i 862 (by decide +kernel) rfl), by decide +kernel, by decide +kernel, by decide +kernel⟩
def wL_count (F : Nat) (a1 : Int32) (M : Mem) : Option (Int32 × Mem) := match tX8_count F a1 M with
  | some E => if E = exA then some (1, M) else none
  | none => fL_count F a1 M
theorem cwL_count {l : Launch} {D : va_G} {ad : Nat → Nat} {ca : Nat → ClassId} {F : Nat} {a1 : Int32} {M : Mem} {r : Int32} {M' : Mem} (hl : l.stackTraces = false) (hf : wL_count F a1 M = some (r, M')) : ConW csA l D ad ca yL_count cL_count 4 [(0, 9, 12, 15)] 8 204 [.ref (ad 0), .int a1, .ref (ad 55)] M r M' := by
  unfold wL_count at hf
  cases ht : tX8_count F a1 M with
  | none => rw [ht] at hf; exact conL_count hf
  | some E =>
    rw [ht] at hf
    have hf : (if E = exA then some (1, M) else none : Option (Int32 × Mem)) = some (r, M') := hf
    by_cases h0 : E = exA
    · have hf := ite_p h0 hf
      obtain ⟨rfl, rfl⟩ := sp_i hf
      rw [h0] at ht
      exact coxL_count_exA hl ht
    · have hf := ite_n h0 hf
      cases hf
theorem mw_L_157 : MW RL 157 yL_count cL_count 4 [(0, 9, 12, 15)] 3 := ⟨(tg_i 853 (by decide +kernel) rfl), (tg_i 854 (by decide +kernel) rfl), (tg_i 0 (by decide +kernel) rfl), (tg_i 855 (by decide +kernel) rfl), by decide +kernel, by decide +kernel, by decide +kernel⟩
def wL_energy (F : Nat) (a1 : Int32) (M : Mem) : Option (Int32 × Mem) := match tX8_energy F a1 M with
  | some E => if E = exI then some (1, M) else none
  | none => fL_energy F a1 M
theorem cwL_energy {l : Launch} {D : va_G} {ad : Nat → Nat} {ca : Nat → ClassId} {F : Nat} {a1 : Int32} {M : Mem} {r : Int32} {M' : Mem} (hl : l.stackTraces = false) (hf : wL_energy F a1 M = some (r, M')) : ConW csA l D ad ca yL_energy cL_energy 4 [(0, 9, 12, 13)] 8 125 [.ref (ad 0), .int a1, .ref (ad 55)] M r M' := by
  unfold wL_energy at hf
  cases ht : tX8_energy F a1 M with
  | none => rw [ht] at hf; exact conL_energy hf
  | some E =>
    rw [ht] at hf
    have hf : (if E = exI then some (1, M) else none : Option (Int32 × Mem)) = some (r, M') := hf
    by_cases h0 : E = exI
    · have hf := ite_p h0 hf
      obtain ⟨rfl, rfl⟩ := sp_i hf
      rw [h0] at ht
      exact coxL_energy_exI hl ht
    · have hf := ite_n h0 hf
      cases hf
theorem mw_L_174 : MW RL 174 yL_energy cL_energy 4 [(0, 9, 12, 13)] 3 := ⟨(tg_i 938 (by decide +kernel) rfl), (tg_i 939 (by decide +kernel) rfl), (tg_i 0 (by decide +kernel) rfl), (tg_i 940 (by decide +kernel) rfl), by decide +kernel, by decide +kernel, by decide +kernel⟩
def wL_forced (F : Nat) (a1 : Int32) (a2 : Int32) (M : Mem) : Option (Int32 × Mem) := match tX8_forced F a1 a2 M with
  | some E => if E = exA then some (1, M) else none
  | none => fL_forced F a1 a2 M
theorem cwL_forced {l : Launch} {D : va_G} {ad : Nat → Nat} {ca : Nat → ClassId} {F : Nat} {a1 : Int32} {a2 : Int32} {M : Mem} {r : Int32} {M' : Mem} (hl : l.stackTraces = false) (hf : wL_forced F a1 a2 M = some (r, M')) : ConW csA l D ad ca yL_forced cL_forced 5 [(0, 10, 13, 15)] 8 209 [.ref (ad 0), .int a1, .int a2, .ref (ad 55)] M r M' := by
  unfold wL_forced at hf
  cases ht : tX8_forced F a1 a2 M with
  | none => rw [ht] at hf; exact conL_forced hf
  | some E =>
    rw [ht] at hf
    have hf : (if E = exA then some (1, M) else none : Option (Int32 × Mem)) = some (r, M') := hf
    by_cases h0 : E = exA
    · have hf := ite_p h0 hf
      obtain ⟨rfl, rfl⟩ := sp_i hf
      rw [h0] at ht
      exact coxL_forced_exA hl ht
    · have hf := ite_n h0 hf
      cases hf
theorem mw_L_167 : MW RL 167 yL_forced cL_forced 5 [(0, 10, 13, 15)] 4 := ⟨(tg_i 904 (by decide +kernel) rfl), (tg_i 905 (by decide +kernel) rfl), (tg_i 0 (by decide +kernel) rfl), (tg_i 906 (by decide +kernel) rfl), by decide +kernel, by decide +kernel, by decide +kernel⟩
def wL_greatest (F : Nat) (a1 : Int32) (a2 : Int32) (M : Mem) : Option (Int32 × Mem) := match tX8_greatest F a1 a2 M with
  | some E => if E = exI then some (1, M) else if E = exA then some (2, M) else none
  | none => fL_greatest F a1 a2 M
theorem cwL_greatest {l : Launch} {D : va_G} {ad : Nat → Nat} {ca : Nat → ClassId} {F : Nat} {a1 : Int32} {a2 : Int32} {M : Mem} {r : Int32} {M' : Mem} (hl : l.stackTraces = false) (hf : wL_greatest F a1 a2 M = some (r, M')) : ConW csA l D ad ca yL_greatest cL_greatest 5 [(0, 10, 13, 13), (0, 10, 17, 15)] 8 205 [.ref (ad 0), .int a1, .int a2, .ref (ad 55)] M r M' := by
  unfold wL_greatest at hf
  cases ht : tX8_greatest F a1 a2 M with
  | none => rw [ht] at hf; exact conL_greatest hf
  | some E =>
    rw [ht] at hf
    have hf : (if E = exI then some (1, M) else if E = exA then some (2, M) else none : Option (Int32 × Mem)) = some (r, M') := hf
    by_cases h0 : E = exI
    · have hf := ite_p h0 hf
      obtain ⟨rfl, rfl⟩ := sp_i hf
      rw [h0] at ht
      exact coxL_greatest_exI hl ht
    · have hf := ite_n h0 hf
      by_cases h1 : E = exA
      · have hf := ite_p h1 hf
        obtain ⟨rfl, rfl⟩ := sp_i hf
        rw [h1] at ht
        exact coxL_greatest_exA hl ht
      · have hf := ite_n h1 hf
        cases hf
theorem mw_L_141 : MW RL 141 yL_greatest cL_greatest 5 [(0, 10, 13, 13), (0, 10, 17, 15)] 4 := ⟨(tg_i 739 (by decide +kernel) rfl), (tg_i 740 (by decide +kernel) rfl), (tg_i 0 (by decide +kernel) rfl), (tg_i 741 (by decide +kernel) rfl), by decide +kernel, by decide +kernel, by decide +kernel⟩
def wL_has (F : Nat) (a1 : Int32) (a2 : Int32) (M : Mem) : Option (Int32 × Mem) := match tX8_has F a1 a2 M with
  | some E => if E = exI then some (1, M) else none
  | none => fL_has F a1 a2 M
theorem cwL_has {l : Launch} {D : va_G} {ad : Nat → Nat} {ca : Nat → ClassId} {F : Nat} {a1 : Int32} {a2 : Int32} {M : Mem} {r : Int32} {M' : Mem} (hl : l.stackTraces = false) (hf : wL_has F a1 a2 M = some (r, M')) : ConW csA l D ad ca yL_has cL_has 5 [(0, 17, 20, 13)] 8 126 [.ref (ad 0), .int a1, .int a2, .ref (ad 55)] M r M' := by
  unfold wL_has at hf
  cases ht : tX8_has F a1 a2 M with
  | none => rw [ht] at hf; exact conL_has hf
  | some E =>
    rw [ht] at hf
    have hf : (if E = exI then some (1, M) else none : Option (Int32 × Mem)) = some (r, M') := hf
    by_cases h0 : E = exI
    · have hf := ite_p h0 hf
      obtain ⟨rfl, rfl⟩ := sp_i hf
      rw [h0] at ht
      exact coxL_has_exI hl ht
    · have hf := ite_n h0 hf
      cases hf
theorem mw_L_113 : MW RL 113 yL_has cL_has 5 [(0, 17, 20, 13)] 4 := ⟨(tg_i 542 (by decide +kernel) rfl), (tg_i 543 (by decide +kernel) rfl), (tg_i 0 (by decide +kernel) rfl), (tg_i 544 (by decide +kernel) rfl), by decide +kernel, by decide +kernel, by decide +kernel⟩
def wL_keep (F : Nat) (a1 : Int32) (a2 : Int32) (M : Mem) : Option (Int32 × Mem) := match tX8_keep F a1 a2 M with
  | some E => if E = exI then some (1, M) else if E = exA then some (2, M) else none
  | none => fL_keep F a1 a2 M
theorem cwL_keep {l : Launch} {D : va_G} {ad : Nat → Nat} {ca : Nat → ClassId} {F : Nat} {a1 : Int32} {a2 : Int32} {M : Mem} {r : Int32} {M' : Mem} (hl : l.stackTraces = false) (hf : wL_keep F a1 a2 M = some (r, M')) : ConW csA l D ad ca yL_keep cL_keep 5 [(0, 10, 13, 13), (0, 10, 17, 15)] 8 176 [.ref (ad 0), .int a1, .int a2, .ref (ad 55)] M r M' := by
  unfold wL_keep at hf
  cases ht : tX8_keep F a1 a2 M with
  | none => rw [ht] at hf; exact conL_keep hf
  | some E =>
    rw [ht] at hf
    have hf : (if E = exI then some (1, M) else if E = exA then some (2, M) else none : Option (Int32 × Mem)) = some (r, M') := hf
    by_cases h0 : E = exI
    · have hf := ite_p h0 hf
      obtain ⟨rfl, rfl⟩ := sp_i hf
      rw [h0] at ht
      exact coxL_keep_exI hl ht
    · have hf := ite_n h0 hf
      by_cases h1 : E = exA
      · have hf := ite_p h1 hf
        obtain ⟨rfl, rfl⟩ := sp_i hf
        rw [h1] at ht
        exact coxL_keep_exA hl ht
      · have hf := ite_n h1 hf
        cases hf
theorem mw_L_180 : MW RL 180 yL_keep cL_keep 5 [(0, 10, 13, 13), (0, 10, 17, 15)] 4 := ⟨(tg_i 967 (by decide +kernel) rfl), (tg_i 968 (by decide +kernel) rfl), (tg_i 0 (by decide +kernel) rfl), (tg_i 969 (by decide +kernel) rfl), by decide +kernel, by decide +kernel, by decide +kernel⟩
def wL_kind (F : Nat) (a1 : Int32) (a2 : Int32) (a3 : Int32) (M : Mem) : Option (Int32 × Mem) := match tX8_kind F a1 a2 a3 M with
  | some E => if E = exA then some (1, M) else none
  | none => fL_kind F a1 a2 a3 M
theorem cwL_kind {l : Launch} {D : va_G} {ad : Nat → Nat} {ca : Nat → ClassId} {F : Nat} {a1 : Int32} {a2 : Int32} {a3 : Int32} {M : Mem} {r : Int32} {M' : Mem} (hl : l.stackTraces = false) (hf : wL_kind F a1 a2 a3 M = some (r, M')) : ConW csA l D ad ca yL_kind cL_kind 6 [(0, 12, 15, 15)] 8 195 [.ref (ad 0), .int a1, .int a2, .int a3, .ref (ad 55)] M r M' := by
  unfold wL_kind at hf
  cases ht : tX8_kind F a1 a2 a3 M with
  | none => rw [ht] at hf; exact conL_kind hf
  | some E =>
    rw [ht] at hf
    have hf : (if E = exA then some (1, M) else none : Option (Int32 × Mem)) = some (r, M') := hf
    by_cases h0 : E = exA
    · have hf := ite_p h0 hf
      obtain ⟨rfl, rfl⟩ := sp_i hf
      rw [h0] at ht
      exact coxL_kind_exA hl ht
    · have hf := ite_n h0 hf
      cases hf
theorem mw_L_153 : MW RL 153 yL_kind cL_kind 6 [(0, 12, 15, 15)] 5 := ⟨(tg_i 846 (by decide +kernel) rfl), (tg_i 847 (by decide +kernel) rfl), (tg_i 0 (by decide +kernel) rfl), (tg_i 848 (by decide +kernel) rfl), by decide +kernel, by decide +kernel, by decide +kernel⟩
def wL_kinds (F : Nat) (a1 : Int32) (M : Mem) : Option (Int32 × Mem) := match tX8_kinds F a1 M with
  | some E => if E = exA then some (1, M) else none
  | none => fL_kinds F a1 M
theorem cwL_kinds {l : Launch} {D : va_G} {ad : Nat → Nat} {ca : Nat → ClassId} {F : Nat} {a1 : Int32} {M : Mem} {r : Int32} {M' : Mem} (hl : l.stackTraces = false) (hf : wL_kinds F a1 M = some (r, M')) : ConW csA l D ad ca yL_kinds cL_kinds 4 [(0, 9, 12, 15)] 8 193 [.ref (ad 0), .int a1, .ref (ad 55)] M r M' := by
  unfold wL_kinds at hf
  cases ht : tX8_kinds F a1 M with
  | none => rw [ht] at hf; exact conL_kinds hf
  | some E =>
    rw [ht] at hf
    have hf : (if E = exA then some (1, M) else none : Option (Int32 × Mem)) = some (r, M') := hf
    by_cases h0 : E = exA
    · have hf := ite_p h0 hf
      obtain ⟨rfl, rfl⟩ := sp_i hf
      rw [h0] at ht
      exact coxL_kinds_exA hl ht
    · have hf := ite_n h0 hf
      cases hf
theorem mw_L_150 : MW RL 150 yL_kinds cL_kinds 4 [(0, 9, 12, 15)] 3 := ⟨(tg_i 788 (by decide +kernel) rfl), (tg_i 789 (by decide +kernel) rfl), (tg_i 0 (by decide +kernel) rfl), (tg_i 790 (by decide +kernel) rfl), by decide +kernel, by decide +kernel, by decide +kernel⟩
def wL_list (F : Nat) (a1 : Int32) (M : Mem) : Option (Int32 × Mem) := match tX8_list F a1 M with
  | some E => if E = exA then some (1, M) else none
  | none => fL_list F a1 M
theorem cwL_list {l : Launch} {D : va_G} {ad : Nat → Nat} {ca : Nat → ClassId} {F : Nat} {a1 : Int32} {M : Mem} {r : Int32} {M' : Mem} (hl : l.stackTraces = false) (hf : wL_list F a1 M = some (r, M')) : ConW csA l D ad ca yL_list cL_list 4 [(0, 9, 12, 15)] 8 204 [.ref (ad 0), .int a1, .ref (ad 55)] M r M' := by
  unfold wL_list at hf
  cases ht : tX8_list F a1 M with
  | none => rw [ht] at hf; exact conL_list hf
  | some E =>
    rw [ht] at hf
    have hf : (if E = exA then some (1, M) else none : Option (Int32 × Mem)) = some (r, M') := hf
    by_cases h0 : E = exA
    · have hf := ite_p h0 hf
      obtain ⟨rfl, rfl⟩ := sp_i hf
      rw [h0] at ht
      exact coxL_list_exA hl ht
    · have hf := ite_n h0 hf
      cases hf
theorem mw_L_144 : MW RL 144 yL_list cL_list 4 [(0, 9, 12, 15)] 3 := ⟨(tg_i 774 (by decide +kernel) rfl), (tg_i 775 (by decide +kernel) rfl), (tg_i 0 (by decide +kernel) rfl), (tg_i 776 (by decide +kernel) rfl), by decide +kernel, by decide +kernel, by decide +kernel⟩
def wL_listed (F : Nat) (a1 : Int32) (a2 : Int32) (M : Mem) : Option (Int32 × Mem) := match tX8_listed F a1 a2 M with
  | some E => if E = exI then some (1, M) else none
  | none => fL_listed F a1 a2 M
theorem cwL_listed {l : Launch} {D : va_G} {ad : Nat → Nat} {ca : Nat → ClassId} {F : Nat} {a1 : Int32} {a2 : Int32} {M : Mem} {r : Int32} {M' : Mem} (hl : l.stackTraces = false) (hf : wL_listed F a1 a2 M = some (r, M')) : ConW csA l D ad ca yL_listed cL_listed 5 [(0, 10, 13, 13)] 8 126 [.ref (ad 0), .int a1, .int a2, .ref (ad 55)] M r M' := by
  unfold wL_listed at hf
  cases ht : tX8_listed F a1 a2 M with
  | none => rw [ht] at hf; exact conL_listed hf
  | some E =>
    rw [ht] at hf
    have hf : (if E = exI then some (1, M) else none : Option (Int32 × Mem)) = some (r, M') := hf
    by_cases h0 : E = exI
    · have hf := ite_p h0 hf
      obtain ⟨rfl, rfl⟩ := sp_i hf
      rw [h0] at ht
      exact coxL_listed_exI hl ht
    · have hf := ite_n h0 hf
      cases hf
theorem mw_L_147 : MW RL 147 yL_listed cL_listed 5 [(0, 10, 13, 13)] 4 := ⟨(tg_i 781 (by decide +kernel) rfl), (tg_i 782 (by decide +kernel) rfl), (tg_i 0 (by decide +kernel) rfl), (tg_i 783 (by decide +kernel) rfl), by decide +kernel, by decide +kernel, by decide +kernel⟩
def wL_order (F : Nat) (a1 : Int32) (M : Mem) : Option (Int32 × Mem) := match tX8_order F a1 M with
  | some E => if E = exI then some (1, M) else none
  | none => fL_order F a1 M
theorem cwL_order {l : Launch} {D : va_G} {ad : Nat → Nat} {ca : Nat → ClassId} {F : Nat} {a1 : Int32} {M : Mem} {r : Int32} {M' : Mem} (hl : l.stackTraces = false) (hf : wL_order F a1 M = some (r, M')) : ConW csA l D ad ca yL_order cL_order 4 [(0, 9, 12, 13)] 8 125 [.ref (ad 0), .int a1, .ref (ad 55)] M r M' := by
  unfold wL_order at hf
  cases ht : tX8_order F a1 M with
  | none => rw [ht] at hf; exact conL_order hf
  | some E =>
    rw [ht] at hf
    have hf : (if E = exI then some (1, M) else none : Option (Int32 × Mem)) = some (r, M') := hf
    by_cases h0 : E = exI
    · have hf := ite_p h0 hf
      obtain ⟨rfl, rfl⟩ := sp_i hf
      rw [h0] at ht
      exact coxL_order_exI hl ht
    · have hf := ite_n h0 hf
      cases hf
theorem mw_L_177 : MW RL 177 yL_order cL_order 4 [(0, 9, 12, 13)] 3 := ⟨(tg_i 954 (by decide +kernel) rfl), (tg_i 955 (by decide +kernel) rfl), (tg_i 0 (by decide +kernel) rfl), (tg_i 956 (by decide +kernel) rfl), by decide +kernel, by decide +kernel, by decide +kernel⟩
def wL_put (F : Nat) (a1 : Int32) (a2 : Int32) (a3 : Int32) (M : Mem) : Option (Int32 × Mem) := match tX8_put F a1 a2 a3 M with
  | some E => if E = exI then some (1, M) else none
  | none => fL_put F a1 a2 a3 M
theorem cwL_put {l : Launch} {D : va_G} {ad : Nat → Nat} {ca : Nat → ClassId} {F : Nat} {a1 : Int32} {a2 : Int32} {a3 : Int32} {M : Mem} {r : Int32} {M' : Mem} (hl : l.stackTraces = false) (hf : wL_put F a1 a2 a3 M = some (r, M')) : ConW csA l D ad ca yL_put cL_put 6 [(0, 19, 22, 13)] 8 127 [.ref (ad 0), .int a1, .int a2, .int a3, .ref (ad 55)] M r M' := by
  unfold wL_put at hf
  cases ht : tX8_put F a1 a2 a3 M with
  | none => rw [ht] at hf; exact conL_put hf
  | some E =>
    rw [ht] at hf
    have hf : (if E = exI then some (1, M) else none : Option (Int32 × Mem)) = some (r, M') := hf
    by_cases h0 : E = exI
    · have hf := ite_p h0 hf
      obtain ⟨rfl, rfl⟩ := sp_i hf
      rw [h0] at ht
      exact coxL_put_exI hl ht
    · have hf := ite_n h0 hf
      cases hf
theorem mw_L_109 : MW RL 109 yL_put cL_put 6 [(0, 19, 22, 13)] 5 := ⟨(tg_i 530 (by decide +kernel) rfl), (tg_i 531 (by decide +kernel) rfl), (tg_i 0 (by decide +kernel) rfl), (tg_i 532 (by decide +kernel) rfl), by decide +kernel, by decide +kernel, by decide +kernel⟩
def wL_room (F : Nat) (a1 : Int32) (M : Mem) : Option (Int32 × Mem) := match tX8_room F a1 M with
  | some E => if E = exI then some (1, M) else none
  | none => fL_room F a1 M
theorem cwL_room {l : Launch} {D : va_G} {ad : Nat → Nat} {ca : Nat → ClassId} {F : Nat} {a1 : Int32} {M : Mem} {r : Int32} {M' : Mem} (hl : l.stackTraces = false) (hf : wL_room F a1 M = some (r, M')) : ConW csA l D ad ca yL_room cL_room 4 [(0, 9, 12, 13)] 8 202 [.ref (ad 0), .int a1, .ref (ad 55)] M r M' := by
  unfold wL_room at hf
  cases ht : tX8_room F a1 M with
  | none => rw [ht] at hf; exact conL_room hf
  | some E =>
    rw [ht] at hf
    have hf : (if E = exI then some (1, M) else none : Option (Int32 × Mem)) = some (r, M') := hf
    by_cases h0 : E = exI
    · have hf := ite_p h0 hf
      obtain ⟨rfl, rfl⟩ := sp_i hf
      rw [h0] at ht
      exact coxL_room_exI hl ht
    · have hf := ite_n h0 hf
      cases hf
theorem mw_L_138 : MW RL 138 yL_room cL_room 4 [(0, 9, 12, 13)] 3 := ⟨(tg_i 691 (by decide +kernel) rfl), (tg_i 692 (by decide +kernel) rfl), (tg_i 0 (by decide +kernel) rfl), (tg_i 693 (by decide +kernel) rfl), by decide +kernel, by decide +kernel, by decide +kernel⟩
def wL_sheet (F : Nat) (a1 : Int32) (a2 : Int32) (M : Mem) : Option (Int32 × Mem) := match tX8_sheet F a1 a2 M with
  | some E => if E = exI then some (1, M) else if E = exA then some (2, M) else none
  | none => fL_sheet F a1 a2 M
theorem cwL_sheet {l : Launch} {D : va_G} {ad : Nat → Nat} {ca : Nat → ClassId} {F : Nat} {a1 : Int32} {a2 : Int32} {M : Mem} {r : Int32} {M' : Mem} (hl : l.stackTraces = false) (hf : wL_sheet F a1 a2 M = some (r, M')) : ConW csA l D ad ca yL_sheet cL_sheet 5 [(0, 10, 13, 13), (0, 10, 17, 15)] 8 133 [.ref (ad 0), .int a1, .int a2, .ref (ad 55)] M r M' := by
  unfold wL_sheet at hf
  cases ht : tX8_sheet F a1 a2 M with
  | none => rw [ht] at hf; exact conL_sheet hf
  | some E =>
    rw [ht] at hf
    have hf : (if E = exI then some (1, M) else if E = exA then some (2, M) else none : Option (Int32 × Mem)) = some (r, M') := hf
    by_cases h0 : E = exI
    · have hf := ite_p h0 hf
      obtain ⟨rfl, rfl⟩ := sp_i hf
      rw [h0] at ht
      exact coxL_sheet_exI hl ht
    · have hf := ite_n h0 hf
      by_cases h1 : E = exA
      · have hf := ite_p h1 hf
        obtain ⟨rfl, rfl⟩ := sp_i hf
        rw [h1] at ht
        exact coxL_sheet_exA hl ht
      · have hf := ite_n h1 hf
        cases hf
theorem mw_L_99 : MW RL 99 yL_sheet cL_sheet 5 [(0, 10, 13, 13), (0, 10, 17, 15)] 4 := ⟨(tg_i 431 (by decide +kernel) rfl), (tg_i 432 (by decide +kernel) rfl), (tg_i 0 (by decide +kernel) rfl), (tg_i 433 (by decide +kernel) rfl), by decide +kernel, by decide +kernel, by decide +kernel⟩
def wL_size (F : Nat) (a1 : Int32) (M : Mem) : Option (Int32 × Mem) := match tX8_size F a1 M with
  | some E => if E = exI then some (1, M) else none
  | none => fL_size F a1 M
theorem cwL_size {l : Launch} {D : va_G} {ad : Nat → Nat} {ca : Nat → ClassId} {F : Nat} {a1 : Int32} {M : Mem} {r : Int32} {M' : Mem} (hl : l.stackTraces = false) (hf : wL_size F a1 M = some (r, M')) : ConW csA l D ad ca yL_size cL_size 4 [(0, 9, 12, 13)] 8 125 [.ref (ad 0), .int a1, .ref (ad 55)] M r M' := by
  unfold wL_size at hf
  cases ht : tX8_size F a1 M with
  | none => rw [ht] at hf; exact conL_size hf
  | some E =>
    rw [ht] at hf
    have hf : (if E = exI then some (1, M) else none : Option (Int32 × Mem)) = some (r, M') := hf
    by_cases h0 : E = exI
    · have hf := ite_p h0 hf
      obtain ⟨rfl, rfl⟩ := sp_i hf
      rw [h0] at ht
      exact coxL_size_exI hl ht
    · have hf := ite_n h0 hf
      cases hf
theorem mw_L_116 : MW RL 116 yL_size cL_size 4 [(0, 9, 12, 13)] 3 := ⟨(tg_i 549 (by decide +kernel) rfl), (tg_i 550 (by decide +kernel) rfl), (tg_i 0 (by decide +kernel) rfl), (tg_i 551 (by decide +kernel) rfl), by decide +kernel, by decide +kernel, by decide +kernel⟩
def wL_sums (F : Nat) (a1 : Int32) (a2 : Int32) (a3 : Int32) (a4 : Int32) (M : Mem) : Option (Int32 × Mem) := match tX8_sums F a1 a2 a3 a4 M with
  | some E => if E = exI then some (1, M) else none
  | none => fL_sums F a1 a2 a3 a4 M
theorem cwL_sums {l : Launch} {D : va_G} {ad : Nat → Nat} {ca : Nat → ClassId} {F : Nat} {a1 : Int32} {a2 : Int32} {a3 : Int32} {a4 : Int32} {M : Mem} {r : Int32} {M' : Mem} (hl : l.stackTraces = false) (hf : wL_sums F a1 a2 a3 a4 M = some (r, M')) : ConW csA l D ad ca yL_sums cL_sums 7 [(0, 14, 17, 13)] 8 153 [.ref (ad 0), .int a1, .int a2, .int a3, .int a4, .ref (ad 55)] M r M' := by
  unfold wL_sums at hf
  cases ht : tX8_sums F a1 a2 a3 a4 M with
  | none => rw [ht] at hf; exact conL_sums hf
  | some E =>
    rw [ht] at hf
    have hf : (if E = exI then some (1, M) else none : Option (Int32 × Mem)) = some (r, M') := hf
    by_cases h0 : E = exI
    · have hf := ite_p h0 hf
      obtain ⟨rfl, rfl⟩ := sp_i hf
      rw [h0] at ht
      exact coxL_sums_exI hl ht
    · have hf := ite_n h0 hf
      cases hf
theorem mw_L_170 : MW RL 170 yL_sums cL_sums 7 [(0, 14, 17, 13)] 6 := ⟨(tg_i 911 (by decide +kernel) rfl), (tg_i 912 (by decide +kernel) rfl), (tg_i 0 (by decide +kernel) rfl), (tg_i 913 (by decide +kernel) rfl), by decide +kernel, by decide +kernel, by decide +kernel⟩
def wL_witness (F : Nat) (a1 : Int32) (M : Mem) : Option (Int32 × Mem) := match tX8_witness F a1 M with
  | some E => if E = exN then some (1, M) else none
  | none => fL_witness F a1 M
theorem cwL_witness {l : Launch} {D : va_G} {ad : Nat → Nat} {ca : Nat → ClassId} {F : Nat} {a1 : Int32} {M : Mem} {r : Int32} {M' : Mem} (hl : l.stackTraces = false) (hf : wL_witness F a1 M = some (r, M')) : ConW csA l D ad ca yL_witness cL_witness 4 [(0, 9, 12, 32)] 7 105 [.ref (ad 0), .int a1, .ref (ad 55)] M r M' := by
  unfold wL_witness at hf
  cases ht : tX8_witness F a1 M with
  | none => rw [ht] at hf; exact conL_witness hf
  | some E =>
    rw [ht] at hf
    have hf : (if E = exN then some (1, M) else none : Option (Int32 × Mem)) = some (r, M') := hf
    by_cases h0 : E = exN
    · have hf := ite_p h0 hf
      obtain ⟨rfl, rfl⟩ := sp_i hf
      rw [h0] at ht
      exact coxL_witness_exN hl ht
    · have hf := ite_n h0 hf
      cases hf
theorem mw_L_135 : MW RL 135 yL_witness cL_witness 4 [(0, 9, 12, 32)] 3 := ⟨(tg_i 683 (by decide +kernel) rfl), (tg_i 684 (by decide +kernel) rfl), (tg_i 0 (by decide +kernel) rfl), (tg_i 685 (by decide +kernel) rfl), by decide +kernel, by decide +kernel, by decide +kernel⟩
def fL_c164 (F : Nat) (xs : Nat → Int32) (L : Nat) (k : Int32 → Mem → Option Mem) (x4 : Int32) (M : Mem) : Option Mem := gd (inb (x4 + (1 : Int32)) L) (gd (inb (x4 + (2 : Int32)) L) (gd (inb (x4 + (3 : Int32)) L) (gd (inb (x4 + (4 : Int32)) L) (gd (inb (x4 + (5 : Int32)) L) (bd (fX8_feed F (xs (Int32.toNatClampNeg (x4 + (1 : Int32)))) (xs (Int32.toNatClampNeg (x4 + (2 : Int32)))) (xs (Int32.toNatClampNeg (x4 + (3 : Int32)))) (xs (Int32.toNatClampNeg (x4 + (4 : Int32)))) (xs (Int32.toNatClampNeg (x4 + (5 : Int32)))) M) (fun u8 N6 => gd (inb (x4 + (1 : Int32)) L) (gd (inb (x4 + (2 : Int32)) L) (gd (inb (x4 + (3 : Int32)) L) (gd (inb (x4 + (4 : Int32)) L) (gd (inb (x4 + (5 : Int32)) L) (bd (fX9_feed F (xs (Int32.toNatClampNeg (x4 + (1 : Int32)))) (xs (Int32.toNatClampNeg (x4 + (2 : Int32)))) (xs (Int32.toNatClampNeg (x4 + (3 : Int32)))) (xs (Int32.toNatClampNeg (x4 + (4 : Int32)))) (xs (Int32.toNatClampNeg (x4 + (5 : Int32)))) N6) (fun u16 N14 => if u8 = u16 then (nm (x4 + (6 : Int32)) (fun v18 : Int32 => k v18 N14)) else (none)))))))))))))
set_option maxRecDepth 100000 in
set_option maxHeartbeats 8000000 in
theorem wL_c164 {l : Launch} {D : va_G} {ad : Nat → Nat} {ca : Nat → ClassId} {b L : Nat} {xs : Nat → Int32} {F : Nat} {M' : Mem} (hl : l.stackTraces = false) {k : Int32 → Mem → Option Mem} {kc ks : Nat} (hz : kc + 1 ≤ room_1.cells ∧ ks + 6 ≤ room_1.slots) (hk : ∀ V1 : Jdg, MchL l D ad ca b L xs (kc + 1) (ks + 6) V1 → ∀ (x4 : Int32) (M : Mem), k x4 M = some M' → V1 M 23 [(0, .ref b), (1, .ref (ad 0)), (2, .ref (ad 37)), (3, .ref (ad 55)), (4, .int x4)] []) {V : Jdg} (h : MchL l D ad ca b L xs kc ks V) (x4 : Int32) (M : Mem) (hf : fL_c164 F xs L k x4 M = some M') : V M 164 [(0, .ref b), (1, .ref (ad 0)), (2, .ref (ad 37)), (3, .ref (ad 55)), (4, .int x4)] [] := by
  obtain ⟨hz1, hz2⟩ := hz
  unfold fL_c164 at hf
  refine r_aload_n (pc := 164) h dL_law_164 1 rfl rfl ?_
  refine r_aload_n (pc := 165) h dL_law_165 0 rfl rfl ?_
  refine r_iload (pc := 166) h dL_law_166 4 rfl ?_
  refine r_iconst (pc := 168) (v := (1 : Int32)) h dL_law_168 (by decide) ?_
  refine r_iadd (pc := 169) h dL_law_169 ?_
  obtain ⟨hi1, hf⟩ := gd_some hf
  refine r_sld (pc := 170) h hi1 dL_law_170 ?_
  refine r_aload_n (pc := 171) h dL_law_171 0 rfl rfl ?_
  refine r_iload (pc := 172) h dL_law_172 4 rfl ?_
  refine r_iconst (pc := 174) (v := (2 : Int32)) h dL_law_174 (by decide) ?_
  refine r_iadd (pc := 175) h dL_law_175 ?_
  obtain ⟨hi2, hf⟩ := gd_some hf
  refine r_sld (pc := 176) h hi2 dL_law_176 ?_
  refine r_aload_n (pc := 177) h dL_law_177 0 rfl rfl ?_
  refine r_iload (pc := 178) h dL_law_178 4 rfl ?_
  refine r_iconst (pc := 180) (v := (3 : Int32)) h dL_law_180 (by decide) ?_
  refine r_iadd (pc := 181) h dL_law_181 ?_
  obtain ⟨hi3, hf⟩ := gd_some hf
  refine r_sld (pc := 182) h hi3 dL_law_182 ?_
  refine r_aload_n (pc := 183) h dL_law_183 0 rfl rfl ?_
  refine r_iload (pc := 184) h dL_law_184 4 rfl ?_
  refine r_iconst (pc := 186) (v := (4 : Int32)) h dL_law_186 (by decide) ?_
  refine r_iadd (pc := 187) h dL_law_187 ?_
  obtain ⟨hi4, hf⟩ := gd_some hf
  refine r_sld (pc := 188) h hi4 dL_law_188 ?_
  refine r_aload_n (pc := 189) h dL_law_189 0 rfl rfl ?_
  refine r_iload (pc := 190) h dL_law_190 4 rfl ?_
  refine r_iconst (pc := 192) (v := (5 : Int32)) h dL_law_192 (by decide) ?_
  refine r_iadd (pc := 193) h dL_law_193 ?_
  obtain ⟨hi5, hf⟩ := gd_some hf
  refine r_sld (pc := 194) h hi5 dL_law_194 ?_
  obtain ⟨u8, N6, hc7, hf⟩ := bd_some hf
  refine r_callVi (pc := 195) (o := 0) (As := [.int (xs (Int32.toNatClampNeg (x4 + (1 : Int32)))), .int (xs (Int32.toNatClampNeg (x4 + (2 : Int32)))), .int (xs (Int32.toNatClampNeg (x4 + (3 : Int32)))), .int (xs (Int32.toNatClampNeg (x4 + (4 : Int32)))), .int (xs (Int32.toNatClampNeg (x4 + (5 : Int32))))]) (rest := []) h mv_L_85 dL_law_195 (by decide) rfl rfl (conX8_feed hc7) rfl rfl (by decide) (Nat.le_of_ble_eq_true rfl) ⟨by omega, by omega⟩ ?_
  refine r_aload_n (pc := 198) h dL_law_198 2 rfl rfl ?_
  refine r_aload_n (pc := 199) h dL_law_199 0 rfl rfl ?_
  refine r_iload (pc := 200) h dL_law_200 4 rfl ?_
  refine r_iconst (pc := 202) (v := (1 : Int32)) h dL_law_202 (by decide) ?_
  refine r_iadd (pc := 203) h dL_law_203 ?_
  obtain ⟨hi9, hf⟩ := gd_some hf
  refine r_sld (pc := 204) h hi9 dL_law_204 ?_
  refine r_aload_n (pc := 205) h dL_law_205 0 rfl rfl ?_
  refine r_iload (pc := 206) h dL_law_206 4 rfl ?_
  refine r_iconst (pc := 208) (v := (2 : Int32)) h dL_law_208 (by decide) ?_
  refine r_iadd (pc := 209) h dL_law_209 ?_
  obtain ⟨hi10, hf⟩ := gd_some hf
  refine r_sld (pc := 210) h hi10 dL_law_210 ?_
  refine r_aload_n (pc := 211) h dL_law_211 0 rfl rfl ?_
  refine r_iload (pc := 212) h dL_law_212 4 rfl ?_
  refine r_iconst (pc := 214) (v := (3 : Int32)) h dL_law_214 (by decide) ?_
  refine r_iadd (pc := 215) h dL_law_215 ?_
  obtain ⟨hi11, hf⟩ := gd_some hf
  refine r_sld (pc := 216) h hi11 dL_law_216 ?_
  refine r_aload_n (pc := 217) h dL_law_217 0 rfl rfl ?_
  refine r_iload (pc := 218) h dL_law_218 4 rfl ?_
  refine r_iconst (pc := 220) (v := (4 : Int32)) h dL_law_220 (by decide) ?_
  refine r_iadd (pc := 221) h dL_law_221 ?_
  obtain ⟨hi12, hf⟩ := gd_some hf
  refine r_sld (pc := 222) h hi12 dL_law_222 ?_
  refine r_aload_n (pc := 223) h dL_law_223 0 rfl rfl ?_
  refine r_iload (pc := 224) h dL_law_224 4 rfl ?_
  refine r_iconst (pc := 226) (v := (5 : Int32)) h dL_law_226 (by decide) ?_
  refine r_iadd (pc := 227) h dL_law_227 ?_
  obtain ⟨hi13, hf⟩ := gd_some hf
  refine r_sld (pc := 228) h hi13 dL_law_228 ?_
  obtain ⟨u16, N14, hc15, hf⟩ := bd_some hf
  refine r_callVi (pc := 229) (o := 37) (As := [.int (xs (Int32.toNatClampNeg (x4 + (1 : Int32)))), .int (xs (Int32.toNatClampNeg (x4 + (2 : Int32)))), .int (xs (Int32.toNatClampNeg (x4 + (3 : Int32)))), .int (xs (Int32.toNatClampNeg (x4 + (4 : Int32)))), .int (xs (Int32.toNatClampNeg (x4 + (5 : Int32))))]) (rest := [.int u8]) h mv_L_89 dL_law_229 (by decide) rfl rfl (conX9_feed hc15) rfl rfl (by decide) (Nat.le_of_ble_eq_true rfl) ⟨by omega, by omega⟩ ?_
  refine r_icmp_eq (pc := 232) h 1781 dL_law_232 (by decide) (fun hc17 => ?_) (fun hc17 => ?_)
  · have hf := ite_p hc17 hf
    obtain ⟨v18, ev18⟩ : ∃ y : Int32, y = x4 + (6 : Int32) := ⟨_, rfl⟩
    have hf := nm_app ev18 hf
    refine r_iinc (pc := 1781) (v := v18) (lv' := [(4, .int v18), (0, .ref b), (1, .ref (ad 0)), (2, .ref (ad 37)), (3, .ref (ad 55))]) h dL_law_1781 4 rfl (by rw [ev18]; rfl) (by decide) rfl ?_
    refine r_goto (pc := 1784) h 23 dL_law_1784 (by decide) ?_
    refine r_widen h (fun V h => ?_)
    refine r_sub h [1, 2, 3, 4, 0] rfl ?_
    exact hk _ h _ N14 hf
  · have hf := ite_n hc17 hf
    refine r_iconst (pc := 235) (v := (0 : Int32)) h dL_law_235 (by decide) ?_
    cases hf
def fL_c237 (F : Nat) (xs : Nat → Int32) (L : Nat) (k : Int32 → Mem → Option Mem) (x4 : Int32) (M : Mem) : Option Mem := gd (inb (x4 + (1 : Int32)) L) (bd (fX8_end F (xs (Int32.toNatClampNeg (x4 + (1 : Int32)))) M) (fun u4 N2 => gd (inb (x4 + (1 : Int32)) L) (bd (fX9_end F (xs (Int32.toNatClampNeg (x4 + (1 : Int32)))) N2) (fun u8 N6 => if u4 = u8 then (nm (x4 + (6 : Int32)) (fun v10 : Int32 => k v10 N6)) else (none)))))
set_option maxRecDepth 100000 in
set_option maxHeartbeats 8000000 in
theorem wL_c237 {l : Launch} {D : va_G} {ad : Nat → Nat} {ca : Nat → ClassId} {b L : Nat} {xs : Nat → Int32} {F : Nat} {M' : Mem} (hl : l.stackTraces = false) {k : Int32 → Mem → Option Mem} {kc ks : Nat} (hz : kc + 1 ≤ room_1.cells ∧ ks + 6 ≤ room_1.slots) (hk : ∀ V1 : Jdg, MchL l D ad ca b L xs (kc + 1) (ks + 6) V1 → ∀ (x4 : Int32) (M : Mem), k x4 M = some M' → V1 M 23 [(0, .ref b), (1, .ref (ad 0)), (2, .ref (ad 37)), (3, .ref (ad 55)), (4, .int x4)] []) {V : Jdg} (h : MchL l D ad ca b L xs kc ks V) (x4 : Int32) (M : Mem) (hf : fL_c237 F xs L k x4 M = some M') : V M 237 [(0, .ref b), (1, .ref (ad 0)), (2, .ref (ad 37)), (3, .ref (ad 55)), (4, .int x4)] [] := by
  obtain ⟨hz1, hz2⟩ := hz
  unfold fL_c237 at hf
  refine r_aload_n (pc := 237) h dL_law_237 1 rfl rfl ?_
  refine r_aload_n (pc := 238) h dL_law_238 0 rfl rfl ?_
  refine r_iload (pc := 239) h dL_law_239 4 rfl ?_
  refine r_iconst (pc := 241) (v := (1 : Int32)) h dL_law_241 (by decide) ?_
  refine r_iadd (pc := 242) h dL_law_242 ?_
  obtain ⟨hi1, hf⟩ := gd_some hf
  refine r_sld (pc := 243) h hi1 dL_law_243 ?_
  obtain ⟨u4, N2, hc3, hf⟩ := bd_some hf
  refine r_callVi (pc := 244) (o := 0) (As := [.int (xs (Int32.toNatClampNeg (x4 + (1 : Int32))))]) (rest := []) h mv_L_90 dL_law_244 (by decide) rfl rfl (conX8_end hc3) rfl rfl (by decide) (Nat.le_of_ble_eq_true rfl) ⟨by omega, by omega⟩ ?_
  refine r_aload_n (pc := 247) h dL_law_247 2 rfl rfl ?_
  refine r_aload_n (pc := 248) h dL_law_248 0 rfl rfl ?_
  refine r_iload (pc := 249) h dL_law_249 4 rfl ?_
  refine r_iconst (pc := 251) (v := (1 : Int32)) h dL_law_251 (by decide) ?_
  refine r_iadd (pc := 252) h dL_law_252 ?_
  obtain ⟨hi5, hf⟩ := gd_some hf
  refine r_sld (pc := 253) h hi5 dL_law_253 ?_
  obtain ⟨u8, N6, hc7, hf⟩ := bd_some hf
  refine r_callVi (pc := 254) (o := 37) (As := [.int (xs (Int32.toNatClampNeg (x4 + (1 : Int32))))]) (rest := [.int u4]) h mv_L_94 dL_law_254 (by decide) rfl rfl (conX9_end hc7) rfl rfl (by decide) (Nat.le_of_ble_eq_true rfl) ⟨by omega, by omega⟩ ?_
  refine r_icmp_eq (pc := 257) h 1781 dL_law_257 (by decide) (fun hc9 => ?_) (fun hc9 => ?_)
  · have hf := ite_p hc9 hf
    obtain ⟨v10, ev10⟩ : ∃ y : Int32, y = x4 + (6 : Int32) := ⟨_, rfl⟩
    have hf := nm_app ev10 hf
    refine r_iinc (pc := 1781) (v := v10) (lv' := [(4, .int v10), (0, .ref b), (1, .ref (ad 0)), (2, .ref (ad 37)), (3, .ref (ad 55))]) h dL_law_1781 4 rfl (by rw [ev10]; rfl) (by decide) rfl ?_
    refine r_goto (pc := 1784) h 23 dL_law_1784 (by decide) ?_
    refine r_widen h (fun V h => ?_)
    refine r_sub h [1, 2, 3, 4, 0] rfl ?_
    exact hk _ h _ N6 hf
  · have hf := ite_n hc9 hf
    refine r_iconst (pc := 260) (v := (0 : Int32)) h dL_law_260 (by decide) ?_
    cases hf
def fL_c262 (F : Nat) (xs : Nat → Int32) (L : Nat) (k : Int32 → Mem → Option Mem) (x4 : Int32) (M : Mem) : Option Mem := gd (inb (x4 + (1 : Int32)) L) (gd (inb (x4 + (2 : Int32)) L) (bd (fX8_ground F (xs (Int32.toNatClampNeg (x4 + (1 : Int32)))) (xs (Int32.toNatClampNeg (x4 + (2 : Int32)))) M) (fun u5 N3 => gd (inb (x4 + (1 : Int32)) L) (gd (inb (x4 + (2 : Int32)) L) (bd (fX9_ground F (xs (Int32.toNatClampNeg (x4 + (1 : Int32)))) (xs (Int32.toNatClampNeg (x4 + (2 : Int32)))) N3) (fun u10 N8 => if u5 = u10 then (nm (x4 + (6 : Int32)) (fun v12 : Int32 => k v12 N8)) else (none)))))))
set_option maxRecDepth 100000 in
set_option maxHeartbeats 8000000 in
theorem wL_c262 {l : Launch} {D : va_G} {ad : Nat → Nat} {ca : Nat → ClassId} {b L : Nat} {xs : Nat → Int32} {F : Nat} {M' : Mem} (hl : l.stackTraces = false) {k : Int32 → Mem → Option Mem} {kc ks : Nat} (hz : kc + 1 ≤ room_1.cells ∧ ks + 6 ≤ room_1.slots) (hk : ∀ V1 : Jdg, MchL l D ad ca b L xs (kc + 1) (ks + 6) V1 → ∀ (x4 : Int32) (M : Mem), k x4 M = some M' → V1 M 23 [(0, .ref b), (1, .ref (ad 0)), (2, .ref (ad 37)), (3, .ref (ad 55)), (4, .int x4)] []) {V : Jdg} (h : MchL l D ad ca b L xs kc ks V) (x4 : Int32) (M : Mem) (hf : fL_c262 F xs L k x4 M = some M') : V M 262 [(0, .ref b), (1, .ref (ad 0)), (2, .ref (ad 37)), (3, .ref (ad 55)), (4, .int x4)] [] := by
  obtain ⟨hz1, hz2⟩ := hz
  unfold fL_c262 at hf
  refine r_aload_n (pc := 262) h dL_law_262 1 rfl rfl ?_
  refine r_aload_n (pc := 263) h dL_law_263 0 rfl rfl ?_
  refine r_iload (pc := 264) h dL_law_264 4 rfl ?_
  refine r_iconst (pc := 266) (v := (1 : Int32)) h dL_law_266 (by decide) ?_
  refine r_iadd (pc := 267) h dL_law_267 ?_
  obtain ⟨hi1, hf⟩ := gd_some hf
  refine r_sld (pc := 268) h hi1 dL_law_268 ?_
  refine r_aload_n (pc := 269) h dL_law_269 0 rfl rfl ?_
  refine r_iload (pc := 270) h dL_law_270 4 rfl ?_
  refine r_iconst (pc := 272) (v := (2 : Int32)) h dL_law_272 (by decide) ?_
  refine r_iadd (pc := 273) h dL_law_273 ?_
  obtain ⟨hi2, hf⟩ := gd_some hf
  refine r_sld (pc := 274) h hi2 dL_law_274 ?_
  obtain ⟨u5, N3, hc4, hf⟩ := bd_some hf
  refine r_callVi (pc := 275) (o := 0) (As := [.int (xs (Int32.toNatClampNeg (x4 + (1 : Int32)))), .int (xs (Int32.toNatClampNeg (x4 + (2 : Int32))))]) (rest := []) h mv_L_95 dL_law_275 (by decide) rfl rfl (conX8_ground hc4) rfl rfl (by decide) (Nat.le_of_ble_eq_true rfl) ⟨by omega, by omega⟩ ?_
  refine r_aload_n (pc := 278) h dL_law_278 2 rfl rfl ?_
  refine r_aload_n (pc := 279) h dL_law_279 0 rfl rfl ?_
  refine r_iload (pc := 280) h dL_law_280 4 rfl ?_
  refine r_iconst (pc := 282) (v := (1 : Int32)) h dL_law_282 (by decide) ?_
  refine r_iadd (pc := 283) h dL_law_283 ?_
  obtain ⟨hi6, hf⟩ := gd_some hf
  refine r_sld (pc := 284) h hi6 dL_law_284 ?_
  refine r_aload_n (pc := 285) h dL_law_285 0 rfl rfl ?_
  refine r_iload (pc := 286) h dL_law_286 4 rfl ?_
  refine r_iconst (pc := 288) (v := (2 : Int32)) h dL_law_288 (by decide) ?_
  refine r_iadd (pc := 289) h dL_law_289 ?_
  obtain ⟨hi7, hf⟩ := gd_some hf
  refine r_sld (pc := 290) h hi7 dL_law_290 ?_
  obtain ⟨u10, N8, hc9, hf⟩ := bd_some hf
  refine r_callVi (pc := 291) (o := 37) (As := [.int (xs (Int32.toNatClampNeg (x4 + (1 : Int32)))), .int (xs (Int32.toNatClampNeg (x4 + (2 : Int32))))]) (rest := [.int u5]) h mv_L_98 dL_law_291 (by decide) rfl rfl (conX9_ground hc9) rfl rfl (by decide) (Nat.le_of_ble_eq_true rfl) ⟨by omega, by omega⟩ ?_
  refine r_icmp_eq (pc := 294) h 1781 dL_law_294 (by decide) (fun hc11 => ?_) (fun hc11 => ?_)
  · have hf := ite_p hc11 hf
    obtain ⟨v12, ev12⟩ : ∃ y : Int32, y = x4 + (6 : Int32) := ⟨_, rfl⟩
    have hf := nm_app ev12 hf
    refine r_iinc (pc := 1781) (v := v12) (lv' := [(4, .int v12), (0, .ref b), (1, .ref (ad 0)), (2, .ref (ad 37)), (3, .ref (ad 55))]) h dL_law_1781 4 rfl (by rw [ev12]; rfl) (by decide) rfl ?_
    refine r_goto (pc := 1784) h 23 dL_law_1784 (by decide) ?_
    refine r_widen h (fun V h => ?_)
    refine r_sub h [1, 2, 3, 4, 0] rfl ?_
    exact hk _ h _ N8 hf
  · have hf := ite_n hc11 hf
    refine r_iconst (pc := 297) (v := (0 : Int32)) h dL_law_297 (by decide) ?_
    cases hf
def fL_c299 (F : Nat) (xs : Nat → Int32) (L : Nat) (k : Int32 → Mem → Option Mem) (x4 : Int32) (M : Mem) : Option Mem := gd (inb (x4 + (1 : Int32)) L) (gd (inb (x4 + (2 : Int32)) L) (bd (wL_sheet F (xs (Int32.toNatClampNeg (x4 + (1 : Int32)))) (xs (Int32.toNatClampNeg (x4 + (2 : Int32)))) M) (fun u5 N3 => gd (inb (x4 + (1 : Int32)) L) (gd (inb (x4 + (2 : Int32)) L) (bd (fX9_sheet F (xs (Int32.toNatClampNeg (x4 + (1 : Int32)))) (xs (Int32.toNatClampNeg (x4 + (2 : Int32)))) N3) (fun u10 N8 => bd (fX9_thrown F N8) (fun u13 N11 => if u13 = u5 then (if u5 = 0 then (gd (inb (0 : Int32) 1) (if (lg_cmp (N11.2 55 (Int32.toNatClampNeg (0 : Int32))) (Int32.toInt64 u10)) = 0 then (nm (x4 + (6 : Int32)) (fun v18 : Int32 => k v18 N11)) else (none))) else (nm (x4 + (6 : Int32)) (fun v19 : Int32 => k v19 N11))) else (none))))))))
set_option maxRecDepth 100000 in
set_option maxHeartbeats 8000000 in
theorem wL_c299 {l : Launch} {D : va_G} {ad : Nat → Nat} {ca : Nat → ClassId} {b L : Nat} {xs : Nat → Int32} {F : Nat} {M' : Mem} (hl : l.stackTraces = false) {k : Int32 → Mem → Option Mem} {kc ks : Nat} (hz : kc + 1 ≤ room_1.cells ∧ ks + 6 ≤ room_1.slots) (hk : ∀ V1 : Jdg, MchL l D ad ca b L xs (kc + 1) (ks + 6) V1 → ∀ (x4 : Int32) (M : Mem), k x4 M = some M' → V1 M 23 [(0, .ref b), (1, .ref (ad 0)), (2, .ref (ad 37)), (3, .ref (ad 55)), (4, .int x4)] []) {V : Jdg} (h : MchL l D ad ca b L xs kc ks V) (x4 : Int32) (M : Mem) (hf : fL_c299 F xs L k x4 M = some M') : V M 299 [(0, .ref b), (1, .ref (ad 0)), (2, .ref (ad 37)), (3, .ref (ad 55)), (4, .int x4)] [] := by
  obtain ⟨hz1, hz2⟩ := hz
  unfold fL_c299 at hf
  refine r_aload_n (pc := 299) h dL_law_299 1 rfl rfl ?_
  refine r_aload_n (pc := 300) h dL_law_300 0 rfl rfl ?_
  refine r_iload (pc := 301) h dL_law_301 4 rfl ?_
  refine r_iconst (pc := 303) (v := (1 : Int32)) h dL_law_303 (by decide) ?_
  refine r_iadd (pc := 304) h dL_law_304 ?_
  obtain ⟨hi1, hf⟩ := gd_some hf
  refine r_sld (pc := 305) h hi1 dL_law_305 ?_
  refine r_aload_n (pc := 306) h dL_law_306 0 rfl rfl ?_
  refine r_iload (pc := 307) h dL_law_307 4 rfl ?_
  refine r_iconst (pc := 309) (v := (2 : Int32)) h dL_law_309 (by decide) ?_
  refine r_iadd (pc := 310) h dL_law_310 ?_
  obtain ⟨hi2, hf⟩ := gd_some hf
  refine r_sld (pc := 311) h hi2 dL_law_311 ?_
  refine r_aload_n (pc := 312) h dL_law_312 3 rfl rfl ?_
  obtain ⟨u5, N3, hc4, hf⟩ := bd_some hf
  refine r_callW (pc := 313) (As := [.ref (ad 0), .int (xs (Int32.toNatClampNeg (x4 + (1 : Int32)))), .int (xs (Int32.toNatClampNeg (x4 + (2 : Int32)))), .ref (ad 55)]) (rest := []) h mw_L_99 dL_law_313 (cwL_sheet hl hc4) rfl rfl (by decide) (Nat.le_of_ble_eq_true rfl) ⟨by omega, by omega⟩ (fun V h => ?_)
  refine r_istore (pc := 316) (lv' := [(5, .int u5), (0, .ref b), (1, .ref (ad 0)), (2, .ref (ad 37)), (3, .ref (ad 55)), (4, .int x4)]) h dL_law_316 (by decide) rfl ?_
  refine r_aload_n (pc := 318) h dL_law_318 3 rfl rfl ?_
  refine r_aload_n (pc := 319) h dL_law_319 1 rfl rfl ?_
  refine r_iload (pc := 320) h dL_law_320 5 rfl ?_
  refine r_iconst (pc := 322) (v := (1 : Int32)) h dL_law_322 (by decide) ?_
  refine r_iadd (pc := 323) h dL_law_323 ?_
  obtain ⟨hi6, hf⟩ := gd_some hf
  refine r_sld (pc := 324) h hi6 dL_law_324 ?_
  refine r_aload_n (pc := 325) h dL_law_325 1 rfl rfl ?_
  refine r_iload (pc := 326) h dL_law_326 5 rfl ?_
  refine r_iconst (pc := 328) (v := (2 : Int32)) h dL_law_328 (by decide) ?_
  refine r_iadd (pc := 329) h dL_law_329 ?_
  obtain ⟨hi7, hf⟩ := gd_some hf
  refine r_sld (pc := 330) h hi7 dL_law_330 ?_
  obtain ⟨u10, N8, hc9, hf⟩ := bd_some hf
  refine r_callVi (pc := 331) (o := 37) (As := [.int (xs (Int32.toNatClampNeg (x4 + (1 : Int32)))), .int (xs (Int32.toNatClampNeg (x4 + (2 : Int32))))]) (rest := []) h mv_L_104 dL_law_331 (by decide) rfl rfl (conX9_sheet hc9) rfl rfl (by decide) (Nat.le_of_ble_eq_true rfl) ⟨by omega, by omega⟩ ?_
  refine r_istore (pc := 334) (lv' := [(6, .int u10), (5, .int u5), (0, .ref b), (1, .ref (ad 0)), (2, .ref (ad 37)), (3, .ref (ad 55)), (4, .int x4)]) h dL_law_334 (by decide) rfl ?_
  refine r_aload_n (pc := 336) h dL_law_336 4 rfl rfl ?_
  obtain ⟨u13, N11, hc12, hf⟩ := bd_some hf
  refine r_callVi (pc := 337) (o := 37) (As := []) (rest := []) h mv_L_105 dL_law_337 (by decide) rfl rfl (conX9_thrown hc12) rfl rfl (by decide) (Nat.le_of_ble_eq_true rfl) ⟨by omega, by omega⟩ ?_
  refine r_iload (pc := 340) h dL_law_340 1 rfl ?_
  refine r_icmp_eq (pc := 342) h 347 dL_law_342 (by decide) (fun hc14 => ?_) (fun hc14 => ?_)
  · have hf := ite_p hc14 hf
    refine r_iload (pc := 347) h dL_law_347 1 rfl ?_
    refine r_if_ne (pc := 349) h 364 dL_law_349 (by decide) (fun hc15 => ?_) (fun hc15 => ?_)
    · have hf := ite_n hc15 hf
      refine r_goto (pc := 364) h 1781 dL_law_364 (by decide) ?_
      obtain ⟨v19, ev19⟩ : ∃ y : Int32, y = x4 + (6 : Int32) := ⟨_, rfl⟩
      have hf := nm_app ev19 hf
      refine r_iinc (pc := 1781) (v := v19) (lv' := [(4, .int v19), (6, .int u10), (5, .int u5), (0, .ref b), (1, .ref (ad 0)), (2, .ref (ad 37)), (3, .ref (ad 55))]) h dL_law_1781 6 rfl (by rw [ev19]; rfl) (by decide) rfl ?_
      refine r_goto (pc := 1784) h 23 dL_law_1784 (by decide) ?_
      refine r_sub h [3, 4, 5, 6, 0] rfl ?_
      exact hk _ h _ N11 hf
    · have hf := ite_p hc15 hf
      refine r_aload_n (pc := 352) h dL_law_352 5 rfl rfl ?_
      refine r_iconst (pc := 353) (v := (0 : Int32)) h dL_law_353 (by decide) ?_
      obtain ⟨hi16, hf⟩ := gd_some hf
      refine r_lald (pc := 354) h (by decide) rfl hi16 dL_law_354 ?_
      refine r_iload (pc := 355) h dL_law_355 0 rfl ?_
      refine r_i2l (pc := 357) h dL_law_357 ?_
      refine r_lcmp (pc := 358) h dL_law_358 ?_
      refine r_if_eq (pc := 359) h 364 dL_law_359 (by decide) (fun hc17 => ?_) (fun hc17 => ?_)
      · have hf := ite_p hc17 hf
        refine r_goto (pc := 364) h 1781 dL_law_364 (by decide) ?_
        obtain ⟨v18, ev18⟩ : ∃ y : Int32, y = x4 + (6 : Int32) := ⟨_, rfl⟩
        have hf := nm_app ev18 hf
        refine r_iinc (pc := 1781) (v := v18) (lv' := [(4, .int v18), (6, .int u10), (5, .int u5), (0, .ref b), (1, .ref (ad 0)), (2, .ref (ad 37)), (3, .ref (ad 55))]) h dL_law_1781 6 rfl (by rw [ev18]; rfl) (by decide) rfl ?_
        refine r_goto (pc := 1784) h 23 dL_law_1784 (by decide) ?_
        refine r_sub h [3, 4, 5, 6, 0] rfl ?_
        exact hk _ h _ N11 hf
      · have hf := ite_n hc17 hf
        refine r_iconst (pc := 362) (v := (0 : Int32)) h dL_law_362 (by decide) ?_
        cases hf
  · have hf := ite_n hc14 hf
    refine r_iconst (pc := 345) (v := (0 : Int32)) h dL_law_345 (by decide) ?_
    cases hf
def fL_c367 (F : Nat) (xs : Nat → Int32) (L : Nat) (k : Int32 → Mem → Option Mem) (x4 : Int32) (M : Mem) : Option Mem := gd (inb (x4 + (1 : Int32)) L) (gd (inb (x4 + (2 : Int32)) L) (gd (inb (x4 + (3 : Int32)) L) (if (xs (Int32.toNatClampNeg (x4 + (3 : Int32)))) = 0 then (bd (wL_put F (xs (Int32.toNatClampNeg (x4 + (1 : Int32)))) (xs (Int32.toNatClampNeg (x4 + (2 : Int32)))) (0 : Int32) M) (fun u44 N42 => gd (inb (x4 + (1 : Int32)) L) (gd (inb (x4 + (2 : Int32)) L) (gd (inb (x4 + (3 : Int32)) L) (if (xs (Int32.toNatClampNeg (x4 + (3 : Int32)))) = 0 then (bd (fX9_put F (xs (Int32.toNatClampNeg (x4 + (1 : Int32)))) (xs (Int32.toNatClampNeg (x4 + (2 : Int32)))) (0 : Int32) N42) (fun u66 N64 => bd (fX9_thrown F N64) (fun u69 N67 => if u69 = u44 then (if u44 = 0 then (gd (inb (0 : Int32) 1) (if u66 = 0 then (if (lg_cmp (N67.2 55 (Int32.toNatClampNeg (0 : Int32))) (0 : Int64)) = 0 then (nm (x4 + (6 : Int32)) (fun v77 : Int32 => k v77 N67)) else (none)) else (if (lg_cmp (N67.2 55 (Int32.toNatClampNeg (0 : Int32))) (1 : Int64)) = 0 then (nm (x4 + (6 : Int32)) (fun v75 : Int32 => k v75 N67)) else (none)))) else (nm (x4 + (6 : Int32)) (fun v78 : Int32 => k v78 N67))) else (none)))) else (bd (fX9_put F (xs (Int32.toNatClampNeg (x4 + (1 : Int32)))) (xs (Int32.toNatClampNeg (x4 + (2 : Int32)))) (1 : Int32) N42) (fun u51 N49 => bd (fX9_thrown F N49) (fun u54 N52 => if u54 = u44 then (if u44 = 0 then (gd (inb (0 : Int32) 1) (if u51 = 0 then (if (lg_cmp (N52.2 55 (Int32.toNatClampNeg (0 : Int32))) (0 : Int64)) = 0 then (nm (x4 + (6 : Int32)) (fun v62 : Int32 => k v62 N52)) else (none)) else (if (lg_cmp (N52.2 55 (Int32.toNatClampNeg (0 : Int32))) (1 : Int64)) = 0 then (nm (x4 + (6 : Int32)) (fun v60 : Int32 => k v60 N52)) else (none)))) else (nm (x4 + (6 : Int32)) (fun v63 : Int32 => k v63 N52))) else (none))))))))) else (bd (wL_put F (xs (Int32.toNatClampNeg (x4 + (1 : Int32)))) (xs (Int32.toNatClampNeg (x4 + (2 : Int32)))) (1 : Int32) M) (fun u7 N5 => gd (inb (x4 + (1 : Int32)) L) (gd (inb (x4 + (2 : Int32)) L) (gd (inb (x4 + (3 : Int32)) L) (if (xs (Int32.toNatClampNeg (x4 + (3 : Int32)))) = 0 then (bd (fX9_put F (xs (Int32.toNatClampNeg (x4 + (1 : Int32)))) (xs (Int32.toNatClampNeg (x4 + (2 : Int32)))) (0 : Int32) N5) (fun u29 N27 => bd (fX9_thrown F N27) (fun u32 N30 => if u32 = u7 then (if u7 = 0 then (gd (inb (0 : Int32) 1) (if u29 = 0 then (if (lg_cmp (N30.2 55 (Int32.toNatClampNeg (0 : Int32))) (0 : Int64)) = 0 then (nm (x4 + (6 : Int32)) (fun v40 : Int32 => k v40 N30)) else (none)) else (if (lg_cmp (N30.2 55 (Int32.toNatClampNeg (0 : Int32))) (1 : Int64)) = 0 then (nm (x4 + (6 : Int32)) (fun v38 : Int32 => k v38 N30)) else (none)))) else (nm (x4 + (6 : Int32)) (fun v41 : Int32 => k v41 N30))) else (none)))) else (bd (fX9_put F (xs (Int32.toNatClampNeg (x4 + (1 : Int32)))) (xs (Int32.toNatClampNeg (x4 + (2 : Int32)))) (1 : Int32) N5) (fun u14 N12 => bd (fX9_thrown F N12) (fun u17 N15 => if u17 = u7 then (if u7 = 0 then (gd (inb (0 : Int32) 1) (if u14 = 0 then (if (lg_cmp (N15.2 55 (Int32.toNatClampNeg (0 : Int32))) (0 : Int64)) = 0 then (nm (x4 + (6 : Int32)) (fun v25 : Int32 => k v25 N15)) else (none)) else (if (lg_cmp (N15.2 55 (Int32.toNatClampNeg (0 : Int32))) (1 : Int64)) = 0 then (nm (x4 + (6 : Int32)) (fun v23 : Int32 => k v23 N15)) else (none)))) else (nm (x4 + (6 : Int32)) (fun v26 : Int32 => k v26 N15))) else (none))))))))))))
set_option maxRecDepth 100000 in
set_option maxHeartbeats 8000000 in
theorem wL_c367 {l : Launch} {D : va_G} {ad : Nat → Nat} {ca : Nat → ClassId} {b L : Nat} {xs : Nat → Int32} {F : Nat} {M' : Mem} (hl : l.stackTraces = false) {k : Int32 → Mem → Option Mem} {kc ks : Nat} (hz : kc + 1 ≤ room_1.cells ∧ ks + 6 ≤ room_1.slots) (hk : ∀ V1 : Jdg, MchL l D ad ca b L xs (kc + 1) (ks + 6) V1 → ∀ (x4 : Int32) (M : Mem), k x4 M = some M' → V1 M 23 [(0, .ref b), (1, .ref (ad 0)), (2, .ref (ad 37)), (3, .ref (ad 55)), (4, .int x4)] []) {V : Jdg} (h : MchL l D ad ca b L xs kc ks V) (x4 : Int32) (M : Mem) (hf : fL_c367 F xs L k x4 M = some M') : V M 367 [(0, .ref b), (1, .ref (ad 0)), (2, .ref (ad 37)), (3, .ref (ad 55)), (4, .int x4)] [] := by
  obtain ⟨hz1, hz2⟩ := hz
  unfold fL_c367 at hf
  refine r_aload_n (pc := 367) h dL_law_367 1 rfl rfl ?_
  refine r_aload_n (pc := 368) h dL_law_368 0 rfl rfl ?_
  refine r_iload (pc := 369) h dL_law_369 4 rfl ?_
  refine r_iconst (pc := 371) (v := (1 : Int32)) h dL_law_371 (by decide) ?_
  refine r_iadd (pc := 372) h dL_law_372 ?_
  obtain ⟨hi1, hf⟩ := gd_some hf
  refine r_sld (pc := 373) h hi1 dL_law_373 ?_
  refine r_aload_n (pc := 374) h dL_law_374 0 rfl rfl ?_
  refine r_iload (pc := 375) h dL_law_375 4 rfl ?_
  refine r_iconst (pc := 377) (v := (2 : Int32)) h dL_law_377 (by decide) ?_
  refine r_iadd (pc := 378) h dL_law_378 ?_
  obtain ⟨hi2, hf⟩ := gd_some hf
  refine r_sld (pc := 379) h hi2 dL_law_379 ?_
  refine r_aload_n (pc := 380) h dL_law_380 0 rfl rfl ?_
  refine r_iload (pc := 381) h dL_law_381 4 rfl ?_
  refine r_iconst (pc := 383) (v := (3 : Int32)) h dL_law_383 (by decide) ?_
  refine r_iadd (pc := 384) h dL_law_384 ?_
  obtain ⟨hi3, hf⟩ := gd_some hf
  refine r_sld (pc := 385) h hi3 dL_law_385 ?_
  refine r_if_eq (pc := 386) h 393 dL_law_386 (by decide) (fun hc4 => ?_) (fun hc4 => ?_)
  · have hf := ite_p hc4 hf
    refine r_iconst (pc := 393) (v := (0 : Int32)) h dL_law_393 (by decide) ?_
    refine r_aload_n (pc := 394) h dL_law_394 3 rfl rfl ?_
    obtain ⟨u44, N42, hc43, hf⟩ := bd_some hf
    refine r_callW (pc := 395) (As := [.ref (ad 0), .int (xs (Int32.toNatClampNeg (x4 + (1 : Int32)))), .int (xs (Int32.toNatClampNeg (x4 + (2 : Int32)))), .int (0 : Int32), .ref (ad 55)]) (rest := []) h mw_L_109 dL_law_395 (cwL_put hl hc43) rfl rfl (by decide) (Nat.le_of_ble_eq_true rfl) ⟨by omega, by omega⟩ (fun V h => ?_)
    refine r_istore (pc := 398) (lv' := [(5, .int u44), (0, .ref b), (1, .ref (ad 0)), (2, .ref (ad 37)), (3, .ref (ad 55)), (4, .int x4)]) h dL_law_398 (by decide) rfl ?_
    refine r_aload_n (pc := 400) h dL_law_400 3 rfl rfl ?_
    refine r_aload_n (pc := 401) h dL_law_401 1 rfl rfl ?_
    refine r_iload (pc := 402) h dL_law_402 5 rfl ?_
    refine r_iconst (pc := 404) (v := (1 : Int32)) h dL_law_404 (by decide) ?_
    refine r_iadd (pc := 405) h dL_law_405 ?_
    obtain ⟨hi45, hf⟩ := gd_some hf
    refine r_sld (pc := 406) h hi45 dL_law_406 ?_
    refine r_aload_n (pc := 407) h dL_law_407 1 rfl rfl ?_
    refine r_iload (pc := 408) h dL_law_408 5 rfl ?_
    refine r_iconst (pc := 410) (v := (2 : Int32)) h dL_law_410 (by decide) ?_
    refine r_iadd (pc := 411) h dL_law_411 ?_
    obtain ⟨hi46, hf⟩ := gd_some hf
    refine r_sld (pc := 412) h hi46 dL_law_412 ?_
    refine r_aload_n (pc := 413) h dL_law_413 1 rfl rfl ?_
    refine r_iload (pc := 414) h dL_law_414 5 rfl ?_
    refine r_iconst (pc := 416) (v := (3 : Int32)) h dL_law_416 (by decide) ?_
    refine r_iadd (pc := 417) h dL_law_417 ?_
    obtain ⟨hi47, hf⟩ := gd_some hf
    refine r_sld (pc := 418) h hi47 dL_law_418 ?_
    refine r_if_eq (pc := 419) h 426 dL_law_419 (by decide) (fun hc48 => ?_) (fun hc48 => ?_)
    · have hf := ite_p hc48 hf
      refine r_iconst (pc := 426) (v := (0 : Int32)) h dL_law_426 (by decide) ?_
      obtain ⟨u66, N64, hc65, hf⟩ := bd_some hf
      refine r_callVi (pc := 427) (o := 37) (As := [.int (xs (Int32.toNatClampNeg (x4 + (1 : Int32)))), .int (xs (Int32.toNatClampNeg (x4 + (2 : Int32)))), .int (0 : Int32)]) (rest := []) h mv_L_112 dL_law_427 (by decide) rfl rfl (conX9_put hc65) rfl rfl (by decide) (Nat.le_of_ble_eq_true rfl) ⟨by omega, by omega⟩ ?_
      refine r_istore (pc := 430) (lv' := [(6, .int u66), (5, .int u44), (0, .ref b), (1, .ref (ad 0)), (2, .ref (ad 37)), (3, .ref (ad 55)), (4, .int x4)]) h dL_law_430 (by decide) rfl ?_
      refine r_aload_n (pc := 432) h dL_law_432 4 rfl rfl ?_
      obtain ⟨u69, N67, hc68, hf⟩ := bd_some hf
      refine r_callVi (pc := 433) (o := 37) (As := []) (rest := []) h mv_L_105 dL_law_433 (by decide) rfl rfl (conX9_thrown hc68) rfl rfl (by decide) (Nat.le_of_ble_eq_true rfl) ⟨by omega, by omega⟩ ?_
      refine r_iload (pc := 436) h dL_law_436 1 rfl ?_
      refine r_icmp_eq (pc := 438) h 443 dL_law_438 (by decide) (fun hc70 => ?_) (fun hc70 => ?_)
      · have hf := ite_p hc70 hf
        refine r_iload (pc := 443) h dL_law_443 1 rfl ?_
        refine r_if_ne (pc := 445) h 467 dL_law_445 (by decide) (fun hc71 => ?_) (fun hc71 => ?_)
        · have hf := ite_n hc71 hf
          refine r_goto (pc := 467) h 1781 dL_law_467 (by decide) ?_
          obtain ⟨v78, ev78⟩ : ∃ y : Int32, y = x4 + (6 : Int32) := ⟨_, rfl⟩
          have hf := nm_app ev78 hf
          refine r_iinc (pc := 1781) (v := v78) (lv' := [(4, .int v78), (6, .int u66), (5, .int u44), (0, .ref b), (1, .ref (ad 0)), (2, .ref (ad 37)), (3, .ref (ad 55))]) h dL_law_1781 6 rfl (by rw [ev78]; rfl) (by decide) rfl ?_
          refine r_goto (pc := 1784) h 23 dL_law_1784 (by decide) ?_
          refine r_sub h [3, 4, 5, 6, 0] rfl ?_
          exact hk _ h _ N67 hf
        · have hf := ite_p hc71 hf
          refine r_aload_n (pc := 448) h dL_law_448 5 rfl rfl ?_
          refine r_iconst (pc := 449) (v := (0 : Int32)) h dL_law_449 (by decide) ?_
          obtain ⟨hi72, hf⟩ := gd_some hf
          refine r_lald (pc := 450) h (by decide) rfl hi72 dL_law_450 ?_
          refine r_iload (pc := 451) h dL_law_451 0 rfl ?_
          refine r_if_eq (pc := 453) h 460 dL_law_453 (by decide) (fun hc73 => ?_) (fun hc73 => ?_)
          · have hf := ite_p hc73 hf
            refine r_lconst (pc := 460) (v := (0 : Int64)) h dL_law_460 (by decide) ?_
            refine r_lcmp (pc := 461) h dL_law_461 ?_
            refine r_if_eq (pc := 462) h 467 dL_law_462 (by decide) (fun hc76 => ?_) (fun hc76 => ?_)
            · have hf := ite_p hc76 hf
              refine r_goto (pc := 467) h 1781 dL_law_467 (by decide) ?_
              obtain ⟨v77, ev77⟩ : ∃ y : Int32, y = x4 + (6 : Int32) := ⟨_, rfl⟩
              have hf := nm_app ev77 hf
              refine r_iinc (pc := 1781) (v := v77) (lv' := [(4, .int v77), (6, .int u66), (5, .int u44), (0, .ref b), (1, .ref (ad 0)), (2, .ref (ad 37)), (3, .ref (ad 55))]) h dL_law_1781 6 rfl (by rw [ev77]; rfl) (by decide) rfl ?_
              refine r_goto (pc := 1784) h 23 dL_law_1784 (by decide) ?_
              refine r_sub h [3, 4, 5, 6, 0] rfl ?_
              exact hk _ h _ N67 hf
            · have hf := ite_n hc76 hf
              refine r_iconst (pc := 465) (v := (0 : Int32)) h dL_law_465 (by decide) ?_
              cases hf
          · have hf := ite_n hc73 hf
            refine r_lconst (pc := 456) (v := (1 : Int64)) h dL_law_456 (by decide) ?_
            refine r_goto (pc := 457) h 461 dL_law_457 (by decide) ?_
            refine r_lcmp (pc := 461) h dL_law_461 ?_
            refine r_if_eq (pc := 462) h 467 dL_law_462 (by decide) (fun hc74 => ?_) (fun hc74 => ?_)
            · have hf := ite_p hc74 hf
              refine r_goto (pc := 467) h 1781 dL_law_467 (by decide) ?_
              obtain ⟨v75, ev75⟩ : ∃ y : Int32, y = x4 + (6 : Int32) := ⟨_, rfl⟩
              have hf := nm_app ev75 hf
              refine r_iinc (pc := 1781) (v := v75) (lv' := [(4, .int v75), (6, .int u66), (5, .int u44), (0, .ref b), (1, .ref (ad 0)), (2, .ref (ad 37)), (3, .ref (ad 55))]) h dL_law_1781 6 rfl (by rw [ev75]; rfl) (by decide) rfl ?_
              refine r_goto (pc := 1784) h 23 dL_law_1784 (by decide) ?_
              refine r_sub h [3, 4, 5, 6, 0] rfl ?_
              exact hk _ h _ N67 hf
            · have hf := ite_n hc74 hf
              refine r_iconst (pc := 465) (v := (0 : Int32)) h dL_law_465 (by decide) ?_
              cases hf
      · have hf := ite_n hc70 hf
        refine r_iconst (pc := 441) (v := (0 : Int32)) h dL_law_441 (by decide) ?_
        cases hf
    · have hf := ite_n hc48 hf
      refine r_iconst (pc := 422) (v := (1 : Int32)) h dL_law_422 (by decide) ?_
      refine r_goto (pc := 423) h 427 dL_law_423 (by decide) ?_
      obtain ⟨u51, N49, hc50, hf⟩ := bd_some hf
      refine r_callVi (pc := 427) (o := 37) (As := [.int (xs (Int32.toNatClampNeg (x4 + (1 : Int32)))), .int (xs (Int32.toNatClampNeg (x4 + (2 : Int32)))), .int (1 : Int32)]) (rest := []) h mv_L_112 dL_law_427 (by decide) rfl rfl (conX9_put hc50) rfl rfl (by decide) (Nat.le_of_ble_eq_true rfl) ⟨by omega, by omega⟩ ?_
      refine r_istore (pc := 430) (lv' := [(6, .int u51), (5, .int u44), (0, .ref b), (1, .ref (ad 0)), (2, .ref (ad 37)), (3, .ref (ad 55)), (4, .int x4)]) h dL_law_430 (by decide) rfl ?_
      refine r_aload_n (pc := 432) h dL_law_432 4 rfl rfl ?_
      obtain ⟨u54, N52, hc53, hf⟩ := bd_some hf
      refine r_callVi (pc := 433) (o := 37) (As := []) (rest := []) h mv_L_105 dL_law_433 (by decide) rfl rfl (conX9_thrown hc53) rfl rfl (by decide) (Nat.le_of_ble_eq_true rfl) ⟨by omega, by omega⟩ ?_
      refine r_iload (pc := 436) h dL_law_436 1 rfl ?_
      refine r_icmp_eq (pc := 438) h 443 dL_law_438 (by decide) (fun hc55 => ?_) (fun hc55 => ?_)
      · have hf := ite_p hc55 hf
        refine r_iload (pc := 443) h dL_law_443 1 rfl ?_
        refine r_if_ne (pc := 445) h 467 dL_law_445 (by decide) (fun hc56 => ?_) (fun hc56 => ?_)
        · have hf := ite_n hc56 hf
          refine r_goto (pc := 467) h 1781 dL_law_467 (by decide) ?_
          obtain ⟨v63, ev63⟩ : ∃ y : Int32, y = x4 + (6 : Int32) := ⟨_, rfl⟩
          have hf := nm_app ev63 hf
          refine r_iinc (pc := 1781) (v := v63) (lv' := [(4, .int v63), (6, .int u51), (5, .int u44), (0, .ref b), (1, .ref (ad 0)), (2, .ref (ad 37)), (3, .ref (ad 55))]) h dL_law_1781 6 rfl (by rw [ev63]; rfl) (by decide) rfl ?_
          refine r_goto (pc := 1784) h 23 dL_law_1784 (by decide) ?_
          refine r_sub h [3, 4, 5, 6, 0] rfl ?_
          exact hk _ h _ N52 hf
        · have hf := ite_p hc56 hf
          refine r_aload_n (pc := 448) h dL_law_448 5 rfl rfl ?_
          refine r_iconst (pc := 449) (v := (0 : Int32)) h dL_law_449 (by decide) ?_
          obtain ⟨hi57, hf⟩ := gd_some hf
          refine r_lald (pc := 450) h (by decide) rfl hi57 dL_law_450 ?_
          refine r_iload (pc := 451) h dL_law_451 0 rfl ?_
          refine r_if_eq (pc := 453) h 460 dL_law_453 (by decide) (fun hc58 => ?_) (fun hc58 => ?_)
          · have hf := ite_p hc58 hf
            refine r_lconst (pc := 460) (v := (0 : Int64)) h dL_law_460 (by decide) ?_
            refine r_lcmp (pc := 461) h dL_law_461 ?_
            refine r_if_eq (pc := 462) h 467 dL_law_462 (by decide) (fun hc61 => ?_) (fun hc61 => ?_)
            · have hf := ite_p hc61 hf
              refine r_goto (pc := 467) h 1781 dL_law_467 (by decide) ?_
              obtain ⟨v62, ev62⟩ : ∃ y : Int32, y = x4 + (6 : Int32) := ⟨_, rfl⟩
              have hf := nm_app ev62 hf
              refine r_iinc (pc := 1781) (v := v62) (lv' := [(4, .int v62), (6, .int u51), (5, .int u44), (0, .ref b), (1, .ref (ad 0)), (2, .ref (ad 37)), (3, .ref (ad 55))]) h dL_law_1781 6 rfl (by rw [ev62]; rfl) (by decide) rfl ?_
              refine r_goto (pc := 1784) h 23 dL_law_1784 (by decide) ?_
              refine r_sub h [3, 4, 5, 6, 0] rfl ?_
              exact hk _ h _ N52 hf
            · have hf := ite_n hc61 hf
              refine r_iconst (pc := 465) (v := (0 : Int32)) h dL_law_465 (by decide) ?_
              cases hf
          · have hf := ite_n hc58 hf
            refine r_lconst (pc := 456) (v := (1 : Int64)) h dL_law_456 (by decide) ?_
            refine r_goto (pc := 457) h 461 dL_law_457 (by decide) ?_
            refine r_lcmp (pc := 461) h dL_law_461 ?_
            refine r_if_eq (pc := 462) h 467 dL_law_462 (by decide) (fun hc59 => ?_) (fun hc59 => ?_)
            · have hf := ite_p hc59 hf
              refine r_goto (pc := 467) h 1781 dL_law_467 (by decide) ?_
              obtain ⟨v60, ev60⟩ : ∃ y : Int32, y = x4 + (6 : Int32) := ⟨_, rfl⟩
              have hf := nm_app ev60 hf
              refine r_iinc (pc := 1781) (v := v60) (lv' := [(4, .int v60), (6, .int u51), (5, .int u44), (0, .ref b), (1, .ref (ad 0)), (2, .ref (ad 37)), (3, .ref (ad 55))]) h dL_law_1781 6 rfl (by rw [ev60]; rfl) (by decide) rfl ?_
              refine r_goto (pc := 1784) h 23 dL_law_1784 (by decide) ?_
              refine r_sub h [3, 4, 5, 6, 0] rfl ?_
              exact hk _ h _ N52 hf
            · have hf := ite_n hc59 hf
              refine r_iconst (pc := 465) (v := (0 : Int32)) h dL_law_465 (by decide) ?_
              cases hf
      · have hf := ite_n hc55 hf
        refine r_iconst (pc := 441) (v := (0 : Int32)) h dL_law_441 (by decide) ?_
        cases hf
  · have hf := ite_n hc4 hf
    refine r_iconst (pc := 389) (v := (1 : Int32)) h dL_law_389 (by decide) ?_
    refine r_goto (pc := 390) h 394 dL_law_390 (by decide) ?_
    refine r_aload_n (pc := 394) h dL_law_394 3 rfl rfl ?_
    obtain ⟨u7, N5, hc6, hf⟩ := bd_some hf
    refine r_callW (pc := 395) (As := [.ref (ad 0), .int (xs (Int32.toNatClampNeg (x4 + (1 : Int32)))), .int (xs (Int32.toNatClampNeg (x4 + (2 : Int32)))), .int (1 : Int32), .ref (ad 55)]) (rest := []) h mw_L_109 dL_law_395 (cwL_put hl hc6) rfl rfl (by decide) (Nat.le_of_ble_eq_true rfl) ⟨by omega, by omega⟩ (fun V h => ?_)
    refine r_istore (pc := 398) (lv' := [(5, .int u7), (0, .ref b), (1, .ref (ad 0)), (2, .ref (ad 37)), (3, .ref (ad 55)), (4, .int x4)]) h dL_law_398 (by decide) rfl ?_
    refine r_aload_n (pc := 400) h dL_law_400 3 rfl rfl ?_
    refine r_aload_n (pc := 401) h dL_law_401 1 rfl rfl ?_
    refine r_iload (pc := 402) h dL_law_402 5 rfl ?_
    refine r_iconst (pc := 404) (v := (1 : Int32)) h dL_law_404 (by decide) ?_
    refine r_iadd (pc := 405) h dL_law_405 ?_
    obtain ⟨hi8, hf⟩ := gd_some hf
    refine r_sld (pc := 406) h hi8 dL_law_406 ?_
    refine r_aload_n (pc := 407) h dL_law_407 1 rfl rfl ?_
    refine r_iload (pc := 408) h dL_law_408 5 rfl ?_
    refine r_iconst (pc := 410) (v := (2 : Int32)) h dL_law_410 (by decide) ?_
    refine r_iadd (pc := 411) h dL_law_411 ?_
    obtain ⟨hi9, hf⟩ := gd_some hf
    refine r_sld (pc := 412) h hi9 dL_law_412 ?_
    refine r_aload_n (pc := 413) h dL_law_413 1 rfl rfl ?_
    refine r_iload (pc := 414) h dL_law_414 5 rfl ?_
    refine r_iconst (pc := 416) (v := (3 : Int32)) h dL_law_416 (by decide) ?_
    refine r_iadd (pc := 417) h dL_law_417 ?_
    obtain ⟨hi10, hf⟩ := gd_some hf
    refine r_sld (pc := 418) h hi10 dL_law_418 ?_
    refine r_if_eq (pc := 419) h 426 dL_law_419 (by decide) (fun hc11 => ?_) (fun hc11 => ?_)
    · have hf := ite_p hc11 hf
      refine r_iconst (pc := 426) (v := (0 : Int32)) h dL_law_426 (by decide) ?_
      obtain ⟨u29, N27, hc28, hf⟩ := bd_some hf
      refine r_callVi (pc := 427) (o := 37) (As := [.int (xs (Int32.toNatClampNeg (x4 + (1 : Int32)))), .int (xs (Int32.toNatClampNeg (x4 + (2 : Int32)))), .int (0 : Int32)]) (rest := []) h mv_L_112 dL_law_427 (by decide) rfl rfl (conX9_put hc28) rfl rfl (by decide) (Nat.le_of_ble_eq_true rfl) ⟨by omega, by omega⟩ ?_
      refine r_istore (pc := 430) (lv' := [(6, .int u29), (5, .int u7), (0, .ref b), (1, .ref (ad 0)), (2, .ref (ad 37)), (3, .ref (ad 55)), (4, .int x4)]) h dL_law_430 (by decide) rfl ?_
      refine r_aload_n (pc := 432) h dL_law_432 4 rfl rfl ?_
      obtain ⟨u32, N30, hc31, hf⟩ := bd_some hf
      refine r_callVi (pc := 433) (o := 37) (As := []) (rest := []) h mv_L_105 dL_law_433 (by decide) rfl rfl (conX9_thrown hc31) rfl rfl (by decide) (Nat.le_of_ble_eq_true rfl) ⟨by omega, by omega⟩ ?_
      refine r_iload (pc := 436) h dL_law_436 1 rfl ?_
      refine r_icmp_eq (pc := 438) h 443 dL_law_438 (by decide) (fun hc33 => ?_) (fun hc33 => ?_)
      · have hf := ite_p hc33 hf
        refine r_iload (pc := 443) h dL_law_443 1 rfl ?_
        refine r_if_ne (pc := 445) h 467 dL_law_445 (by decide) (fun hc34 => ?_) (fun hc34 => ?_)
        · have hf := ite_n hc34 hf
          refine r_goto (pc := 467) h 1781 dL_law_467 (by decide) ?_
          obtain ⟨v41, ev41⟩ : ∃ y : Int32, y = x4 + (6 : Int32) := ⟨_, rfl⟩
          have hf := nm_app ev41 hf
          refine r_iinc (pc := 1781) (v := v41) (lv' := [(4, .int v41), (6, .int u29), (5, .int u7), (0, .ref b), (1, .ref (ad 0)), (2, .ref (ad 37)), (3, .ref (ad 55))]) h dL_law_1781 6 rfl (by rw [ev41]; rfl) (by decide) rfl ?_
          refine r_goto (pc := 1784) h 23 dL_law_1784 (by decide) ?_
          refine r_sub h [3, 4, 5, 6, 0] rfl ?_
          exact hk _ h _ N30 hf
        · have hf := ite_p hc34 hf
          refine r_aload_n (pc := 448) h dL_law_448 5 rfl rfl ?_
          refine r_iconst (pc := 449) (v := (0 : Int32)) h dL_law_449 (by decide) ?_
          obtain ⟨hi35, hf⟩ := gd_some hf
          refine r_lald (pc := 450) h (by decide) rfl hi35 dL_law_450 ?_
          refine r_iload (pc := 451) h dL_law_451 0 rfl ?_
          refine r_if_eq (pc := 453) h 460 dL_law_453 (by decide) (fun hc36 => ?_) (fun hc36 => ?_)
          · have hf := ite_p hc36 hf
            refine r_lconst (pc := 460) (v := (0 : Int64)) h dL_law_460 (by decide) ?_
            refine r_lcmp (pc := 461) h dL_law_461 ?_
            refine r_if_eq (pc := 462) h 467 dL_law_462 (by decide) (fun hc39 => ?_) (fun hc39 => ?_)
            · have hf := ite_p hc39 hf
              refine r_goto (pc := 467) h 1781 dL_law_467 (by decide) ?_
              obtain ⟨v40, ev40⟩ : ∃ y : Int32, y = x4 + (6 : Int32) := ⟨_, rfl⟩
              have hf := nm_app ev40 hf
              refine r_iinc (pc := 1781) (v := v40) (lv' := [(4, .int v40), (6, .int u29), (5, .int u7), (0, .ref b), (1, .ref (ad 0)), (2, .ref (ad 37)), (3, .ref (ad 55))]) h dL_law_1781 6 rfl (by rw [ev40]; rfl) (by decide) rfl ?_
              refine r_goto (pc := 1784) h 23 dL_law_1784 (by decide) ?_
              refine r_sub h [3, 4, 5, 6, 0] rfl ?_
              exact hk _ h _ N30 hf
            · have hf := ite_n hc39 hf
              refine r_iconst (pc := 465) (v := (0 : Int32)) h dL_law_465 (by decide) ?_
              cases hf
          · have hf := ite_n hc36 hf
            refine r_lconst (pc := 456) (v := (1 : Int64)) h dL_law_456 (by decide) ?_
            refine r_goto (pc := 457) h 461 dL_law_457 (by decide) ?_
            refine r_lcmp (pc := 461) h dL_law_461 ?_
            refine r_if_eq (pc := 462) h 467 dL_law_462 (by decide) (fun hc37 => ?_) (fun hc37 => ?_)
            · have hf := ite_p hc37 hf
              refine r_goto (pc := 467) h 1781 dL_law_467 (by decide) ?_
              obtain ⟨v38, ev38⟩ : ∃ y : Int32, y = x4 + (6 : Int32) := ⟨_, rfl⟩
              have hf := nm_app ev38 hf
              refine r_iinc (pc := 1781) (v := v38) (lv' := [(4, .int v38), (6, .int u29), (5, .int u7), (0, .ref b), (1, .ref (ad 0)), (2, .ref (ad 37)), (3, .ref (ad 55))]) h dL_law_1781 6 rfl (by rw [ev38]; rfl) (by decide) rfl ?_
              refine r_goto (pc := 1784) h 23 dL_law_1784 (by decide) ?_
              refine r_sub h [3, 4, 5, 6, 0] rfl ?_
              exact hk _ h _ N30 hf
            · have hf := ite_n hc37 hf
              refine r_iconst (pc := 465) (v := (0 : Int32)) h dL_law_465 (by decide) ?_
              cases hf
      · have hf := ite_n hc33 hf
        refine r_iconst (pc := 441) (v := (0 : Int32)) h dL_law_441 (by decide) ?_
        cases hf
    · have hf := ite_n hc11 hf
      refine r_iconst (pc := 422) (v := (1 : Int32)) h dL_law_422 (by decide) ?_
      refine r_goto (pc := 423) h 427 dL_law_423 (by decide) ?_
      obtain ⟨u14, N12, hc13, hf⟩ := bd_some hf
      refine r_callVi (pc := 427) (o := 37) (As := [.int (xs (Int32.toNatClampNeg (x4 + (1 : Int32)))), .int (xs (Int32.toNatClampNeg (x4 + (2 : Int32)))), .int (1 : Int32)]) (rest := []) h mv_L_112 dL_law_427 (by decide) rfl rfl (conX9_put hc13) rfl rfl (by decide) (Nat.le_of_ble_eq_true rfl) ⟨by omega, by omega⟩ ?_
      refine r_istore (pc := 430) (lv' := [(6, .int u14), (5, .int u7), (0, .ref b), (1, .ref (ad 0)), (2, .ref (ad 37)), (3, .ref (ad 55)), (4, .int x4)]) h dL_law_430 (by decide) rfl ?_
      refine r_aload_n (pc := 432) h dL_law_432 4 rfl rfl ?_
      obtain ⟨u17, N15, hc16, hf⟩ := bd_some hf
      refine r_callVi (pc := 433) (o := 37) (As := []) (rest := []) h mv_L_105 dL_law_433 (by decide) rfl rfl (conX9_thrown hc16) rfl rfl (by decide) (Nat.le_of_ble_eq_true rfl) ⟨by omega, by omega⟩ ?_
      refine r_iload (pc := 436) h dL_law_436 1 rfl ?_
      refine r_icmp_eq (pc := 438) h 443 dL_law_438 (by decide) (fun hc18 => ?_) (fun hc18 => ?_)
      · have hf := ite_p hc18 hf
        refine r_iload (pc := 443) h dL_law_443 1 rfl ?_
        refine r_if_ne (pc := 445) h 467 dL_law_445 (by decide) (fun hc19 => ?_) (fun hc19 => ?_)
        · have hf := ite_n hc19 hf
          refine r_goto (pc := 467) h 1781 dL_law_467 (by decide) ?_
          obtain ⟨v26, ev26⟩ : ∃ y : Int32, y = x4 + (6 : Int32) := ⟨_, rfl⟩
          have hf := nm_app ev26 hf
          refine r_iinc (pc := 1781) (v := v26) (lv' := [(4, .int v26), (6, .int u14), (5, .int u7), (0, .ref b), (1, .ref (ad 0)), (2, .ref (ad 37)), (3, .ref (ad 55))]) h dL_law_1781 6 rfl (by rw [ev26]; rfl) (by decide) rfl ?_
          refine r_goto (pc := 1784) h 23 dL_law_1784 (by decide) ?_
          refine r_sub h [3, 4, 5, 6, 0] rfl ?_
          exact hk _ h _ N15 hf
        · have hf := ite_p hc19 hf
          refine r_aload_n (pc := 448) h dL_law_448 5 rfl rfl ?_
          refine r_iconst (pc := 449) (v := (0 : Int32)) h dL_law_449 (by decide) ?_
          obtain ⟨hi20, hf⟩ := gd_some hf
          refine r_lald (pc := 450) h (by decide) rfl hi20 dL_law_450 ?_
          refine r_iload (pc := 451) h dL_law_451 0 rfl ?_
          refine r_if_eq (pc := 453) h 460 dL_law_453 (by decide) (fun hc21 => ?_) (fun hc21 => ?_)
          · have hf := ite_p hc21 hf
            refine r_lconst (pc := 460) (v := (0 : Int64)) h dL_law_460 (by decide) ?_
            refine r_lcmp (pc := 461) h dL_law_461 ?_
            refine r_if_eq (pc := 462) h 467 dL_law_462 (by decide) (fun hc24 => ?_) (fun hc24 => ?_)
            · have hf := ite_p hc24 hf
              refine r_goto (pc := 467) h 1781 dL_law_467 (by decide) ?_
              obtain ⟨v25, ev25⟩ : ∃ y : Int32, y = x4 + (6 : Int32) := ⟨_, rfl⟩
              have hf := nm_app ev25 hf
              refine r_iinc (pc := 1781) (v := v25) (lv' := [(4, .int v25), (6, .int u14), (5, .int u7), (0, .ref b), (1, .ref (ad 0)), (2, .ref (ad 37)), (3, .ref (ad 55))]) h dL_law_1781 6 rfl (by rw [ev25]; rfl) (by decide) rfl ?_
              refine r_goto (pc := 1784) h 23 dL_law_1784 (by decide) ?_
              refine r_sub h [3, 4, 5, 6, 0] rfl ?_
              exact hk _ h _ N15 hf
            · have hf := ite_n hc24 hf
              refine r_iconst (pc := 465) (v := (0 : Int32)) h dL_law_465 (by decide) ?_
              cases hf
          · have hf := ite_n hc21 hf
            refine r_lconst (pc := 456) (v := (1 : Int64)) h dL_law_456 (by decide) ?_
            refine r_goto (pc := 457) h 461 dL_law_457 (by decide) ?_
            refine r_lcmp (pc := 461) h dL_law_461 ?_
            refine r_if_eq (pc := 462) h 467 dL_law_462 (by decide) (fun hc22 => ?_) (fun hc22 => ?_)
            · have hf := ite_p hc22 hf
              refine r_goto (pc := 467) h 1781 dL_law_467 (by decide) ?_
              obtain ⟨v23, ev23⟩ : ∃ y : Int32, y = x4 + (6 : Int32) := ⟨_, rfl⟩
              have hf := nm_app ev23 hf
              refine r_iinc (pc := 1781) (v := v23) (lv' := [(4, .int v23), (6, .int u14), (5, .int u7), (0, .ref b), (1, .ref (ad 0)), (2, .ref (ad 37)), (3, .ref (ad 55))]) h dL_law_1781 6 rfl (by rw [ev23]; rfl) (by decide) rfl ?_
              refine r_goto (pc := 1784) h 23 dL_law_1784 (by decide) ?_
              refine r_sub h [3, 4, 5, 6, 0] rfl ?_
              exact hk _ h _ N15 hf
            · have hf := ite_n hc22 hf
              refine r_iconst (pc := 465) (v := (0 : Int32)) h dL_law_465 (by decide) ?_
              cases hf
      · have hf := ite_n hc18 hf
        refine r_iconst (pc := 441) (v := (0 : Int32)) h dL_law_441 (by decide) ?_
        cases hf
def fL_c470 (F : Nat) (xs : Nat → Int32) (L : Nat) (k : Int32 → Mem → Option Mem) (x4 : Int32) (M : Mem) : Option Mem := gd (inb (x4 + (1 : Int32)) L) (gd (inb (x4 + (2 : Int32)) L) (bd (wL_has F (xs (Int32.toNatClampNeg (x4 + (1 : Int32)))) (xs (Int32.toNatClampNeg (x4 + (2 : Int32)))) M) (fun u5 N3 => gd (inb (x4 + (1 : Int32)) L) (gd (inb (x4 + (2 : Int32)) L) (bd (fX9_has F (xs (Int32.toNatClampNeg (x4 + (1 : Int32)))) (xs (Int32.toNatClampNeg (x4 + (2 : Int32)))) N3) (fun u10 N8 => bd (fX9_thrown F N8) (fun u13 N11 => if u13 = u5 then (if u5 = 0 then (gd (inb (0 : Int32) 1) (if u10 = 0 then (if (lg_cmp (N11.2 55 (Int32.toNatClampNeg (0 : Int32))) (0 : Int64)) = 0 then (nm (x4 + (6 : Int32)) (fun v21 : Int32 => k v21 N11)) else (none)) else (if (lg_cmp (N11.2 55 (Int32.toNatClampNeg (0 : Int32))) (1 : Int64)) = 0 then (nm (x4 + (6 : Int32)) (fun v19 : Int32 => k v19 N11)) else (none)))) else (nm (x4 + (6 : Int32)) (fun v22 : Int32 => k v22 N11))) else (none))))))))
set_option maxRecDepth 100000 in
set_option maxHeartbeats 8000000 in
theorem wL_c470 {l : Launch} {D : va_G} {ad : Nat → Nat} {ca : Nat → ClassId} {b L : Nat} {xs : Nat → Int32} {F : Nat} {M' : Mem} (hl : l.stackTraces = false) {k : Int32 → Mem → Option Mem} {kc ks : Nat} (hz : kc + 1 ≤ room_1.cells ∧ ks + 6 ≤ room_1.slots) (hk : ∀ V1 : Jdg, MchL l D ad ca b L xs (kc + 1) (ks + 6) V1 → ∀ (x4 : Int32) (M : Mem), k x4 M = some M' → V1 M 23 [(0, .ref b), (1, .ref (ad 0)), (2, .ref (ad 37)), (3, .ref (ad 55)), (4, .int x4)] []) {V : Jdg} (h : MchL l D ad ca b L xs kc ks V) (x4 : Int32) (M : Mem) (hf : fL_c470 F xs L k x4 M = some M') : V M 470 [(0, .ref b), (1, .ref (ad 0)), (2, .ref (ad 37)), (3, .ref (ad 55)), (4, .int x4)] [] := by
  obtain ⟨hz1, hz2⟩ := hz
  unfold fL_c470 at hf
  refine r_aload_n (pc := 470) h dL_law_470 1 rfl rfl ?_
  refine r_aload_n (pc := 471) h dL_law_471 0 rfl rfl ?_
  refine r_iload (pc := 472) h dL_law_472 4 rfl ?_
  refine r_iconst (pc := 474) (v := (1 : Int32)) h dL_law_474 (by decide) ?_
  refine r_iadd (pc := 475) h dL_law_475 ?_
  obtain ⟨hi1, hf⟩ := gd_some hf
  refine r_sld (pc := 476) h hi1 dL_law_476 ?_
  refine r_aload_n (pc := 477) h dL_law_477 0 rfl rfl ?_
  refine r_iload (pc := 478) h dL_law_478 4 rfl ?_
  refine r_iconst (pc := 480) (v := (2 : Int32)) h dL_law_480 (by decide) ?_
  refine r_iadd (pc := 481) h dL_law_481 ?_
  obtain ⟨hi2, hf⟩ := gd_some hf
  refine r_sld (pc := 482) h hi2 dL_law_482 ?_
  refine r_aload_n (pc := 483) h dL_law_483 3 rfl rfl ?_
  obtain ⟨u5, N3, hc4, hf⟩ := bd_some hf
  refine r_callW (pc := 484) (As := [.ref (ad 0), .int (xs (Int32.toNatClampNeg (x4 + (1 : Int32)))), .int (xs (Int32.toNatClampNeg (x4 + (2 : Int32)))), .ref (ad 55)]) (rest := []) h mw_L_113 dL_law_484 (cwL_has hl hc4) rfl rfl (by decide) (Nat.le_of_ble_eq_true rfl) ⟨by omega, by omega⟩ (fun V h => ?_)
  refine r_istore (pc := 487) (lv' := [(5, .int u5), (0, .ref b), (1, .ref (ad 0)), (2, .ref (ad 37)), (3, .ref (ad 55)), (4, .int x4)]) h dL_law_487 (by decide) rfl ?_
  refine r_aload_n (pc := 489) h dL_law_489 3 rfl rfl ?_
  refine r_aload_n (pc := 490) h dL_law_490 1 rfl rfl ?_
  refine r_iload (pc := 491) h dL_law_491 5 rfl ?_
  refine r_iconst (pc := 493) (v := (1 : Int32)) h dL_law_493 (by decide) ?_
  refine r_iadd (pc := 494) h dL_law_494 ?_
  obtain ⟨hi6, hf⟩ := gd_some hf
  refine r_sld (pc := 495) h hi6 dL_law_495 ?_
  refine r_aload_n (pc := 496) h dL_law_496 1 rfl rfl ?_
  refine r_iload (pc := 497) h dL_law_497 5 rfl ?_
  refine r_iconst (pc := 499) (v := (2 : Int32)) h dL_law_499 (by decide) ?_
  refine r_iadd (pc := 500) h dL_law_500 ?_
  obtain ⟨hi7, hf⟩ := gd_some hf
  refine r_sld (pc := 501) h hi7 dL_law_501 ?_
  obtain ⟨u10, N8, hc9, hf⟩ := bd_some hf
  refine r_callVi (pc := 502) (o := 37) (As := [.int (xs (Int32.toNatClampNeg (x4 + (1 : Int32)))), .int (xs (Int32.toNatClampNeg (x4 + (2 : Int32))))]) (rest := []) h mv_L_115 dL_law_502 (by decide) rfl rfl (conX9_has hc9) rfl rfl (by decide) (Nat.le_of_ble_eq_true rfl) ⟨by omega, by omega⟩ ?_
  refine r_istore (pc := 505) (lv' := [(6, .int u10), (5, .int u5), (0, .ref b), (1, .ref (ad 0)), (2, .ref (ad 37)), (3, .ref (ad 55)), (4, .int x4)]) h dL_law_505 (by decide) rfl ?_
  refine r_aload_n (pc := 507) h dL_law_507 4 rfl rfl ?_
  obtain ⟨u13, N11, hc12, hf⟩ := bd_some hf
  refine r_callVi (pc := 508) (o := 37) (As := []) (rest := []) h mv_L_105 dL_law_508 (by decide) rfl rfl (conX9_thrown hc12) rfl rfl (by decide) (Nat.le_of_ble_eq_true rfl) ⟨by omega, by omega⟩ ?_
  refine r_iload (pc := 511) h dL_law_511 1 rfl ?_
  refine r_icmp_eq (pc := 513) h 518 dL_law_513 (by decide) (fun hc14 => ?_) (fun hc14 => ?_)
  · have hf := ite_p hc14 hf
    refine r_iload (pc := 518) h dL_law_518 1 rfl ?_
    refine r_if_ne (pc := 520) h 542 dL_law_520 (by decide) (fun hc15 => ?_) (fun hc15 => ?_)
    · have hf := ite_n hc15 hf
      refine r_goto (pc := 542) h 1781 dL_law_542 (by decide) ?_
      obtain ⟨v22, ev22⟩ : ∃ y : Int32, y = x4 + (6 : Int32) := ⟨_, rfl⟩
      have hf := nm_app ev22 hf
      refine r_iinc (pc := 1781) (v := v22) (lv' := [(4, .int v22), (6, .int u10), (5, .int u5), (0, .ref b), (1, .ref (ad 0)), (2, .ref (ad 37)), (3, .ref (ad 55))]) h dL_law_1781 6 rfl (by rw [ev22]; rfl) (by decide) rfl ?_
      refine r_goto (pc := 1784) h 23 dL_law_1784 (by decide) ?_
      refine r_sub h [3, 4, 5, 6, 0] rfl ?_
      exact hk _ h _ N11 hf
    · have hf := ite_p hc15 hf
      refine r_aload_n (pc := 523) h dL_law_523 5 rfl rfl ?_
      refine r_iconst (pc := 524) (v := (0 : Int32)) h dL_law_524 (by decide) ?_
      obtain ⟨hi16, hf⟩ := gd_some hf
      refine r_lald (pc := 525) h (by decide) rfl hi16 dL_law_525 ?_
      refine r_iload (pc := 526) h dL_law_526 0 rfl ?_
      refine r_if_eq (pc := 528) h 535 dL_law_528 (by decide) (fun hc17 => ?_) (fun hc17 => ?_)
      · have hf := ite_p hc17 hf
        refine r_lconst (pc := 535) (v := (0 : Int64)) h dL_law_535 (by decide) ?_
        refine r_lcmp (pc := 536) h dL_law_536 ?_
        refine r_if_eq (pc := 537) h 542 dL_law_537 (by decide) (fun hc20 => ?_) (fun hc20 => ?_)
        · have hf := ite_p hc20 hf
          refine r_goto (pc := 542) h 1781 dL_law_542 (by decide) ?_
          obtain ⟨v21, ev21⟩ : ∃ y : Int32, y = x4 + (6 : Int32) := ⟨_, rfl⟩
          have hf := nm_app ev21 hf
          refine r_iinc (pc := 1781) (v := v21) (lv' := [(4, .int v21), (6, .int u10), (5, .int u5), (0, .ref b), (1, .ref (ad 0)), (2, .ref (ad 37)), (3, .ref (ad 55))]) h dL_law_1781 6 rfl (by rw [ev21]; rfl) (by decide) rfl ?_
          refine r_goto (pc := 1784) h 23 dL_law_1784 (by decide) ?_
          refine r_sub h [3, 4, 5, 6, 0] rfl ?_
          exact hk _ h _ N11 hf
        · have hf := ite_n hc20 hf
          refine r_iconst (pc := 540) (v := (0 : Int32)) h dL_law_540 (by decide) ?_
          cases hf
      · have hf := ite_n hc17 hf
        refine r_lconst (pc := 531) (v := (1 : Int64)) h dL_law_531 (by decide) ?_
        refine r_goto (pc := 532) h 536 dL_law_532 (by decide) ?_
        refine r_lcmp (pc := 536) h dL_law_536 ?_
        refine r_if_eq (pc := 537) h 542 dL_law_537 (by decide) (fun hc18 => ?_) (fun hc18 => ?_)
        · have hf := ite_p hc18 hf
          refine r_goto (pc := 542) h 1781 dL_law_542 (by decide) ?_
          obtain ⟨v19, ev19⟩ : ∃ y : Int32, y = x4 + (6 : Int32) := ⟨_, rfl⟩
          have hf := nm_app ev19 hf
          refine r_iinc (pc := 1781) (v := v19) (lv' := [(4, .int v19), (6, .int u10), (5, .int u5), (0, .ref b), (1, .ref (ad 0)), (2, .ref (ad 37)), (3, .ref (ad 55))]) h dL_law_1781 6 rfl (by rw [ev19]; rfl) (by decide) rfl ?_
          refine r_goto (pc := 1784) h 23 dL_law_1784 (by decide) ?_
          refine r_sub h [3, 4, 5, 6, 0] rfl ?_
          exact hk _ h _ N11 hf
        · have hf := ite_n hc18 hf
          refine r_iconst (pc := 540) (v := (0 : Int32)) h dL_law_540 (by decide) ?_
          cases hf
  · have hf := ite_n hc14 hf
    refine r_iconst (pc := 516) (v := (0 : Int32)) h dL_law_516 (by decide) ?_
    cases hf
def fL_c545 (F : Nat) (xs : Nat → Int32) (L : Nat) (k : Int32 → Mem → Option Mem) (x4 : Int32) (M : Mem) : Option Mem := gd (inb (x4 + (1 : Int32)) L) (bd (wL_size F (xs (Int32.toNatClampNeg (x4 + (1 : Int32)))) M) (fun u4 N2 => gd (inb (x4 + (1 : Int32)) L) (bd (fX9_size F (xs (Int32.toNatClampNeg (x4 + (1 : Int32)))) N2) (fun u8 N6 => bd (fX9_thrown F N6) (fun u11 N9 => if u11 = u4 then (if u4 = 0 then (gd (inb (0 : Int32) 1) (if (lg_cmp (N9.2 55 (Int32.toNatClampNeg (0 : Int32))) (Int32.toInt64 u8)) = 0 then (nm (x4 + (6 : Int32)) (fun v16 : Int32 => k v16 N9)) else (none))) else (nm (x4 + (6 : Int32)) (fun v17 : Int32 => k v17 N9))) else (none))))))
set_option maxRecDepth 100000 in
set_option maxHeartbeats 8000000 in
theorem wL_c545 {l : Launch} {D : va_G} {ad : Nat → Nat} {ca : Nat → ClassId} {b L : Nat} {xs : Nat → Int32} {F : Nat} {M' : Mem} (hl : l.stackTraces = false) {k : Int32 → Mem → Option Mem} {kc ks : Nat} (hz : kc + 1 ≤ room_1.cells ∧ ks + 6 ≤ room_1.slots) (hk : ∀ V1 : Jdg, MchL l D ad ca b L xs (kc + 1) (ks + 6) V1 → ∀ (x4 : Int32) (M : Mem), k x4 M = some M' → V1 M 23 [(0, .ref b), (1, .ref (ad 0)), (2, .ref (ad 37)), (3, .ref (ad 55)), (4, .int x4)] []) {V : Jdg} (h : MchL l D ad ca b L xs kc ks V) (x4 : Int32) (M : Mem) (hf : fL_c545 F xs L k x4 M = some M') : V M 545 [(0, .ref b), (1, .ref (ad 0)), (2, .ref (ad 37)), (3, .ref (ad 55)), (4, .int x4)] [] := by
  obtain ⟨hz1, hz2⟩ := hz
  unfold fL_c545 at hf
  refine r_aload_n (pc := 545) h dL_law_545 1 rfl rfl ?_
  refine r_aload_n (pc := 546) h dL_law_546 0 rfl rfl ?_
  refine r_iload (pc := 547) h dL_law_547 4 rfl ?_
  refine r_iconst (pc := 549) (v := (1 : Int32)) h dL_law_549 (by decide) ?_
  refine r_iadd (pc := 550) h dL_law_550 ?_
  obtain ⟨hi1, hf⟩ := gd_some hf
  refine r_sld (pc := 551) h hi1 dL_law_551 ?_
  refine r_aload_n (pc := 552) h dL_law_552 3 rfl rfl ?_
  obtain ⟨u4, N2, hc3, hf⟩ := bd_some hf
  refine r_callW (pc := 553) (As := [.ref (ad 0), .int (xs (Int32.toNatClampNeg (x4 + (1 : Int32)))), .ref (ad 55)]) (rest := []) h mw_L_116 dL_law_553 (cwL_size hl hc3) rfl rfl (by decide) (Nat.le_of_ble_eq_true rfl) ⟨by omega, by omega⟩ (fun V h => ?_)
  refine r_istore (pc := 556) (lv' := [(5, .int u4), (0, .ref b), (1, .ref (ad 0)), (2, .ref (ad 37)), (3, .ref (ad 55)), (4, .int x4)]) h dL_law_556 (by decide) rfl ?_
  refine r_aload_n (pc := 558) h dL_law_558 3 rfl rfl ?_
  refine r_aload_n (pc := 559) h dL_law_559 1 rfl rfl ?_
  refine r_iload (pc := 560) h dL_law_560 5 rfl ?_
  refine r_iconst (pc := 562) (v := (1 : Int32)) h dL_law_562 (by decide) ?_
  refine r_iadd (pc := 563) h dL_law_563 ?_
  obtain ⟨hi5, hf⟩ := gd_some hf
  refine r_sld (pc := 564) h hi5 dL_law_564 ?_
  obtain ⟨u8, N6, hc7, hf⟩ := bd_some hf
  refine r_callVi (pc := 565) (o := 37) (As := [.int (xs (Int32.toNatClampNeg (x4 + (1 : Int32))))]) (rest := []) h mv_L_119 dL_law_565 (by decide) rfl rfl (conX9_size hc7) rfl rfl (by decide) (Nat.le_of_ble_eq_true rfl) ⟨by omega, by omega⟩ ?_
  refine r_istore (pc := 568) (lv' := [(6, .int u8), (5, .int u4), (0, .ref b), (1, .ref (ad 0)), (2, .ref (ad 37)), (3, .ref (ad 55)), (4, .int x4)]) h dL_law_568 (by decide) rfl ?_
  refine r_aload_n (pc := 570) h dL_law_570 4 rfl rfl ?_
  obtain ⟨u11, N9, hc10, hf⟩ := bd_some hf
  refine r_callVi (pc := 571) (o := 37) (As := []) (rest := []) h mv_L_105 dL_law_571 (by decide) rfl rfl (conX9_thrown hc10) rfl rfl (by decide) (Nat.le_of_ble_eq_true rfl) ⟨by omega, by omega⟩ ?_
  refine r_iload (pc := 574) h dL_law_574 1 rfl ?_
  refine r_icmp_eq (pc := 576) h 581 dL_law_576 (by decide) (fun hc12 => ?_) (fun hc12 => ?_)
  · have hf := ite_p hc12 hf
    refine r_iload (pc := 581) h dL_law_581 1 rfl ?_
    refine r_if_ne (pc := 583) h 598 dL_law_583 (by decide) (fun hc13 => ?_) (fun hc13 => ?_)
    · have hf := ite_n hc13 hf
      refine r_goto (pc := 598) h 1781 dL_law_598 (by decide) ?_
      obtain ⟨v17, ev17⟩ : ∃ y : Int32, y = x4 + (6 : Int32) := ⟨_, rfl⟩
      have hf := nm_app ev17 hf
      refine r_iinc (pc := 1781) (v := v17) (lv' := [(4, .int v17), (6, .int u8), (5, .int u4), (0, .ref b), (1, .ref (ad 0)), (2, .ref (ad 37)), (3, .ref (ad 55))]) h dL_law_1781 6 rfl (by rw [ev17]; rfl) (by decide) rfl ?_
      refine r_goto (pc := 1784) h 23 dL_law_1784 (by decide) ?_
      refine r_sub h [3, 4, 5, 6, 0] rfl ?_
      exact hk _ h _ N9 hf
    · have hf := ite_p hc13 hf
      refine r_aload_n (pc := 586) h dL_law_586 5 rfl rfl ?_
      refine r_iconst (pc := 587) (v := (0 : Int32)) h dL_law_587 (by decide) ?_
      obtain ⟨hi14, hf⟩ := gd_some hf
      refine r_lald (pc := 588) h (by decide) rfl hi14 dL_law_588 ?_
      refine r_iload (pc := 589) h dL_law_589 0 rfl ?_
      refine r_i2l (pc := 591) h dL_law_591 ?_
      refine r_lcmp (pc := 592) h dL_law_592 ?_
      refine r_if_eq (pc := 593) h 598 dL_law_593 (by decide) (fun hc15 => ?_) (fun hc15 => ?_)
      · have hf := ite_p hc15 hf
        refine r_goto (pc := 598) h 1781 dL_law_598 (by decide) ?_
        obtain ⟨v16, ev16⟩ : ∃ y : Int32, y = x4 + (6 : Int32) := ⟨_, rfl⟩
        have hf := nm_app ev16 hf
        refine r_iinc (pc := 1781) (v := v16) (lv' := [(4, .int v16), (6, .int u8), (5, .int u4), (0, .ref b), (1, .ref (ad 0)), (2, .ref (ad 37)), (3, .ref (ad 55))]) h dL_law_1781 6 rfl (by rw [ev16]; rfl) (by decide) rfl ?_
        refine r_goto (pc := 1784) h 23 dL_law_1784 (by decide) ?_
        refine r_sub h [3, 4, 5, 6, 0] rfl ?_
        exact hk _ h _ N9 hf
      · have hf := ite_n hc15 hf
        refine r_iconst (pc := 596) (v := (0 : Int32)) h dL_law_596 (by decide) ?_
        cases hf
  · have hf := ite_n hc12 hf
    refine r_iconst (pc := 579) (v := (0 : Int32)) h dL_law_579 (by decide) ?_
    cases hf
def fL_c601 (F : Nat) (xs : Nat → Int32) (L : Nat) (k : Int32 → Mem → Option Mem) (x4 : Int32) (M : Mem) : Option Mem := gd (inb (x4 + (1 : Int32)) L) (gd (inb (x4 + (2 : Int32)) L) (bd (wL_at F (xs (Int32.toNatClampNeg (x4 + (1 : Int32)))) (xs (Int32.toNatClampNeg (x4 + (2 : Int32)))) M) (fun u5 N3 => gd (inb (x4 + (1 : Int32)) L) (gd (inb (x4 + (2 : Int32)) L) (bd (fX9_at F (xs (Int32.toNatClampNeg (x4 + (1 : Int32)))) (xs (Int32.toNatClampNeg (x4 + (2 : Int32)))) N3) (fun u10 N8 => bd (fX9_thrown F N8) (fun u13 N11 => if u13 = u5 then (if u5 = 0 then (gd (inb (0 : Int32) 1) (if (lg_cmp (N11.2 55 (Int32.toNatClampNeg (0 : Int32))) (Int32.toInt64 u10)) = 0 then (nm (x4 + (6 : Int32)) (fun v18 : Int32 => k v18 N11)) else (none))) else (nm (x4 + (6 : Int32)) (fun v19 : Int32 => k v19 N11))) else (none))))))))
set_option maxRecDepth 100000 in
set_option maxHeartbeats 8000000 in
theorem wL_c601 {l : Launch} {D : va_G} {ad : Nat → Nat} {ca : Nat → ClassId} {b L : Nat} {xs : Nat → Int32} {F : Nat} {M' : Mem} (hl : l.stackTraces = false) {k : Int32 → Mem → Option Mem} {kc ks : Nat} (hz : kc + 1 ≤ room_1.cells ∧ ks + 6 ≤ room_1.slots) (hk : ∀ V1 : Jdg, MchL l D ad ca b L xs (kc + 1) (ks + 6) V1 → ∀ (x4 : Int32) (M : Mem), k x4 M = some M' → V1 M 23 [(0, .ref b), (1, .ref (ad 0)), (2, .ref (ad 37)), (3, .ref (ad 55)), (4, .int x4)] []) {V : Jdg} (h : MchL l D ad ca b L xs kc ks V) (x4 : Int32) (M : Mem) (hf : fL_c601 F xs L k x4 M = some M') : V M 601 [(0, .ref b), (1, .ref (ad 0)), (2, .ref (ad 37)), (3, .ref (ad 55)), (4, .int x4)] [] := by
  obtain ⟨hz1, hz2⟩ := hz
  unfold fL_c601 at hf
  refine r_aload_n (pc := 601) h dL_law_601 1 rfl rfl ?_
  refine r_aload_n (pc := 602) h dL_law_602 0 rfl rfl ?_
  refine r_iload (pc := 603) h dL_law_603 4 rfl ?_
  refine r_iconst (pc := 605) (v := (1 : Int32)) h dL_law_605 (by decide) ?_
  refine r_iadd (pc := 606) h dL_law_606 ?_
  obtain ⟨hi1, hf⟩ := gd_some hf
  refine r_sld (pc := 607) h hi1 dL_law_607 ?_
  refine r_aload_n (pc := 608) h dL_law_608 0 rfl rfl ?_
  refine r_iload (pc := 609) h dL_law_609 4 rfl ?_
  refine r_iconst (pc := 611) (v := (2 : Int32)) h dL_law_611 (by decide) ?_
  refine r_iadd (pc := 612) h dL_law_612 ?_
  obtain ⟨hi2, hf⟩ := gd_some hf
  refine r_sld (pc := 613) h hi2 dL_law_613 ?_
  refine r_aload_n (pc := 614) h dL_law_614 3 rfl rfl ?_
  obtain ⟨u5, N3, hc4, hf⟩ := bd_some hf
  refine r_callW (pc := 615) (As := [.ref (ad 0), .int (xs (Int32.toNatClampNeg (x4 + (1 : Int32)))), .int (xs (Int32.toNatClampNeg (x4 + (2 : Int32)))), .ref (ad 55)]) (rest := []) h mw_L_120 dL_law_615 (cwL_at hl hc4) rfl rfl (by decide) (Nat.le_of_ble_eq_true rfl) ⟨by omega, by omega⟩ (fun V h => ?_)
  refine r_istore (pc := 618) (lv' := [(5, .int u5), (0, .ref b), (1, .ref (ad 0)), (2, .ref (ad 37)), (3, .ref (ad 55)), (4, .int x4)]) h dL_law_618 (by decide) rfl ?_
  refine r_aload_n (pc := 620) h dL_law_620 3 rfl rfl ?_
  refine r_aload_n (pc := 621) h dL_law_621 1 rfl rfl ?_
  refine r_iload (pc := 622) h dL_law_622 5 rfl ?_
  refine r_iconst (pc := 624) (v := (1 : Int32)) h dL_law_624 (by decide) ?_
  refine r_iadd (pc := 625) h dL_law_625 ?_
  obtain ⟨hi6, hf⟩ := gd_some hf
  refine r_sld (pc := 626) h hi6 dL_law_626 ?_
  refine r_aload_n (pc := 627) h dL_law_627 1 rfl rfl ?_
  refine r_iload (pc := 628) h dL_law_628 5 rfl ?_
  refine r_iconst (pc := 630) (v := (2 : Int32)) h dL_law_630 (by decide) ?_
  refine r_iadd (pc := 631) h dL_law_631 ?_
  obtain ⟨hi7, hf⟩ := gd_some hf
  refine r_sld (pc := 632) h hi7 dL_law_632 ?_
  obtain ⟨u10, N8, hc9, hf⟩ := bd_some hf
  refine r_callVi (pc := 633) (o := 37) (As := [.int (xs (Int32.toNatClampNeg (x4 + (1 : Int32)))), .int (xs (Int32.toNatClampNeg (x4 + (2 : Int32))))]) (rest := []) h mv_L_122 dL_law_633 (by decide) rfl rfl (conX9_at hc9) rfl rfl (by decide) (Nat.le_of_ble_eq_true rfl) ⟨by omega, by omega⟩ ?_
  refine r_istore (pc := 636) (lv' := [(6, .int u10), (5, .int u5), (0, .ref b), (1, .ref (ad 0)), (2, .ref (ad 37)), (3, .ref (ad 55)), (4, .int x4)]) h dL_law_636 (by decide) rfl ?_
  refine r_aload_n (pc := 638) h dL_law_638 4 rfl rfl ?_
  obtain ⟨u13, N11, hc12, hf⟩ := bd_some hf
  refine r_callVi (pc := 639) (o := 37) (As := []) (rest := []) h mv_L_105 dL_law_639 (by decide) rfl rfl (conX9_thrown hc12) rfl rfl (by decide) (Nat.le_of_ble_eq_true rfl) ⟨by omega, by omega⟩ ?_
  refine r_iload (pc := 642) h dL_law_642 1 rfl ?_
  refine r_icmp_eq (pc := 644) h 649 dL_law_644 (by decide) (fun hc14 => ?_) (fun hc14 => ?_)
  · have hf := ite_p hc14 hf
    refine r_iload (pc := 649) h dL_law_649 1 rfl ?_
    refine r_if_ne (pc := 651) h 666 dL_law_651 (by decide) (fun hc15 => ?_) (fun hc15 => ?_)
    · have hf := ite_n hc15 hf
      refine r_goto (pc := 666) h 1781 dL_law_666 (by decide) ?_
      obtain ⟨v19, ev19⟩ : ∃ y : Int32, y = x4 + (6 : Int32) := ⟨_, rfl⟩
      have hf := nm_app ev19 hf
      refine r_iinc (pc := 1781) (v := v19) (lv' := [(4, .int v19), (6, .int u10), (5, .int u5), (0, .ref b), (1, .ref (ad 0)), (2, .ref (ad 37)), (3, .ref (ad 55))]) h dL_law_1781 6 rfl (by rw [ev19]; rfl) (by decide) rfl ?_
      refine r_goto (pc := 1784) h 23 dL_law_1784 (by decide) ?_
      refine r_sub h [3, 4, 5, 6, 0] rfl ?_
      exact hk _ h _ N11 hf
    · have hf := ite_p hc15 hf
      refine r_aload_n (pc := 654) h dL_law_654 5 rfl rfl ?_
      refine r_iconst (pc := 655) (v := (0 : Int32)) h dL_law_655 (by decide) ?_
      obtain ⟨hi16, hf⟩ := gd_some hf
      refine r_lald (pc := 656) h (by decide) rfl hi16 dL_law_656 ?_
      refine r_iload (pc := 657) h dL_law_657 0 rfl ?_
      refine r_i2l (pc := 659) h dL_law_659 ?_
      refine r_lcmp (pc := 660) h dL_law_660 ?_
      refine r_if_eq (pc := 661) h 666 dL_law_661 (by decide) (fun hc17 => ?_) (fun hc17 => ?_)
      · have hf := ite_p hc17 hf
        refine r_goto (pc := 666) h 1781 dL_law_666 (by decide) ?_
        obtain ⟨v18, ev18⟩ : ∃ y : Int32, y = x4 + (6 : Int32) := ⟨_, rfl⟩
        have hf := nm_app ev18 hf
        refine r_iinc (pc := 1781) (v := v18) (lv' := [(4, .int v18), (6, .int u10), (5, .int u5), (0, .ref b), (1, .ref (ad 0)), (2, .ref (ad 37)), (3, .ref (ad 55))]) h dL_law_1781 6 rfl (by rw [ev18]; rfl) (by decide) rfl ?_
        refine r_goto (pc := 1784) h 23 dL_law_1784 (by decide) ?_
        refine r_sub h [3, 4, 5, 6, 0] rfl ?_
        exact hk _ h _ N11 hf
      · have hf := ite_n hc17 hf
        refine r_iconst (pc := 664) (v := (0 : Int32)) h dL_law_664 (by decide) ?_
        cases hf
  · have hf := ite_n hc14 hf
    refine r_iconst (pc := 647) (v := (0 : Int32)) h dL_law_647 (by decide) ?_
    cases hf
def fL_c669 (F : Nat) (xs : Nat → Int32) (L : Nat) (k : Int32 → Mem → Option Mem) (x4 : Int32) (M : Mem) : Option Mem := gd (inb (x4 + (1 : Int32)) L) (gd (inb (x4 + (2 : Int32)) L) (gd (inb (x4 + (3 : Int32)) L) (gd (inb (x4 + (4 : Int32)) L) (gd (inb (x4 + (5 : Int32)) L) (if (xs (Int32.toNatClampNeg (x4 + (5 : Int32)))) = 0 then (bd (fX8_law F (xs (Int32.toNatClampNeg (x4 + (1 : Int32)))) (xs (Int32.toNatClampNeg (x4 + (2 : Int32)))) (xs (Int32.toNatClampNeg (x4 + (3 : Int32)))) (xs (Int32.toNatClampNeg (x4 + (4 : Int32)))) (0 : Int32) M) (fun u28 N26 => gd (inb (x4 + (1 : Int32)) L) (gd (inb (x4 + (2 : Int32)) L) (gd (inb (x4 + (3 : Int32)) L) (gd (inb (x4 + (4 : Int32)) L) (gd (inb (x4 + (5 : Int32)) L) (if (xs (Int32.toNatClampNeg (x4 + (5 : Int32)))) = 0 then (bd (fX9_law F (xs (Int32.toNatClampNeg (x4 + (1 : Int32)))) (xs (Int32.toNatClampNeg (x4 + (2 : Int32)))) (xs (Int32.toNatClampNeg (x4 + (3 : Int32)))) (xs (Int32.toNatClampNeg (x4 + (4 : Int32)))) (0 : Int32) N26) (fun u42 N40 => if u28 = u42 then (nm (x4 + (6 : Int32)) (fun v44 : Int32 => k v44 N40)) else (none))) else (bd (fX9_law F (xs (Int32.toNatClampNeg (x4 + (1 : Int32)))) (xs (Int32.toNatClampNeg (x4 + (2 : Int32)))) (xs (Int32.toNatClampNeg (x4 + (3 : Int32)))) (xs (Int32.toNatClampNeg (x4 + (4 : Int32)))) (1 : Int32) N26) (fun u37 N35 => if u28 = u37 then (nm (x4 + (6 : Int32)) (fun v39 : Int32 => k v39 N35)) else (none)))))))))) else (bd (fX8_law F (xs (Int32.toNatClampNeg (x4 + (1 : Int32)))) (xs (Int32.toNatClampNeg (x4 + (2 : Int32)))) (xs (Int32.toNatClampNeg (x4 + (3 : Int32)))) (xs (Int32.toNatClampNeg (x4 + (4 : Int32)))) (1 : Int32) M) (fun u9 N7 => gd (inb (x4 + (1 : Int32)) L) (gd (inb (x4 + (2 : Int32)) L) (gd (inb (x4 + (3 : Int32)) L) (gd (inb (x4 + (4 : Int32)) L) (gd (inb (x4 + (5 : Int32)) L) (if (xs (Int32.toNatClampNeg (x4 + (5 : Int32)))) = 0 then (bd (fX9_law F (xs (Int32.toNatClampNeg (x4 + (1 : Int32)))) (xs (Int32.toNatClampNeg (x4 + (2 : Int32)))) (xs (Int32.toNatClampNeg (x4 + (3 : Int32)))) (xs (Int32.toNatClampNeg (x4 + (4 : Int32)))) (0 : Int32) N7) (fun u23 N21 => if u9 = u23 then (nm (x4 + (6 : Int32)) (fun v25 : Int32 => k v25 N21)) else (none))) else (bd (fX9_law F (xs (Int32.toNatClampNeg (x4 + (1 : Int32)))) (xs (Int32.toNatClampNeg (x4 + (2 : Int32)))) (xs (Int32.toNatClampNeg (x4 + (3 : Int32)))) (xs (Int32.toNatClampNeg (x4 + (4 : Int32)))) (1 : Int32) N7) (fun u18 N16 => if u9 = u18 then (nm (x4 + (6 : Int32)) (fun v20 : Int32 => k v20 N16)) else (none)))))))))))))))
set_option maxRecDepth 100000 in
set_option maxHeartbeats 8000000 in
theorem wL_c669 {l : Launch} {D : va_G} {ad : Nat → Nat} {ca : Nat → ClassId} {b L : Nat} {xs : Nat → Int32} {F : Nat} {M' : Mem} (hl : l.stackTraces = false) {k : Int32 → Mem → Option Mem} {kc ks : Nat} (hz : kc + 1 ≤ room_1.cells ∧ ks + 6 ≤ room_1.slots) (hk : ∀ V1 : Jdg, MchL l D ad ca b L xs (kc + 1) (ks + 6) V1 → ∀ (x4 : Int32) (M : Mem), k x4 M = some M' → V1 M 23 [(0, .ref b), (1, .ref (ad 0)), (2, .ref (ad 37)), (3, .ref (ad 55)), (4, .int x4)] []) {V : Jdg} (h : MchL l D ad ca b L xs kc ks V) (x4 : Int32) (M : Mem) (hf : fL_c669 F xs L k x4 M = some M') : V M 669 [(0, .ref b), (1, .ref (ad 0)), (2, .ref (ad 37)), (3, .ref (ad 55)), (4, .int x4)] [] := by
  obtain ⟨hz1, hz2⟩ := hz
  unfold fL_c669 at hf
  refine r_aload_n (pc := 669) h dL_law_669 1 rfl rfl ?_
  refine r_aload_n (pc := 670) h dL_law_670 0 rfl rfl ?_
  refine r_iload (pc := 671) h dL_law_671 4 rfl ?_
  refine r_iconst (pc := 673) (v := (1 : Int32)) h dL_law_673 (by decide) ?_
  refine r_iadd (pc := 674) h dL_law_674 ?_
  obtain ⟨hi1, hf⟩ := gd_some hf
  refine r_sld (pc := 675) h hi1 dL_law_675 ?_
  refine r_aload_n (pc := 676) h dL_law_676 0 rfl rfl ?_
  refine r_iload (pc := 677) h dL_law_677 4 rfl ?_
  refine r_iconst (pc := 679) (v := (2 : Int32)) h dL_law_679 (by decide) ?_
  refine r_iadd (pc := 680) h dL_law_680 ?_
  obtain ⟨hi2, hf⟩ := gd_some hf
  refine r_sld (pc := 681) h hi2 dL_law_681 ?_
  refine r_aload_n (pc := 682) h dL_law_682 0 rfl rfl ?_
  refine r_iload (pc := 683) h dL_law_683 4 rfl ?_
  refine r_iconst (pc := 685) (v := (3 : Int32)) h dL_law_685 (by decide) ?_
  refine r_iadd (pc := 686) h dL_law_686 ?_
  obtain ⟨hi3, hf⟩ := gd_some hf
  refine r_sld (pc := 687) h hi3 dL_law_687 ?_
  refine r_aload_n (pc := 688) h dL_law_688 0 rfl rfl ?_
  refine r_iload (pc := 689) h dL_law_689 4 rfl ?_
  refine r_iconst (pc := 691) (v := (4 : Int32)) h dL_law_691 (by decide) ?_
  refine r_iadd (pc := 692) h dL_law_692 ?_
  obtain ⟨hi4, hf⟩ := gd_some hf
  refine r_sld (pc := 693) h hi4 dL_law_693 ?_
  refine r_aload_n (pc := 694) h dL_law_694 0 rfl rfl ?_
  refine r_iload (pc := 695) h dL_law_695 4 rfl ?_
  refine r_iconst (pc := 697) (v := (5 : Int32)) h dL_law_697 (by decide) ?_
  refine r_iadd (pc := 698) h dL_law_698 ?_
  obtain ⟨hi5, hf⟩ := gd_some hf
  refine r_sld (pc := 699) h hi5 dL_law_699 ?_
  refine r_if_eq (pc := 700) h 707 dL_law_700 (by decide) (fun hc6 => ?_) (fun hc6 => ?_)
  · have hf := ite_p hc6 hf
    refine r_iconst (pc := 707) (v := (0 : Int32)) h dL_law_707 (by decide) ?_
    obtain ⟨u28, N26, hc27, hf⟩ := bd_some hf
    refine r_callVi (pc := 708) (o := 0) (As := [.int (xs (Int32.toNatClampNeg (x4 + (1 : Int32)))), .int (xs (Int32.toNatClampNeg (x4 + (2 : Int32)))), .int (xs (Int32.toNatClampNeg (x4 + (3 : Int32)))), .int (xs (Int32.toNatClampNeg (x4 + (4 : Int32)))), .int (0 : Int32)]) (rest := []) h mv_L_123 dL_law_708 (by decide) rfl rfl (conX8_law hc27) rfl rfl (by decide) (Nat.le_of_ble_eq_true rfl) ⟨by omega, by omega⟩ ?_
    refine r_aload_n (pc := 711) h dL_law_711 2 rfl rfl ?_
    refine r_aload_n (pc := 712) h dL_law_712 0 rfl rfl ?_
    refine r_iload (pc := 713) h dL_law_713 4 rfl ?_
    refine r_iconst (pc := 715) (v := (1 : Int32)) h dL_law_715 (by decide) ?_
    refine r_iadd (pc := 716) h dL_law_716 ?_
    obtain ⟨hi29, hf⟩ := gd_some hf
    refine r_sld (pc := 717) h hi29 dL_law_717 ?_
    refine r_aload_n (pc := 718) h dL_law_718 0 rfl rfl ?_
    refine r_iload (pc := 719) h dL_law_719 4 rfl ?_
    refine r_iconst (pc := 721) (v := (2 : Int32)) h dL_law_721 (by decide) ?_
    refine r_iadd (pc := 722) h dL_law_722 ?_
    obtain ⟨hi30, hf⟩ := gd_some hf
    refine r_sld (pc := 723) h hi30 dL_law_723 ?_
    refine r_aload_n (pc := 724) h dL_law_724 0 rfl rfl ?_
    refine r_iload (pc := 725) h dL_law_725 4 rfl ?_
    refine r_iconst (pc := 727) (v := (3 : Int32)) h dL_law_727 (by decide) ?_
    refine r_iadd (pc := 728) h dL_law_728 ?_
    obtain ⟨hi31, hf⟩ := gd_some hf
    refine r_sld (pc := 729) h hi31 dL_law_729 ?_
    refine r_aload_n (pc := 730) h dL_law_730 0 rfl rfl ?_
    refine r_iload (pc := 731) h dL_law_731 4 rfl ?_
    refine r_iconst (pc := 733) (v := (4 : Int32)) h dL_law_733 (by decide) ?_
    refine r_iadd (pc := 734) h dL_law_734 ?_
    obtain ⟨hi32, hf⟩ := gd_some hf
    refine r_sld (pc := 735) h hi32 dL_law_735 ?_
    refine r_aload_n (pc := 736) h dL_law_736 0 rfl rfl ?_
    refine r_iload (pc := 737) h dL_law_737 4 rfl ?_
    refine r_iconst (pc := 739) (v := (5 : Int32)) h dL_law_739 (by decide) ?_
    refine r_iadd (pc := 740) h dL_law_740 ?_
    obtain ⟨hi33, hf⟩ := gd_some hf
    refine r_sld (pc := 741) h hi33 dL_law_741 ?_
    refine r_if_eq (pc := 742) h 749 dL_law_742 (by decide) (fun hc34 => ?_) (fun hc34 => ?_)
    · have hf := ite_p hc34 hf
      refine r_iconst (pc := 749) (v := (0 : Int32)) h dL_law_749 (by decide) ?_
      obtain ⟨u42, N40, hc41, hf⟩ := bd_some hf
      refine r_callVi (pc := 750) (o := 37) (As := [.int (xs (Int32.toNatClampNeg (x4 + (1 : Int32)))), .int (xs (Int32.toNatClampNeg (x4 + (2 : Int32)))), .int (xs (Int32.toNatClampNeg (x4 + (3 : Int32)))), .int (xs (Int32.toNatClampNeg (x4 + (4 : Int32)))), .int (0 : Int32)]) (rest := [.int u28]) h mv_L_127 dL_law_750 (by decide) rfl rfl (conX9_law hc41) rfl rfl (by decide) (Nat.le_of_ble_eq_true rfl) ⟨by omega, by omega⟩ ?_
      refine r_icmp_eq (pc := 753) h 1781 dL_law_753 (by decide) (fun hc43 => ?_) (fun hc43 => ?_)
      · have hf := ite_p hc43 hf
        obtain ⟨v44, ev44⟩ : ∃ y : Int32, y = x4 + (6 : Int32) := ⟨_, rfl⟩
        have hf := nm_app ev44 hf
        refine r_iinc (pc := 1781) (v := v44) (lv' := [(4, .int v44), (0, .ref b), (1, .ref (ad 0)), (2, .ref (ad 37)), (3, .ref (ad 55))]) h dL_law_1781 4 rfl (by rw [ev44]; rfl) (by decide) rfl ?_
        refine r_goto (pc := 1784) h 23 dL_law_1784 (by decide) ?_
        refine r_widen h (fun V h => ?_)
        refine r_sub h [1, 2, 3, 4, 0] rfl ?_
        exact hk _ h _ N40 hf
      · have hf := ite_n hc43 hf
        refine r_iconst (pc := 756) (v := (0 : Int32)) h dL_law_756 (by decide) ?_
        cases hf
    · have hf := ite_n hc34 hf
      refine r_iconst (pc := 745) (v := (1 : Int32)) h dL_law_745 (by decide) ?_
      refine r_goto (pc := 746) h 750 dL_law_746 (by decide) ?_
      obtain ⟨u37, N35, hc36, hf⟩ := bd_some hf
      refine r_callVi (pc := 750) (o := 37) (As := [.int (xs (Int32.toNatClampNeg (x4 + (1 : Int32)))), .int (xs (Int32.toNatClampNeg (x4 + (2 : Int32)))), .int (xs (Int32.toNatClampNeg (x4 + (3 : Int32)))), .int (xs (Int32.toNatClampNeg (x4 + (4 : Int32)))), .int (1 : Int32)]) (rest := [.int u28]) h mv_L_127 dL_law_750 (by decide) rfl rfl (conX9_law hc36) rfl rfl (by decide) (Nat.le_of_ble_eq_true rfl) ⟨by omega, by omega⟩ ?_
      refine r_icmp_eq (pc := 753) h 1781 dL_law_753 (by decide) (fun hc38 => ?_) (fun hc38 => ?_)
      · have hf := ite_p hc38 hf
        obtain ⟨v39, ev39⟩ : ∃ y : Int32, y = x4 + (6 : Int32) := ⟨_, rfl⟩
        have hf := nm_app ev39 hf
        refine r_iinc (pc := 1781) (v := v39) (lv' := [(4, .int v39), (0, .ref b), (1, .ref (ad 0)), (2, .ref (ad 37)), (3, .ref (ad 55))]) h dL_law_1781 4 rfl (by rw [ev39]; rfl) (by decide) rfl ?_
        refine r_goto (pc := 1784) h 23 dL_law_1784 (by decide) ?_
        refine r_widen h (fun V h => ?_)
        refine r_sub h [1, 2, 3, 4, 0] rfl ?_
        exact hk _ h _ N35 hf
      · have hf := ite_n hc38 hf
        refine r_iconst (pc := 756) (v := (0 : Int32)) h dL_law_756 (by decide) ?_
        cases hf
  · have hf := ite_n hc6 hf
    refine r_iconst (pc := 703) (v := (1 : Int32)) h dL_law_703 (by decide) ?_
    refine r_goto (pc := 704) h 708 dL_law_704 (by decide) ?_
    obtain ⟨u9, N7, hc8, hf⟩ := bd_some hf
    refine r_callVi (pc := 708) (o := 0) (As := [.int (xs (Int32.toNatClampNeg (x4 + (1 : Int32)))), .int (xs (Int32.toNatClampNeg (x4 + (2 : Int32)))), .int (xs (Int32.toNatClampNeg (x4 + (3 : Int32)))), .int (xs (Int32.toNatClampNeg (x4 + (4 : Int32)))), .int (1 : Int32)]) (rest := []) h mv_L_123 dL_law_708 (by decide) rfl rfl (conX8_law hc8) rfl rfl (by decide) (Nat.le_of_ble_eq_true rfl) ⟨by omega, by omega⟩ ?_
    refine r_aload_n (pc := 711) h dL_law_711 2 rfl rfl ?_
    refine r_aload_n (pc := 712) h dL_law_712 0 rfl rfl ?_
    refine r_iload (pc := 713) h dL_law_713 4 rfl ?_
    refine r_iconst (pc := 715) (v := (1 : Int32)) h dL_law_715 (by decide) ?_
    refine r_iadd (pc := 716) h dL_law_716 ?_
    obtain ⟨hi10, hf⟩ := gd_some hf
    refine r_sld (pc := 717) h hi10 dL_law_717 ?_
    refine r_aload_n (pc := 718) h dL_law_718 0 rfl rfl ?_
    refine r_iload (pc := 719) h dL_law_719 4 rfl ?_
    refine r_iconst (pc := 721) (v := (2 : Int32)) h dL_law_721 (by decide) ?_
    refine r_iadd (pc := 722) h dL_law_722 ?_
    obtain ⟨hi11, hf⟩ := gd_some hf
    refine r_sld (pc := 723) h hi11 dL_law_723 ?_
    refine r_aload_n (pc := 724) h dL_law_724 0 rfl rfl ?_
    refine r_iload (pc := 725) h dL_law_725 4 rfl ?_
    refine r_iconst (pc := 727) (v := (3 : Int32)) h dL_law_727 (by decide) ?_
    refine r_iadd (pc := 728) h dL_law_728 ?_
    obtain ⟨hi12, hf⟩ := gd_some hf
    refine r_sld (pc := 729) h hi12 dL_law_729 ?_
    refine r_aload_n (pc := 730) h dL_law_730 0 rfl rfl ?_
    refine r_iload (pc := 731) h dL_law_731 4 rfl ?_
    refine r_iconst (pc := 733) (v := (4 : Int32)) h dL_law_733 (by decide) ?_
    refine r_iadd (pc := 734) h dL_law_734 ?_
    obtain ⟨hi13, hf⟩ := gd_some hf
    refine r_sld (pc := 735) h hi13 dL_law_735 ?_
    refine r_aload_n (pc := 736) h dL_law_736 0 rfl rfl ?_
    refine r_iload (pc := 737) h dL_law_737 4 rfl ?_
    refine r_iconst (pc := 739) (v := (5 : Int32)) h dL_law_739 (by decide) ?_
    refine r_iadd (pc := 740) h dL_law_740 ?_
    obtain ⟨hi14, hf⟩ := gd_some hf
    refine r_sld (pc := 741) h hi14 dL_law_741 ?_
    refine r_if_eq (pc := 742) h 749 dL_law_742 (by decide) (fun hc15 => ?_) (fun hc15 => ?_)
    · have hf := ite_p hc15 hf
      refine r_iconst (pc := 749) (v := (0 : Int32)) h dL_law_749 (by decide) ?_
      obtain ⟨u23, N21, hc22, hf⟩ := bd_some hf
      refine r_callVi (pc := 750) (o := 37) (As := [.int (xs (Int32.toNatClampNeg (x4 + (1 : Int32)))), .int (xs (Int32.toNatClampNeg (x4 + (2 : Int32)))), .int (xs (Int32.toNatClampNeg (x4 + (3 : Int32)))), .int (xs (Int32.toNatClampNeg (x4 + (4 : Int32)))), .int (0 : Int32)]) (rest := [.int u9]) h mv_L_127 dL_law_750 (by decide) rfl rfl (conX9_law hc22) rfl rfl (by decide) (Nat.le_of_ble_eq_true rfl) ⟨by omega, by omega⟩ ?_
      refine r_icmp_eq (pc := 753) h 1781 dL_law_753 (by decide) (fun hc24 => ?_) (fun hc24 => ?_)
      · have hf := ite_p hc24 hf
        obtain ⟨v25, ev25⟩ : ∃ y : Int32, y = x4 + (6 : Int32) := ⟨_, rfl⟩
        have hf := nm_app ev25 hf
        refine r_iinc (pc := 1781) (v := v25) (lv' := [(4, .int v25), (0, .ref b), (1, .ref (ad 0)), (2, .ref (ad 37)), (3, .ref (ad 55))]) h dL_law_1781 4 rfl (by rw [ev25]; rfl) (by decide) rfl ?_
        refine r_goto (pc := 1784) h 23 dL_law_1784 (by decide) ?_
        refine r_widen h (fun V h => ?_)
        refine r_sub h [1, 2, 3, 4, 0] rfl ?_
        exact hk _ h _ N21 hf
      · have hf := ite_n hc24 hf
        refine r_iconst (pc := 756) (v := (0 : Int32)) h dL_law_756 (by decide) ?_
        cases hf
    · have hf := ite_n hc15 hf
      refine r_iconst (pc := 745) (v := (1 : Int32)) h dL_law_745 (by decide) ?_
      refine r_goto (pc := 746) h 750 dL_law_746 (by decide) ?_
      obtain ⟨u18, N16, hc17, hf⟩ := bd_some hf
      refine r_callVi (pc := 750) (o := 37) (As := [.int (xs (Int32.toNatClampNeg (x4 + (1 : Int32)))), .int (xs (Int32.toNatClampNeg (x4 + (2 : Int32)))), .int (xs (Int32.toNatClampNeg (x4 + (3 : Int32)))), .int (xs (Int32.toNatClampNeg (x4 + (4 : Int32)))), .int (1 : Int32)]) (rest := [.int u9]) h mv_L_127 dL_law_750 (by decide) rfl rfl (conX9_law hc17) rfl rfl (by decide) (Nat.le_of_ble_eq_true rfl) ⟨by omega, by omega⟩ ?_
      refine r_icmp_eq (pc := 753) h 1781 dL_law_753 (by decide) (fun hc19 => ?_) (fun hc19 => ?_)
      · have hf := ite_p hc19 hf
        obtain ⟨v20, ev20⟩ : ∃ y : Int32, y = x4 + (6 : Int32) := ⟨_, rfl⟩
        have hf := nm_app ev20 hf
        refine r_iinc (pc := 1781) (v := v20) (lv' := [(4, .int v20), (0, .ref b), (1, .ref (ad 0)), (2, .ref (ad 37)), (3, .ref (ad 55))]) h dL_law_1781 4 rfl (by rw [ev20]; rfl) (by decide) rfl ?_
        refine r_goto (pc := 1784) h 23 dL_law_1784 (by decide) ?_
        refine r_widen h (fun V h => ?_)
        refine r_sub h [1, 2, 3, 4, 0] rfl ?_
        exact hk _ h _ N16 hf
      · have hf := ite_n hc19 hf
        refine r_iconst (pc := 756) (v := (0 : Int32)) h dL_law_756 (by decide) ?_
        cases hf
def fL_c758 (F : Nat) (xs : Nat → Int32) (L : Nat) (k : Int32 → Mem → Option Mem) (x4 : Int32) (M : Mem) : Option Mem := bd (fX8_drop F M) (fun u3 N1 => bd (fX9_drop F N1) (fun u6 N4 => if u3 = u6 then (nm (x4 + (6 : Int32)) (fun v8 : Int32 => k v8 N4)) else (none)))
set_option maxRecDepth 100000 in
set_option maxHeartbeats 8000000 in
theorem wL_c758 {l : Launch} {D : va_G} {ad : Nat → Nat} {ca : Nat → ClassId} {b L : Nat} {xs : Nat → Int32} {F : Nat} {M' : Mem} (hl : l.stackTraces = false) {k : Int32 → Mem → Option Mem} {kc ks : Nat} (hz : kc + 1 ≤ room_1.cells ∧ ks + 6 ≤ room_1.slots) (hk : ∀ V1 : Jdg, MchL l D ad ca b L xs (kc + 1) (ks + 6) V1 → ∀ (x4 : Int32) (M : Mem), k x4 M = some M' → V1 M 23 [(0, .ref b), (1, .ref (ad 0)), (2, .ref (ad 37)), (3, .ref (ad 55)), (4, .int x4)] []) {V : Jdg} (h : MchL l D ad ca b L xs kc ks V) (x4 : Int32) (M : Mem) (hf : fL_c758 F xs L k x4 M = some M') : V M 758 [(0, .ref b), (1, .ref (ad 0)), (2, .ref (ad 37)), (3, .ref (ad 55)), (4, .int x4)] [] := by
  obtain ⟨hz1, hz2⟩ := hz
  unfold fL_c758 at hf
  refine r_aload_n (pc := 758) h dL_law_758 1 rfl rfl ?_
  obtain ⟨u3, N1, hc2, hf⟩ := bd_some hf
  refine r_callVi (pc := 759) (o := 0) (As := []) (rest := []) h mv_L_128 dL_law_759 (by decide) rfl rfl (conX8_drop hc2) rfl rfl (by decide) (Nat.le_of_ble_eq_true rfl) ⟨by omega, by omega⟩ ?_
  refine r_aload_n (pc := 762) h dL_law_762 2 rfl rfl ?_
  obtain ⟨u6, N4, hc5, hf⟩ := bd_some hf
  refine r_callVi (pc := 763) (o := 37) (As := []) (rest := [.int u3]) h mv_L_131 dL_law_763 (by decide) rfl rfl (conX9_drop hc5) rfl rfl (by decide) (Nat.le_of_ble_eq_true rfl) ⟨by omega, by omega⟩ ?_
  refine r_icmp_eq (pc := 766) h 1781 dL_law_766 (by decide) (fun hc7 => ?_) (fun hc7 => ?_)
  · have hf := ite_p hc7 hf
    obtain ⟨v8, ev8⟩ : ∃ y : Int32, y = x4 + (6 : Int32) := ⟨_, rfl⟩
    have hf := nm_app ev8 hf
    refine r_iinc (pc := 1781) (v := v8) (lv' := [(4, .int v8), (0, .ref b), (1, .ref (ad 0)), (2, .ref (ad 37)), (3, .ref (ad 55))]) h dL_law_1781 4 rfl (by rw [ev8]; rfl) (by decide) rfl ?_
    refine r_goto (pc := 1784) h 23 dL_law_1784 (by decide) ?_
    refine r_widen h (fun V h => ?_)
    refine r_sub h [1, 2, 3, 4, 0] rfl ?_
    exact hk _ h _ N4 hf
  · have hf := ite_n hc7 hf
    refine r_iconst (pc := 769) (v := (0 : Int32)) h dL_law_769 (by decide) ?_
    cases hf
def fL_c771 (F : Nat) (xs : Nat → Int32) (L : Nat) (k : Int32 → Mem → Option Mem) (x4 : Int32) (M : Mem) : Option Mem := gd (inb (x4 + (1 : Int32)) L) (bd (wL_clash F (xs (Int32.toNatClampNeg (x4 + (1 : Int32)))) M) (fun u4 N2 => gd (inb (x4 + (1 : Int32)) L) (bd (fX9_clash F (xs (Int32.toNatClampNeg (x4 + (1 : Int32)))) N2) (fun u8 N6 => bd (fX9_thrown F N6) (fun u11 N9 => if u11 = u4 then (if u4 = 0 then (gd (inb (0 : Int32) 1) (if (lg_cmp (N9.2 55 (Int32.toNatClampNeg (0 : Int32))) (Int32.toInt64 u8)) = 0 then (nm (x4 + (6 : Int32)) (fun v16 : Int32 => k v16 N9)) else (none))) else (nm (x4 + (6 : Int32)) (fun v17 : Int32 => k v17 N9))) else (none))))))
set_option maxRecDepth 100000 in
set_option maxHeartbeats 8000000 in
theorem wL_c771 {l : Launch} {D : va_G} {ad : Nat → Nat} {ca : Nat → ClassId} {b L : Nat} {xs : Nat → Int32} {F : Nat} {M' : Mem} (hl : l.stackTraces = false) {k : Int32 → Mem → Option Mem} {kc ks : Nat} (hz : kc + 1 ≤ room_1.cells ∧ ks + 6 ≤ room_1.slots) (hk : ∀ V1 : Jdg, MchL l D ad ca b L xs (kc + 1) (ks + 6) V1 → ∀ (x4 : Int32) (M : Mem), k x4 M = some M' → V1 M 23 [(0, .ref b), (1, .ref (ad 0)), (2, .ref (ad 37)), (3, .ref (ad 55)), (4, .int x4)] []) {V : Jdg} (h : MchL l D ad ca b L xs kc ks V) (x4 : Int32) (M : Mem) (hf : fL_c771 F xs L k x4 M = some M') : V M 771 [(0, .ref b), (1, .ref (ad 0)), (2, .ref (ad 37)), (3, .ref (ad 55)), (4, .int x4)] [] := by
  obtain ⟨hz1, hz2⟩ := hz
  unfold fL_c771 at hf
  refine r_aload_n (pc := 771) h dL_law_771 1 rfl rfl ?_
  refine r_aload_n (pc := 772) h dL_law_772 0 rfl rfl ?_
  refine r_iload (pc := 773) h dL_law_773 4 rfl ?_
  refine r_iconst (pc := 775) (v := (1 : Int32)) h dL_law_775 (by decide) ?_
  refine r_iadd (pc := 776) h dL_law_776 ?_
  obtain ⟨hi1, hf⟩ := gd_some hf
  refine r_sld (pc := 777) h hi1 dL_law_777 ?_
  refine r_aload_n (pc := 778) h dL_law_778 3 rfl rfl ?_
  obtain ⟨u4, N2, hc3, hf⟩ := bd_some hf
  refine r_callW (pc := 779) (As := [.ref (ad 0), .int (xs (Int32.toNatClampNeg (x4 + (1 : Int32)))), .ref (ad 55)]) (rest := []) h mw_L_132 dL_law_779 (cwL_clash hl hc3) rfl rfl (by decide) (Nat.le_of_ble_eq_true rfl) ⟨by omega, by omega⟩ (fun V h => ?_)
  refine r_istore (pc := 782) (lv' := [(5, .int u4), (0, .ref b), (1, .ref (ad 0)), (2, .ref (ad 37)), (3, .ref (ad 55)), (4, .int x4)]) h dL_law_782 (by decide) rfl ?_
  refine r_aload_n (pc := 784) h dL_law_784 3 rfl rfl ?_
  refine r_aload_n (pc := 785) h dL_law_785 1 rfl rfl ?_
  refine r_iload (pc := 786) h dL_law_786 5 rfl ?_
  refine r_iconst (pc := 788) (v := (1 : Int32)) h dL_law_788 (by decide) ?_
  refine r_iadd (pc := 789) h dL_law_789 ?_
  obtain ⟨hi5, hf⟩ := gd_some hf
  refine r_sld (pc := 790) h hi5 dL_law_790 ?_
  obtain ⟨u8, N6, hc7, hf⟩ := bd_some hf
  refine r_callVi (pc := 791) (o := 37) (As := [.int (xs (Int32.toNatClampNeg (x4 + (1 : Int32))))]) (rest := []) h mv_L_134 dL_law_791 (by decide) rfl rfl (conX9_clash hc7) rfl rfl (by decide) (Nat.le_of_ble_eq_true rfl) ⟨by omega, by omega⟩ ?_
  refine r_istore (pc := 794) (lv' := [(6, .int u8), (5, .int u4), (0, .ref b), (1, .ref (ad 0)), (2, .ref (ad 37)), (3, .ref (ad 55)), (4, .int x4)]) h dL_law_794 (by decide) rfl ?_
  refine r_aload_n (pc := 796) h dL_law_796 4 rfl rfl ?_
  obtain ⟨u11, N9, hc10, hf⟩ := bd_some hf
  refine r_callVi (pc := 797) (o := 37) (As := []) (rest := []) h mv_L_105 dL_law_797 (by decide) rfl rfl (conX9_thrown hc10) rfl rfl (by decide) (Nat.le_of_ble_eq_true rfl) ⟨by omega, by omega⟩ ?_
  refine r_iload (pc := 800) h dL_law_800 1 rfl ?_
  refine r_icmp_eq (pc := 802) h 807 dL_law_802 (by decide) (fun hc12 => ?_) (fun hc12 => ?_)
  · have hf := ite_p hc12 hf
    refine r_iload (pc := 807) h dL_law_807 1 rfl ?_
    refine r_if_ne (pc := 809) h 824 dL_law_809 (by decide) (fun hc13 => ?_) (fun hc13 => ?_)
    · have hf := ite_n hc13 hf
      refine r_goto (pc := 824) h 1781 dL_law_824 (by decide) ?_
      obtain ⟨v17, ev17⟩ : ∃ y : Int32, y = x4 + (6 : Int32) := ⟨_, rfl⟩
      have hf := nm_app ev17 hf
      refine r_iinc (pc := 1781) (v := v17) (lv' := [(4, .int v17), (6, .int u8), (5, .int u4), (0, .ref b), (1, .ref (ad 0)), (2, .ref (ad 37)), (3, .ref (ad 55))]) h dL_law_1781 6 rfl (by rw [ev17]; rfl) (by decide) rfl ?_
      refine r_goto (pc := 1784) h 23 dL_law_1784 (by decide) ?_
      refine r_sub h [3, 4, 5, 6, 0] rfl ?_
      exact hk _ h _ N9 hf
    · have hf := ite_p hc13 hf
      refine r_aload_n (pc := 812) h dL_law_812 5 rfl rfl ?_
      refine r_iconst (pc := 813) (v := (0 : Int32)) h dL_law_813 (by decide) ?_
      obtain ⟨hi14, hf⟩ := gd_some hf
      refine r_lald (pc := 814) h (by decide) rfl hi14 dL_law_814 ?_
      refine r_iload (pc := 815) h dL_law_815 0 rfl ?_
      refine r_i2l (pc := 817) h dL_law_817 ?_
      refine r_lcmp (pc := 818) h dL_law_818 ?_
      refine r_if_eq (pc := 819) h 824 dL_law_819 (by decide) (fun hc15 => ?_) (fun hc15 => ?_)
      · have hf := ite_p hc15 hf
        refine r_goto (pc := 824) h 1781 dL_law_824 (by decide) ?_
        obtain ⟨v16, ev16⟩ : ∃ y : Int32, y = x4 + (6 : Int32) := ⟨_, rfl⟩
        have hf := nm_app ev16 hf
        refine r_iinc (pc := 1781) (v := v16) (lv' := [(4, .int v16), (6, .int u8), (5, .int u4), (0, .ref b), (1, .ref (ad 0)), (2, .ref (ad 37)), (3, .ref (ad 55))]) h dL_law_1781 6 rfl (by rw [ev16]; rfl) (by decide) rfl ?_
        refine r_goto (pc := 1784) h 23 dL_law_1784 (by decide) ?_
        refine r_sub h [3, 4, 5, 6, 0] rfl ?_
        exact hk _ h _ N9 hf
      · have hf := ite_n hc15 hf
        refine r_iconst (pc := 822) (v := (0 : Int32)) h dL_law_822 (by decide) ?_
        cases hf
  · have hf := ite_n hc12 hf
    refine r_iconst (pc := 805) (v := (0 : Int32)) h dL_law_805 (by decide) ?_
    cases hf
def fL_c827 (F : Nat) (xs : Nat → Int32) (L : Nat) (k : Int32 → Mem → Option Mem) (x4 : Int32) (M : Mem) : Option Mem := gd (inb (x4 + (1 : Int32)) L) (bd (wL_witness F (xs (Int32.toNatClampNeg (x4 + (1 : Int32)))) M) (fun u4 N2 => gd (inb (x4 + (1 : Int32)) L) (bd (fX9_witness F (xs (Int32.toNatClampNeg (x4 + (1 : Int32)))) N2) (fun u8 N6 => bd (fX9_thrown F N6) (fun u11 N9 => if u11 = u4 then (if u4 = 0 then (gd (inb (0 : Int32) 1) (if (lg_cmp (N9.2 55 (Int32.toNatClampNeg (0 : Int32))) (Int32.toInt64 u8)) = 0 then (nm (x4 + (6 : Int32)) (fun v16 : Int32 => k v16 N9)) else (none))) else (nm (x4 + (6 : Int32)) (fun v17 : Int32 => k v17 N9))) else (none))))))
set_option maxRecDepth 100000 in
set_option maxHeartbeats 8000000 in
theorem wL_c827 {l : Launch} {D : va_G} {ad : Nat → Nat} {ca : Nat → ClassId} {b L : Nat} {xs : Nat → Int32} {F : Nat} {M' : Mem} (hl : l.stackTraces = false) {k : Int32 → Mem → Option Mem} {kc ks : Nat} (hz : kc + 1 ≤ room_1.cells ∧ ks + 6 ≤ room_1.slots) (hk : ∀ V1 : Jdg, MchL l D ad ca b L xs (kc + 1) (ks + 6) V1 → ∀ (x4 : Int32) (M : Mem), k x4 M = some M' → V1 M 23 [(0, .ref b), (1, .ref (ad 0)), (2, .ref (ad 37)), (3, .ref (ad 55)), (4, .int x4)] []) {V : Jdg} (h : MchL l D ad ca b L xs kc ks V) (x4 : Int32) (M : Mem) (hf : fL_c827 F xs L k x4 M = some M') : V M 827 [(0, .ref b), (1, .ref (ad 0)), (2, .ref (ad 37)), (3, .ref (ad 55)), (4, .int x4)] [] := by
  obtain ⟨hz1, hz2⟩ := hz
  unfold fL_c827 at hf
  refine r_aload_n (pc := 827) h dL_law_827 1 rfl rfl ?_
  refine r_aload_n (pc := 828) h dL_law_828 0 rfl rfl ?_
  refine r_iload (pc := 829) h dL_law_829 4 rfl ?_
  refine r_iconst (pc := 831) (v := (1 : Int32)) h dL_law_831 (by decide) ?_
  refine r_iadd (pc := 832) h dL_law_832 ?_
  obtain ⟨hi1, hf⟩ := gd_some hf
  refine r_sld (pc := 833) h hi1 dL_law_833 ?_
  refine r_aload_n (pc := 834) h dL_law_834 3 rfl rfl ?_
  obtain ⟨u4, N2, hc3, hf⟩ := bd_some hf
  refine r_callW (pc := 835) (As := [.ref (ad 0), .int (xs (Int32.toNatClampNeg (x4 + (1 : Int32)))), .ref (ad 55)]) (rest := []) h mw_L_135 dL_law_835 (cwL_witness hl hc3) rfl rfl (by decide) (Nat.le_of_ble_eq_true rfl) ⟨by omega, by omega⟩ (fun V h => ?_)
  refine r_istore (pc := 838) (lv' := [(5, .int u4), (0, .ref b), (1, .ref (ad 0)), (2, .ref (ad 37)), (3, .ref (ad 55)), (4, .int x4)]) h dL_law_838 (by decide) rfl ?_
  refine r_aload_n (pc := 840) h dL_law_840 3 rfl rfl ?_
  refine r_aload_n (pc := 841) h dL_law_841 1 rfl rfl ?_
  refine r_iload (pc := 842) h dL_law_842 5 rfl ?_
  refine r_iconst (pc := 844) (v := (1 : Int32)) h dL_law_844 (by decide) ?_
  refine r_iadd (pc := 845) h dL_law_845 ?_
  obtain ⟨hi5, hf⟩ := gd_some hf
  refine r_sld (pc := 846) h hi5 dL_law_846 ?_
  obtain ⟨u8, N6, hc7, hf⟩ := bd_some hf
  refine r_callVi (pc := 847) (o := 37) (As := [.int (xs (Int32.toNatClampNeg (x4 + (1 : Int32))))]) (rest := []) h mv_L_137 dL_law_847 (by decide) rfl rfl (conX9_witness hc7) rfl rfl (by decide) (Nat.le_of_ble_eq_true rfl) ⟨by omega, by omega⟩ ?_
  refine r_istore (pc := 850) (lv' := [(6, .int u8), (5, .int u4), (0, .ref b), (1, .ref (ad 0)), (2, .ref (ad 37)), (3, .ref (ad 55)), (4, .int x4)]) h dL_law_850 (by decide) rfl ?_
  refine r_aload_n (pc := 852) h dL_law_852 4 rfl rfl ?_
  obtain ⟨u11, N9, hc10, hf⟩ := bd_some hf
  refine r_callVi (pc := 853) (o := 37) (As := []) (rest := []) h mv_L_105 dL_law_853 (by decide) rfl rfl (conX9_thrown hc10) rfl rfl (by decide) (Nat.le_of_ble_eq_true rfl) ⟨by omega, by omega⟩ ?_
  refine r_iload (pc := 856) h dL_law_856 1 rfl ?_
  refine r_icmp_eq (pc := 858) h 863 dL_law_858 (by decide) (fun hc12 => ?_) (fun hc12 => ?_)
  · have hf := ite_p hc12 hf
    refine r_iload (pc := 863) h dL_law_863 1 rfl ?_
    refine r_if_ne (pc := 865) h 880 dL_law_865 (by decide) (fun hc13 => ?_) (fun hc13 => ?_)
    · have hf := ite_n hc13 hf
      refine r_goto (pc := 880) h 1781 dL_law_880 (by decide) ?_
      obtain ⟨v17, ev17⟩ : ∃ y : Int32, y = x4 + (6 : Int32) := ⟨_, rfl⟩
      have hf := nm_app ev17 hf
      refine r_iinc (pc := 1781) (v := v17) (lv' := [(4, .int v17), (6, .int u8), (5, .int u4), (0, .ref b), (1, .ref (ad 0)), (2, .ref (ad 37)), (3, .ref (ad 55))]) h dL_law_1781 6 rfl (by rw [ev17]; rfl) (by decide) rfl ?_
      refine r_goto (pc := 1784) h 23 dL_law_1784 (by decide) ?_
      refine r_sub h [3, 4, 5, 6, 0] rfl ?_
      exact hk _ h _ N9 hf
    · have hf := ite_p hc13 hf
      refine r_aload_n (pc := 868) h dL_law_868 5 rfl rfl ?_
      refine r_iconst (pc := 869) (v := (0 : Int32)) h dL_law_869 (by decide) ?_
      obtain ⟨hi14, hf⟩ := gd_some hf
      refine r_lald (pc := 870) h (by decide) rfl hi14 dL_law_870 ?_
      refine r_iload (pc := 871) h dL_law_871 0 rfl ?_
      refine r_i2l (pc := 873) h dL_law_873 ?_
      refine r_lcmp (pc := 874) h dL_law_874 ?_
      refine r_if_eq (pc := 875) h 880 dL_law_875 (by decide) (fun hc15 => ?_) (fun hc15 => ?_)
      · have hf := ite_p hc15 hf
        refine r_goto (pc := 880) h 1781 dL_law_880 (by decide) ?_
        obtain ⟨v16, ev16⟩ : ∃ y : Int32, y = x4 + (6 : Int32) := ⟨_, rfl⟩
        have hf := nm_app ev16 hf
        refine r_iinc (pc := 1781) (v := v16) (lv' := [(4, .int v16), (6, .int u8), (5, .int u4), (0, .ref b), (1, .ref (ad 0)), (2, .ref (ad 37)), (3, .ref (ad 55))]) h dL_law_1781 6 rfl (by rw [ev16]; rfl) (by decide) rfl ?_
        refine r_goto (pc := 1784) h 23 dL_law_1784 (by decide) ?_
        refine r_sub h [3, 4, 5, 6, 0] rfl ?_
        exact hk _ h _ N9 hf
      · have hf := ite_n hc15 hf
        refine r_iconst (pc := 878) (v := (0 : Int32)) h dL_law_878 (by decide) ?_
        cases hf
  · have hf := ite_n hc12 hf
    refine r_iconst (pc := 861) (v := (0 : Int32)) h dL_law_861 (by decide) ?_
    cases hf
def fL_c883 (F : Nat) (xs : Nat → Int32) (L : Nat) (k : Int32 → Mem → Option Mem) (x4 : Int32) (M : Mem) : Option Mem := gd (inb (x4 + (1 : Int32)) L) (bd (wL_room F (xs (Int32.toNatClampNeg (x4 + (1 : Int32)))) M) (fun u4 N2 => gd (inb (x4 + (1 : Int32)) L) (bd (fX9_room F (xs (Int32.toNatClampNeg (x4 + (1 : Int32)))) N2) (fun u8 N6 => bd (fX9_thrown F N6) (fun u11 N9 => if u11 = u4 then (if u4 = 0 then (gd (inb (0 : Int32) 1) (if (lg_cmp (N9.2 55 (Int32.toNatClampNeg (0 : Int32))) (Int32.toInt64 u8)) = 0 then (nm (x4 + (6 : Int32)) (fun v16 : Int32 => k v16 N9)) else (none))) else (nm (x4 + (6 : Int32)) (fun v17 : Int32 => k v17 N9))) else (none))))))
set_option maxRecDepth 100000 in
set_option maxHeartbeats 8000000 in
theorem wL_c883 {l : Launch} {D : va_G} {ad : Nat → Nat} {ca : Nat → ClassId} {b L : Nat} {xs : Nat → Int32} {F : Nat} {M' : Mem} (hl : l.stackTraces = false) {k : Int32 → Mem → Option Mem} {kc ks : Nat} (hz : kc + 1 ≤ room_1.cells ∧ ks + 6 ≤ room_1.slots) (hk : ∀ V1 : Jdg, MchL l D ad ca b L xs (kc + 1) (ks + 6) V1 → ∀ (x4 : Int32) (M : Mem), k x4 M = some M' → V1 M 23 [(0, .ref b), (1, .ref (ad 0)), (2, .ref (ad 37)), (3, .ref (ad 55)), (4, .int x4)] []) {V : Jdg} (h : MchL l D ad ca b L xs kc ks V) (x4 : Int32) (M : Mem) (hf : fL_c883 F xs L k x4 M = some M') : V M 883 [(0, .ref b), (1, .ref (ad 0)), (2, .ref (ad 37)), (3, .ref (ad 55)), (4, .int x4)] [] := by
  obtain ⟨hz1, hz2⟩ := hz
  unfold fL_c883 at hf
  refine r_aload_n (pc := 883) h dL_law_883 1 rfl rfl ?_
  refine r_aload_n (pc := 884) h dL_law_884 0 rfl rfl ?_
  refine r_iload (pc := 885) h dL_law_885 4 rfl ?_
  refine r_iconst (pc := 887) (v := (1 : Int32)) h dL_law_887 (by decide) ?_
  refine r_iadd (pc := 888) h dL_law_888 ?_
  obtain ⟨hi1, hf⟩ := gd_some hf
  refine r_sld (pc := 889) h hi1 dL_law_889 ?_
  refine r_aload_n (pc := 890) h dL_law_890 3 rfl rfl ?_
  obtain ⟨u4, N2, hc3, hf⟩ := bd_some hf
  refine r_callW (pc := 891) (As := [.ref (ad 0), .int (xs (Int32.toNatClampNeg (x4 + (1 : Int32)))), .ref (ad 55)]) (rest := []) h mw_L_138 dL_law_891 (cwL_room hl hc3) rfl rfl (by decide) (Nat.le_of_ble_eq_true rfl) ⟨by omega, by omega⟩ (fun V h => ?_)
  refine r_istore (pc := 894) (lv' := [(5, .int u4), (0, .ref b), (1, .ref (ad 0)), (2, .ref (ad 37)), (3, .ref (ad 55)), (4, .int x4)]) h dL_law_894 (by decide) rfl ?_
  refine r_aload_n (pc := 896) h dL_law_896 3 rfl rfl ?_
  refine r_aload_n (pc := 897) h dL_law_897 1 rfl rfl ?_
  refine r_iload (pc := 898) h dL_law_898 5 rfl ?_
  refine r_iconst (pc := 900) (v := (1 : Int32)) h dL_law_900 (by decide) ?_
  refine r_iadd (pc := 901) h dL_law_901 ?_
  obtain ⟨hi5, hf⟩ := gd_some hf
  refine r_sld (pc := 902) h hi5 dL_law_902 ?_
  obtain ⟨u8, N6, hc7, hf⟩ := bd_some hf
  refine r_callVi (pc := 903) (o := 37) (As := [.int (xs (Int32.toNatClampNeg (x4 + (1 : Int32))))]) (rest := []) h mv_L_140 dL_law_903 (by decide) rfl rfl (conX9_room hc7) rfl rfl (by decide) (Nat.le_of_ble_eq_true rfl) ⟨by omega, by omega⟩ ?_
  refine r_istore (pc := 906) (lv' := [(6, .int u8), (5, .int u4), (0, .ref b), (1, .ref (ad 0)), (2, .ref (ad 37)), (3, .ref (ad 55)), (4, .int x4)]) h dL_law_906 (by decide) rfl ?_
  refine r_aload_n (pc := 908) h dL_law_908 4 rfl rfl ?_
  obtain ⟨u11, N9, hc10, hf⟩ := bd_some hf
  refine r_callVi (pc := 909) (o := 37) (As := []) (rest := []) h mv_L_105 dL_law_909 (by decide) rfl rfl (conX9_thrown hc10) rfl rfl (by decide) (Nat.le_of_ble_eq_true rfl) ⟨by omega, by omega⟩ ?_
  refine r_iload (pc := 912) h dL_law_912 1 rfl ?_
  refine r_icmp_eq (pc := 914) h 919 dL_law_914 (by decide) (fun hc12 => ?_) (fun hc12 => ?_)
  · have hf := ite_p hc12 hf
    refine r_iload (pc := 919) h dL_law_919 1 rfl ?_
    refine r_if_ne (pc := 921) h 936 dL_law_921 (by decide) (fun hc13 => ?_) (fun hc13 => ?_)
    · have hf := ite_n hc13 hf
      refine r_goto (pc := 936) h 1781 dL_law_936 (by decide) ?_
      obtain ⟨v17, ev17⟩ : ∃ y : Int32, y = x4 + (6 : Int32) := ⟨_, rfl⟩
      have hf := nm_app ev17 hf
      refine r_iinc (pc := 1781) (v := v17) (lv' := [(4, .int v17), (6, .int u8), (5, .int u4), (0, .ref b), (1, .ref (ad 0)), (2, .ref (ad 37)), (3, .ref (ad 55))]) h dL_law_1781 6 rfl (by rw [ev17]; rfl) (by decide) rfl ?_
      refine r_goto (pc := 1784) h 23 dL_law_1784 (by decide) ?_
      refine r_sub h [3, 4, 5, 6, 0] rfl ?_
      exact hk _ h _ N9 hf
    · have hf := ite_p hc13 hf
      refine r_aload_n (pc := 924) h dL_law_924 5 rfl rfl ?_
      refine r_iconst (pc := 925) (v := (0 : Int32)) h dL_law_925 (by decide) ?_
      obtain ⟨hi14, hf⟩ := gd_some hf
      refine r_lald (pc := 926) h (by decide) rfl hi14 dL_law_926 ?_
      refine r_iload (pc := 927) h dL_law_927 0 rfl ?_
      refine r_i2l (pc := 929) h dL_law_929 ?_
      refine r_lcmp (pc := 930) h dL_law_930 ?_
      refine r_if_eq (pc := 931) h 936 dL_law_931 (by decide) (fun hc15 => ?_) (fun hc15 => ?_)
      · have hf := ite_p hc15 hf
        refine r_goto (pc := 936) h 1781 dL_law_936 (by decide) ?_
        obtain ⟨v16, ev16⟩ : ∃ y : Int32, y = x4 + (6 : Int32) := ⟨_, rfl⟩
        have hf := nm_app ev16 hf
        refine r_iinc (pc := 1781) (v := v16) (lv' := [(4, .int v16), (6, .int u8), (5, .int u4), (0, .ref b), (1, .ref (ad 0)), (2, .ref (ad 37)), (3, .ref (ad 55))]) h dL_law_1781 6 rfl (by rw [ev16]; rfl) (by decide) rfl ?_
        refine r_goto (pc := 1784) h 23 dL_law_1784 (by decide) ?_
        refine r_sub h [3, 4, 5, 6, 0] rfl ?_
        exact hk _ h _ N9 hf
      · have hf := ite_n hc15 hf
        refine r_iconst (pc := 934) (v := (0 : Int32)) h dL_law_934 (by decide) ?_
        cases hf
  · have hf := ite_n hc12 hf
    refine r_iconst (pc := 917) (v := (0 : Int32)) h dL_law_917 (by decide) ?_
    cases hf
def fL_c939 (F : Nat) (xs : Nat → Int32) (L : Nat) (k : Int32 → Mem → Option Mem) (x4 : Int32) (M : Mem) : Option Mem := gd (inb (x4 + (1 : Int32)) L) (gd (inb (x4 + (2 : Int32)) L) (bd (wL_greatest F (xs (Int32.toNatClampNeg (x4 + (1 : Int32)))) (xs (Int32.toNatClampNeg (x4 + (2 : Int32)))) M) (fun u5 N3 => gd (inb (x4 + (1 : Int32)) L) (gd (inb (x4 + (2 : Int32)) L) (bd (fX9_greatest F (xs (Int32.toNatClampNeg (x4 + (1 : Int32)))) (xs (Int32.toNatClampNeg (x4 + (2 : Int32)))) N3) (fun u10 N8 => bd (fX9_thrown F N8) (fun u13 N11 => if u13 = u5 then (if u5 = 0 then (gd (inb (0 : Int32) 1) (if (lg_cmp (N11.2 55 (Int32.toNatClampNeg (0 : Int32))) (Int32.toInt64 u10)) = 0 then (nm (x4 + (6 : Int32)) (fun v18 : Int32 => k v18 N11)) else (none))) else (nm (x4 + (6 : Int32)) (fun v19 : Int32 => k v19 N11))) else (none))))))))
set_option maxRecDepth 100000 in
set_option maxHeartbeats 8000000 in
theorem wL_c939 {l : Launch} {D : va_G} {ad : Nat → Nat} {ca : Nat → ClassId} {b L : Nat} {xs : Nat → Int32} {F : Nat} {M' : Mem} (hl : l.stackTraces = false) {k : Int32 → Mem → Option Mem} {kc ks : Nat} (hz : kc + 1 ≤ room_1.cells ∧ ks + 6 ≤ room_1.slots) (hk : ∀ V1 : Jdg, MchL l D ad ca b L xs (kc + 1) (ks + 6) V1 → ∀ (x4 : Int32) (M : Mem), k x4 M = some M' → V1 M 23 [(0, .ref b), (1, .ref (ad 0)), (2, .ref (ad 37)), (3, .ref (ad 55)), (4, .int x4)] []) {V : Jdg} (h : MchL l D ad ca b L xs kc ks V) (x4 : Int32) (M : Mem) (hf : fL_c939 F xs L k x4 M = some M') : V M 939 [(0, .ref b), (1, .ref (ad 0)), (2, .ref (ad 37)), (3, .ref (ad 55)), (4, .int x4)] [] := by
  obtain ⟨hz1, hz2⟩ := hz
  unfold fL_c939 at hf
  refine r_aload_n (pc := 939) h dL_law_939 1 rfl rfl ?_
  refine r_aload_n (pc := 940) h dL_law_940 0 rfl rfl ?_
  refine r_iload (pc := 941) h dL_law_941 4 rfl ?_
  refine r_iconst (pc := 943) (v := (1 : Int32)) h dL_law_943 (by decide) ?_
  refine r_iadd (pc := 944) h dL_law_944 ?_
  obtain ⟨hi1, hf⟩ := gd_some hf
  refine r_sld (pc := 945) h hi1 dL_law_945 ?_
  refine r_aload_n (pc := 946) h dL_law_946 0 rfl rfl ?_
  refine r_iload (pc := 947) h dL_law_947 4 rfl ?_
  refine r_iconst (pc := 949) (v := (2 : Int32)) h dL_law_949 (by decide) ?_
  refine r_iadd (pc := 950) h dL_law_950 ?_
  obtain ⟨hi2, hf⟩ := gd_some hf
  refine r_sld (pc := 951) h hi2 dL_law_951 ?_
  refine r_aload_n (pc := 952) h dL_law_952 3 rfl rfl ?_
  obtain ⟨u5, N3, hc4, hf⟩ := bd_some hf
  refine r_callW (pc := 953) (As := [.ref (ad 0), .int (xs (Int32.toNatClampNeg (x4 + (1 : Int32)))), .int (xs (Int32.toNatClampNeg (x4 + (2 : Int32)))), .ref (ad 55)]) (rest := []) h mw_L_141 dL_law_953 (cwL_greatest hl hc4) rfl rfl (by decide) (Nat.le_of_ble_eq_true rfl) ⟨by omega, by omega⟩ (fun V h => ?_)
  refine r_istore (pc := 956) (lv' := [(5, .int u5), (0, .ref b), (1, .ref (ad 0)), (2, .ref (ad 37)), (3, .ref (ad 55)), (4, .int x4)]) h dL_law_956 (by decide) rfl ?_
  refine r_aload_n (pc := 958) h dL_law_958 3 rfl rfl ?_
  refine r_aload_n (pc := 959) h dL_law_959 1 rfl rfl ?_
  refine r_iload (pc := 960) h dL_law_960 5 rfl ?_
  refine r_iconst (pc := 962) (v := (1 : Int32)) h dL_law_962 (by decide) ?_
  refine r_iadd (pc := 963) h dL_law_963 ?_
  obtain ⟨hi6, hf⟩ := gd_some hf
  refine r_sld (pc := 964) h hi6 dL_law_964 ?_
  refine r_aload_n (pc := 965) h dL_law_965 1 rfl rfl ?_
  refine r_iload (pc := 966) h dL_law_966 5 rfl ?_
  refine r_iconst (pc := 968) (v := (2 : Int32)) h dL_law_968 (by decide) ?_
  refine r_iadd (pc := 969) h dL_law_969 ?_
  obtain ⟨hi7, hf⟩ := gd_some hf
  refine r_sld (pc := 970) h hi7 dL_law_970 ?_
  obtain ⟨u10, N8, hc9, hf⟩ := bd_some hf
  refine r_callVi (pc := 971) (o := 37) (As := [.int (xs (Int32.toNatClampNeg (x4 + (1 : Int32)))), .int (xs (Int32.toNatClampNeg (x4 + (2 : Int32))))]) (rest := []) h mv_L_143 dL_law_971 (by decide) rfl rfl (conX9_greatest hc9) rfl rfl (by decide) (Nat.le_of_ble_eq_true rfl) ⟨by omega, by omega⟩ ?_
  refine r_istore (pc := 974) (lv' := [(6, .int u10), (5, .int u5), (0, .ref b), (1, .ref (ad 0)), (2, .ref (ad 37)), (3, .ref (ad 55)), (4, .int x4)]) h dL_law_974 (by decide) rfl ?_
  refine r_aload_n (pc := 976) h dL_law_976 4 rfl rfl ?_
  obtain ⟨u13, N11, hc12, hf⟩ := bd_some hf
  refine r_callVi (pc := 977) (o := 37) (As := []) (rest := []) h mv_L_105 dL_law_977 (by decide) rfl rfl (conX9_thrown hc12) rfl rfl (by decide) (Nat.le_of_ble_eq_true rfl) ⟨by omega, by omega⟩ ?_
  refine r_iload (pc := 980) h dL_law_980 1 rfl ?_
  refine r_icmp_eq (pc := 982) h 987 dL_law_982 (by decide) (fun hc14 => ?_) (fun hc14 => ?_)
  · have hf := ite_p hc14 hf
    refine r_iload (pc := 987) h dL_law_987 1 rfl ?_
    refine r_if_ne (pc := 989) h 1004 dL_law_989 (by decide) (fun hc15 => ?_) (fun hc15 => ?_)
    · have hf := ite_n hc15 hf
      refine r_goto (pc := 1004) h 1781 dL_law_1004 (by decide) ?_
      obtain ⟨v19, ev19⟩ : ∃ y : Int32, y = x4 + (6 : Int32) := ⟨_, rfl⟩
      have hf := nm_app ev19 hf
      refine r_iinc (pc := 1781) (v := v19) (lv' := [(4, .int v19), (6, .int u10), (5, .int u5), (0, .ref b), (1, .ref (ad 0)), (2, .ref (ad 37)), (3, .ref (ad 55))]) h dL_law_1781 6 rfl (by rw [ev19]; rfl) (by decide) rfl ?_
      refine r_goto (pc := 1784) h 23 dL_law_1784 (by decide) ?_
      refine r_sub h [3, 4, 5, 6, 0] rfl ?_
      exact hk _ h _ N11 hf
    · have hf := ite_p hc15 hf
      refine r_aload_n (pc := 992) h dL_law_992 5 rfl rfl ?_
      refine r_iconst (pc := 993) (v := (0 : Int32)) h dL_law_993 (by decide) ?_
      obtain ⟨hi16, hf⟩ := gd_some hf
      refine r_lald (pc := 994) h (by decide) rfl hi16 dL_law_994 ?_
      refine r_iload (pc := 995) h dL_law_995 0 rfl ?_
      refine r_i2l (pc := 997) h dL_law_997 ?_
      refine r_lcmp (pc := 998) h dL_law_998 ?_
      refine r_if_eq (pc := 999) h 1004 dL_law_999 (by decide) (fun hc17 => ?_) (fun hc17 => ?_)
      · have hf := ite_p hc17 hf
        refine r_goto (pc := 1004) h 1781 dL_law_1004 (by decide) ?_
        obtain ⟨v18, ev18⟩ : ∃ y : Int32, y = x4 + (6 : Int32) := ⟨_, rfl⟩
        have hf := nm_app ev18 hf
        refine r_iinc (pc := 1781) (v := v18) (lv' := [(4, .int v18), (6, .int u10), (5, .int u5), (0, .ref b), (1, .ref (ad 0)), (2, .ref (ad 37)), (3, .ref (ad 55))]) h dL_law_1781 6 rfl (by rw [ev18]; rfl) (by decide) rfl ?_
        refine r_goto (pc := 1784) h 23 dL_law_1784 (by decide) ?_
        refine r_sub h [3, 4, 5, 6, 0] rfl ?_
        exact hk _ h _ N11 hf
      · have hf := ite_n hc17 hf
        refine r_iconst (pc := 1002) (v := (0 : Int32)) h dL_law_1002 (by decide) ?_
        cases hf
  · have hf := ite_n hc14 hf
    refine r_iconst (pc := 985) (v := (0 : Int32)) h dL_law_985 (by decide) ?_
    cases hf
def fL_c1007 (F : Nat) (xs : Nat → Int32) (L : Nat) (k : Int32 → Mem → Option Mem) (x4 : Int32) (M : Mem) : Option Mem := gd (inb (x4 + (1 : Int32)) L) (bd (wL_list F (xs (Int32.toNatClampNeg (x4 + (1 : Int32)))) M) (fun u4 N2 => gd (inb (x4 + (1 : Int32)) L) (bd (fX9_list F (xs (Int32.toNatClampNeg (x4 + (1 : Int32)))) N2) (fun u8 N6 => bd (fX9_thrown F N6) (fun u11 N9 => if u11 = u4 then (if u4 = 0 then (gd (inb (0 : Int32) 1) (if (lg_cmp (N9.2 55 (Int32.toNatClampNeg (0 : Int32))) (Int32.toInt64 u8)) = 0 then (nm (x4 + (6 : Int32)) (fun v16 : Int32 => k v16 N9)) else (none))) else (nm (x4 + (6 : Int32)) (fun v17 : Int32 => k v17 N9))) else (none))))))
set_option maxRecDepth 100000 in
set_option maxHeartbeats 8000000 in
theorem wL_c1007 {l : Launch} {D : va_G} {ad : Nat → Nat} {ca : Nat → ClassId} {b L : Nat} {xs : Nat → Int32} {F : Nat} {M' : Mem} (hl : l.stackTraces = false) {k : Int32 → Mem → Option Mem} {kc ks : Nat} (hz : kc + 1 ≤ room_1.cells ∧ ks + 6 ≤ room_1.slots) (hk : ∀ V1 : Jdg, MchL l D ad ca b L xs (kc + 1) (ks + 6) V1 → ∀ (x4 : Int32) (M : Mem), k x4 M = some M' → V1 M 23 [(0, .ref b), (1, .ref (ad 0)), (2, .ref (ad 37)), (3, .ref (ad 55)), (4, .int x4)] []) {V : Jdg} (h : MchL l D ad ca b L xs kc ks V) (x4 : Int32) (M : Mem) (hf : fL_c1007 F xs L k x4 M = some M') : V M 1007 [(0, .ref b), (1, .ref (ad 0)), (2, .ref (ad 37)), (3, .ref (ad 55)), (4, .int x4)] [] := by
  obtain ⟨hz1, hz2⟩ := hz
  unfold fL_c1007 at hf
  refine r_aload_n (pc := 1007) h dL_law_1007 1 rfl rfl ?_
  refine r_aload_n (pc := 1008) h dL_law_1008 0 rfl rfl ?_
  refine r_iload (pc := 1009) h dL_law_1009 4 rfl ?_
  refine r_iconst (pc := 1011) (v := (1 : Int32)) h dL_law_1011 (by decide) ?_
  refine r_iadd (pc := 1012) h dL_law_1012 ?_
  obtain ⟨hi1, hf⟩ := gd_some hf
  refine r_sld (pc := 1013) h hi1 dL_law_1013 ?_
  refine r_aload_n (pc := 1014) h dL_law_1014 3 rfl rfl ?_
  obtain ⟨u4, N2, hc3, hf⟩ := bd_some hf
  refine r_callW (pc := 1015) (As := [.ref (ad 0), .int (xs (Int32.toNatClampNeg (x4 + (1 : Int32)))), .ref (ad 55)]) (rest := []) h mw_L_144 dL_law_1015 (cwL_list hl hc3) rfl rfl (by decide) (Nat.le_of_ble_eq_true rfl) ⟨by omega, by omega⟩ (fun V h => ?_)
  refine r_istore (pc := 1018) (lv' := [(5, .int u4), (0, .ref b), (1, .ref (ad 0)), (2, .ref (ad 37)), (3, .ref (ad 55)), (4, .int x4)]) h dL_law_1018 (by decide) rfl ?_
  refine r_aload_n (pc := 1020) h dL_law_1020 3 rfl rfl ?_
  refine r_aload_n (pc := 1021) h dL_law_1021 1 rfl rfl ?_
  refine r_iload (pc := 1022) h dL_law_1022 5 rfl ?_
  refine r_iconst (pc := 1024) (v := (1 : Int32)) h dL_law_1024 (by decide) ?_
  refine r_iadd (pc := 1025) h dL_law_1025 ?_
  obtain ⟨hi5, hf⟩ := gd_some hf
  refine r_sld (pc := 1026) h hi5 dL_law_1026 ?_
  obtain ⟨u8, N6, hc7, hf⟩ := bd_some hf
  refine r_callVi (pc := 1027) (o := 37) (As := [.int (xs (Int32.toNatClampNeg (x4 + (1 : Int32))))]) (rest := []) h mv_L_146 dL_law_1027 (by decide) rfl rfl (conX9_list hc7) rfl rfl (by decide) (Nat.le_of_ble_eq_true rfl) ⟨by omega, by omega⟩ ?_
  refine r_istore (pc := 1030) (lv' := [(6, .int u8), (5, .int u4), (0, .ref b), (1, .ref (ad 0)), (2, .ref (ad 37)), (3, .ref (ad 55)), (4, .int x4)]) h dL_law_1030 (by decide) rfl ?_
  refine r_aload_n (pc := 1032) h dL_law_1032 4 rfl rfl ?_
  obtain ⟨u11, N9, hc10, hf⟩ := bd_some hf
  refine r_callVi (pc := 1033) (o := 37) (As := []) (rest := []) h mv_L_105 dL_law_1033 (by decide) rfl rfl (conX9_thrown hc10) rfl rfl (by decide) (Nat.le_of_ble_eq_true rfl) ⟨by omega, by omega⟩ ?_
  refine r_iload (pc := 1036) h dL_law_1036 1 rfl ?_
  refine r_icmp_eq (pc := 1038) h 1043 dL_law_1038 (by decide) (fun hc12 => ?_) (fun hc12 => ?_)
  · have hf := ite_p hc12 hf
    refine r_iload (pc := 1043) h dL_law_1043 1 rfl ?_
    refine r_if_ne (pc := 1045) h 1060 dL_law_1045 (by decide) (fun hc13 => ?_) (fun hc13 => ?_)
    · have hf := ite_n hc13 hf
      refine r_goto (pc := 1060) h 1781 dL_law_1060 (by decide) ?_
      obtain ⟨v17, ev17⟩ : ∃ y : Int32, y = x4 + (6 : Int32) := ⟨_, rfl⟩
      have hf := nm_app ev17 hf
      refine r_iinc (pc := 1781) (v := v17) (lv' := [(4, .int v17), (6, .int u8), (5, .int u4), (0, .ref b), (1, .ref (ad 0)), (2, .ref (ad 37)), (3, .ref (ad 55))]) h dL_law_1781 6 rfl (by rw [ev17]; rfl) (by decide) rfl ?_
      refine r_goto (pc := 1784) h 23 dL_law_1784 (by decide) ?_
      refine r_sub h [3, 4, 5, 6, 0] rfl ?_
      exact hk _ h _ N9 hf
    · have hf := ite_p hc13 hf
      refine r_aload_n (pc := 1048) h dL_law_1048 5 rfl rfl ?_
      refine r_iconst (pc := 1049) (v := (0 : Int32)) h dL_law_1049 (by decide) ?_
      obtain ⟨hi14, hf⟩ := gd_some hf
      refine r_lald (pc := 1050) h (by decide) rfl hi14 dL_law_1050 ?_
      refine r_iload (pc := 1051) h dL_law_1051 0 rfl ?_
      refine r_i2l (pc := 1053) h dL_law_1053 ?_
      refine r_lcmp (pc := 1054) h dL_law_1054 ?_
      refine r_if_eq (pc := 1055) h 1060 dL_law_1055 (by decide) (fun hc15 => ?_) (fun hc15 => ?_)
      · have hf := ite_p hc15 hf
        refine r_goto (pc := 1060) h 1781 dL_law_1060 (by decide) ?_
        obtain ⟨v16, ev16⟩ : ∃ y : Int32, y = x4 + (6 : Int32) := ⟨_, rfl⟩
        have hf := nm_app ev16 hf
        refine r_iinc (pc := 1781) (v := v16) (lv' := [(4, .int v16), (6, .int u8), (5, .int u4), (0, .ref b), (1, .ref (ad 0)), (2, .ref (ad 37)), (3, .ref (ad 55))]) h dL_law_1781 6 rfl (by rw [ev16]; rfl) (by decide) rfl ?_
        refine r_goto (pc := 1784) h 23 dL_law_1784 (by decide) ?_
        refine r_sub h [3, 4, 5, 6, 0] rfl ?_
        exact hk _ h _ N9 hf
      · have hf := ite_n hc15 hf
        refine r_iconst (pc := 1058) (v := (0 : Int32)) h dL_law_1058 (by decide) ?_
        cases hf
  · have hf := ite_n hc12 hf
    refine r_iconst (pc := 1041) (v := (0 : Int32)) h dL_law_1041 (by decide) ?_
    cases hf
def fL_c1063 (F : Nat) (xs : Nat → Int32) (L : Nat) (k : Int32 → Mem → Option Mem) (x4 : Int32) (M : Mem) : Option Mem := gd (inb (x4 + (1 : Int32)) L) (gd (inb (x4 + (2 : Int32)) L) (bd (wL_listed F (xs (Int32.toNatClampNeg (x4 + (1 : Int32)))) (xs (Int32.toNatClampNeg (x4 + (2 : Int32)))) M) (fun u5 N3 => gd (inb (x4 + (1 : Int32)) L) (gd (inb (x4 + (2 : Int32)) L) (bd (fX9_listed F (xs (Int32.toNatClampNeg (x4 + (1 : Int32)))) (xs (Int32.toNatClampNeg (x4 + (2 : Int32)))) N3) (fun u10 N8 => bd (fX9_thrown F N8) (fun u13 N11 => if u13 = u5 then (if u5 = 0 then (gd (inb (0 : Int32) 1) (if (lg_cmp (N11.2 55 (Int32.toNatClampNeg (0 : Int32))) (Int32.toInt64 u10)) = 0 then (nm (x4 + (6 : Int32)) (fun v18 : Int32 => k v18 N11)) else (none))) else (nm (x4 + (6 : Int32)) (fun v19 : Int32 => k v19 N11))) else (none))))))))
set_option maxRecDepth 100000 in
set_option maxHeartbeats 8000000 in
theorem wL_c1063 {l : Launch} {D : va_G} {ad : Nat → Nat} {ca : Nat → ClassId} {b L : Nat} {xs : Nat → Int32} {F : Nat} {M' : Mem} (hl : l.stackTraces = false) {k : Int32 → Mem → Option Mem} {kc ks : Nat} (hz : kc + 1 ≤ room_1.cells ∧ ks + 6 ≤ room_1.slots) (hk : ∀ V1 : Jdg, MchL l D ad ca b L xs (kc + 1) (ks + 6) V1 → ∀ (x4 : Int32) (M : Mem), k x4 M = some M' → V1 M 23 [(0, .ref b), (1, .ref (ad 0)), (2, .ref (ad 37)), (3, .ref (ad 55)), (4, .int x4)] []) {V : Jdg} (h : MchL l D ad ca b L xs kc ks V) (x4 : Int32) (M : Mem) (hf : fL_c1063 F xs L k x4 M = some M') : V M 1063 [(0, .ref b), (1, .ref (ad 0)), (2, .ref (ad 37)), (3, .ref (ad 55)), (4, .int x4)] [] := by
  obtain ⟨hz1, hz2⟩ := hz
  unfold fL_c1063 at hf
  refine r_aload_n (pc := 1063) h dL_law_1063 1 rfl rfl ?_
  refine r_aload_n (pc := 1064) h dL_law_1064 0 rfl rfl ?_
  refine r_iload (pc := 1065) h dL_law_1065 4 rfl ?_
  refine r_iconst (pc := 1067) (v := (1 : Int32)) h dL_law_1067 (by decide) ?_
  refine r_iadd (pc := 1068) h dL_law_1068 ?_
  obtain ⟨hi1, hf⟩ := gd_some hf
  refine r_sld (pc := 1069) h hi1 dL_law_1069 ?_
  refine r_aload_n (pc := 1070) h dL_law_1070 0 rfl rfl ?_
  refine r_iload (pc := 1071) h dL_law_1071 4 rfl ?_
  refine r_iconst (pc := 1073) (v := (2 : Int32)) h dL_law_1073 (by decide) ?_
  refine r_iadd (pc := 1074) h dL_law_1074 ?_
  obtain ⟨hi2, hf⟩ := gd_some hf
  refine r_sld (pc := 1075) h hi2 dL_law_1075 ?_
  refine r_aload_n (pc := 1076) h dL_law_1076 3 rfl rfl ?_
  obtain ⟨u5, N3, hc4, hf⟩ := bd_some hf
  refine r_callW (pc := 1077) (As := [.ref (ad 0), .int (xs (Int32.toNatClampNeg (x4 + (1 : Int32)))), .int (xs (Int32.toNatClampNeg (x4 + (2 : Int32)))), .ref (ad 55)]) (rest := []) h mw_L_147 dL_law_1077 (cwL_listed hl hc4) rfl rfl (by decide) (Nat.le_of_ble_eq_true rfl) ⟨by omega, by omega⟩ (fun V h => ?_)
  refine r_istore (pc := 1080) (lv' := [(5, .int u5), (0, .ref b), (1, .ref (ad 0)), (2, .ref (ad 37)), (3, .ref (ad 55)), (4, .int x4)]) h dL_law_1080 (by decide) rfl ?_
  refine r_aload_n (pc := 1082) h dL_law_1082 3 rfl rfl ?_
  refine r_aload_n (pc := 1083) h dL_law_1083 1 rfl rfl ?_
  refine r_iload (pc := 1084) h dL_law_1084 5 rfl ?_
  refine r_iconst (pc := 1086) (v := (1 : Int32)) h dL_law_1086 (by decide) ?_
  refine r_iadd (pc := 1087) h dL_law_1087 ?_
  obtain ⟨hi6, hf⟩ := gd_some hf
  refine r_sld (pc := 1088) h hi6 dL_law_1088 ?_
  refine r_aload_n (pc := 1089) h dL_law_1089 1 rfl rfl ?_
  refine r_iload (pc := 1090) h dL_law_1090 5 rfl ?_
  refine r_iconst (pc := 1092) (v := (2 : Int32)) h dL_law_1092 (by decide) ?_
  refine r_iadd (pc := 1093) h dL_law_1093 ?_
  obtain ⟨hi7, hf⟩ := gd_some hf
  refine r_sld (pc := 1094) h hi7 dL_law_1094 ?_
  obtain ⟨u10, N8, hc9, hf⟩ := bd_some hf
  refine r_callVi (pc := 1095) (o := 37) (As := [.int (xs (Int32.toNatClampNeg (x4 + (1 : Int32)))), .int (xs (Int32.toNatClampNeg (x4 + (2 : Int32))))]) (rest := []) h mv_L_149 dL_law_1095 (by decide) rfl rfl (conX9_listed hc9) rfl rfl (by decide) (Nat.le_of_ble_eq_true rfl) ⟨by omega, by omega⟩ ?_
  refine r_istore (pc := 1098) (lv' := [(6, .int u10), (5, .int u5), (0, .ref b), (1, .ref (ad 0)), (2, .ref (ad 37)), (3, .ref (ad 55)), (4, .int x4)]) h dL_law_1098 (by decide) rfl ?_
  refine r_aload_n (pc := 1100) h dL_law_1100 4 rfl rfl ?_
  obtain ⟨u13, N11, hc12, hf⟩ := bd_some hf
  refine r_callVi (pc := 1101) (o := 37) (As := []) (rest := []) h mv_L_105 dL_law_1101 (by decide) rfl rfl (conX9_thrown hc12) rfl rfl (by decide) (Nat.le_of_ble_eq_true rfl) ⟨by omega, by omega⟩ ?_
  refine r_iload (pc := 1104) h dL_law_1104 1 rfl ?_
  refine r_icmp_eq (pc := 1106) h 1111 dL_law_1106 (by decide) (fun hc14 => ?_) (fun hc14 => ?_)
  · have hf := ite_p hc14 hf
    refine r_iload (pc := 1111) h dL_law_1111 1 rfl ?_
    refine r_if_ne (pc := 1113) h 1128 dL_law_1113 (by decide) (fun hc15 => ?_) (fun hc15 => ?_)
    · have hf := ite_n hc15 hf
      refine r_goto (pc := 1128) h 1781 dL_law_1128 (by decide) ?_
      obtain ⟨v19, ev19⟩ : ∃ y : Int32, y = x4 + (6 : Int32) := ⟨_, rfl⟩
      have hf := nm_app ev19 hf
      refine r_iinc (pc := 1781) (v := v19) (lv' := [(4, .int v19), (6, .int u10), (5, .int u5), (0, .ref b), (1, .ref (ad 0)), (2, .ref (ad 37)), (3, .ref (ad 55))]) h dL_law_1781 6 rfl (by rw [ev19]; rfl) (by decide) rfl ?_
      refine r_goto (pc := 1784) h 23 dL_law_1784 (by decide) ?_
      refine r_sub h [3, 4, 5, 6, 0] rfl ?_
      exact hk _ h _ N11 hf
    · have hf := ite_p hc15 hf
      refine r_aload_n (pc := 1116) h dL_law_1116 5 rfl rfl ?_
      refine r_iconst (pc := 1117) (v := (0 : Int32)) h dL_law_1117 (by decide) ?_
      obtain ⟨hi16, hf⟩ := gd_some hf
      refine r_lald (pc := 1118) h (by decide) rfl hi16 dL_law_1118 ?_
      refine r_iload (pc := 1119) h dL_law_1119 0 rfl ?_
      refine r_i2l (pc := 1121) h dL_law_1121 ?_
      refine r_lcmp (pc := 1122) h dL_law_1122 ?_
      refine r_if_eq (pc := 1123) h 1128 dL_law_1123 (by decide) (fun hc17 => ?_) (fun hc17 => ?_)
      · have hf := ite_p hc17 hf
        refine r_goto (pc := 1128) h 1781 dL_law_1128 (by decide) ?_
        obtain ⟨v18, ev18⟩ : ∃ y : Int32, y = x4 + (6 : Int32) := ⟨_, rfl⟩
        have hf := nm_app ev18 hf
        refine r_iinc (pc := 1781) (v := v18) (lv' := [(4, .int v18), (6, .int u10), (5, .int u5), (0, .ref b), (1, .ref (ad 0)), (2, .ref (ad 37)), (3, .ref (ad 55))]) h dL_law_1781 6 rfl (by rw [ev18]; rfl) (by decide) rfl ?_
        refine r_goto (pc := 1784) h 23 dL_law_1784 (by decide) ?_
        refine r_sub h [3, 4, 5, 6, 0] rfl ?_
        exact hk _ h _ N11 hf
      · have hf := ite_n hc17 hf
        refine r_iconst (pc := 1126) (v := (0 : Int32)) h dL_law_1126 (by decide) ?_
        cases hf
  · have hf := ite_n hc14 hf
    refine r_iconst (pc := 1109) (v := (0 : Int32)) h dL_law_1109 (by decide) ?_
    cases hf
def fL_c1131 (F : Nat) (xs : Nat → Int32) (L : Nat) (k : Int32 → Mem → Option Mem) (x4 : Int32) (M : Mem) : Option Mem := gd (inb (x4 + (1 : Int32)) L) (bd (wL_kinds F (xs (Int32.toNatClampNeg (x4 + (1 : Int32)))) M) (fun u4 N2 => gd (inb (x4 + (1 : Int32)) L) (bd (fX9_kinds F (xs (Int32.toNatClampNeg (x4 + (1 : Int32)))) N2) (fun u8 N6 => bd (fX9_thrown F N6) (fun u11 N9 => if u11 = u4 then (if u4 = 0 then (gd (inb (0 : Int32) 1) (if (lg_cmp (N9.2 55 (Int32.toNatClampNeg (0 : Int32))) (Int32.toInt64 u8)) = 0 then (nm (x4 + (6 : Int32)) (fun v16 : Int32 => k v16 N9)) else (none))) else (nm (x4 + (6 : Int32)) (fun v17 : Int32 => k v17 N9))) else (none))))))
set_option maxRecDepth 100000 in
set_option maxHeartbeats 8000000 in
theorem wL_c1131 {l : Launch} {D : va_G} {ad : Nat → Nat} {ca : Nat → ClassId} {b L : Nat} {xs : Nat → Int32} {F : Nat} {M' : Mem} (hl : l.stackTraces = false) {k : Int32 → Mem → Option Mem} {kc ks : Nat} (hz : kc + 1 ≤ room_1.cells ∧ ks + 6 ≤ room_1.slots) (hk : ∀ V1 : Jdg, MchL l D ad ca b L xs (kc + 1) (ks + 6) V1 → ∀ (x4 : Int32) (M : Mem), k x4 M = some M' → V1 M 23 [(0, .ref b), (1, .ref (ad 0)), (2, .ref (ad 37)), (3, .ref (ad 55)), (4, .int x4)] []) {V : Jdg} (h : MchL l D ad ca b L xs kc ks V) (x4 : Int32) (M : Mem) (hf : fL_c1131 F xs L k x4 M = some M') : V M 1131 [(0, .ref b), (1, .ref (ad 0)), (2, .ref (ad 37)), (3, .ref (ad 55)), (4, .int x4)] [] := by
  obtain ⟨hz1, hz2⟩ := hz
  unfold fL_c1131 at hf
  refine r_aload_n (pc := 1131) h dL_law_1131 1 rfl rfl ?_
  refine r_aload_n (pc := 1132) h dL_law_1132 0 rfl rfl ?_
  refine r_iload (pc := 1133) h dL_law_1133 4 rfl ?_
  refine r_iconst (pc := 1135) (v := (1 : Int32)) h dL_law_1135 (by decide) ?_
  refine r_iadd (pc := 1136) h dL_law_1136 ?_
  obtain ⟨hi1, hf⟩ := gd_some hf
  refine r_sld (pc := 1137) h hi1 dL_law_1137 ?_
  refine r_aload_n (pc := 1138) h dL_law_1138 3 rfl rfl ?_
  obtain ⟨u4, N2, hc3, hf⟩ := bd_some hf
  refine r_callW (pc := 1139) (As := [.ref (ad 0), .int (xs (Int32.toNatClampNeg (x4 + (1 : Int32)))), .ref (ad 55)]) (rest := []) h mw_L_150 dL_law_1139 (cwL_kinds hl hc3) rfl rfl (by decide) (Nat.le_of_ble_eq_true rfl) ⟨by omega, by omega⟩ (fun V h => ?_)
  refine r_istore (pc := 1142) (lv' := [(5, .int u4), (0, .ref b), (1, .ref (ad 0)), (2, .ref (ad 37)), (3, .ref (ad 55)), (4, .int x4)]) h dL_law_1142 (by decide) rfl ?_
  refine r_aload_n (pc := 1144) h dL_law_1144 3 rfl rfl ?_
  refine r_aload_n (pc := 1145) h dL_law_1145 1 rfl rfl ?_
  refine r_iload (pc := 1146) h dL_law_1146 5 rfl ?_
  refine r_iconst (pc := 1148) (v := (1 : Int32)) h dL_law_1148 (by decide) ?_
  refine r_iadd (pc := 1149) h dL_law_1149 ?_
  obtain ⟨hi5, hf⟩ := gd_some hf
  refine r_sld (pc := 1150) h hi5 dL_law_1150 ?_
  obtain ⟨u8, N6, hc7, hf⟩ := bd_some hf
  refine r_callVi (pc := 1151) (o := 37) (As := [.int (xs (Int32.toNatClampNeg (x4 + (1 : Int32))))]) (rest := []) h mv_L_152 dL_law_1151 (by decide) rfl rfl (conX9_kinds hc7) rfl rfl (by decide) (Nat.le_of_ble_eq_true rfl) ⟨by omega, by omega⟩ ?_
  refine r_istore (pc := 1154) (lv' := [(6, .int u8), (5, .int u4), (0, .ref b), (1, .ref (ad 0)), (2, .ref (ad 37)), (3, .ref (ad 55)), (4, .int x4)]) h dL_law_1154 (by decide) rfl ?_
  refine r_aload_n (pc := 1156) h dL_law_1156 4 rfl rfl ?_
  obtain ⟨u11, N9, hc10, hf⟩ := bd_some hf
  refine r_callVi (pc := 1157) (o := 37) (As := []) (rest := []) h mv_L_105 dL_law_1157 (by decide) rfl rfl (conX9_thrown hc10) rfl rfl (by decide) (Nat.le_of_ble_eq_true rfl) ⟨by omega, by omega⟩ ?_
  refine r_iload (pc := 1160) h dL_law_1160 1 rfl ?_
  refine r_icmp_eq (pc := 1162) h 1167 dL_law_1162 (by decide) (fun hc12 => ?_) (fun hc12 => ?_)
  · have hf := ite_p hc12 hf
    refine r_iload (pc := 1167) h dL_law_1167 1 rfl ?_
    refine r_if_ne (pc := 1169) h 1184 dL_law_1169 (by decide) (fun hc13 => ?_) (fun hc13 => ?_)
    · have hf := ite_n hc13 hf
      refine r_goto (pc := 1184) h 1781 dL_law_1184 (by decide) ?_
      obtain ⟨v17, ev17⟩ : ∃ y : Int32, y = x4 + (6 : Int32) := ⟨_, rfl⟩
      have hf := nm_app ev17 hf
      refine r_iinc (pc := 1781) (v := v17) (lv' := [(4, .int v17), (6, .int u8), (5, .int u4), (0, .ref b), (1, .ref (ad 0)), (2, .ref (ad 37)), (3, .ref (ad 55))]) h dL_law_1781 6 rfl (by rw [ev17]; rfl) (by decide) rfl ?_
      refine r_goto (pc := 1784) h 23 dL_law_1784 (by decide) ?_
      refine r_sub h [3, 4, 5, 6, 0] rfl ?_
      exact hk _ h _ N9 hf
    · have hf := ite_p hc13 hf
      refine r_aload_n (pc := 1172) h dL_law_1172 5 rfl rfl ?_
      refine r_iconst (pc := 1173) (v := (0 : Int32)) h dL_law_1173 (by decide) ?_
      obtain ⟨hi14, hf⟩ := gd_some hf
      refine r_lald (pc := 1174) h (by decide) rfl hi14 dL_law_1174 ?_
      refine r_iload (pc := 1175) h dL_law_1175 0 rfl ?_
      refine r_i2l (pc := 1177) h dL_law_1177 ?_
      refine r_lcmp (pc := 1178) h dL_law_1178 ?_
      refine r_if_eq (pc := 1179) h 1184 dL_law_1179 (by decide) (fun hc15 => ?_) (fun hc15 => ?_)
      · have hf := ite_p hc15 hf
        refine r_goto (pc := 1184) h 1781 dL_law_1184 (by decide) ?_
        obtain ⟨v16, ev16⟩ : ∃ y : Int32, y = x4 + (6 : Int32) := ⟨_, rfl⟩
        have hf := nm_app ev16 hf
        refine r_iinc (pc := 1781) (v := v16) (lv' := [(4, .int v16), (6, .int u8), (5, .int u4), (0, .ref b), (1, .ref (ad 0)), (2, .ref (ad 37)), (3, .ref (ad 55))]) h dL_law_1781 6 rfl (by rw [ev16]; rfl) (by decide) rfl ?_
        refine r_goto (pc := 1784) h 23 dL_law_1784 (by decide) ?_
        refine r_sub h [3, 4, 5, 6, 0] rfl ?_
        exact hk _ h _ N9 hf
      · have hf := ite_n hc15 hf
        refine r_iconst (pc := 1182) (v := (0 : Int32)) h dL_law_1182 (by decide) ?_
        cases hf
  · have hf := ite_n hc12 hf
    refine r_iconst (pc := 1165) (v := (0 : Int32)) h dL_law_1165 (by decide) ?_
    cases hf
def fL_c1187 (F : Nat) (xs : Nat → Int32) (L : Nat) (k : Int32 → Mem → Option Mem) (x4 : Int32) (M : Mem) : Option Mem := gd (inb (x4 + (1 : Int32)) L) (gd (inb (x4 + (2 : Int32)) L) (gd (inb (x4 + (3 : Int32)) L) (bd (wL_kind F (xs (Int32.toNatClampNeg (x4 + (1 : Int32)))) (xs (Int32.toNatClampNeg (x4 + (2 : Int32)))) (xs (Int32.toNatClampNeg (x4 + (3 : Int32)))) M) (fun u6 N4 => gd (inb (x4 + (1 : Int32)) L) (gd (inb (x4 + (2 : Int32)) L) (gd (inb (x4 + (3 : Int32)) L) (bd (fX9_kind F (xs (Int32.toNatClampNeg (x4 + (1 : Int32)))) (xs (Int32.toNatClampNeg (x4 + (2 : Int32)))) (xs (Int32.toNatClampNeg (x4 + (3 : Int32)))) N4) (fun u12 N10 => bd (fX9_thrown F N10) (fun u15 N13 => if u15 = u6 then (if u6 = 0 then (gd (inb (0 : Int32) 1) (if (lg_cmp (N13.2 55 (Int32.toNatClampNeg (0 : Int32))) (Int32.toInt64 u12)) = 0 then (nm (x4 + (6 : Int32)) (fun v20 : Int32 => k v20 N13)) else (none))) else (nm (x4 + (6 : Int32)) (fun v21 : Int32 => k v21 N13))) else (none))))))))))
set_option maxRecDepth 100000 in
set_option maxHeartbeats 8000000 in
theorem wL_c1187 {l : Launch} {D : va_G} {ad : Nat → Nat} {ca : Nat → ClassId} {b L : Nat} {xs : Nat → Int32} {F : Nat} {M' : Mem} (hl : l.stackTraces = false) {k : Int32 → Mem → Option Mem} {kc ks : Nat} (hz : kc + 1 ≤ room_1.cells ∧ ks + 6 ≤ room_1.slots) (hk : ∀ V1 : Jdg, MchL l D ad ca b L xs (kc + 1) (ks + 6) V1 → ∀ (x4 : Int32) (M : Mem), k x4 M = some M' → V1 M 23 [(0, .ref b), (1, .ref (ad 0)), (2, .ref (ad 37)), (3, .ref (ad 55)), (4, .int x4)] []) {V : Jdg} (h : MchL l D ad ca b L xs kc ks V) (x4 : Int32) (M : Mem) (hf : fL_c1187 F xs L k x4 M = some M') : V M 1187 [(0, .ref b), (1, .ref (ad 0)), (2, .ref (ad 37)), (3, .ref (ad 55)), (4, .int x4)] [] := by
  obtain ⟨hz1, hz2⟩ := hz
  unfold fL_c1187 at hf
  refine r_aload_n (pc := 1187) h dL_law_1187 1 rfl rfl ?_
  refine r_aload_n (pc := 1188) h dL_law_1188 0 rfl rfl ?_
  refine r_iload (pc := 1189) h dL_law_1189 4 rfl ?_
  refine r_iconst (pc := 1191) (v := (1 : Int32)) h dL_law_1191 (by decide) ?_
  refine r_iadd (pc := 1192) h dL_law_1192 ?_
  obtain ⟨hi1, hf⟩ := gd_some hf
  refine r_sld (pc := 1193) h hi1 dL_law_1193 ?_
  refine r_aload_n (pc := 1194) h dL_law_1194 0 rfl rfl ?_
  refine r_iload (pc := 1195) h dL_law_1195 4 rfl ?_
  refine r_iconst (pc := 1197) (v := (2 : Int32)) h dL_law_1197 (by decide) ?_
  refine r_iadd (pc := 1198) h dL_law_1198 ?_
  obtain ⟨hi2, hf⟩ := gd_some hf
  refine r_sld (pc := 1199) h hi2 dL_law_1199 ?_
  refine r_aload_n (pc := 1200) h dL_law_1200 0 rfl rfl ?_
  refine r_iload (pc := 1201) h dL_law_1201 4 rfl ?_
  refine r_iconst (pc := 1203) (v := (3 : Int32)) h dL_law_1203 (by decide) ?_
  refine r_iadd (pc := 1204) h dL_law_1204 ?_
  obtain ⟨hi3, hf⟩ := gd_some hf
  refine r_sld (pc := 1205) h hi3 dL_law_1205 ?_
  refine r_aload_n (pc := 1206) h dL_law_1206 3 rfl rfl ?_
  obtain ⟨u6, N4, hc5, hf⟩ := bd_some hf
  refine r_callW (pc := 1207) (As := [.ref (ad 0), .int (xs (Int32.toNatClampNeg (x4 + (1 : Int32)))), .int (xs (Int32.toNatClampNeg (x4 + (2 : Int32)))), .int (xs (Int32.toNatClampNeg (x4 + (3 : Int32)))), .ref (ad 55)]) (rest := []) h mw_L_153 dL_law_1207 (cwL_kind hl hc5) rfl rfl (by decide) (Nat.le_of_ble_eq_true rfl) ⟨by omega, by omega⟩ (fun V h => ?_)
  refine r_istore (pc := 1210) (lv' := [(5, .int u6), (0, .ref b), (1, .ref (ad 0)), (2, .ref (ad 37)), (3, .ref (ad 55)), (4, .int x4)]) h dL_law_1210 (by decide) rfl ?_
  refine r_aload_n (pc := 1212) h dL_law_1212 3 rfl rfl ?_
  refine r_aload_n (pc := 1213) h dL_law_1213 1 rfl rfl ?_
  refine r_iload (pc := 1214) h dL_law_1214 5 rfl ?_
  refine r_iconst (pc := 1216) (v := (1 : Int32)) h dL_law_1216 (by decide) ?_
  refine r_iadd (pc := 1217) h dL_law_1217 ?_
  obtain ⟨hi7, hf⟩ := gd_some hf
  refine r_sld (pc := 1218) h hi7 dL_law_1218 ?_
  refine r_aload_n (pc := 1219) h dL_law_1219 1 rfl rfl ?_
  refine r_iload (pc := 1220) h dL_law_1220 5 rfl ?_
  refine r_iconst (pc := 1222) (v := (2 : Int32)) h dL_law_1222 (by decide) ?_
  refine r_iadd (pc := 1223) h dL_law_1223 ?_
  obtain ⟨hi8, hf⟩ := gd_some hf
  refine r_sld (pc := 1224) h hi8 dL_law_1224 ?_
  refine r_aload_n (pc := 1225) h dL_law_1225 1 rfl rfl ?_
  refine r_iload (pc := 1226) h dL_law_1226 5 rfl ?_
  refine r_iconst (pc := 1228) (v := (3 : Int32)) h dL_law_1228 (by decide) ?_
  refine r_iadd (pc := 1229) h dL_law_1229 ?_
  obtain ⟨hi9, hf⟩ := gd_some hf
  refine r_sld (pc := 1230) h hi9 dL_law_1230 ?_
  obtain ⟨u12, N10, hc11, hf⟩ := bd_some hf
  refine r_callVi (pc := 1231) (o := 37) (As := [.int (xs (Int32.toNatClampNeg (x4 + (1 : Int32)))), .int (xs (Int32.toNatClampNeg (x4 + (2 : Int32)))), .int (xs (Int32.toNatClampNeg (x4 + (3 : Int32))))]) (rest := []) h mv_L_156 dL_law_1231 (by decide) rfl rfl (conX9_kind hc11) rfl rfl (by decide) (Nat.le_of_ble_eq_true rfl) ⟨by omega, by omega⟩ ?_
  refine r_istore (pc := 1234) (lv' := [(6, .int u12), (5, .int u6), (0, .ref b), (1, .ref (ad 0)), (2, .ref (ad 37)), (3, .ref (ad 55)), (4, .int x4)]) h dL_law_1234 (by decide) rfl ?_
  refine r_aload_n (pc := 1236) h dL_law_1236 4 rfl rfl ?_
  obtain ⟨u15, N13, hc14, hf⟩ := bd_some hf
  refine r_callVi (pc := 1237) (o := 37) (As := []) (rest := []) h mv_L_105 dL_law_1237 (by decide) rfl rfl (conX9_thrown hc14) rfl rfl (by decide) (Nat.le_of_ble_eq_true rfl) ⟨by omega, by omega⟩ ?_
  refine r_iload (pc := 1240) h dL_law_1240 1 rfl ?_
  refine r_icmp_eq (pc := 1242) h 1247 dL_law_1242 (by decide) (fun hc16 => ?_) (fun hc16 => ?_)
  · have hf := ite_p hc16 hf
    refine r_iload (pc := 1247) h dL_law_1247 1 rfl ?_
    refine r_if_ne (pc := 1249) h 1264 dL_law_1249 (by decide) (fun hc17 => ?_) (fun hc17 => ?_)
    · have hf := ite_n hc17 hf
      refine r_goto (pc := 1264) h 1781 dL_law_1264 (by decide) ?_
      obtain ⟨v21, ev21⟩ : ∃ y : Int32, y = x4 + (6 : Int32) := ⟨_, rfl⟩
      have hf := nm_app ev21 hf
      refine r_iinc (pc := 1781) (v := v21) (lv' := [(4, .int v21), (6, .int u12), (5, .int u6), (0, .ref b), (1, .ref (ad 0)), (2, .ref (ad 37)), (3, .ref (ad 55))]) h dL_law_1781 6 rfl (by rw [ev21]; rfl) (by decide) rfl ?_
      refine r_goto (pc := 1784) h 23 dL_law_1784 (by decide) ?_
      refine r_sub h [3, 4, 5, 6, 0] rfl ?_
      exact hk _ h _ N13 hf
    · have hf := ite_p hc17 hf
      refine r_aload_n (pc := 1252) h dL_law_1252 5 rfl rfl ?_
      refine r_iconst (pc := 1253) (v := (0 : Int32)) h dL_law_1253 (by decide) ?_
      obtain ⟨hi18, hf⟩ := gd_some hf
      refine r_lald (pc := 1254) h (by decide) rfl hi18 dL_law_1254 ?_
      refine r_iload (pc := 1255) h dL_law_1255 0 rfl ?_
      refine r_i2l (pc := 1257) h dL_law_1257 ?_
      refine r_lcmp (pc := 1258) h dL_law_1258 ?_
      refine r_if_eq (pc := 1259) h 1264 dL_law_1259 (by decide) (fun hc19 => ?_) (fun hc19 => ?_)
      · have hf := ite_p hc19 hf
        refine r_goto (pc := 1264) h 1781 dL_law_1264 (by decide) ?_
        obtain ⟨v20, ev20⟩ : ∃ y : Int32, y = x4 + (6 : Int32) := ⟨_, rfl⟩
        have hf := nm_app ev20 hf
        refine r_iinc (pc := 1781) (v := v20) (lv' := [(4, .int v20), (6, .int u12), (5, .int u6), (0, .ref b), (1, .ref (ad 0)), (2, .ref (ad 37)), (3, .ref (ad 55))]) h dL_law_1781 6 rfl (by rw [ev20]; rfl) (by decide) rfl ?_
        refine r_goto (pc := 1784) h 23 dL_law_1784 (by decide) ?_
        refine r_sub h [3, 4, 5, 6, 0] rfl ?_
        exact hk _ h _ N13 hf
      · have hf := ite_n hc19 hf
        refine r_iconst (pc := 1262) (v := (0 : Int32)) h dL_law_1262 (by decide) ?_
        cases hf
  · have hf := ite_n hc16 hf
    refine r_iconst (pc := 1245) (v := (0 : Int32)) h dL_law_1245 (by decide) ?_
    cases hf
def fL_c1267 (F : Nat) (xs : Nat → Int32) (L : Nat) (k : Int32 → Mem → Option Mem) (x4 : Int32) (M : Mem) : Option Mem := gd (inb (x4 + (1 : Int32)) L) (bd (wL_count F (xs (Int32.toNatClampNeg (x4 + (1 : Int32)))) M) (fun u4 N2 => gd (inb (x4 + (1 : Int32)) L) (bd (fX9_count F (xs (Int32.toNatClampNeg (x4 + (1 : Int32)))) N2) (fun u8 N6 => bd (fX9_thrown F N6) (fun u11 N9 => if u11 = u4 then (if u4 = 0 then (gd (inb (0 : Int32) 1) (if (lg_cmp (N9.2 55 (Int32.toNatClampNeg (0 : Int32))) (Int32.toInt64 u8)) = 0 then (nm (x4 + (6 : Int32)) (fun v16 : Int32 => k v16 N9)) else (none))) else (nm (x4 + (6 : Int32)) (fun v17 : Int32 => k v17 N9))) else (none))))))
set_option maxRecDepth 100000 in
set_option maxHeartbeats 8000000 in
theorem wL_c1267 {l : Launch} {D : va_G} {ad : Nat → Nat} {ca : Nat → ClassId} {b L : Nat} {xs : Nat → Int32} {F : Nat} {M' : Mem} (hl : l.stackTraces = false) {k : Int32 → Mem → Option Mem} {kc ks : Nat} (hz : kc + 1 ≤ room_1.cells ∧ ks + 6 ≤ room_1.slots) (hk : ∀ V1 : Jdg, MchL l D ad ca b L xs (kc + 1) (ks + 6) V1 → ∀ (x4 : Int32) (M : Mem), k x4 M = some M' → V1 M 23 [(0, .ref b), (1, .ref (ad 0)), (2, .ref (ad 37)), (3, .ref (ad 55)), (4, .int x4)] []) {V : Jdg} (h : MchL l D ad ca b L xs kc ks V) (x4 : Int32) (M : Mem) (hf : fL_c1267 F xs L k x4 M = some M') : V M 1267 [(0, .ref b), (1, .ref (ad 0)), (2, .ref (ad 37)), (3, .ref (ad 55)), (4, .int x4)] [] := by
  obtain ⟨hz1, hz2⟩ := hz
  unfold fL_c1267 at hf
  refine r_aload_n (pc := 1267) h dL_law_1267 1 rfl rfl ?_
  refine r_aload_n (pc := 1268) h dL_law_1268 0 rfl rfl ?_
  refine r_iload (pc := 1269) h dL_law_1269 4 rfl ?_
  refine r_iconst (pc := 1271) (v := (1 : Int32)) h dL_law_1271 (by decide) ?_
  refine r_iadd (pc := 1272) h dL_law_1272 ?_
  obtain ⟨hi1, hf⟩ := gd_some hf
  refine r_sld (pc := 1273) h hi1 dL_law_1273 ?_
  refine r_aload_n (pc := 1274) h dL_law_1274 3 rfl rfl ?_
  obtain ⟨u4, N2, hc3, hf⟩ := bd_some hf
  refine r_callW (pc := 1275) (As := [.ref (ad 0), .int (xs (Int32.toNatClampNeg (x4 + (1 : Int32)))), .ref (ad 55)]) (rest := []) h mw_L_157 dL_law_1275 (cwL_count hl hc3) rfl rfl (by decide) (Nat.le_of_ble_eq_true rfl) ⟨by omega, by omega⟩ (fun V h => ?_)
  refine r_istore (pc := 1278) (lv' := [(5, .int u4), (0, .ref b), (1, .ref (ad 0)), (2, .ref (ad 37)), (3, .ref (ad 55)), (4, .int x4)]) h dL_law_1278 (by decide) rfl ?_
  refine r_aload_n (pc := 1280) h dL_law_1280 3 rfl rfl ?_
  refine r_aload_n (pc := 1281) h dL_law_1281 1 rfl rfl ?_
  refine r_iload (pc := 1282) h dL_law_1282 5 rfl ?_
  refine r_iconst (pc := 1284) (v := (1 : Int32)) h dL_law_1284 (by decide) ?_
  refine r_iadd (pc := 1285) h dL_law_1285 ?_
  obtain ⟨hi5, hf⟩ := gd_some hf
  refine r_sld (pc := 1286) h hi5 dL_law_1286 ?_
  obtain ⟨u8, N6, hc7, hf⟩ := bd_some hf
  refine r_callVi (pc := 1287) (o := 37) (As := [.int (xs (Int32.toNatClampNeg (x4 + (1 : Int32))))]) (rest := []) h mv_L_159 dL_law_1287 (by decide) rfl rfl (conX9_count hc7) rfl rfl (by decide) (Nat.le_of_ble_eq_true rfl) ⟨by omega, by omega⟩ ?_
  refine r_istore (pc := 1290) (lv' := [(6, .int u8), (5, .int u4), (0, .ref b), (1, .ref (ad 0)), (2, .ref (ad 37)), (3, .ref (ad 55)), (4, .int x4)]) h dL_law_1290 (by decide) rfl ?_
  refine r_aload_n (pc := 1292) h dL_law_1292 4 rfl rfl ?_
  obtain ⟨u11, N9, hc10, hf⟩ := bd_some hf
  refine r_callVi (pc := 1293) (o := 37) (As := []) (rest := []) h mv_L_105 dL_law_1293 (by decide) rfl rfl (conX9_thrown hc10) rfl rfl (by decide) (Nat.le_of_ble_eq_true rfl) ⟨by omega, by omega⟩ ?_
  refine r_iload (pc := 1296) h dL_law_1296 1 rfl ?_
  refine r_icmp_eq (pc := 1298) h 1303 dL_law_1298 (by decide) (fun hc12 => ?_) (fun hc12 => ?_)
  · have hf := ite_p hc12 hf
    refine r_iload (pc := 1303) h dL_law_1303 1 rfl ?_
    refine r_if_ne (pc := 1305) h 1320 dL_law_1305 (by decide) (fun hc13 => ?_) (fun hc13 => ?_)
    · have hf := ite_n hc13 hf
      refine r_goto (pc := 1320) h 1781 dL_law_1320 (by decide) ?_
      obtain ⟨v17, ev17⟩ : ∃ y : Int32, y = x4 + (6 : Int32) := ⟨_, rfl⟩
      have hf := nm_app ev17 hf
      refine r_iinc (pc := 1781) (v := v17) (lv' := [(4, .int v17), (6, .int u8), (5, .int u4), (0, .ref b), (1, .ref (ad 0)), (2, .ref (ad 37)), (3, .ref (ad 55))]) h dL_law_1781 6 rfl (by rw [ev17]; rfl) (by decide) rfl ?_
      refine r_goto (pc := 1784) h 23 dL_law_1784 (by decide) ?_
      refine r_sub h [3, 4, 5, 6, 0] rfl ?_
      exact hk _ h _ N9 hf
    · have hf := ite_p hc13 hf
      refine r_aload_n (pc := 1308) h dL_law_1308 5 rfl rfl ?_
      refine r_iconst (pc := 1309) (v := (0 : Int32)) h dL_law_1309 (by decide) ?_
      obtain ⟨hi14, hf⟩ := gd_some hf
      refine r_lald (pc := 1310) h (by decide) rfl hi14 dL_law_1310 ?_
      refine r_iload (pc := 1311) h dL_law_1311 0 rfl ?_
      refine r_i2l (pc := 1313) h dL_law_1313 ?_
      refine r_lcmp (pc := 1314) h dL_law_1314 ?_
      refine r_if_eq (pc := 1315) h 1320 dL_law_1315 (by decide) (fun hc15 => ?_) (fun hc15 => ?_)
      · have hf := ite_p hc15 hf
        refine r_goto (pc := 1320) h 1781 dL_law_1320 (by decide) ?_
        obtain ⟨v16, ev16⟩ : ∃ y : Int32, y = x4 + (6 : Int32) := ⟨_, rfl⟩
        have hf := nm_app ev16 hf
        refine r_iinc (pc := 1781) (v := v16) (lv' := [(4, .int v16), (6, .int u8), (5, .int u4), (0, .ref b), (1, .ref (ad 0)), (2, .ref (ad 37)), (3, .ref (ad 55))]) h dL_law_1781 6 rfl (by rw [ev16]; rfl) (by decide) rfl ?_
        refine r_goto (pc := 1784) h 23 dL_law_1784 (by decide) ?_
        refine r_sub h [3, 4, 5, 6, 0] rfl ?_
        exact hk _ h _ N9 hf
      · have hf := ite_n hc15 hf
        refine r_iconst (pc := 1318) (v := (0 : Int32)) h dL_law_1318 (by decide) ?_
        cases hf
  · have hf := ite_n hc12 hf
    refine r_iconst (pc := 1301) (v := (0 : Int32)) h dL_law_1301 (by decide) ?_
    cases hf
def fL_c1323 (F : Nat) (xs : Nat → Int32) (L : Nat) (k : Int32 → Mem → Option Mem) (x4 : Int32) (M : Mem) : Option Mem := gd (inb (x4 + (1 : Int32)) L) (gd (inb (x4 + (2 : Int32)) L) (bd (wL_colours F (xs (Int32.toNatClampNeg (x4 + (1 : Int32)))) (xs (Int32.toNatClampNeg (x4 + (2 : Int32)))) M) (fun u5 N3 => gd (inb (x4 + (1 : Int32)) L) (gd (inb (x4 + (2 : Int32)) L) (bd (fX9_colours F (xs (Int32.toNatClampNeg (x4 + (1 : Int32)))) (xs (Int32.toNatClampNeg (x4 + (2 : Int32)))) N3) (fun u10 N8 => bd (fX9_thrown F N8) (fun u13 N11 => if u13 = u5 then (if u5 = 0 then (gd (inb (0 : Int32) 1) (if (lg_cmp (N11.2 55 (Int32.toNatClampNeg (0 : Int32))) (Int32.toInt64 u10)) = 0 then (nm (x4 + (6 : Int32)) (fun v18 : Int32 => k v18 N11)) else (none))) else (nm (x4 + (6 : Int32)) (fun v19 : Int32 => k v19 N11))) else (none))))))))
set_option maxRecDepth 100000 in
set_option maxHeartbeats 8000000 in
theorem wL_c1323 {l : Launch} {D : va_G} {ad : Nat → Nat} {ca : Nat → ClassId} {b L : Nat} {xs : Nat → Int32} {F : Nat} {M' : Mem} (hl : l.stackTraces = false) {k : Int32 → Mem → Option Mem} {kc ks : Nat} (hz : kc + 1 ≤ room_1.cells ∧ ks + 6 ≤ room_1.slots) (hk : ∀ V1 : Jdg, MchL l D ad ca b L xs (kc + 1) (ks + 6) V1 → ∀ (x4 : Int32) (M : Mem), k x4 M = some M' → V1 M 23 [(0, .ref b), (1, .ref (ad 0)), (2, .ref (ad 37)), (3, .ref (ad 55)), (4, .int x4)] []) {V : Jdg} (h : MchL l D ad ca b L xs kc ks V) (x4 : Int32) (M : Mem) (hf : fL_c1323 F xs L k x4 M = some M') : V M 1323 [(0, .ref b), (1, .ref (ad 0)), (2, .ref (ad 37)), (3, .ref (ad 55)), (4, .int x4)] [] := by
  obtain ⟨hz1, hz2⟩ := hz
  unfold fL_c1323 at hf
  refine r_aload_n (pc := 1323) h dL_law_1323 1 rfl rfl ?_
  refine r_aload_n (pc := 1324) h dL_law_1324 0 rfl rfl ?_
  refine r_iload (pc := 1325) h dL_law_1325 4 rfl ?_
  refine r_iconst (pc := 1327) (v := (1 : Int32)) h dL_law_1327 (by decide) ?_
  refine r_iadd (pc := 1328) h dL_law_1328 ?_
  obtain ⟨hi1, hf⟩ := gd_some hf
  refine r_sld (pc := 1329) h hi1 dL_law_1329 ?_
  refine r_aload_n (pc := 1330) h dL_law_1330 0 rfl rfl ?_
  refine r_iload (pc := 1331) h dL_law_1331 4 rfl ?_
  refine r_iconst (pc := 1333) (v := (2 : Int32)) h dL_law_1333 (by decide) ?_
  refine r_iadd (pc := 1334) h dL_law_1334 ?_
  obtain ⟨hi2, hf⟩ := gd_some hf
  refine r_sld (pc := 1335) h hi2 dL_law_1335 ?_
  refine r_aload_n (pc := 1336) h dL_law_1336 3 rfl rfl ?_
  obtain ⟨u5, N3, hc4, hf⟩ := bd_some hf
  refine r_callW (pc := 1337) (As := [.ref (ad 0), .int (xs (Int32.toNatClampNeg (x4 + (1 : Int32)))), .int (xs (Int32.toNatClampNeg (x4 + (2 : Int32)))), .ref (ad 55)]) (rest := []) h mw_L_160 dL_law_1337 (cwL_colours hl hc4) rfl rfl (by decide) (Nat.le_of_ble_eq_true rfl) ⟨by omega, by omega⟩ (fun V h => ?_)
  refine r_istore (pc := 1340) (lv' := [(5, .int u5), (0, .ref b), (1, .ref (ad 0)), (2, .ref (ad 37)), (3, .ref (ad 55)), (4, .int x4)]) h dL_law_1340 (by decide) rfl ?_
  refine r_aload_n (pc := 1342) h dL_law_1342 3 rfl rfl ?_
  refine r_aload_n (pc := 1343) h dL_law_1343 1 rfl rfl ?_
  refine r_iload (pc := 1344) h dL_law_1344 5 rfl ?_
  refine r_iconst (pc := 1346) (v := (1 : Int32)) h dL_law_1346 (by decide) ?_
  refine r_iadd (pc := 1347) h dL_law_1347 ?_
  obtain ⟨hi6, hf⟩ := gd_some hf
  refine r_sld (pc := 1348) h hi6 dL_law_1348 ?_
  refine r_aload_n (pc := 1349) h dL_law_1349 1 rfl rfl ?_
  refine r_iload (pc := 1350) h dL_law_1350 5 rfl ?_
  refine r_iconst (pc := 1352) (v := (2 : Int32)) h dL_law_1352 (by decide) ?_
  refine r_iadd (pc := 1353) h dL_law_1353 ?_
  obtain ⟨hi7, hf⟩ := gd_some hf
  refine r_sld (pc := 1354) h hi7 dL_law_1354 ?_
  obtain ⟨u10, N8, hc9, hf⟩ := bd_some hf
  refine r_callVi (pc := 1355) (o := 37) (As := [.int (xs (Int32.toNatClampNeg (x4 + (1 : Int32)))), .int (xs (Int32.toNatClampNeg (x4 + (2 : Int32))))]) (rest := []) h mv_L_162 dL_law_1355 (by decide) rfl rfl (conX9_colours hc9) rfl rfl (by decide) (Nat.le_of_ble_eq_true rfl) ⟨by omega, by omega⟩ ?_
  refine r_istore (pc := 1358) (lv' := [(6, .int u10), (5, .int u5), (0, .ref b), (1, .ref (ad 0)), (2, .ref (ad 37)), (3, .ref (ad 55)), (4, .int x4)]) h dL_law_1358 (by decide) rfl ?_
  refine r_aload_n (pc := 1360) h dL_law_1360 4 rfl rfl ?_
  obtain ⟨u13, N11, hc12, hf⟩ := bd_some hf
  refine r_callVi (pc := 1361) (o := 37) (As := []) (rest := []) h mv_L_105 dL_law_1361 (by decide) rfl rfl (conX9_thrown hc12) rfl rfl (by decide) (Nat.le_of_ble_eq_true rfl) ⟨by omega, by omega⟩ ?_
  refine r_iload (pc := 1364) h dL_law_1364 1 rfl ?_
  refine r_icmp_eq (pc := 1366) h 1371 dL_law_1366 (by decide) (fun hc14 => ?_) (fun hc14 => ?_)
  · have hf := ite_p hc14 hf
    refine r_iload (pc := 1371) h dL_law_1371 1 rfl ?_
    refine r_if_ne (pc := 1373) h 1388 dL_law_1373 (by decide) (fun hc15 => ?_) (fun hc15 => ?_)
    · have hf := ite_n hc15 hf
      refine r_goto (pc := 1388) h 1781 dL_law_1388 (by decide) ?_
      obtain ⟨v19, ev19⟩ : ∃ y : Int32, y = x4 + (6 : Int32) := ⟨_, rfl⟩
      have hf := nm_app ev19 hf
      refine r_iinc (pc := 1781) (v := v19) (lv' := [(4, .int v19), (6, .int u10), (5, .int u5), (0, .ref b), (1, .ref (ad 0)), (2, .ref (ad 37)), (3, .ref (ad 55))]) h dL_law_1781 6 rfl (by rw [ev19]; rfl) (by decide) rfl ?_
      refine r_goto (pc := 1784) h 23 dL_law_1784 (by decide) ?_
      refine r_sub h [3, 4, 5, 6, 0] rfl ?_
      exact hk _ h _ N11 hf
    · have hf := ite_p hc15 hf
      refine r_aload_n (pc := 1376) h dL_law_1376 5 rfl rfl ?_
      refine r_iconst (pc := 1377) (v := (0 : Int32)) h dL_law_1377 (by decide) ?_
      obtain ⟨hi16, hf⟩ := gd_some hf
      refine r_lald (pc := 1378) h (by decide) rfl hi16 dL_law_1378 ?_
      refine r_iload (pc := 1379) h dL_law_1379 0 rfl ?_
      refine r_i2l (pc := 1381) h dL_law_1381 ?_
      refine r_lcmp (pc := 1382) h dL_law_1382 ?_
      refine r_if_eq (pc := 1383) h 1388 dL_law_1383 (by decide) (fun hc17 => ?_) (fun hc17 => ?_)
      · have hf := ite_p hc17 hf
        refine r_goto (pc := 1388) h 1781 dL_law_1388 (by decide) ?_
        obtain ⟨v18, ev18⟩ : ∃ y : Int32, y = x4 + (6 : Int32) := ⟨_, rfl⟩
        have hf := nm_app ev18 hf
        refine r_iinc (pc := 1781) (v := v18) (lv' := [(4, .int v18), (6, .int u10), (5, .int u5), (0, .ref b), (1, .ref (ad 0)), (2, .ref (ad 37)), (3, .ref (ad 55))]) h dL_law_1781 6 rfl (by rw [ev18]; rfl) (by decide) rfl ?_
        refine r_goto (pc := 1784) h 23 dL_law_1784 (by decide) ?_
        refine r_sub h [3, 4, 5, 6, 0] rfl ?_
        exact hk _ h _ N11 hf
      · have hf := ite_n hc17 hf
        refine r_iconst (pc := 1386) (v := (0 : Int32)) h dL_law_1386 (by decide) ?_
        cases hf
  · have hf := ite_n hc14 hf
    refine r_iconst (pc := 1369) (v := (0 : Int32)) h dL_law_1369 (by decide) ?_
    cases hf
def fL_c1391 (F : Nat) (xs : Nat → Int32) (L : Nat) (k : Int32 → Mem → Option Mem) (x4 : Int32) (M : Mem) : Option Mem := gd (inb (x4 + (1 : Int32)) L) (bd (fX8_colour F (xs (Int32.toNatClampNeg (x4 + (1 : Int32)))) M) (fun u4 N2 => gd (inb (x4 + (1 : Int32)) L) (bd (fX9_colour F (xs (Int32.toNatClampNeg (x4 + (1 : Int32)))) N2) (fun u8 N6 => if u4 = u8 then (nm (x4 + (6 : Int32)) (fun v10 : Int32 => k v10 N6)) else (none)))))
set_option maxRecDepth 100000 in
set_option maxHeartbeats 8000000 in
theorem wL_c1391 {l : Launch} {D : va_G} {ad : Nat → Nat} {ca : Nat → ClassId} {b L : Nat} {xs : Nat → Int32} {F : Nat} {M' : Mem} (hl : l.stackTraces = false) {k : Int32 → Mem → Option Mem} {kc ks : Nat} (hz : kc + 1 ≤ room_1.cells ∧ ks + 6 ≤ room_1.slots) (hk : ∀ V1 : Jdg, MchL l D ad ca b L xs (kc + 1) (ks + 6) V1 → ∀ (x4 : Int32) (M : Mem), k x4 M = some M' → V1 M 23 [(0, .ref b), (1, .ref (ad 0)), (2, .ref (ad 37)), (3, .ref (ad 55)), (4, .int x4)] []) {V : Jdg} (h : MchL l D ad ca b L xs kc ks V) (x4 : Int32) (M : Mem) (hf : fL_c1391 F xs L k x4 M = some M') : V M 1391 [(0, .ref b), (1, .ref (ad 0)), (2, .ref (ad 37)), (3, .ref (ad 55)), (4, .int x4)] [] := by
  obtain ⟨hz1, hz2⟩ := hz
  unfold fL_c1391 at hf
  refine r_aload_n (pc := 1391) h dL_law_1391 1 rfl rfl ?_
  refine r_aload_n (pc := 1392) h dL_law_1392 0 rfl rfl ?_
  refine r_iload (pc := 1393) h dL_law_1393 4 rfl ?_
  refine r_iconst (pc := 1395) (v := (1 : Int32)) h dL_law_1395 (by decide) ?_
  refine r_iadd (pc := 1396) h dL_law_1396 ?_
  obtain ⟨hi1, hf⟩ := gd_some hf
  refine r_sld (pc := 1397) h hi1 dL_law_1397 ?_
  obtain ⟨u4, N2, hc3, hf⟩ := bd_some hf
  refine r_callVi (pc := 1398) (o := 0) (As := [.int (xs (Int32.toNatClampNeg (x4 + (1 : Int32))))]) (rest := []) h mv_L_163 dL_law_1398 (by decide) rfl rfl (conX8_colour hc3) rfl rfl (by decide) (Nat.le_of_ble_eq_true rfl) ⟨by omega, by omega⟩ ?_
  refine r_aload_n (pc := 1401) h dL_law_1401 2 rfl rfl ?_
  refine r_aload_n (pc := 1402) h dL_law_1402 0 rfl rfl ?_
  refine r_iload (pc := 1403) h dL_law_1403 4 rfl ?_
  refine r_iconst (pc := 1405) (v := (1 : Int32)) h dL_law_1405 (by decide) ?_
  refine r_iadd (pc := 1406) h dL_law_1406 ?_
  obtain ⟨hi5, hf⟩ := gd_some hf
  refine r_sld (pc := 1407) h hi5 dL_law_1407 ?_
  obtain ⟨u8, N6, hc7, hf⟩ := bd_some hf
  refine r_callVi (pc := 1408) (o := 37) (As := [.int (xs (Int32.toNatClampNeg (x4 + (1 : Int32))))]) (rest := [.int u4]) h mv_L_166 dL_law_1408 (by decide) rfl rfl (conX9_colour hc7) rfl rfl (by decide) (Nat.le_of_ble_eq_true rfl) ⟨by omega, by omega⟩ ?_
  refine r_icmp_eq (pc := 1411) h 1781 dL_law_1411 (by decide) (fun hc9 => ?_) (fun hc9 => ?_)
  · have hf := ite_p hc9 hf
    obtain ⟨v10, ev10⟩ : ∃ y : Int32, y = x4 + (6 : Int32) := ⟨_, rfl⟩
    have hf := nm_app ev10 hf
    refine r_iinc (pc := 1781) (v := v10) (lv' := [(4, .int v10), (0, .ref b), (1, .ref (ad 0)), (2, .ref (ad 37)), (3, .ref (ad 55))]) h dL_law_1781 4 rfl (by rw [ev10]; rfl) (by decide) rfl ?_
    refine r_goto (pc := 1784) h 23 dL_law_1784 (by decide) ?_
    refine r_widen h (fun V h => ?_)
    refine r_sub h [1, 2, 3, 4, 0] rfl ?_
    exact hk _ h _ N6 hf
  · have hf := ite_n hc9 hf
    refine r_iconst (pc := 1414) (v := (0 : Int32)) h dL_law_1414 (by decide) ?_
    cases hf
def fL_c1416 (F : Nat) (xs : Nat → Int32) (L : Nat) (k : Int32 → Mem → Option Mem) (x4 : Int32) (M : Mem) : Option Mem := gd (inb (x4 + (1 : Int32)) L) (gd (inb (x4 + (2 : Int32)) L) (bd (wL_forced F (xs (Int32.toNatClampNeg (x4 + (1 : Int32)))) (xs (Int32.toNatClampNeg (x4 + (2 : Int32)))) M) (fun u5 N3 => gd (inb (x4 + (1 : Int32)) L) (gd (inb (x4 + (2 : Int32)) L) (bd (fX9_forced F (xs (Int32.toNatClampNeg (x4 + (1 : Int32)))) (xs (Int32.toNatClampNeg (x4 + (2 : Int32)))) N3) (fun u10 N8 => bd (fX9_thrown F N8) (fun u13 N11 => if u13 = u5 then (if u5 = 0 then (gd (inb (0 : Int32) 1) (if (lg_cmp (N11.2 55 (Int32.toNatClampNeg (0 : Int32))) (Int32.toInt64 u10)) = 0 then (nm (x4 + (6 : Int32)) (fun v18 : Int32 => k v18 N11)) else (none))) else (nm (x4 + (6 : Int32)) (fun v19 : Int32 => k v19 N11))) else (none))))))))
set_option maxRecDepth 100000 in
set_option maxHeartbeats 8000000 in
theorem wL_c1416 {l : Launch} {D : va_G} {ad : Nat → Nat} {ca : Nat → ClassId} {b L : Nat} {xs : Nat → Int32} {F : Nat} {M' : Mem} (hl : l.stackTraces = false) {k : Int32 → Mem → Option Mem} {kc ks : Nat} (hz : kc + 1 ≤ room_1.cells ∧ ks + 6 ≤ room_1.slots) (hk : ∀ V1 : Jdg, MchL l D ad ca b L xs (kc + 1) (ks + 6) V1 → ∀ (x4 : Int32) (M : Mem), k x4 M = some M' → V1 M 23 [(0, .ref b), (1, .ref (ad 0)), (2, .ref (ad 37)), (3, .ref (ad 55)), (4, .int x4)] []) {V : Jdg} (h : MchL l D ad ca b L xs kc ks V) (x4 : Int32) (M : Mem) (hf : fL_c1416 F xs L k x4 M = some M') : V M 1416 [(0, .ref b), (1, .ref (ad 0)), (2, .ref (ad 37)), (3, .ref (ad 55)), (4, .int x4)] [] := by
  obtain ⟨hz1, hz2⟩ := hz
  unfold fL_c1416 at hf
  refine r_aload_n (pc := 1416) h dL_law_1416 1 rfl rfl ?_
  refine r_aload_n (pc := 1417) h dL_law_1417 0 rfl rfl ?_
  refine r_iload (pc := 1418) h dL_law_1418 4 rfl ?_
  refine r_iconst (pc := 1420) (v := (1 : Int32)) h dL_law_1420 (by decide) ?_
  refine r_iadd (pc := 1421) h dL_law_1421 ?_
  obtain ⟨hi1, hf⟩ := gd_some hf
  refine r_sld (pc := 1422) h hi1 dL_law_1422 ?_
  refine r_aload_n (pc := 1423) h dL_law_1423 0 rfl rfl ?_
  refine r_iload (pc := 1424) h dL_law_1424 4 rfl ?_
  refine r_iconst (pc := 1426) (v := (2 : Int32)) h dL_law_1426 (by decide) ?_
  refine r_iadd (pc := 1427) h dL_law_1427 ?_
  obtain ⟨hi2, hf⟩ := gd_some hf
  refine r_sld (pc := 1428) h hi2 dL_law_1428 ?_
  refine r_aload_n (pc := 1429) h dL_law_1429 3 rfl rfl ?_
  obtain ⟨u5, N3, hc4, hf⟩ := bd_some hf
  refine r_callW (pc := 1430) (As := [.ref (ad 0), .int (xs (Int32.toNatClampNeg (x4 + (1 : Int32)))), .int (xs (Int32.toNatClampNeg (x4 + (2 : Int32)))), .ref (ad 55)]) (rest := []) h mw_L_167 dL_law_1430 (cwL_forced hl hc4) rfl rfl (by decide) (Nat.le_of_ble_eq_true rfl) ⟨by omega, by omega⟩ (fun V h => ?_)
  refine r_istore (pc := 1433) (lv' := [(5, .int u5), (0, .ref b), (1, .ref (ad 0)), (2, .ref (ad 37)), (3, .ref (ad 55)), (4, .int x4)]) h dL_law_1433 (by decide) rfl ?_
  refine r_aload_n (pc := 1435) h dL_law_1435 3 rfl rfl ?_
  refine r_aload_n (pc := 1436) h dL_law_1436 1 rfl rfl ?_
  refine r_iload (pc := 1437) h dL_law_1437 5 rfl ?_
  refine r_iconst (pc := 1439) (v := (1 : Int32)) h dL_law_1439 (by decide) ?_
  refine r_iadd (pc := 1440) h dL_law_1440 ?_
  obtain ⟨hi6, hf⟩ := gd_some hf
  refine r_sld (pc := 1441) h hi6 dL_law_1441 ?_
  refine r_aload_n (pc := 1442) h dL_law_1442 1 rfl rfl ?_
  refine r_iload (pc := 1443) h dL_law_1443 5 rfl ?_
  refine r_iconst (pc := 1445) (v := (2 : Int32)) h dL_law_1445 (by decide) ?_
  refine r_iadd (pc := 1446) h dL_law_1446 ?_
  obtain ⟨hi7, hf⟩ := gd_some hf
  refine r_sld (pc := 1447) h hi7 dL_law_1447 ?_
  obtain ⟨u10, N8, hc9, hf⟩ := bd_some hf
  refine r_callVi (pc := 1448) (o := 37) (As := [.int (xs (Int32.toNatClampNeg (x4 + (1 : Int32)))), .int (xs (Int32.toNatClampNeg (x4 + (2 : Int32))))]) (rest := []) h mv_L_169 dL_law_1448 (by decide) rfl rfl (conX9_forced hc9) rfl rfl (by decide) (Nat.le_of_ble_eq_true rfl) ⟨by omega, by omega⟩ ?_
  refine r_istore (pc := 1451) (lv' := [(6, .int u10), (5, .int u5), (0, .ref b), (1, .ref (ad 0)), (2, .ref (ad 37)), (3, .ref (ad 55)), (4, .int x4)]) h dL_law_1451 (by decide) rfl ?_
  refine r_aload_n (pc := 1453) h dL_law_1453 4 rfl rfl ?_
  obtain ⟨u13, N11, hc12, hf⟩ := bd_some hf
  refine r_callVi (pc := 1454) (o := 37) (As := []) (rest := []) h mv_L_105 dL_law_1454 (by decide) rfl rfl (conX9_thrown hc12) rfl rfl (by decide) (Nat.le_of_ble_eq_true rfl) ⟨by omega, by omega⟩ ?_
  refine r_iload (pc := 1457) h dL_law_1457 1 rfl ?_
  refine r_icmp_eq (pc := 1459) h 1464 dL_law_1459 (by decide) (fun hc14 => ?_) (fun hc14 => ?_)
  · have hf := ite_p hc14 hf
    refine r_iload (pc := 1464) h dL_law_1464 1 rfl ?_
    refine r_if_ne (pc := 1466) h 1481 dL_law_1466 (by decide) (fun hc15 => ?_) (fun hc15 => ?_)
    · have hf := ite_n hc15 hf
      refine r_goto (pc := 1481) h 1781 dL_law_1481 (by decide) ?_
      obtain ⟨v19, ev19⟩ : ∃ y : Int32, y = x4 + (6 : Int32) := ⟨_, rfl⟩
      have hf := nm_app ev19 hf
      refine r_iinc (pc := 1781) (v := v19) (lv' := [(4, .int v19), (6, .int u10), (5, .int u5), (0, .ref b), (1, .ref (ad 0)), (2, .ref (ad 37)), (3, .ref (ad 55))]) h dL_law_1781 6 rfl (by rw [ev19]; rfl) (by decide) rfl ?_
      refine r_goto (pc := 1784) h 23 dL_law_1784 (by decide) ?_
      refine r_sub h [3, 4, 5, 6, 0] rfl ?_
      exact hk _ h _ N11 hf
    · have hf := ite_p hc15 hf
      refine r_aload_n (pc := 1469) h dL_law_1469 5 rfl rfl ?_
      refine r_iconst (pc := 1470) (v := (0 : Int32)) h dL_law_1470 (by decide) ?_
      obtain ⟨hi16, hf⟩ := gd_some hf
      refine r_lald (pc := 1471) h (by decide) rfl hi16 dL_law_1471 ?_
      refine r_iload (pc := 1472) h dL_law_1472 0 rfl ?_
      refine r_i2l (pc := 1474) h dL_law_1474 ?_
      refine r_lcmp (pc := 1475) h dL_law_1475 ?_
      refine r_if_eq (pc := 1476) h 1481 dL_law_1476 (by decide) (fun hc17 => ?_) (fun hc17 => ?_)
      · have hf := ite_p hc17 hf
        refine r_goto (pc := 1481) h 1781 dL_law_1481 (by decide) ?_
        obtain ⟨v18, ev18⟩ : ∃ y : Int32, y = x4 + (6 : Int32) := ⟨_, rfl⟩
        have hf := nm_app ev18 hf
        refine r_iinc (pc := 1781) (v := v18) (lv' := [(4, .int v18), (6, .int u10), (5, .int u5), (0, .ref b), (1, .ref (ad 0)), (2, .ref (ad 37)), (3, .ref (ad 55))]) h dL_law_1781 6 rfl (by rw [ev18]; rfl) (by decide) rfl ?_
        refine r_goto (pc := 1784) h 23 dL_law_1784 (by decide) ?_
        refine r_sub h [3, 4, 5, 6, 0] rfl ?_
        exact hk _ h _ N11 hf
      · have hf := ite_n hc17 hf
        refine r_iconst (pc := 1479) (v := (0 : Int32)) h dL_law_1479 (by decide) ?_
        cases hf
  · have hf := ite_n hc14 hf
    refine r_iconst (pc := 1462) (v := (0 : Int32)) h dL_law_1462 (by decide) ?_
    cases hf
def fL_c1484 (F : Nat) (xs : Nat → Int32) (L : Nat) (k : Int32 → Mem → Option Mem) (x4 : Int32) (M : Mem) : Option Mem := gd (inb (x4 + (1 : Int32)) L) (gd (inb (x4 + (2 : Int32)) L) (gd (inb (x4 + (3 : Int32)) L) (gd (inb (x4 + (4 : Int32)) L) (bd (wL_sums F (xs (Int32.toNatClampNeg (x4 + (1 : Int32)))) (xs (Int32.toNatClampNeg (x4 + (2 : Int32)))) (xs (Int32.toNatClampNeg (x4 + (3 : Int32)))) (xs (Int32.toNatClampNeg (x4 + (4 : Int32)))) M) (fun u7 N5 => gd (inb (x4 + (1 : Int32)) L) (gd (inb (x4 + (2 : Int32)) L) (gd (inb (x4 + (3 : Int32)) L) (gd (inb (x4 + (4 : Int32)) L) (bd (fX9_sums F (xs (Int32.toNatClampNeg (x4 + (1 : Int32)))) (xs (Int32.toNatClampNeg (x4 + (2 : Int32)))) (xs (Int32.toNatClampNeg (x4 + (3 : Int32)))) (xs (Int32.toNatClampNeg (x4 + (4 : Int32)))) N5) (fun u14 N12 => bd (fX9_thrown F N12) (fun u17 N15 => if u17 = u7 then (if u7 = 0 then (gd (inb (0 : Int32) 1) (if (lg_cmp (N15.2 55 (Int32.toNatClampNeg (0 : Int32))) (Int32.toInt64 u14)) = 0 then (nm (x4 + (6 : Int32)) (fun v22 : Int32 => k v22 N15)) else (none))) else (nm (x4 + (6 : Int32)) (fun v23 : Int32 => k v23 N15))) else (none))))))))))))
set_option maxRecDepth 100000 in
set_option maxHeartbeats 8000000 in
theorem wL_c1484 {l : Launch} {D : va_G} {ad : Nat → Nat} {ca : Nat → ClassId} {b L : Nat} {xs : Nat → Int32} {F : Nat} {M' : Mem} (hl : l.stackTraces = false) {k : Int32 → Mem → Option Mem} {kc ks : Nat} (hz : kc + 1 ≤ room_1.cells ∧ ks + 6 ≤ room_1.slots) (hk : ∀ V1 : Jdg, MchL l D ad ca b L xs (kc + 1) (ks + 6) V1 → ∀ (x4 : Int32) (M : Mem), k x4 M = some M' → V1 M 23 [(0, .ref b), (1, .ref (ad 0)), (2, .ref (ad 37)), (3, .ref (ad 55)), (4, .int x4)] []) {V : Jdg} (h : MchL l D ad ca b L xs kc ks V) (x4 : Int32) (M : Mem) (hf : fL_c1484 F xs L k x4 M = some M') : V M 1484 [(0, .ref b), (1, .ref (ad 0)), (2, .ref (ad 37)), (3, .ref (ad 55)), (4, .int x4)] [] := by
  obtain ⟨hz1, hz2⟩ := hz
  unfold fL_c1484 at hf
  refine r_aload_n (pc := 1484) h dL_law_1484 1 rfl rfl ?_
  refine r_aload_n (pc := 1485) h dL_law_1485 0 rfl rfl ?_
  refine r_iload (pc := 1486) h dL_law_1486 4 rfl ?_
  refine r_iconst (pc := 1488) (v := (1 : Int32)) h dL_law_1488 (by decide) ?_
  refine r_iadd (pc := 1489) h dL_law_1489 ?_
  obtain ⟨hi1, hf⟩ := gd_some hf
  refine r_sld (pc := 1490) h hi1 dL_law_1490 ?_
  refine r_aload_n (pc := 1491) h dL_law_1491 0 rfl rfl ?_
  refine r_iload (pc := 1492) h dL_law_1492 4 rfl ?_
  refine r_iconst (pc := 1494) (v := (2 : Int32)) h dL_law_1494 (by decide) ?_
  refine r_iadd (pc := 1495) h dL_law_1495 ?_
  obtain ⟨hi2, hf⟩ := gd_some hf
  refine r_sld (pc := 1496) h hi2 dL_law_1496 ?_
  refine r_aload_n (pc := 1497) h dL_law_1497 0 rfl rfl ?_
  refine r_iload (pc := 1498) h dL_law_1498 4 rfl ?_
  refine r_iconst (pc := 1500) (v := (3 : Int32)) h dL_law_1500 (by decide) ?_
  refine r_iadd (pc := 1501) h dL_law_1501 ?_
  obtain ⟨hi3, hf⟩ := gd_some hf
  refine r_sld (pc := 1502) h hi3 dL_law_1502 ?_
  refine r_aload_n (pc := 1503) h dL_law_1503 0 rfl rfl ?_
  refine r_iload (pc := 1504) h dL_law_1504 4 rfl ?_
  refine r_iconst (pc := 1506) (v := (4 : Int32)) h dL_law_1506 (by decide) ?_
  refine r_iadd (pc := 1507) h dL_law_1507 ?_
  obtain ⟨hi4, hf⟩ := gd_some hf
  refine r_sld (pc := 1508) h hi4 dL_law_1508 ?_
  refine r_aload_n (pc := 1509) h dL_law_1509 3 rfl rfl ?_
  obtain ⟨u7, N5, hc6, hf⟩ := bd_some hf
  refine r_callW (pc := 1510) (As := [.ref (ad 0), .int (xs (Int32.toNatClampNeg (x4 + (1 : Int32)))), .int (xs (Int32.toNatClampNeg (x4 + (2 : Int32)))), .int (xs (Int32.toNatClampNeg (x4 + (3 : Int32)))), .int (xs (Int32.toNatClampNeg (x4 + (4 : Int32)))), .ref (ad 55)]) (rest := []) h mw_L_170 dL_law_1510 (cwL_sums hl hc6) rfl rfl (by decide) (Nat.le_of_ble_eq_true rfl) ⟨by omega, by omega⟩ (fun V h => ?_)
  refine r_istore (pc := 1513) (lv' := [(5, .int u7), (0, .ref b), (1, .ref (ad 0)), (2, .ref (ad 37)), (3, .ref (ad 55)), (4, .int x4)]) h dL_law_1513 (by decide) rfl ?_
  refine r_aload_n (pc := 1515) h dL_law_1515 3 rfl rfl ?_
  refine r_aload_n (pc := 1516) h dL_law_1516 1 rfl rfl ?_
  refine r_iload (pc := 1517) h dL_law_1517 5 rfl ?_
  refine r_iconst (pc := 1519) (v := (1 : Int32)) h dL_law_1519 (by decide) ?_
  refine r_iadd (pc := 1520) h dL_law_1520 ?_
  obtain ⟨hi8, hf⟩ := gd_some hf
  refine r_sld (pc := 1521) h hi8 dL_law_1521 ?_
  refine r_aload_n (pc := 1522) h dL_law_1522 1 rfl rfl ?_
  refine r_iload (pc := 1523) h dL_law_1523 5 rfl ?_
  refine r_iconst (pc := 1525) (v := (2 : Int32)) h dL_law_1525 (by decide) ?_
  refine r_iadd (pc := 1526) h dL_law_1526 ?_
  obtain ⟨hi9, hf⟩ := gd_some hf
  refine r_sld (pc := 1527) h hi9 dL_law_1527 ?_
  refine r_aload_n (pc := 1528) h dL_law_1528 1 rfl rfl ?_
  refine r_iload (pc := 1529) h dL_law_1529 5 rfl ?_
  refine r_iconst (pc := 1531) (v := (3 : Int32)) h dL_law_1531 (by decide) ?_
  refine r_iadd (pc := 1532) h dL_law_1532 ?_
  obtain ⟨hi10, hf⟩ := gd_some hf
  refine r_sld (pc := 1533) h hi10 dL_law_1533 ?_
  refine r_aload_n (pc := 1534) h dL_law_1534 1 rfl rfl ?_
  refine r_iload (pc := 1535) h dL_law_1535 5 rfl ?_
  refine r_iconst (pc := 1537) (v := (4 : Int32)) h dL_law_1537 (by decide) ?_
  refine r_iadd (pc := 1538) h dL_law_1538 ?_
  obtain ⟨hi11, hf⟩ := gd_some hf
  refine r_sld (pc := 1539) h hi11 dL_law_1539 ?_
  obtain ⟨u14, N12, hc13, hf⟩ := bd_some hf
  refine r_callVi (pc := 1540) (o := 37) (As := [.int (xs (Int32.toNatClampNeg (x4 + (1 : Int32)))), .int (xs (Int32.toNatClampNeg (x4 + (2 : Int32)))), .int (xs (Int32.toNatClampNeg (x4 + (3 : Int32)))), .int (xs (Int32.toNatClampNeg (x4 + (4 : Int32))))]) (rest := []) h mv_L_173 dL_law_1540 (by decide) rfl rfl (conX9_sums hc13) rfl rfl (by decide) (Nat.le_of_ble_eq_true rfl) ⟨by omega, by omega⟩ ?_
  refine r_istore (pc := 1543) (lv' := [(6, .int u14), (5, .int u7), (0, .ref b), (1, .ref (ad 0)), (2, .ref (ad 37)), (3, .ref (ad 55)), (4, .int x4)]) h dL_law_1543 (by decide) rfl ?_
  refine r_aload_n (pc := 1545) h dL_law_1545 4 rfl rfl ?_
  obtain ⟨u17, N15, hc16, hf⟩ := bd_some hf
  refine r_callVi (pc := 1546) (o := 37) (As := []) (rest := []) h mv_L_105 dL_law_1546 (by decide) rfl rfl (conX9_thrown hc16) rfl rfl (by decide) (Nat.le_of_ble_eq_true rfl) ⟨by omega, by omega⟩ ?_
  refine r_iload (pc := 1549) h dL_law_1549 1 rfl ?_
  refine r_icmp_eq (pc := 1551) h 1556 dL_law_1551 (by decide) (fun hc18 => ?_) (fun hc18 => ?_)
  · have hf := ite_p hc18 hf
    refine r_iload (pc := 1556) h dL_law_1556 1 rfl ?_
    refine r_if_ne (pc := 1558) h 1573 dL_law_1558 (by decide) (fun hc19 => ?_) (fun hc19 => ?_)
    · have hf := ite_n hc19 hf
      refine r_goto (pc := 1573) h 1781 dL_law_1573 (by decide) ?_
      obtain ⟨v23, ev23⟩ : ∃ y : Int32, y = x4 + (6 : Int32) := ⟨_, rfl⟩
      have hf := nm_app ev23 hf
      refine r_iinc (pc := 1781) (v := v23) (lv' := [(4, .int v23), (6, .int u14), (5, .int u7), (0, .ref b), (1, .ref (ad 0)), (2, .ref (ad 37)), (3, .ref (ad 55))]) h dL_law_1781 6 rfl (by rw [ev23]; rfl) (by decide) rfl ?_
      refine r_goto (pc := 1784) h 23 dL_law_1784 (by decide) ?_
      refine r_sub h [3, 4, 5, 6, 0] rfl ?_
      exact hk _ h _ N15 hf
    · have hf := ite_p hc19 hf
      refine r_aload_n (pc := 1561) h dL_law_1561 5 rfl rfl ?_
      refine r_iconst (pc := 1562) (v := (0 : Int32)) h dL_law_1562 (by decide) ?_
      obtain ⟨hi20, hf⟩ := gd_some hf
      refine r_lald (pc := 1563) h (by decide) rfl hi20 dL_law_1563 ?_
      refine r_iload (pc := 1564) h dL_law_1564 0 rfl ?_
      refine r_i2l (pc := 1566) h dL_law_1566 ?_
      refine r_lcmp (pc := 1567) h dL_law_1567 ?_
      refine r_if_eq (pc := 1568) h 1573 dL_law_1568 (by decide) (fun hc21 => ?_) (fun hc21 => ?_)
      · have hf := ite_p hc21 hf
        refine r_goto (pc := 1573) h 1781 dL_law_1573 (by decide) ?_
        obtain ⟨v22, ev22⟩ : ∃ y : Int32, y = x4 + (6 : Int32) := ⟨_, rfl⟩
        have hf := nm_app ev22 hf
        refine r_iinc (pc := 1781) (v := v22) (lv' := [(4, .int v22), (6, .int u14), (5, .int u7), (0, .ref b), (1, .ref (ad 0)), (2, .ref (ad 37)), (3, .ref (ad 55))]) h dL_law_1781 6 rfl (by rw [ev22]; rfl) (by decide) rfl ?_
        refine r_goto (pc := 1784) h 23 dL_law_1784 (by decide) ?_
        refine r_sub h [3, 4, 5, 6, 0] rfl ?_
        exact hk _ h _ N15 hf
      · have hf := ite_n hc21 hf
        refine r_iconst (pc := 1571) (v := (0 : Int32)) h dL_law_1571 (by decide) ?_
        cases hf
  · have hf := ite_n hc18 hf
    refine r_iconst (pc := 1554) (v := (0 : Int32)) h dL_law_1554 (by decide) ?_
    cases hf
def fL_c1576 (F : Nat) (xs : Nat → Int32) (L : Nat) (k : Int32 → Mem → Option Mem) (x4 : Int32) (M : Mem) : Option Mem := gd (inb (x4 + (1 : Int32)) L) (bd (wL_energy F (xs (Int32.toNatClampNeg (x4 + (1 : Int32)))) M) (fun u4 N2 => gd (inb (x4 + (1 : Int32)) L) (bd (fX9_energy F (xs (Int32.toNatClampNeg (x4 + (1 : Int32)))) N2) (fun u8 N6 => bd (fX9_thrown F N6) (fun u11 N9 => if u11 = u4 then (if u4 = 0 then (gd (inb (0 : Int32) 1) (if (lg_cmp (N9.2 55 (Int32.toNatClampNeg (0 : Int32))) (Int32.toInt64 u8)) = 0 then (nm (x4 + (6 : Int32)) (fun v16 : Int32 => k v16 N9)) else (none))) else (nm (x4 + (6 : Int32)) (fun v17 : Int32 => k v17 N9))) else (none))))))
set_option maxRecDepth 100000 in
set_option maxHeartbeats 8000000 in
theorem wL_c1576 {l : Launch} {D : va_G} {ad : Nat → Nat} {ca : Nat → ClassId} {b L : Nat} {xs : Nat → Int32} {F : Nat} {M' : Mem} (hl : l.stackTraces = false) {k : Int32 → Mem → Option Mem} {kc ks : Nat} (hz : kc + 1 ≤ room_1.cells ∧ ks + 6 ≤ room_1.slots) (hk : ∀ V1 : Jdg, MchL l D ad ca b L xs (kc + 1) (ks + 6) V1 → ∀ (x4 : Int32) (M : Mem), k x4 M = some M' → V1 M 23 [(0, .ref b), (1, .ref (ad 0)), (2, .ref (ad 37)), (3, .ref (ad 55)), (4, .int x4)] []) {V : Jdg} (h : MchL l D ad ca b L xs kc ks V) (x4 : Int32) (M : Mem) (hf : fL_c1576 F xs L k x4 M = some M') : V M 1576 [(0, .ref b), (1, .ref (ad 0)), (2, .ref (ad 37)), (3, .ref (ad 55)), (4, .int x4)] [] := by
  obtain ⟨hz1, hz2⟩ := hz
  unfold fL_c1576 at hf
  refine r_aload_n (pc := 1576) h dL_law_1576 1 rfl rfl ?_
  refine r_aload_n (pc := 1577) h dL_law_1577 0 rfl rfl ?_
  refine r_iload (pc := 1578) h dL_law_1578 4 rfl ?_
  refine r_iconst (pc := 1580) (v := (1 : Int32)) h dL_law_1580 (by decide) ?_
  refine r_iadd (pc := 1581) h dL_law_1581 ?_
  obtain ⟨hi1, hf⟩ := gd_some hf
  refine r_sld (pc := 1582) h hi1 dL_law_1582 ?_
  refine r_aload_n (pc := 1583) h dL_law_1583 3 rfl rfl ?_
  obtain ⟨u4, N2, hc3, hf⟩ := bd_some hf
  refine r_callW (pc := 1584) (As := [.ref (ad 0), .int (xs (Int32.toNatClampNeg (x4 + (1 : Int32)))), .ref (ad 55)]) (rest := []) h mw_L_174 dL_law_1584 (cwL_energy hl hc3) rfl rfl (by decide) (Nat.le_of_ble_eq_true rfl) ⟨by omega, by omega⟩ (fun V h => ?_)
  refine r_istore (pc := 1587) (lv' := [(5, .int u4), (0, .ref b), (1, .ref (ad 0)), (2, .ref (ad 37)), (3, .ref (ad 55)), (4, .int x4)]) h dL_law_1587 (by decide) rfl ?_
  refine r_aload_n (pc := 1589) h dL_law_1589 3 rfl rfl ?_
  refine r_aload_n (pc := 1590) h dL_law_1590 1 rfl rfl ?_
  refine r_iload (pc := 1591) h dL_law_1591 5 rfl ?_
  refine r_iconst (pc := 1593) (v := (1 : Int32)) h dL_law_1593 (by decide) ?_
  refine r_iadd (pc := 1594) h dL_law_1594 ?_
  obtain ⟨hi5, hf⟩ := gd_some hf
  refine r_sld (pc := 1595) h hi5 dL_law_1595 ?_
  obtain ⟨u8, N6, hc7, hf⟩ := bd_some hf
  refine r_callVi (pc := 1596) (o := 37) (As := [.int (xs (Int32.toNatClampNeg (x4 + (1 : Int32))))]) (rest := []) h mv_L_176 dL_law_1596 (by decide) rfl rfl (conX9_energy hc7) rfl rfl (by decide) (Nat.le_of_ble_eq_true rfl) ⟨by omega, by omega⟩ ?_
  refine r_istore (pc := 1599) (lv' := [(6, .int u8), (5, .int u4), (0, .ref b), (1, .ref (ad 0)), (2, .ref (ad 37)), (3, .ref (ad 55)), (4, .int x4)]) h dL_law_1599 (by decide) rfl ?_
  refine r_aload_n (pc := 1601) h dL_law_1601 4 rfl rfl ?_
  obtain ⟨u11, N9, hc10, hf⟩ := bd_some hf
  refine r_callVi (pc := 1602) (o := 37) (As := []) (rest := []) h mv_L_105 dL_law_1602 (by decide) rfl rfl (conX9_thrown hc10) rfl rfl (by decide) (Nat.le_of_ble_eq_true rfl) ⟨by omega, by omega⟩ ?_
  refine r_iload (pc := 1605) h dL_law_1605 1 rfl ?_
  refine r_icmp_eq (pc := 1607) h 1612 dL_law_1607 (by decide) (fun hc12 => ?_) (fun hc12 => ?_)
  · have hf := ite_p hc12 hf
    refine r_iload (pc := 1612) h dL_law_1612 1 rfl ?_
    refine r_if_ne (pc := 1614) h 1629 dL_law_1614 (by decide) (fun hc13 => ?_) (fun hc13 => ?_)
    · have hf := ite_n hc13 hf
      refine r_goto (pc := 1629) h 1781 dL_law_1629 (by decide) ?_
      obtain ⟨v17, ev17⟩ : ∃ y : Int32, y = x4 + (6 : Int32) := ⟨_, rfl⟩
      have hf := nm_app ev17 hf
      refine r_iinc (pc := 1781) (v := v17) (lv' := [(4, .int v17), (6, .int u8), (5, .int u4), (0, .ref b), (1, .ref (ad 0)), (2, .ref (ad 37)), (3, .ref (ad 55))]) h dL_law_1781 6 rfl (by rw [ev17]; rfl) (by decide) rfl ?_
      refine r_goto (pc := 1784) h 23 dL_law_1784 (by decide) ?_
      refine r_sub h [3, 4, 5, 6, 0] rfl ?_
      exact hk _ h _ N9 hf
    · have hf := ite_p hc13 hf
      refine r_aload_n (pc := 1617) h dL_law_1617 5 rfl rfl ?_
      refine r_iconst (pc := 1618) (v := (0 : Int32)) h dL_law_1618 (by decide) ?_
      obtain ⟨hi14, hf⟩ := gd_some hf
      refine r_lald (pc := 1619) h (by decide) rfl hi14 dL_law_1619 ?_
      refine r_iload (pc := 1620) h dL_law_1620 0 rfl ?_
      refine r_i2l (pc := 1622) h dL_law_1622 ?_
      refine r_lcmp (pc := 1623) h dL_law_1623 ?_
      refine r_if_eq (pc := 1624) h 1629 dL_law_1624 (by decide) (fun hc15 => ?_) (fun hc15 => ?_)
      · have hf := ite_p hc15 hf
        refine r_goto (pc := 1629) h 1781 dL_law_1629 (by decide) ?_
        obtain ⟨v16, ev16⟩ : ∃ y : Int32, y = x4 + (6 : Int32) := ⟨_, rfl⟩
        have hf := nm_app ev16 hf
        refine r_iinc (pc := 1781) (v := v16) (lv' := [(4, .int v16), (6, .int u8), (5, .int u4), (0, .ref b), (1, .ref (ad 0)), (2, .ref (ad 37)), (3, .ref (ad 55))]) h dL_law_1781 6 rfl (by rw [ev16]; rfl) (by decide) rfl ?_
        refine r_goto (pc := 1784) h 23 dL_law_1784 (by decide) ?_
        refine r_sub h [3, 4, 5, 6, 0] rfl ?_
        exact hk _ h _ N9 hf
      · have hf := ite_n hc15 hf
        refine r_iconst (pc := 1627) (v := (0 : Int32)) h dL_law_1627 (by decide) ?_
        cases hf
  · have hf := ite_n hc12 hf
    refine r_iconst (pc := 1610) (v := (0 : Int32)) h dL_law_1610 (by decide) ?_
    cases hf
def fL_c1632 (F : Nat) (xs : Nat → Int32) (L : Nat) (k : Int32 → Mem → Option Mem) (x4 : Int32) (M : Mem) : Option Mem := gd (inb (x4 + (1 : Int32)) L) (bd (wL_order F (xs (Int32.toNatClampNeg (x4 + (1 : Int32)))) M) (fun u4 N2 => gd (inb (x4 + (1 : Int32)) L) (bd (fX9_order F (xs (Int32.toNatClampNeg (x4 + (1 : Int32)))) N2) (fun u8 N6 => bd (fX9_thrown F N6) (fun u11 N9 => if u11 = u4 then (if u4 = 0 then (gd (inb (0 : Int32) 1) (if (lg_cmp (N9.2 55 (Int32.toNatClampNeg (0 : Int32))) (Int32.toInt64 u8)) = 0 then (nm (x4 + (6 : Int32)) (fun v16 : Int32 => k v16 N9)) else (none))) else (nm (x4 + (6 : Int32)) (fun v17 : Int32 => k v17 N9))) else (none))))))
set_option maxRecDepth 100000 in
set_option maxHeartbeats 8000000 in
theorem wL_c1632 {l : Launch} {D : va_G} {ad : Nat → Nat} {ca : Nat → ClassId} {b L : Nat} {xs : Nat → Int32} {F : Nat} {M' : Mem} (hl : l.stackTraces = false) {k : Int32 → Mem → Option Mem} {kc ks : Nat} (hz : kc + 1 ≤ room_1.cells ∧ ks + 6 ≤ room_1.slots) (hk : ∀ V1 : Jdg, MchL l D ad ca b L xs (kc + 1) (ks + 6) V1 → ∀ (x4 : Int32) (M : Mem), k x4 M = some M' → V1 M 23 [(0, .ref b), (1, .ref (ad 0)), (2, .ref (ad 37)), (3, .ref (ad 55)), (4, .int x4)] []) {V : Jdg} (h : MchL l D ad ca b L xs kc ks V) (x4 : Int32) (M : Mem) (hf : fL_c1632 F xs L k x4 M = some M') : V M 1632 [(0, .ref b), (1, .ref (ad 0)), (2, .ref (ad 37)), (3, .ref (ad 55)), (4, .int x4)] [] := by
  obtain ⟨hz1, hz2⟩ := hz
  unfold fL_c1632 at hf
  refine r_aload_n (pc := 1632) h dL_law_1632 1 rfl rfl ?_
  refine r_aload_n (pc := 1633) h dL_law_1633 0 rfl rfl ?_
  refine r_iload (pc := 1634) h dL_law_1634 4 rfl ?_
  refine r_iconst (pc := 1636) (v := (1 : Int32)) h dL_law_1636 (by decide) ?_
  refine r_iadd (pc := 1637) h dL_law_1637 ?_
  obtain ⟨hi1, hf⟩ := gd_some hf
  refine r_sld (pc := 1638) h hi1 dL_law_1638 ?_
  refine r_aload_n (pc := 1639) h dL_law_1639 3 rfl rfl ?_
  obtain ⟨u4, N2, hc3, hf⟩ := bd_some hf
  refine r_callW (pc := 1640) (As := [.ref (ad 0), .int (xs (Int32.toNatClampNeg (x4 + (1 : Int32)))), .ref (ad 55)]) (rest := []) h mw_L_177 dL_law_1640 (cwL_order hl hc3) rfl rfl (by decide) (Nat.le_of_ble_eq_true rfl) ⟨by omega, by omega⟩ (fun V h => ?_)
  refine r_istore (pc := 1643) (lv' := [(5, .int u4), (0, .ref b), (1, .ref (ad 0)), (2, .ref (ad 37)), (3, .ref (ad 55)), (4, .int x4)]) h dL_law_1643 (by decide) rfl ?_
  refine r_aload_n (pc := 1645) h dL_law_1645 3 rfl rfl ?_
  refine r_aload_n (pc := 1646) h dL_law_1646 1 rfl rfl ?_
  refine r_iload (pc := 1647) h dL_law_1647 5 rfl ?_
  refine r_iconst (pc := 1649) (v := (1 : Int32)) h dL_law_1649 (by decide) ?_
  refine r_iadd (pc := 1650) h dL_law_1650 ?_
  obtain ⟨hi5, hf⟩ := gd_some hf
  refine r_sld (pc := 1651) h hi5 dL_law_1651 ?_
  obtain ⟨u8, N6, hc7, hf⟩ := bd_some hf
  refine r_callVi (pc := 1652) (o := 37) (As := [.int (xs (Int32.toNatClampNeg (x4 + (1 : Int32))))]) (rest := []) h mv_L_179 dL_law_1652 (by decide) rfl rfl (conX9_order hc7) rfl rfl (by decide) (Nat.le_of_ble_eq_true rfl) ⟨by omega, by omega⟩ ?_
  refine r_istore (pc := 1655) (lv' := [(6, .int u8), (5, .int u4), (0, .ref b), (1, .ref (ad 0)), (2, .ref (ad 37)), (3, .ref (ad 55)), (4, .int x4)]) h dL_law_1655 (by decide) rfl ?_
  refine r_aload_n (pc := 1657) h dL_law_1657 4 rfl rfl ?_
  obtain ⟨u11, N9, hc10, hf⟩ := bd_some hf
  refine r_callVi (pc := 1658) (o := 37) (As := []) (rest := []) h mv_L_105 dL_law_1658 (by decide) rfl rfl (conX9_thrown hc10) rfl rfl (by decide) (Nat.le_of_ble_eq_true rfl) ⟨by omega, by omega⟩ ?_
  refine r_iload (pc := 1661) h dL_law_1661 1 rfl ?_
  refine r_icmp_eq (pc := 1663) h 1668 dL_law_1663 (by decide) (fun hc12 => ?_) (fun hc12 => ?_)
  · have hf := ite_p hc12 hf
    refine r_iload (pc := 1668) h dL_law_1668 1 rfl ?_
    refine r_if_ne (pc := 1670) h 1685 dL_law_1670 (by decide) (fun hc13 => ?_) (fun hc13 => ?_)
    · have hf := ite_n hc13 hf
      refine r_goto (pc := 1685) h 1781 dL_law_1685 (by decide) ?_
      obtain ⟨v17, ev17⟩ : ∃ y : Int32, y = x4 + (6 : Int32) := ⟨_, rfl⟩
      have hf := nm_app ev17 hf
      refine r_iinc (pc := 1781) (v := v17) (lv' := [(4, .int v17), (6, .int u8), (5, .int u4), (0, .ref b), (1, .ref (ad 0)), (2, .ref (ad 37)), (3, .ref (ad 55))]) h dL_law_1781 6 rfl (by rw [ev17]; rfl) (by decide) rfl ?_
      refine r_goto (pc := 1784) h 23 dL_law_1784 (by decide) ?_
      refine r_sub h [3, 4, 5, 6, 0] rfl ?_
      exact hk _ h _ N9 hf
    · have hf := ite_p hc13 hf
      refine r_aload_n (pc := 1673) h dL_law_1673 5 rfl rfl ?_
      refine r_iconst (pc := 1674) (v := (0 : Int32)) h dL_law_1674 (by decide) ?_
      obtain ⟨hi14, hf⟩ := gd_some hf
      refine r_lald (pc := 1675) h (by decide) rfl hi14 dL_law_1675 ?_
      refine r_iload (pc := 1676) h dL_law_1676 0 rfl ?_
      refine r_i2l (pc := 1678) h dL_law_1678 ?_
      refine r_lcmp (pc := 1679) h dL_law_1679 ?_
      refine r_if_eq (pc := 1680) h 1685 dL_law_1680 (by decide) (fun hc15 => ?_) (fun hc15 => ?_)
      · have hf := ite_p hc15 hf
        refine r_goto (pc := 1685) h 1781 dL_law_1685 (by decide) ?_
        obtain ⟨v16, ev16⟩ : ∃ y : Int32, y = x4 + (6 : Int32) := ⟨_, rfl⟩
        have hf := nm_app ev16 hf
        refine r_iinc (pc := 1781) (v := v16) (lv' := [(4, .int v16), (6, .int u8), (5, .int u4), (0, .ref b), (1, .ref (ad 0)), (2, .ref (ad 37)), (3, .ref (ad 55))]) h dL_law_1781 6 rfl (by rw [ev16]; rfl) (by decide) rfl ?_
        refine r_goto (pc := 1784) h 23 dL_law_1784 (by decide) ?_
        refine r_sub h [3, 4, 5, 6, 0] rfl ?_
        exact hk _ h _ N9 hf
      · have hf := ite_n hc15 hf
        refine r_iconst (pc := 1683) (v := (0 : Int32)) h dL_law_1683 (by decide) ?_
        cases hf
  · have hf := ite_n hc12 hf
    refine r_iconst (pc := 1666) (v := (0 : Int32)) h dL_law_1666 (by decide) ?_
    cases hf
def fL_c1688 (F : Nat) (xs : Nat → Int32) (L : Nat) (k : Int32 → Mem → Option Mem) (x4 : Int32) (M : Mem) : Option Mem := gd (inb (x4 + (1 : Int32)) L) (gd (inb (x4 + (2 : Int32)) L) (bd (wL_keep F (xs (Int32.toNatClampNeg (x4 + (1 : Int32)))) (xs (Int32.toNatClampNeg (x4 + (2 : Int32)))) M) (fun u5 N3 => gd (inb (x4 + (1 : Int32)) L) (gd (inb (x4 + (2 : Int32)) L) (bd (fX9_keep F (xs (Int32.toNatClampNeg (x4 + (1 : Int32)))) (xs (Int32.toNatClampNeg (x4 + (2 : Int32)))) N3) (fun u10 N8 => bd (fX9_thrown F N8) (fun u13 N11 => if u13 = u5 then (if u5 = 0 then (gd (inb (0 : Int32) 1) (if (lg_cmp (N11.2 55 (Int32.toNatClampNeg (0 : Int32))) (Int32.toInt64 u10)) = 0 then (nm (x4 + (6 : Int32)) (fun v18 : Int32 => k v18 N11)) else (none))) else (nm (x4 + (6 : Int32)) (fun v19 : Int32 => k v19 N11))) else (none))))))))
set_option maxRecDepth 100000 in
set_option maxHeartbeats 8000000 in
theorem wL_c1688 {l : Launch} {D : va_G} {ad : Nat → Nat} {ca : Nat → ClassId} {b L : Nat} {xs : Nat → Int32} {F : Nat} {M' : Mem} (hl : l.stackTraces = false) {k : Int32 → Mem → Option Mem} {kc ks : Nat} (hz : kc + 1 ≤ room_1.cells ∧ ks + 6 ≤ room_1.slots) (hk : ∀ V1 : Jdg, MchL l D ad ca b L xs (kc + 1) (ks + 6) V1 → ∀ (x4 : Int32) (M : Mem), k x4 M = some M' → V1 M 23 [(0, .ref b), (1, .ref (ad 0)), (2, .ref (ad 37)), (3, .ref (ad 55)), (4, .int x4)] []) {V : Jdg} (h : MchL l D ad ca b L xs kc ks V) (x4 : Int32) (M : Mem) (hf : fL_c1688 F xs L k x4 M = some M') : V M 1688 [(0, .ref b), (1, .ref (ad 0)), (2, .ref (ad 37)), (3, .ref (ad 55)), (4, .int x4)] [] := by
  obtain ⟨hz1, hz2⟩ := hz
  unfold fL_c1688 at hf
  refine r_aload_n (pc := 1688) h dL_law_1688 1 rfl rfl ?_
  refine r_aload_n (pc := 1689) h dL_law_1689 0 rfl rfl ?_
  refine r_iload (pc := 1690) h dL_law_1690 4 rfl ?_
  refine r_iconst (pc := 1692) (v := (1 : Int32)) h dL_law_1692 (by decide) ?_
  refine r_iadd (pc := 1693) h dL_law_1693 ?_
  obtain ⟨hi1, hf⟩ := gd_some hf
  refine r_sld (pc := 1694) h hi1 dL_law_1694 ?_
  refine r_aload_n (pc := 1695) h dL_law_1695 0 rfl rfl ?_
  refine r_iload (pc := 1696) h dL_law_1696 4 rfl ?_
  refine r_iconst (pc := 1698) (v := (2 : Int32)) h dL_law_1698 (by decide) ?_
  refine r_iadd (pc := 1699) h dL_law_1699 ?_
  obtain ⟨hi2, hf⟩ := gd_some hf
  refine r_sld (pc := 1700) h hi2 dL_law_1700 ?_
  refine r_aload_n (pc := 1701) h dL_law_1701 3 rfl rfl ?_
  obtain ⟨u5, N3, hc4, hf⟩ := bd_some hf
  refine r_callW (pc := 1702) (As := [.ref (ad 0), .int (xs (Int32.toNatClampNeg (x4 + (1 : Int32)))), .int (xs (Int32.toNatClampNeg (x4 + (2 : Int32)))), .ref (ad 55)]) (rest := []) h mw_L_180 dL_law_1702 (cwL_keep hl hc4) rfl rfl (by decide) (Nat.le_of_ble_eq_true rfl) ⟨by omega, by omega⟩ (fun V h => ?_)
  refine r_istore (pc := 1705) (lv' := [(5, .int u5), (0, .ref b), (1, .ref (ad 0)), (2, .ref (ad 37)), (3, .ref (ad 55)), (4, .int x4)]) h dL_law_1705 (by decide) rfl ?_
  refine r_aload_n (pc := 1707) h dL_law_1707 3 rfl rfl ?_
  refine r_aload_n (pc := 1708) h dL_law_1708 1 rfl rfl ?_
  refine r_iload (pc := 1709) h dL_law_1709 5 rfl ?_
  refine r_iconst (pc := 1711) (v := (1 : Int32)) h dL_law_1711 (by decide) ?_
  refine r_iadd (pc := 1712) h dL_law_1712 ?_
  obtain ⟨hi6, hf⟩ := gd_some hf
  refine r_sld (pc := 1713) h hi6 dL_law_1713 ?_
  refine r_aload_n (pc := 1714) h dL_law_1714 1 rfl rfl ?_
  refine r_iload (pc := 1715) h dL_law_1715 5 rfl ?_
  refine r_iconst (pc := 1717) (v := (2 : Int32)) h dL_law_1717 (by decide) ?_
  refine r_iadd (pc := 1718) h dL_law_1718 ?_
  obtain ⟨hi7, hf⟩ := gd_some hf
  refine r_sld (pc := 1719) h hi7 dL_law_1719 ?_
  obtain ⟨u10, N8, hc9, hf⟩ := bd_some hf
  refine r_callVi (pc := 1720) (o := 37) (As := [.int (xs (Int32.toNatClampNeg (x4 + (1 : Int32)))), .int (xs (Int32.toNatClampNeg (x4 + (2 : Int32))))]) (rest := []) h mv_L_182 dL_law_1720 (by decide) rfl rfl (conX9_keep hc9) rfl rfl (by decide) (Nat.le_of_ble_eq_true rfl) ⟨by omega, by omega⟩ ?_
  refine r_istore (pc := 1723) (lv' := [(6, .int u10), (5, .int u5), (0, .ref b), (1, .ref (ad 0)), (2, .ref (ad 37)), (3, .ref (ad 55)), (4, .int x4)]) h dL_law_1723 (by decide) rfl ?_
  refine r_aload_n (pc := 1725) h dL_law_1725 4 rfl rfl ?_
  obtain ⟨u13, N11, hc12, hf⟩ := bd_some hf
  refine r_callVi (pc := 1726) (o := 37) (As := []) (rest := []) h mv_L_105 dL_law_1726 (by decide) rfl rfl (conX9_thrown hc12) rfl rfl (by decide) (Nat.le_of_ble_eq_true rfl) ⟨by omega, by omega⟩ ?_
  refine r_iload (pc := 1729) h dL_law_1729 1 rfl ?_
  refine r_icmp_eq (pc := 1731) h 1736 dL_law_1731 (by decide) (fun hc14 => ?_) (fun hc14 => ?_)
  · have hf := ite_p hc14 hf
    refine r_iload (pc := 1736) h dL_law_1736 1 rfl ?_
    refine r_if_ne (pc := 1738) h 1753 dL_law_1738 (by decide) (fun hc15 => ?_) (fun hc15 => ?_)
    · have hf := ite_n hc15 hf
      refine r_goto (pc := 1753) h 1781 dL_law_1753 (by decide) ?_
      obtain ⟨v19, ev19⟩ : ∃ y : Int32, y = x4 + (6 : Int32) := ⟨_, rfl⟩
      have hf := nm_app ev19 hf
      refine r_iinc (pc := 1781) (v := v19) (lv' := [(4, .int v19), (6, .int u10), (5, .int u5), (0, .ref b), (1, .ref (ad 0)), (2, .ref (ad 37)), (3, .ref (ad 55))]) h dL_law_1781 6 rfl (by rw [ev19]; rfl) (by decide) rfl ?_
      refine r_goto (pc := 1784) h 23 dL_law_1784 (by decide) ?_
      refine r_sub h [3, 4, 5, 6, 0] rfl ?_
      exact hk _ h _ N11 hf
    · have hf := ite_p hc15 hf
      refine r_aload_n (pc := 1741) h dL_law_1741 5 rfl rfl ?_
      refine r_iconst (pc := 1742) (v := (0 : Int32)) h dL_law_1742 (by decide) ?_
      obtain ⟨hi16, hf⟩ := gd_some hf
      refine r_lald (pc := 1743) h (by decide) rfl hi16 dL_law_1743 ?_
      refine r_iload (pc := 1744) h dL_law_1744 0 rfl ?_
      refine r_i2l (pc := 1746) h dL_law_1746 ?_
      refine r_lcmp (pc := 1747) h dL_law_1747 ?_
      refine r_if_eq (pc := 1748) h 1753 dL_law_1748 (by decide) (fun hc17 => ?_) (fun hc17 => ?_)
      · have hf := ite_p hc17 hf
        refine r_goto (pc := 1753) h 1781 dL_law_1753 (by decide) ?_
        obtain ⟨v18, ev18⟩ : ∃ y : Int32, y = x4 + (6 : Int32) := ⟨_, rfl⟩
        have hf := nm_app ev18 hf
        refine r_iinc (pc := 1781) (v := v18) (lv' := [(4, .int v18), (6, .int u10), (5, .int u5), (0, .ref b), (1, .ref (ad 0)), (2, .ref (ad 37)), (3, .ref (ad 55))]) h dL_law_1781 6 rfl (by rw [ev18]; rfl) (by decide) rfl ?_
        refine r_goto (pc := 1784) h 23 dL_law_1784 (by decide) ?_
        refine r_sub h [3, 4, 5, 6, 0] rfl ?_
        exact hk _ h _ N11 hf
      · have hf := ite_n hc17 hf
        refine r_iconst (pc := 1751) (v := (0 : Int32)) h dL_law_1751 (by decide) ?_
        cases hf
  · have hf := ite_n hc14 hf
    refine r_iconst (pc := 1734) (v := (0 : Int32)) h dL_law_1734 (by decide) ?_
    cases hf
def fL_c1756 (F : Nat) (xs : Nat → Int32) (L : Nat) (k : Int32 → Mem → Option Mem) (x4 : Int32) (M : Mem) : Option Mem := gd (inb (x4 + (1 : Int32)) L) (bd (fX8_look F (xs (Int32.toNatClampNeg (x4 + (1 : Int32)))) M) (fun u4 N2 => gd (inb (x4 + (1 : Int32)) L) (bd (fX9_look_ F (xs (Int32.toNatClampNeg (x4 + (1 : Int32)))) N2) (fun u8 N6 => if u4 = u8 then (nm (x4 + (6 : Int32)) (fun v10 : Int32 => k v10 N6)) else (none)))))
set_option maxRecDepth 100000 in
set_option maxHeartbeats 8000000 in
theorem wL_c1756 {l : Launch} {D : va_G} {ad : Nat → Nat} {ca : Nat → ClassId} {b L : Nat} {xs : Nat → Int32} {F : Nat} {M' : Mem} (hl : l.stackTraces = false) {k : Int32 → Mem → Option Mem} {kc ks : Nat} (hz : kc + 1 ≤ room_1.cells ∧ ks + 6 ≤ room_1.slots) (hk : ∀ V1 : Jdg, MchL l D ad ca b L xs (kc + 1) (ks + 6) V1 → ∀ (x4 : Int32) (M : Mem), k x4 M = some M' → V1 M 23 [(0, .ref b), (1, .ref (ad 0)), (2, .ref (ad 37)), (3, .ref (ad 55)), (4, .int x4)] []) {V : Jdg} (h : MchL l D ad ca b L xs kc ks V) (x4 : Int32) (M : Mem) (hf : fL_c1756 F xs L k x4 M = some M') : V M 1756 [(0, .ref b), (1, .ref (ad 0)), (2, .ref (ad 37)), (3, .ref (ad 55)), (4, .int x4)] [] := by
  obtain ⟨hz1, hz2⟩ := hz
  unfold fL_c1756 at hf
  refine r_aload_n (pc := 1756) h dL_law_1756 1 rfl rfl ?_
  refine r_aload_n (pc := 1757) h dL_law_1757 0 rfl rfl ?_
  refine r_iload (pc := 1758) h dL_law_1758 4 rfl ?_
  refine r_iconst (pc := 1760) (v := (1 : Int32)) h dL_law_1760 (by decide) ?_
  refine r_iadd (pc := 1761) h dL_law_1761 ?_
  obtain ⟨hi1, hf⟩ := gd_some hf
  refine r_sld (pc := 1762) h hi1 dL_law_1762 ?_
  obtain ⟨u4, N2, hc3, hf⟩ := bd_some hf
  refine r_callVi (pc := 1763) (o := 0) (As := [.int (xs (Int32.toNatClampNeg (x4 + (1 : Int32))))]) (rest := []) h mv_L_183 dL_law_1763 (by decide) rfl rfl (conX8_look hc3) rfl rfl (by decide) (Nat.le_of_ble_eq_true rfl) ⟨by omega, by omega⟩ ?_
  refine r_aload_n (pc := 1766) h dL_law_1766 2 rfl rfl ?_
  refine r_aload_n (pc := 1767) h dL_law_1767 0 rfl rfl ?_
  refine r_iload (pc := 1768) h dL_law_1768 4 rfl ?_
  refine r_iconst (pc := 1770) (v := (1 : Int32)) h dL_law_1770 (by decide) ?_
  refine r_iadd (pc := 1771) h dL_law_1771 ?_
  obtain ⟨hi5, hf⟩ := gd_some hf
  refine r_sld (pc := 1772) h hi5 dL_law_1772 ?_
  obtain ⟨u8, N6, hc7, hf⟩ := bd_some hf
  refine r_callVi (pc := 1773) (o := 37) (As := [.int (xs (Int32.toNatClampNeg (x4 + (1 : Int32))))]) (rest := [.int u4]) h mv_L_186 dL_law_1773 (by decide) rfl rfl (conX9_look_ hc7) rfl rfl (by decide) (Nat.le_of_ble_eq_true rfl) ⟨by omega, by omega⟩ ?_
  refine r_icmp_eq (pc := 1776) h 1781 dL_law_1776 (by decide) (fun hc9 => ?_) (fun hc9 => ?_)
  · have hf := ite_p hc9 hf
    obtain ⟨v10, ev10⟩ : ∃ y : Int32, y = x4 + (6 : Int32) := ⟨_, rfl⟩
    have hf := nm_app ev10 hf
    refine r_iinc (pc := 1781) (v := v10) (lv' := [(4, .int v10), (0, .ref b), (1, .ref (ad 0)), (2, .ref (ad 37)), (3, .ref (ad 55))]) h dL_law_1781 4 rfl (by rw [ev10]; rfl) (by decide) rfl ?_
    refine r_goto (pc := 1784) h 23 dL_law_1784 (by decide) ?_
    refine r_widen h (fun V h => ?_)
    refine r_sub h [1, 2, 3, 4, 0] rfl ?_
    exact hk _ h _ N6 hf
  · have hf := ite_n hc9 hf
    refine r_iconst (pc := 1779) (v := (0 : Int32)) h dL_law_1779 (by decide) ?_
    cases hf
def fL_law (F : Nat) (xs : Nat → Int32) (L : Nat) : Nat → Int32 → Mem → Option Mem
  | 0, _, _ => none
  | n + 1, x4, M => if ((Int32.ofNat L) - (6 : Int32)) < x4 then (some M) else (gd (inb x4 L) (nm ((xs (Int32.toNatClampNeg x4)) &&& (31 : Int32)) (fun v3 : Int32 => if v3 = 0 then (fL_c164 F xs L (fun x4 M => fL_law F xs L n x4 M) x4 M) else (if v3 = 1 then (fL_c237 F xs L (fun x4 M => fL_law F xs L n x4 M) x4 M) else (if v3 = 2 then (fL_c262 F xs L (fun x4 M => fL_law F xs L n x4 M) x4 M) else (if v3 = 3 then (fL_c299 F xs L (fun x4 M => fL_law F xs L n x4 M) x4 M) else (if v3 = 4 then (fL_c367 F xs L (fun x4 M => fL_law F xs L n x4 M) x4 M) else (if v3 = 5 then (fL_c470 F xs L (fun x4 M => fL_law F xs L n x4 M) x4 M) else (if v3 = 6 then (fL_c545 F xs L (fun x4 M => fL_law F xs L n x4 M) x4 M) else (if v3 = 7 then (fL_c601 F xs L (fun x4 M => fL_law F xs L n x4 M) x4 M) else (if v3 = 8 then (fL_c669 F xs L (fun x4 M => fL_law F xs L n x4 M) x4 M) else (if v3 = 9 then (fL_c758 F xs L (fun x4 M => fL_law F xs L n x4 M) x4 M) else (if v3 = 10 then (fL_c771 F xs L (fun x4 M => fL_law F xs L n x4 M) x4 M) else (if v3 = 11 then (fL_c827 F xs L (fun x4 M => fL_law F xs L n x4 M) x4 M) else (if v3 = 12 then (fL_c883 F xs L (fun x4 M => fL_law F xs L n x4 M) x4 M) else (if v3 = 13 then (fL_c939 F xs L (fun x4 M => fL_law F xs L n x4 M) x4 M) else (if v3 = 14 then (fL_c1007 F xs L (fun x4 M => fL_law F xs L n x4 M) x4 M) else (if v3 = 15 then (fL_c1063 F xs L (fun x4 M => fL_law F xs L n x4 M) x4 M) else (if v3 = 16 then (fL_c1131 F xs L (fun x4 M => fL_law F xs L n x4 M) x4 M) else (if v3 = 17 then (fL_c1187 F xs L (fun x4 M => fL_law F xs L n x4 M) x4 M) else (if v3 = 18 then (fL_c1267 F xs L (fun x4 M => fL_law F xs L n x4 M) x4 M) else (if v3 = 19 then (fL_c1323 F xs L (fun x4 M => fL_law F xs L n x4 M) x4 M) else (if v3 = 20 then (fL_c1391 F xs L (fun x4 M => fL_law F xs L n x4 M) x4 M) else (if v3 = 21 then (fL_c1416 F xs L (fun x4 M => fL_law F xs L n x4 M) x4 M) else (if v3 = 22 then (fL_c1484 F xs L (fun x4 M => fL_law F xs L n x4 M) x4 M) else (if v3 = 23 then (fL_c1576 F xs L (fun x4 M => fL_law F xs L n x4 M) x4 M) else (if v3 = 24 then (fL_c1632 F xs L (fun x4 M => fL_law F xs L n x4 M) x4 M) else (if v3 = 25 then (fL_c1688 F xs L (fun x4 M => fL_law F xs L n x4 M) x4 M) else (if v3 = 26 then (fL_c1756 F xs L (fun x4 M => fL_law F xs L n x4 M) x4 M) else (nm (x4 + (6 : Int32)) (fun v31 : Int32 => fL_law F xs L n v31 M)))))))))))))))))))))))))))))))
set_option maxRecDepth 100000 in
set_option maxHeartbeats 8000000 in
theorem wL_law {l : Launch} {D : va_G} {ad : Nat → Nat} {ca : Nat → ClassId} {b L : Nat} {xs : Nat → Int32} {F : Nat} {M' : Mem} (hl : l.stackTraces = false) : ∀ (n kc ks : Nat) (V : Jdg) (x4 : Int32) (M : Mem), MchL l D ad ca b L xs kc ks V → kc + n ≤ room_1.cells ∧ ks + 6 * n ≤ room_1.slots → fL_law F xs L n x4 M = some M' → V M 23 [(0, .ref b), (1, .ref (ad 0)), (2, .ref (ad 37)), (3, .ref (ad 55)), (4, .int x4)] [] := by
  intro n
  induction n with
  | zero =>
    intro kc ks V x4 M h hz hf
    have hf : (none : Option Mem) = some M' := hf
    cases hf
  | succ n ih =>
    intro kc ks V x4 M h hz hf
    obtain ⟨hz1, hz2⟩ := hz
    rw [fL_law] at hf
    refine r_iload (pc := 23) h dL_law_23 4 rfl ?_
    refine r_aload_n (pc := 25) h dL_law_25 0 rfl rfl ?_
    refine r_slen (pc := 26) h dL_law_26 ?_
    refine r_bipush (pc := 27) (v := (6 : Int32)) h dL_law_27 (by decide) ?_
    refine r_isub (pc := 29) h dL_law_29 ?_
    refine r_icmp_gt (pc := 30) h 1787 dL_law_30 (by decide) (fun hc1 => ?_) (fun hc1 => ?_)
    · have hf := ite_p hc1 hf
      refine r_iconst (pc := 1787) (v := (1 : Int32)) h dL_law_1787 (by decide) ?_
      obtain rfl := sv_i hf
      exact r_endL (pc := 1788) h (by omega) (by omega) dL_law_1788
    · have hf := ite_n hc1 hf
      refine r_aload_n (pc := 33) h dL_law_33 0 rfl rfl ?_
      refine r_iload (pc := 34) h dL_law_34 4 rfl ?_
      obtain ⟨hi2, hf⟩ := gd_some hf
      refine r_sld (pc := 36) h hi2 dL_law_36 ?_
      refine r_bipush (pc := 37) (v := (31 : Int32)) h dL_law_37 (by decide) ?_
      refine r_iand (pc := 39) h dL_law_39 ?_
      refine r_topi (fun v3 ev3 => ?_)
      have hf := nm_app ev3 hf
      by_cases hc4 : v3 = 0
      · have hf := ite_p hc4 hf
        refine r_tableIn (pc := 40) h 164 dL_law_40 (by rw [hc4]; decide) (by rw [hc4]; decide) (by rw [hc4] <;> rfl) (by decide) ?_
        exact wL_c164 hl ⟨by omega, by omega⟩ (fun V1 h1 y N hf1 => ih _ _ _ _ N h1 ⟨by omega, by omega⟩ hf1) h _ M hf
      · have hf := ite_n hc4 hf
        by_cases hc5 : v3 = 1
        · have hf := ite_p hc5 hf
          refine r_tableIn (pc := 40) h 237 dL_law_40 (by rw [hc5]; decide) (by rw [hc5]; decide) (by rw [hc5] <;> rfl) (by decide) ?_
          exact wL_c237 hl ⟨by omega, by omega⟩ (fun V1 h1 y N hf1 => ih _ _ _ _ N h1 ⟨by omega, by omega⟩ hf1) h _ M hf
        · have hf := ite_n hc5 hf
          by_cases hc6 : v3 = 2
          · have hf := ite_p hc6 hf
            refine r_tableIn (pc := 40) h 262 dL_law_40 (by rw [hc6]; decide) (by rw [hc6]; decide) (by rw [hc6] <;> rfl) (by decide) ?_
            exact wL_c262 hl ⟨by omega, by omega⟩ (fun V1 h1 y N hf1 => ih _ _ _ _ N h1 ⟨by omega, by omega⟩ hf1) h _ M hf
          · have hf := ite_n hc6 hf
            by_cases hc7 : v3 = 3
            · have hf := ite_p hc7 hf
              refine r_tableIn (pc := 40) h 299 dL_law_40 (by rw [hc7]; decide) (by rw [hc7]; decide) (by rw [hc7] <;> rfl) (by decide) ?_
              exact wL_c299 hl ⟨by omega, by omega⟩ (fun V1 h1 y N hf1 => ih _ _ _ _ N h1 ⟨by omega, by omega⟩ hf1) h _ M hf
            · have hf := ite_n hc7 hf
              by_cases hc8 : v3 = 4
              · have hf := ite_p hc8 hf
                refine r_tableIn (pc := 40) h 367 dL_law_40 (by rw [hc8]; decide) (by rw [hc8]; decide) (by rw [hc8] <;> rfl) (by decide) ?_
                exact wL_c367 hl ⟨by omega, by omega⟩ (fun V1 h1 y N hf1 => ih _ _ _ _ N h1 ⟨by omega, by omega⟩ hf1) h _ M hf
              · have hf := ite_n hc8 hf
                by_cases hc9 : v3 = 5
                · have hf := ite_p hc9 hf
                  refine r_tableIn (pc := 40) h 470 dL_law_40 (by rw [hc9]; decide) (by rw [hc9]; decide) (by rw [hc9] <;> rfl) (by decide) ?_
                  exact wL_c470 hl ⟨by omega, by omega⟩ (fun V1 h1 y N hf1 => ih _ _ _ _ N h1 ⟨by omega, by omega⟩ hf1) h _ M hf
                · have hf := ite_n hc9 hf
                  by_cases hc10 : v3 = 6
                  · have hf := ite_p hc10 hf
                    refine r_tableIn (pc := 40) h 545 dL_law_40 (by rw [hc10]; decide) (by rw [hc10]; decide) (by rw [hc10] <;> rfl) (by decide) ?_
                    exact wL_c545 hl ⟨by omega, by omega⟩ (fun V1 h1 y N hf1 => ih _ _ _ _ N h1 ⟨by omega, by omega⟩ hf1) h _ M hf
                  · have hf := ite_n hc10 hf
                    by_cases hc11 : v3 = 7
                    · have hf := ite_p hc11 hf
                      refine r_tableIn (pc := 40) h 601 dL_law_40 (by rw [hc11]; decide) (by rw [hc11]; decide) (by rw [hc11] <;> rfl) (by decide) ?_
                      exact wL_c601 hl ⟨by omega, by omega⟩ (fun V1 h1 y N hf1 => ih _ _ _ _ N h1 ⟨by omega, by omega⟩ hf1) h _ M hf
                    · have hf := ite_n hc11 hf
                      by_cases hc12 : v3 = 8
                      · have hf := ite_p hc12 hf
                        refine r_tableIn (pc := 40) h 669 dL_law_40 (by rw [hc12]; decide) (by rw [hc12]; decide) (by rw [hc12] <;> rfl) (by decide) ?_
                        exact wL_c669 hl ⟨by omega, by omega⟩ (fun V1 h1 y N hf1 => ih _ _ _ _ N h1 ⟨by omega, by omega⟩ hf1) h _ M hf
                      · have hf := ite_n hc12 hf
                        by_cases hc13 : v3 = 9
                        · have hf := ite_p hc13 hf
                          refine r_tableIn (pc := 40) h 758 dL_law_40 (by rw [hc13]; decide) (by rw [hc13]; decide) (by rw [hc13] <;> rfl) (by decide) ?_
                          exact wL_c758 hl ⟨by omega, by omega⟩ (fun V1 h1 y N hf1 => ih _ _ _ _ N h1 ⟨by omega, by omega⟩ hf1) h _ M hf
                        · have hf := ite_n hc13 hf
                          by_cases hc14 : v3 = 10
                          · have hf := ite_p hc14 hf
                            refine r_tableIn (pc := 40) h 771 dL_law_40 (by rw [hc14]; decide) (by rw [hc14]; decide) (by rw [hc14] <;> rfl) (by decide) ?_
                            exact wL_c771 hl ⟨by omega, by omega⟩ (fun V1 h1 y N hf1 => ih _ _ _ _ N h1 ⟨by omega, by omega⟩ hf1) h _ M hf
                          · have hf := ite_n hc14 hf
                            by_cases hc15 : v3 = 11
                            · have hf := ite_p hc15 hf
                              refine r_tableIn (pc := 40) h 827 dL_law_40 (by rw [hc15]; decide) (by rw [hc15]; decide) (by rw [hc15] <;> rfl) (by decide) ?_
                              exact wL_c827 hl ⟨by omega, by omega⟩ (fun V1 h1 y N hf1 => ih _ _ _ _ N h1 ⟨by omega, by omega⟩ hf1) h _ M hf
                            · have hf := ite_n hc15 hf
                              by_cases hc16 : v3 = 12
                              · have hf := ite_p hc16 hf
                                refine r_tableIn (pc := 40) h 883 dL_law_40 (by rw [hc16]; decide) (by rw [hc16]; decide) (by rw [hc16] <;> rfl) (by decide) ?_
                                exact wL_c883 hl ⟨by omega, by omega⟩ (fun V1 h1 y N hf1 => ih _ _ _ _ N h1 ⟨by omega, by omega⟩ hf1) h _ M hf
                              · have hf := ite_n hc16 hf
                                by_cases hc17 : v3 = 13
                                · have hf := ite_p hc17 hf
                                  refine r_tableIn (pc := 40) h 939 dL_law_40 (by rw [hc17]; decide) (by rw [hc17]; decide) (by rw [hc17] <;> rfl) (by decide) ?_
                                  exact wL_c939 hl ⟨by omega, by omega⟩ (fun V1 h1 y N hf1 => ih _ _ _ _ N h1 ⟨by omega, by omega⟩ hf1) h _ M hf
                                · have hf := ite_n hc17 hf
                                  by_cases hc18 : v3 = 14
                                  · have hf := ite_p hc18 hf
                                    refine r_tableIn (pc := 40) h 1007 dL_law_40 (by rw [hc18]; decide) (by rw [hc18]; decide) (by rw [hc18] <;> rfl) (by decide) ?_
                                    exact wL_c1007 hl ⟨by omega, by omega⟩ (fun V1 h1 y N hf1 => ih _ _ _ _ N h1 ⟨by omega, by omega⟩ hf1) h _ M hf
                                  · have hf := ite_n hc18 hf
                                    by_cases hc19 : v3 = 15
                                    · have hf := ite_p hc19 hf
                                      refine r_tableIn (pc := 40) h 1063 dL_law_40 (by rw [hc19]; decide) (by rw [hc19]; decide) (by rw [hc19] <;> rfl) (by decide) ?_
                                      exact wL_c1063 hl ⟨by omega, by omega⟩ (fun V1 h1 y N hf1 => ih _ _ _ _ N h1 ⟨by omega, by omega⟩ hf1) h _ M hf
                                    · have hf := ite_n hc19 hf
                                      by_cases hc20 : v3 = 16
                                      · have hf := ite_p hc20 hf
                                        refine r_tableIn (pc := 40) h 1131 dL_law_40 (by rw [hc20]; decide) (by rw [hc20]; decide) (by rw [hc20] <;> rfl) (by decide) ?_
                                        exact wL_c1131 hl ⟨by omega, by omega⟩ (fun V1 h1 y N hf1 => ih _ _ _ _ N h1 ⟨by omega, by omega⟩ hf1) h _ M hf
                                      · have hf := ite_n hc20 hf
                                        by_cases hc21 : v3 = 17
                                        · have hf := ite_p hc21 hf
                                          refine r_tableIn (pc := 40) h 1187 dL_law_40 (by rw [hc21]; decide) (by rw [hc21]; decide) (by rw [hc21] <;> rfl) (by decide) ?_
                                          exact wL_c1187 hl ⟨by omega, by omega⟩ (fun V1 h1 y N hf1 => ih _ _ _ _ N h1 ⟨by omega, by omega⟩ hf1) h _ M hf
                                        · have hf := ite_n hc21 hf
                                          by_cases hc22 : v3 = 18
                                          · have hf := ite_p hc22 hf
                                            refine r_tableIn (pc := 40) h 1267 dL_law_40 (by rw [hc22]; decide) (by rw [hc22]; decide) (by rw [hc22] <;> rfl) (by decide) ?_
                                            exact wL_c1267 hl ⟨by omega, by omega⟩ (fun V1 h1 y N hf1 => ih _ _ _ _ N h1 ⟨by omega, by omega⟩ hf1) h _ M hf
                                          · have hf := ite_n hc22 hf
                                            by_cases hc23 : v3 = 19
                                            · have hf := ite_p hc23 hf
                                              refine r_tableIn (pc := 40) h 1323 dL_law_40 (by rw [hc23]; decide) (by rw [hc23]; decide) (by rw [hc23] <;> rfl) (by decide) ?_
                                              exact wL_c1323 hl ⟨by omega, by omega⟩ (fun V1 h1 y N hf1 => ih _ _ _ _ N h1 ⟨by omega, by omega⟩ hf1) h _ M hf
                                            · have hf := ite_n hc23 hf
                                              by_cases hc24 : v3 = 20
                                              · have hf := ite_p hc24 hf
                                                refine r_tableIn (pc := 40) h 1391 dL_law_40 (by rw [hc24]; decide) (by rw [hc24]; decide) (by rw [hc24] <;> rfl) (by decide) ?_
                                                exact wL_c1391 hl ⟨by omega, by omega⟩ (fun V1 h1 y N hf1 => ih _ _ _ _ N h1 ⟨by omega, by omega⟩ hf1) h _ M hf
                                              · have hf := ite_n hc24 hf
                                                by_cases hc25 : v3 = 21
                                                · have hf := ite_p hc25 hf
                                                  refine r_tableIn (pc := 40) h 1416 dL_law_40 (by rw [hc25]; decide) (by rw [hc25]; decide) (by rw [hc25] <;> rfl) (by decide) ?_
                                                  exact wL_c1416 hl ⟨by omega, by omega⟩ (fun V1 h1 y N hf1 => ih _ _ _ _ N h1 ⟨by omega, by omega⟩ hf1) h _ M hf
                                                · have hf := ite_n hc25 hf
                                                  by_cases hc26 : v3 = 22
                                                  · have hf := ite_p hc26 hf
                                                    refine r_tableIn (pc := 40) h 1484 dL_law_40 (by rw [hc26]; decide) (by rw [hc26]; decide) (by rw [hc26] <;> rfl) (by decide) ?_
                                                    exact wL_c1484 hl ⟨by omega, by omega⟩ (fun V1 h1 y N hf1 => ih _ _ _ _ N h1 ⟨by omega, by omega⟩ hf1) h _ M hf
                                                  · have hf := ite_n hc26 hf
                                                    by_cases hc27 : v3 = 23
                                                    · have hf := ite_p hc27 hf
                                                      refine r_tableIn (pc := 40) h 1576 dL_law_40 (by rw [hc27]; decide) (by rw [hc27]; decide) (by rw [hc27] <;> rfl) (by decide) ?_
                                                      exact wL_c1576 hl ⟨by omega, by omega⟩ (fun V1 h1 y N hf1 => ih _ _ _ _ N h1 ⟨by omega, by omega⟩ hf1) h _ M hf
                                                    · have hf := ite_n hc27 hf
                                                      by_cases hc28 : v3 = 24
                                                      · have hf := ite_p hc28 hf
                                                        refine r_tableIn (pc := 40) h 1632 dL_law_40 (by rw [hc28]; decide) (by rw [hc28]; decide) (by rw [hc28] <;> rfl) (by decide) ?_
                                                        exact wL_c1632 hl ⟨by omega, by omega⟩ (fun V1 h1 y N hf1 => ih _ _ _ _ N h1 ⟨by omega, by omega⟩ hf1) h _ M hf
                                                      · have hf := ite_n hc28 hf
                                                        by_cases hc29 : v3 = 25
                                                        · have hf := ite_p hc29 hf
                                                          refine r_tableIn (pc := 40) h 1688 dL_law_40 (by rw [hc29]; decide) (by rw [hc29]; decide) (by rw [hc29] <;> rfl) (by decide) ?_
                                                          exact wL_c1688 hl ⟨by omega, by omega⟩ (fun V1 h1 y N hf1 => ih _ _ _ _ N h1 ⟨by omega, by omega⟩ hf1) h _ M hf
                                                        · have hf := ite_n hc29 hf
                                                          by_cases hc30 : v3 = 26
                                                          · have hf := ite_p hc30 hf
                                                            refine r_tableIn (pc := 40) h 1756 dL_law_40 (by rw [hc30]; decide) (by rw [hc30]; decide) (by rw [hc30] <;> rfl) (by decide) ?_
                                                            exact wL_c1756 hl ⟨by omega, by omega⟩ (fun V1 h1 y N hf1 => ih _ _ _ _ N h1 ⟨by omega, by omega⟩ hf1) h _ M hf
                                                          · have hf := ite_n hc30 hf
                                                            refine r_tableOut (pc := 40) h 1781 dL_law_40 (by have q0 := lv_neT (a := 0) hc4 rfl; have q1 := lv_neT (a := 1) hc5 rfl; have q2 := lv_neT (a := 2) hc6 rfl; have q3 := lv_neT (a := 3) hc7 rfl; have q4 := lv_neT (a := 4) hc8 rfl; have q5 := lv_neT (a := 5) hc9 rfl; have q6 := lv_neT (a := 6) hc10 rfl; have q7 := lv_neT (a := 7) hc11 rfl; have q8 := lv_neT (a := 8) hc12 rfl; have q9 := lv_neT (a := 9) hc13 rfl; have q10 := lv_neT (a := 10) hc14 rfl; have q11 := lv_neT (a := 11) hc15 rfl; have q12 := lv_neT (a := 12) hc16 rfl; have q13 := lv_neT (a := 13) hc17 rfl; have q14 := lv_neT (a := 14) hc18 rfl; have q15 := lv_neT (a := 15) hc19 rfl; have q16 := lv_neT (a := 16) hc20 rfl; have q17 := lv_neT (a := 17) hc21 rfl; have q18 := lv_neT (a := 18) hc22 rfl; have q19 := lv_neT (a := 19) hc23 rfl; have q20 := lv_neT (a := 20) hc24 rfl; have q21 := lv_neT (a := 21) hc25 rfl; have q22 := lv_neT (a := 22) hc26 rfl; have q23 := lv_neT (a := 23) hc27 rfl; have q24 := lv_neT (a := 24) hc28 rfl; have q25 := lv_neT (a := 25) hc29 rfl; have q26 := lv_neT (a := 26) hc30 rfl; omega) (by decide) ?_
                                                            obtain ⟨v31, ev31⟩ : ∃ y : Int32, y = x4 + (6 : Int32) := ⟨_, rfl⟩
                                                            have hf := nm_app ev31 hf
                                                            refine r_iinc (pc := 1781) (v := v31) (lv' := [(4, .int v31), (0, .ref b), (1, .ref (ad 0)), (2, .ref (ad 37)), (3, .ref (ad 55))]) h dL_law_1781 4 rfl (by rw [ev31]; rfl) (by decide) rfl ?_
                                                            refine r_goto (pc := 1784) h 23 dL_law_1784 (by decide) ?_
                                                            refine r_sub h [1, 2, 3, 4, 0] rfl ?_
                                                            exact ih _ _ _ _ M h ⟨by omega, by omega⟩ hf
