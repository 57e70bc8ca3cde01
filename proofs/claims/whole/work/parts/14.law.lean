/-! THE CLAIM OUT OF ONE WALK OF THE LAW'S BODY. Your part is whole_start (and what it stands on); all else here is the same for every law, but numbers. -/
def R_law : String := "SumBenchLaw"
def lw_P (b : Addr) (xs : List Int32) (args : Array Value) (s : State) : Prop := args = #[.ref b] ∧ s.IntsAt b xs ∧ xs.length ≤ 3072 ∧ (Jvm.Cond.and given_1 narrow_1).before args s = true
def lw_Q (_ : Array Value) (s : State) (o : Outcome) (t : State) : Prop := o = .returned (some (.int 1)) ∧ Framed s o t [] room_1.cells room_1.slots
def lw_Z (below : List Frame) (a : Array Value) (s : State) : State → Prop := fun t => ∃ o, t.status = .running ∧ Ended t below o ∧ lw_Q a s o t
/-- the law's own end, with 1 on the stack, nothing written that was there before, its room as the claim has it -/
theorem lw_ret {p : Program} {l : Launch} {e : Env} {s : State} {m : MethodId} {below : List Frame} {meth : Method} {c : Code} {args : Array Value} (hx : p.tables.exec = Jvm.exec) (hb : c.code = code) (hr : meth.sig.returnType = ret) (hlocks : meth.locks = false) {pc : Nat} {H : Heap} {ls : Array Slot} (hdg : decode code pc = .ok (.ireturn, 1)) : W p l e room_1 s m args below meth c H [] room_1.cells room_1.slots (lw_Z below args s) (F0 m pc ls [.int 1]) := by
  intro T hT X
  obtain ⟨fs, hret, hrun, hended, hW, hframe⟩ := X.leave (v := some (.int 1)) (hlocks := hlocks) (fun h => by rw [hr] at h; cases h)
  have hmeth' : T.vm.method? m = some meth := X.method'
  refine ⟨T.setFrames fs, ?_, .returned (some (.int 1)), hrun, hended, rfl, ⟨_, rfl⟩, hW, hframe⟩
  jvm_step X.here [X.here.top, hx, hb, hdg, hmeth', hr, ret, narrow_b1]
  (try refine ⟨rfl, ?_⟩); (try refine ⟨rfl, ?_⟩)
  first | (intro acts; rw [hret _ acts rfl rfl rfl]) | rw [hret _ _ rfl rfl rfl]
  exact Steps.refl _
/-- what holds at the law's entry: the machine, the code, the tables' words (any of lw_tbl by 'hts w (by decide +kernel)'), the script of L ints xs at the cell b, what the Statement gives of the start (any of its parts by flat_of_before) -/
def lw_At (p : Program) (s : State) (m : MethodId) (meth : Method) (c : Code) (b L : Nat) (xs : Nat → Int32) : Prop :=
  p.tables.exec = Jvm.exec ∧ c.code = code ∧ meth.sig.returnType = ret ∧ c.maxLocals = 7 ∧ s.vm.findClass R_law = some m.cls ∧ (∀ w ∈ lw_tbl, w.before #[Value.ref b] s = true) ∧ va_X b L xs s s.heap ∧ b < s.heap.size ∧ meth.locks = false ∧ (Jvm.Cond.and given_1 narrow_1).before #[Value.ref b] s = true

/-! The law's body over the memory. -/
def AL (s : State) (q : Nat) : Prop := s.heap.size ≤ q
/-- what the law's start knows: the script, Throwable's statics, the texts, the classes that don't take one another -/
def ExL (b L : Nat) (xs : Nat → Int32) (ad : Nat → Nat) (s : State) (_ : Code) : Prop := (va_X b L xs s s.heap ∧ b < s.heap.size) ∧ XT csA ad s ∧ NQ s
abbrev MchL (l : Launch) (D : va_G) (ad : Nat → Nat) (ca : Nat → ClassId) (b L : Nat) (xs : Nat → Int32) (kc ks : Nat) (V : Jdg) : Prop :=
  MchG csA l room_1 D ad ca RL cL_law 7 ret AL (ExL b L xs ad) kc ks (fun below args s => lw_Z below args s) V
section LR
variable {l : Launch} {D : va_G} {ad : Nat → Nat} {ca : Nat → ClassId} {b L : Nat} {xs : Nat → Int32} {kc ks : Nat} {M : Mem} {V : Jdg} {pc : Nat} {lv : List (Nat × Value)} {st : List Value}
theorem r_widen (h : MchL l D ad ca b L xs kc ks V) (kk : ∀ V1 : Jdg, MchL l D ad ca b L xs (kc + 1) (ks + 6) V1 → V1 M pc lv st) : V M pc lv st := by
  obtain ⟨p, e, s, m, args, below, meth, c, hC, rfl⟩ := h
  have k1 := kk _ ⟨p, e, s, m, args, below, meth, c, hC, rfl⟩
  exact fun H locs ls hP hS hl => W.widen (Nat.le_succ _) (Nat.le_add_right _ _) (k1 H locs ls hP hS hl)
theorem r_sld (h : MchL l D ad ca b L xs kc ks V) {i : Int32} (hi : inb i L = true) (hd : decode cL_law pc = .ok (.iaload, 1)) (kk : V M (pc + 1) lv (.int (xs (Int32.toNatClampNeg i)) :: st)) : V M pc lv (.int i :: .ref b :: st) := by
  obtain ⟨p, e, s, m, args, below, meth, c, ⟨hx, hb, -, -, -, -, -, -, -, -, -, ⟨hX, hbl⟩, -⟩, rfl⟩ := h
  exact fun H locs ls hP hS hl => va_sld hx hb hX hbl (Nat.not_le.mpr hbl) hS (inb_vp hi) hd (kk H locs ls hP hS hl)
theorem r_slen (h : MchL l D ad ca b L xs kc ks V) (hd : decode cL_law pc = .ok (.arraylength, 1)) (kk : V M (pc + 1) lv (.int (Int32.ofNat L) :: st)) : V M pc lv (.ref b :: st) := by
  obtain ⟨p, e, s, m, args, below, meth, c, ⟨hx, hb, -, -, -, -, -, -, -, -, -, ⟨hX, hbl⟩, -⟩, rfl⟩ := h
  exact fun H locs ls hP hS hl => va_slen hx hb hX hbl (Nat.not_le.mpr hbl) hS hd (kk H locs ls hP hS hl)
theorem r_endL (h : MchL l D ad ca b L xs kc ks V) (h1 : kc ≤ room_1.cells) (h2 : ks ≤ room_1.slots) (hd : decode cL_law pc = .ok (.ireturn, 1)) : V M pc lv [.int 1] := by
  obtain ⟨p, e, s, m, args, below, meth, c, ⟨hx, hb, -, -, -, -, -, -, hr, hlk, -⟩, rfl⟩ := h
  exact fun H locs ls hP hS hl => va_forget (fun q hq => hS.2.2 q hq) (W.widen h1 h2 (lw_ret hx hb hr hlk hd))
/-- what a call of one of the law's own methods needs of the tables -/
def MW (own : String) (idx : Nat) (y : MethodName) (cy : ByteArray) (mL : Nat) (hh : List (Nat × Nat × Nat × Nat)) (n : Nat) : Prop :=
  Cond.methodLink own idx y ∈ TG ∧ Cond.static y ∈ TG ∧ Cond.initialized y.cls ∈ TG ∧ Cond.codeWith y cy mL (some .int) hh ∈ TG ∧ y.cls ≠ "java/lang/invoke/MethodHandle" ∧ y.cls ≠ "java/lang/invoke/VarHandle" ∧ (parseMethodDescriptor y.desc).map (fun d => d.parameters.length) = some n
theorem pw_blind {As : List Value} : FrameBlind (va_Pc As (PW csA D ad ca M)) := by
  intro a U g mk q
  obtain ⟨q0, ⟨⟨qP, qK, qI, qN⟩, qX⟩, q1, q2⟩ := q
  exact ⟨q0, ⟨⟨qP, va_K.moved (u := U) (U := U.calling g mk a) (Vm.Alike.refl U.vm) qK, qI, NW.same (s := U) (U := U.calling g mk a) rfl qN⟩, qX.calling⟩, va_Nc.moved (u := U) (U := U.calling g mk a) (Vm.Alike.refl U.vm) q1, va_Nc.moved (u := U) (U := U.calling g mk a) (Vm.Alike.refl U.vm) q2⟩
theorem r_callW (h : MchL l D ad ca b L xs kc ks V) {idx : Nat} {y : MethodName} {cy : ByteArray} {mL fr lo n : Nat} {hh : List (Nat × Nat × Nat × Nat)} {As rest : List Value} {x1 : Int32} {M1 : Mem} (hm : MW RL idx y cy mL hh n) (hd : decode cL_law pc = .ok (.invokestatic idx, 3))
    (hc : ConW csA l D ad ca y cy mL hh fr lo As M x1 M1) (hst : st = As.reverse ++ rest) (hn : As.length = n) (hR : fr + 1 ≤ room_1.frames ∧ 8 + (mL + 11) + lo ≤ room_1.locals) (hrest : (rest.map fun v => v.category).sum ≤ 8) (hz : kc + 1 ≤ room_1.cells ∧ ks + 6 ≤ room_1.slots)
    (kk : ∀ V1 : Jdg, MchL l D ad ca b L xs (kc + 1) (ks + 6) V1 → V1 M1 (pc + 3) lv (.int x1 :: rest)) : V M pc lv st := by
  obtain ⟨p, e, s, m, args, below, meth, c0, hC, rfl⟩ := h
  have k1 := kk _ ⟨p, e, s, m, args, below, meth, c0, hC, rfl⟩
  obtain ⟨hx, hb, hml, hown, ht, hK, hI, hN, -, -, hA, -, hX, hQ1, hQ2⟩ := hC
  intro H locs ls hP hS hl
  subst hst
  obtain ⟨m1, m2, m3, m5, m7, m8, m9⟩ := hm
  have hG : GoodIn TG (va_wsS RL idx y (.codeWith y cy mL (some .int) hh :: TG)) := by
    intro w hw
    unfold va_wsS at hw
    rcases List.mem_append.mp hw with h1 | h1
    · simp only [List.mem_cons, List.not_mem_nil, or_false] at h1
      rcases h1 with rfl | rfl | rfl
      · exact tg_self _ m1
      · exact tg_self _ m2
      · exact tg_self _ m3
    · exact tg_cons m5 w h1
  have hAD : ∀ q, AD csA ad q → AL s q := fun q h => by
    obtain ⟨k, hk, rfl⟩ := h
    exact hA k hk
  have hr := vx_runSW (As := As) (rest := rest) (g := F0 m pc ls (As.reverse ++ rest)) (H := H) (locs := locs) (cells := kc) (slots := ks) (below := below) (meth := meth) (e := e) (l := l) (R := room_1) ⟨hx, hb, hml, hown, ht⟩ hc (vx_cwSW n ht hG rfl rfl rfl ⟨m7, m8, m9⟩ hR)
    ⟨pw_blind, fun U hU hW => ⟨rfl, ⟨⟨by rw [hU]; exact hP, va_K.moved hW.alike hK, hI, NW.warm hW hN⟩, hX.warm hW (fun q h1 _ => by rw [hU]; exact hS.2.1 q h1 (Nat.not_le.mpr h1))⟩, va_Nc.moved hW.alike hQ1, va_Nc.moved hW.alike hQ2⟩⟩ rfl hn hl.1 rfl (lv_room hrest) hd hz
  intro T hT X
  obtain ⟨v, st₀, t, T', L9, h0, X', hL, e1, e2, ⟨hv, hSW, hz1, hk⟩, stp⟩ := hr T hT X
  cases hv
  rw [h0] at hz1 hk
  obtain ⟨t2, a1, b1⟩ := k1 T'.heap (locs ++ L9) ls (by rw [e1]; exact hSW.1) ⟨Nat.le_trans hS.1 (by rw [e1]; exact hz1), fun q h1 h2 => by rw [e1, hk q (Nat.lt_of_lt_of_le h1 hS.1) (fun z => h2 (hAD q z))]; exact hS.2.1 q h1 h2, fun q hq => by
      rcases List.mem_append.mp hq with h | h
      · exact hS.2.2 q h
      · exact hAD _ (hL q h)⟩ hl T' rfl X'
  exact ⟨t2, stp t2 a1, b1⟩
end LR
