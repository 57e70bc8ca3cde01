/-! Roads that throw: the exception's own facts, a contract for a method that throws, and its rules. -/
def stx : List (Nat × String) := [(268, "no such set"), (112, "no such width"), (137, "no such number of the set"), (169, "no such number of a clash"), (272, "no such number of looks"), (274, "no such turns"), (276, "no such number of colours"), (261, "no such seed")]
def exI : String := "java/lang/IndexOutOfBoundsException"
def exA : String := "java/lang/IllegalArgumentException"
def exN : String := "java/util/NoSuchElementException"
def exs : List String := [exI, exA, exN]
/-- what the start knows of Throwable's statics, of the texts, and of the classes -/
def XT (cs : List Nat) (ad : Nat → Nat) (U : State) : Prop := vx_Zq Bundle.tN "UNASSIGNED_STACK" Bundle.steD (AD cs ad) U U.heap ∧ vx_Zq Bundle.tN "SUPPRESSED_SENTINEL" Bundle.listD (AD cs ad) U U.heap ∧ ∀ q ∈ stx, ∃ sa, vk_R RX8 q.1 q.2 sa U
theorem XT.warm {cs : List Nat} {ad : Nat → Nat} {s U : State} (hW : s.WarmedH U.vm) (hH : ∀ q : Nat, q < s.heap.size → ¬ AD cs ad q → U.heap[q]? = s.heap[q]?) (h : XT cs ad s) : XT cs ad U := by
  obtain ⟨h1, h2, h3⟩ := h
  refine ⟨(h1.moved hW.alike).kept hH, (h2.moved hW.alike).kept hH, fun q hq => ?_⟩
  obtain ⟨sa, hs⟩ := h3 q hq
  exact ⟨sa, hs.warm hW⟩
theorem XT.calling {cs : List Nat} {ad : Nat → Nat} {U : State} {g : JFrame} {mk : MethodId} {a : Array Value} (h : XT cs ad U) : XT cs ad (U.calling g mk a) := by
  obtain ⟨h1, h2, h3⟩ := h
  refine ⟨h1.moved (u := U) (U := U.calling g mk a) (Vm.Alike.refl U.vm), h2.moved (u := U) (U := U.calling g mk a) (Vm.Alike.refl U.vm), fun q hq => ?_⟩
  obtain ⟨sa, hs⟩ := h3 q hq
  exact ⟨sa, vk_R.same (u := U) (U := U.calling g mk a) rfl hs⟩
def rmX (fr lo : Nat) : Room := { frames := fr, cells := 1, slots := 6, locals := lo }
def cxQ (cs : List Nat) (D : va_G) (ad : Nat → Nat) (ca : Nat → ClassId) (E : String) (M : Mem) : String → State → State → Prop := fun E' st t => E' = E ∧ va_P D vwCl (wsM cs ad ca M) t.heap ∧ va_F (AD cs ad) st t
def noQ : Array Value → State → Outcome → State → Prop := fun _ _ _ _ => False
/-- method y, called with As at memory M, throws an E, and the memory stays -/
def ConX (cs : List Nat) (l : Launch) (D : va_G) (ad : Nat → Nat) (ca : Nat → ClassId) (y : MethodName) (cc : ByteArray) (mL : Nat) (ret : Option FieldType) (fr lo : Nat) (As : List Value) (M : Mem) (E : String) : Prop :=
  vx_Met l y (.code y cc mL ret :: TG) (rmX fr lo) (va_Pc As (fun U => SW cs D ad ca M U ∧ XT cs ad U)) noQ (cxQ cs D ad ca E M) 1 6 (AD cs ad)
abbrev MchX (cs : List Nat) (l : Launch) (R : Room) (D : va_G) (ad : Nat → Nat) (ca : Nat → ClassId) (own : String) (cc : ByteArray) (nL : Nat) (ret : Option FieldType) (E : String) (M : Mem) (V : Jdg) : Prop :=
  MchG cs l R D ad ca own cc nL ret (fun _ => AD cs ad) (fun s c => XT cs ad s ∧ ∀ x ∈ c.exceptionTable.toList, False) 0 0 (fun below args s => vx_MQ below noQ (cxQ cs D ad ca E M) args s 1 6 (AD cs ad)) V
theorem ConX_of {cs : List Nat} {l : Launch} {D : va_G} {ad : Nat → Nat} {ca : Nat → ClassId} {y : MethodName} {cc : ByteArray} {mL : Nat} {ret : Option FieldType} {fr lo : Nat} {As : List Value} {M : Mem} {E : String}
    (hy : plainName y.cls = true) (hn : (lg_sl As).length ≤ mL) (h : ∀ V : Jdg, MchX cs l (rmX fr lo) D ad ca y.cls cc mL ret E M V → V M 0 (lv_args 0 As) []) : ConX cs l D ad ca y cc mL ret fr lo As M E := by
  refine vx_ofW (cc := cc) (maxL := mL) (ret := ret) hy rfl ?_
  intro p e s m args below meth c s₁ B hml htab hv
  obtain ⟨rfl, ⟨hP, hK, hI, hN⟩, hX⟩ := hv
  have hts := atoms_spec (ws := .code y cc mL ret :: TG) B.pre
  have hown : s.vm.findClass y.cls = some m.cls := findClass_of_methodNamed B.named
  rw [lg_entry_eq]
  have h1 := h _ ⟨p, e, s, m, As.toArray, below, meth, c, ⟨B.exec, B.bytes, hml, hown, fun w hw => hts w (List.mem_cons_of_mem _ hw), hK, hI, hN, B.returns, B.notSynchronized, fun k hk => ⟨k, hk, rfl⟩, hX, htab⟩, rfl⟩
  exact h1 s.heap [] _ hP va_S.rf (lv_entry As hn)
/-- the words that a 'throw new E(text)' of the class SumBench wants -/
def TX (ik is ic : Nat) (E : String) : Prop := Bundle.fit E = true ∧ Cond.classLink RX8 ik E ∈ TG ∧ Cond.initialized E ∈ TG ∧ (∃ t, (is, t) ∈ stx) ∧
  (∀ w ∈ (vx_atS RX8 ic E ["java/lang/RuntimeException", "java/lang/Exception"]).filter goodWord, w ∈ TG) ∧ (∀ w ∈ (vx_atS RX8 ic E ["java/lang/RuntimeException", "java/lang/Exception"]).filter (fun w => !goodWord w), w ∈ lw_tbl ∧ nstW w = true) ∧
  ∀ w ∈ Cond.classLink RX8 ik E :: Cond.initialized E :: vx_atS RX8 ic E ["java/lang/RuntimeException", "java/lang/Exception"], vx_ot w = true
theorem r_throwW {cs : List Nat} {l : Launch} {R : Room} {D : va_G} {ad : Nat → Nat} {ca : Nat → ClassId} {cc : ByteArray} {nL : Nat} {ret : Option FieldType} {M : Mem} {V : Jdg} {pc : Nat} {lv : List (Nat × Value)} {E : String} {st : List Value} {ik is ic : Nat}
    (h : MchX cs l R D ad ca RX8 cc nL ret E M V) (hl : l.stackTraces = false) (hw : TX ik is ic E) (d0 : decode cc pc = .ok (.new ik, 3)) (d3 : decode cc (pc + 3) = .ok (.dup, 1)) (d4 : decode cc (pc + 4) = .ok (.ldc_w is, 3)) (d7 : decode cc (pc + 7) = .ok (.invokespecial ic, 3)) (d10 : decode cc (pc + 10) = .ok (.athrow, 1))
    (hf : 5 < R.frames) (hlo : (st.map fun v => v.category).sum + 82 ≤ R.locals) (hc : 1 ≤ R.cells) (hs : 6 ≤ R.slots) : V M pc lv st := by
  obtain ⟨p, e, s, m, args, below, meth, c, ⟨hx, hb, hml, hown, ht, hK, hI, hN, -, hlk, -, hX, htab⟩, rfl⟩ := h
  obtain ⟨w1, w2, w3, ⟨t, w5⟩, w6, w7, w8⟩ := hw
  obtain ⟨x1, x2, x3⟩ := hX
  obtain ⟨sa, hsa⟩ := x3 _ w5
  intro H locs ls hP hS hl0
  have hat : ∀ w ∈ vx_atS RX8 ic E ["java/lang/RuntimeException", "java/lang/Exception"], w.before args s = true :=
    vx_hat (fun w hw => ht w (w6 w hw)) (fun w hw => hw) (fun w hw => hN.use (w7 w hw).1 (w7 w hw).2)
  exact vx_throwSW (names := ["java/lang/RuntimeException", "java/lang/Exception"]) hx hb hl hown w1 (by decide) (ht _ w2) (ht _ w3) hsa hat w8 x1 x2 hS (hl0.1.trans hml.symm) d0 d3 d4 d7 d10 (fun x hx => (htab x hx).elim) hf hlo (by omega) (by omega) hlk
    (fun t hvm hz hk => ⟨rfl, hP.kept (fun k q hq => hk q.1 ((hP k q hq).lt)), ⟨Nat.le_trans hS.1 hz, fun q h1 h2 => (hk q (Nat.lt_of_lt_of_le h1 hS.1)).trans (hS.2.1 q h1 h2)⟩⟩) hS.2.2 (by omega) (by omega)
theorem r_throwS {cs : List Nat} {l : Launch} {R : Room} {D : va_G} {ad : Nat → Nat} {ca : Nat → ClassId} {cc : ByteArray} {nL : Nat} {ret : Option FieldType} {M : Mem} {V : Jdg} {pc : Nat} {lv : List (Nat × Value)} {E : String} {st : List Value} {ik is ic : Nat}
    (h : MchX cs l R D ad ca RX8 cc nL ret E M V) (hl : l.stackTraces = false) (hw : TX ik is ic E) (d0 : decode cc pc = .ok (.new ik, 3)) (d3 : decode cc (pc + 3) = .ok (.dup, 1)) (d4 : decode cc (pc + 4) = .ok (.ldc is, 2)) (d6 : decode cc (pc + 6) = .ok (.invokespecial ic, 3)) (d9 : decode cc (pc + 9) = .ok (.athrow, 1))
    (hf : 5 < R.frames) (hlo : (st.map fun v => v.category).sum + 82 ≤ R.locals) (hc : 1 ≤ R.cells) (hs : 6 ≤ R.slots) : V M pc lv st := by
  obtain ⟨p, e, s, m, args, below, meth, c, ⟨hx, hb, hml, hown, ht, hK, hI, hN, -, hlk, -, hX, htab⟩, rfl⟩ := h
  obtain ⟨w1, w2, w3, ⟨t, w5⟩, w6, w7, w8⟩ := hw
  obtain ⟨x1, x2, x3⟩ := hX
  obtain ⟨sa, hsa⟩ := x3 _ w5
  intro H locs ls hP hS hl0
  have hat : ∀ w ∈ vx_atS RX8 ic E ["java/lang/RuntimeException", "java/lang/Exception"], w.before args s = true :=
    vx_hat (fun w hw => ht w (w6 w hw)) (fun w hw => hw) (fun w hw => hN.use (w7 w hw).1 (w7 w hw).2)
  exact vx_throwS (names := ["java/lang/RuntimeException", "java/lang/Exception"]) hx hb hl hown w1 (by decide) (ht _ w2) (ht _ w3) hsa hat w8 x1 x2 hS (hl0.1.trans hml.symm) d0 d3 d4 d6 d9 (fun x hx => (htab x hx).elim) hf hlo (by omega) (by omega) hlk
    (fun t hvm hz hk => ⟨rfl, hP.kept (fun k q hq => hk q.1 ((hP k q hq).lt)), ⟨Nat.le_trans hS.1 hz, fun q h1 h2 => (hk q (Nat.lt_of_lt_of_le h1 hS.1)).trans (hS.2.1 q h1 h2)⟩⟩) hS.2.2 (by omega) (by omega)
theorem swx_blind {cs : List Nat} {D : va_G} {ad : Nat → Nat} {ca : Nat → ClassId} {M : Mem} {As : List Value} : FrameBlind (va_Pc As (fun U => SW cs D ad ca M U ∧ XT cs ad U)) := by
  intro a U g mk q
  obtain ⟨q0, ⟨qP, qK, qI, qN⟩, qX⟩ := q
  exact ⟨q0, ⟨qP, va_K.moved (u := U) (U := U.calling g mk a) (Vm.Alike.refl U.vm) qK, qI, NW.same (s := U) (U := U.calling g mk a) rfl qN⟩, qX.calling⟩
/-- a static callee throws, and this method has no handler -/
theorem r_callSX {cs : List Nat} {l : Launch} {R : Room} {D : va_G} {ad : Nat → Nat} {ca : Nat → ClassId} {own : String} {cc : ByteArray} {nL : Nat} {ret : Option FieldType} {M : Mem} {V : Jdg} {pc : Nat} {lv : List (Nat × Value)} {E : String} {st : List Value}
    (h : MchX cs l R D ad ca own cc nL ret E M V) {idx : Nat} {y : MethodName} {cy : ByteArray} {mL fr lo n : Nat} {rt : Option FieldType} {As rest : List Value} (hm : MS own idx y cy mL rt n) (hlk : Cond.methodLink own idx y ∈ TG) (hd : decode cc pc = .ok (.invokestatic idx, 3))
    (hc : ConX cs l D ad ca y cy mL rt fr lo As M E) (hst : st = As.reverse ++ rest) (hn : As.length = n) (hR : fr + 1 ≤ R.frames ∧ 8 + (mL + 11) + lo ≤ R.locals) (hrest : (rest.map fun v => v.category).sum ≤ 8) (hz : 0 + 1 ≤ R.cells ∧ 0 + 6 ≤ R.slots) : V M pc lv st := by
  obtain ⟨p, e, s, m, args, below, meth, c0, ⟨hx, hb, hml, hown, ht, hK, hI, hN, -, hlocks, -, hX, htab⟩, rfl⟩ := h
  intro H locs ls hP hS hl
  subst hst
  obtain ⟨-, m2, m3, m5, m7, m8, m9⟩ := hm
  have hG : GoodIn TG (va_wsS own idx y (.code y cy mL rt :: TG)) := by
    intro w hw
    unfold va_wsS at hw
    rcases List.mem_append.mp hw with h1 | h1
    · simp only [List.mem_cons, List.not_mem_nil, or_false] at h1
      rcases h1 with rfl | rfl | rfl
      · exact tg_self _ hlk
      · exact tg_self _ m2
      · exact tg_self _ m3
    · exact tg_cons m5 w h1
  have hr := vx_runS (As := As) (rest := rest) (g := F0 m pc ls (As.reverse ++ rest)) (H := H) (locs := locs) (cells := 0) (slots := 0) (below := below) (meth := meth) ⟨hx, hb, hml, hown, ht⟩ hc (va_cwS n ht hG rfl rfl rfl ⟨m7, m8, m9⟩ hR) ⟨swx_blind, fun U hU hW => ⟨rfl, ⟨by rw [hU]; exact hP, va_K.moved hW.alike hK, hI, NW.warm hW hN⟩, hX.warm hW (fun q h1 h2 => by rw [hU]; exact hS.2.1 q h1 h2)⟩⟩ rfl hn hl.1 rfl (lv_room hrest) hd hz (e := e)
  intro T hT X
  rcases hr T hT X with ⟨v, st₀, t, T', L, -, -, -, -, -, hf, -⟩ | ⟨q, st₀, t, T', L, E', ce, h0, X', hL, e1, e2, ⟨rfl, hP1, hF⟩, hq, hv, hcl, hgo⟩
  · exact hf.elim
  · have hF' : st₀.heap.size ≤ t.heap.size ∧ ∀ z : Nat, z < st₀.heap.size → ¬ AD cs ad z → t.heap[z]? = st₀.heap[z]? := hF
    rw [h0] at hF'
    have hk : vx_W p l e R s m args below meth c0 T'.heap (locs ++ L) (0 + 1) (0 + 6) (vx_MQ below noQ (cxQ cs D ad ca E' M) args s 1 6 (AD cs ad)) (F0 m pc ls rest) q :=
      vx_out (fun x hx => (htab x hx).elim) hlocks (by rw [e1]; exact hq) hv hcl (fun t9 ht9 hvm => ⟨rfl, by rw [ht9, e1]; exact hP1, ⟨by rw [ht9, e1]; exact Nat.le_trans hS.1 hF'.1, fun z h1 h2 => by rw [ht9, e1, hF'.2 z (Nat.lt_of_lt_of_le h1 hS.1) h2]; exact hS.2.1 z h1 h2⟩⟩)
        (fun z hz => by
          rcases List.mem_append.mp hz with h | h
          · exact hS.2.2 z h
          · exact hL z h) (Nat.le_refl _) (Nat.le_refl _)
    obtain ⟨t2, a1, b1⟩ := hk T' rfl X'
    exact ⟨t2, hgo.trans a1, b1⟩
def tor {α : Type} (o : Option α) (k : Option α) : Option α := match o with
  | some x => some x
  | none => k
theorem tor_some {α : Type} {o k : Option α} {y : α} (h : tor o k = some y) : o = some y ∨ o = none ∧ k = some y := by
  cases o with
  | none => exact Or.inr ⟨rfl, h⟩
  | some x => exact Or.inl h
