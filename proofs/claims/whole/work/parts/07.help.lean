theorem ite_p {α : Type} {c : Prop} {inst : Decidable c} {a b : Option α} {y : α} (hc : c) (h : (@ite _ c inst a b) = some y) : a = some y := by rw [if_pos hc] at h; exact h
theorem ite_n {α : Type} {c : Prop} {inst : Decidable c} {a b : Option α} {y : α} (hc : ¬ c) (h : (@ite _ c inst a b) = some y) : b = some y := by rw [if_neg hc] at h; exact h
theorem isLaw_of {i : Int32} (h : inb i 6 = true) : isLaw (6 + i.toNatClampNeg) = true := by
  obtain ⟨j, hj, rfl⟩ := vp_in_of (inb_vp h) (by decide)
  rw [nI_clamp (by omega)]
  simp only [isLaw, Bool.and_eq_true, decide_eq_true_eq]
  omega
def cpOk (sp dp n : Int32) (n0 n1 : Nat) : Bool := (decide (¬ sp < 0) && decide (¬ dp < 0)) && (decide (¬ n < 0) && (decide (sp.toNatClampNeg + n.toNatClampNeg ≤ n0) && decide (dp.toNatClampNeg + n.toNatClampNeg ≤ n1)))
theorem cpOk_all {sp dp n : Int32} {n0 n1 : Nat} (h : cpOk sp dp n n0 n1 = true) : (¬ sp < 0 ∧ ¬ dp < 0) ∧ ¬ n < 0 ∧ sp.toNatClampNeg + n.toNatClampNeg ≤ n0 ∧ dp.toNatClampNeg + n.toNatClampNeg ≤ n1 := by
  simpa only [cpOk, Bool.and_eq_true, decide_eq_true_eq] using h
theorem cpOk_1 {sp dp n : Int32} {n0 n1 : Nat} (h : cpOk sp dp n n0 n1 = true) : ¬ sp < 0 := (cpOk_all h).1.1
theorem cpOk_2 {sp dp n : Int32} {n0 n1 : Nat} (h : cpOk sp dp n n0 n1 = true) : ¬ dp < 0 := (cpOk_all h).1.2
theorem cpOk_3 {sp dp n : Int32} {n0 n1 : Nat} (h : cpOk sp dp n n0 n1 = true) : ¬ n < 0 := (cpOk_all h).2.1
theorem cpOk_4 {sp dp n : Int32} {n0 n1 : Nat} (h : cpOk sp dp n n0 n1 = true) : sp.toNatClampNeg + n.toNatClampNeg ≤ n0 := (cpOk_all h).2.2.1
theorem cpOk_5 {sp dp n : Int32} {n0 n1 : Nat} (h : cpOk sp dp n n0 n1 = true) : dp.toNatClampNeg + n.toNatClampNeg ≤ n1 := (cpOk_all h).2.2.2
section CALLS
variable {cs : List Nat} {l : Launch} {R : Room} {D : va_G} {ad : Nat → Nat} {ca : Nat → ClassId} {own : String} {cc : ByteArray} {nL : Nat} {ret : Option FieldType} {AA : State → Nat → Prop} {Ex : State → Code → Prop} {kc ks : Nat} {QQ : List Frame → Array Value → State → State → Prop} {M : Mem} {V : Jdg} {pc : Nat} {lv : List (Nat × Value)} {st : List Value}
theorem r_topr {x : Nat} (k : ∀ y : Nat, y = x → V M pc lv (.ref (ad y) :: st)) : V M pc lv (.ref (ad x) :: st) := k x rfl
theorem r_callVi (h : MchG cs l R D ad ca own cc nL ret AA Ex kc ks QQ V) {idx o ci : Nat} {cf : List Nat} {C : String} {T : u_T} {N : Nat} {y : MethodName} {cy : ByteArray} {mL fr lo n : Nat} {rt : Option FieldType} {As rest : List Value} {x1 : Int32} {M1 : Mem} (hm : MV own idx C y cy mL rt n) (hd : decode cc pc = .ok (.invokevirtual idx, 3))
    (ho : o ∈ cs) (hs : shp o = .inl (ci, cf)) (hcl : vwCl[ci]? = some (C, T, N)) (hc : Con cs l D ad ca y cy mL rt fr lo (.ref (ad o) :: As) M (some (.int x1)) M1) (hst : st = As.reverse ++ .ref (ad o) :: rest) (hn : As.length = n) (hR : fr + 1 ≤ R.frames ∧ 8 + (mL + 11) + lo ≤ R.locals) (hrest : (rest.map fun v => v.category).sum ≤ 8) (hz : kc + 0 ≤ R.cells ∧ ks + 0 ≤ R.slots) (kk : V M1 (pc + 3) lv (.int x1 :: rest)) : V M pc lv st :=
  r_callV h hm hd ho hs hcl hc hst hn hR hrest hz kk
theorem r_callVl (h : MchG cs l R D ad ca own cc nL ret AA Ex kc ks QQ V) {idx o ci : Nat} {cf : List Nat} {C : String} {T : u_T} {N : Nat} {y : MethodName} {cy : ByteArray} {mL fr lo n : Nat} {rt : Option FieldType} {As rest : List Value} {x1 : Int64} {M1 : Mem} (hm : MV own idx C y cy mL rt n) (hd : decode cc pc = .ok (.invokevirtual idx, 3))
    (ho : o ∈ cs) (hs : shp o = .inl (ci, cf)) (hcl : vwCl[ci]? = some (C, T, N)) (hc : Con cs l D ad ca y cy mL rt fr lo (.ref (ad o) :: As) M (some (.long x1)) M1) (hst : st = As.reverse ++ .ref (ad o) :: rest) (hn : As.length = n) (hR : fr + 1 ≤ R.frames ∧ 8 + (mL + 11) + lo ≤ R.locals) (hrest : (rest.map fun v => v.category).sum ≤ 8) (hz : kc + 0 ≤ R.cells ∧ ks + 0 ≤ R.slots) (kk : V M1 (pc + 3) lv (.long x1 :: rest)) : V M pc lv st :=
  r_callV h hm hd ho hs hcl hc hst hn hR hrest hz kk
theorem r_callVv (h : MchG cs l R D ad ca own cc nL ret AA Ex kc ks QQ V) {idx o ci : Nat} {cf : List Nat} {C : String} {T : u_T} {N : Nat} {y : MethodName} {cy : ByteArray} {mL fr lo n : Nat} {rt : Option FieldType} {As rest : List Value} {M1 : Mem} (hm : MV own idx C y cy mL rt n) (hd : decode cc pc = .ok (.invokevirtual idx, 3))
    (ho : o ∈ cs) (hs : shp o = .inl (ci, cf)) (hcl : vwCl[ci]? = some (C, T, N)) (hc : Con cs l D ad ca y cy mL rt fr lo (.ref (ad o) :: As) M none M1) (hst : st = As.reverse ++ .ref (ad o) :: rest) (hn : As.length = n) (hR : fr + 1 ≤ R.frames ∧ 8 + (mL + 11) + lo ≤ R.locals) (hrest : (rest.map fun v => v.category).sum ≤ 8) (hz : kc + 0 ≤ R.cells ∧ ks + 0 ≤ R.slots) (kk : V M1 (pc + 3) lv rest) : V M pc lv st :=
  r_callV h hm hd ho hs hcl hc hst hn hR hrest hz kk
theorem r_callSi (h : MchG cs l R D ad ca own cc nL ret AA Ex kc ks QQ V) {idx : Nat} {y : MethodName} {cy : ByteArray} {mL fr lo n : Nat} {rt : Option FieldType} {As rest : List Value} {x1 : Int32} {M1 : Mem} (hm : MS own idx y cy mL rt n) (hd : decode cc pc = .ok (.invokestatic idx, 3))
    (hc : Con cs l D ad ca y cy mL rt fr lo As M (some (.int x1)) M1) (hst : st = As.reverse ++ rest) (hn : As.length = n) (hR : fr + 1 ≤ R.frames ∧ 8 + (mL + 11) + lo ≤ R.locals) (hrest : (rest.map fun v => v.category).sum ≤ 8) (hz : kc + 0 ≤ R.cells ∧ ks + 0 ≤ R.slots) (kk : V M1 (pc + 3) lv (.int x1 :: rest)) : V M pc lv st :=
  r_callS h hm hd hc hst hn hR hrest hz kk
theorem r_callSl (h : MchG cs l R D ad ca own cc nL ret AA Ex kc ks QQ V) {idx : Nat} {y : MethodName} {cy : ByteArray} {mL fr lo n : Nat} {rt : Option FieldType} {As rest : List Value} {x1 : Int64} {M1 : Mem} (hm : MS own idx y cy mL rt n) (hd : decode cc pc = .ok (.invokestatic idx, 3))
    (hc : Con cs l D ad ca y cy mL rt fr lo As M (some (.long x1)) M1) (hst : st = As.reverse ++ rest) (hn : As.length = n) (hR : fr + 1 ≤ R.frames ∧ 8 + (mL + 11) + lo ≤ R.locals) (hrest : (rest.map fun v => v.category).sum ≤ 8) (hz : kc + 0 ≤ R.cells ∧ ks + 0 ≤ R.slots) (kk : V M1 (pc + 3) lv (.long x1 :: rest)) : V M pc lv st :=
  r_callS h hm hd hc hst hn hR hrest hz kk
theorem r_callSv (h : MchG cs l R D ad ca own cc nL ret AA Ex kc ks QQ V) {idx : Nat} {y : MethodName} {cy : ByteArray} {mL fr lo n : Nat} {rt : Option FieldType} {As rest : List Value} {M1 : Mem} (hm : MS own idx y cy mL rt n) (hd : decode cc pc = .ok (.invokestatic idx, 3))
    (hc : Con cs l D ad ca y cy mL rt fr lo As M none M1) (hst : st = As.reverse ++ rest) (hn : As.length = n) (hR : fr + 1 ≤ R.frames ∧ 8 + (mL + 11) + lo ≤ R.locals) (hrest : (rest.map fun v => v.category).sum ≤ 8) (hz : kc + 0 ≤ R.cells ∧ ks + 0 ≤ R.slots) (kk : V M1 (pc + 3) lv rest) : V M pc lv st :=
  r_callS h hm hd hc hst hn hR hrest hz kk
end CALLS
/-- as Met.ofW, for a method of the JDK -/
theorem Met_ofWF {l : Launch} {y : MethodName} {ws ws' : List Cond} {rm : Room} {Pc : Array Value → State → Prop} {Qc : Array Value → State → Outcome → State → Prop} {mc ms : Nat} {free : Addr → Prop} {cc : ByteArray} {maxL : Nat} {ret : Option FieldType}
    (hy : plainFor y = true) (hw : ws = Cond.code y cc maxL ret :: ws')
    (body : ∀ p e s m args below meth c s₁, BodyLoose p l y (headSpec ws rm) cc maxL ret e s m args below meth c s₁ → c.maxLocals = maxL → Pc args s →
      W p l e (headSpec ws rm).room s m args below meth c s.heap [] 0 0 (MQ below Qc args s mc ms free) (entryFrame m args maxL)) : Met l y ws rm Pc Qc mc ms free := by
  refine MetFree.of_bodySF (code := cc) (maxLocals := maxL) (ret := ret) hy ?_ ?_
  · intro args s m h hn
    obtain ⟨meth, c, h1, h2, h3, h4, h5, h6, -, -⟩ := Cond.code_spec hn (atoms_spec (ws := ws) h _ (by rw [hw]; exact List.mem_cons_self))
    exact ⟨meth, c, h1, h2, h3, h4, h5, h6⟩
  · intro p e s m args below meth c s₁ B hml hP _
    have hh0 : s₁.heap = s.heap := by rw [B.state]; rfl
    obtain ⟨t, a1, o, b1, b2, b3⟩ := body p e s m args below meth c s₁ B hml hP s₁ hh0 (Stand.of_body B)
    exact ⟨t, o, a1, b1, b2, ⟨b3.1, b3.2⟩⟩
theorem Con_ofJ {cs : List Nat} {l : Launch} {D : va_G} {ad : Nat → Nat} {ca : Nat → ClassId} {y : MethodName} {cc : ByteArray} {mL : Nat} {ret : Option FieldType} {fr lo : Nat} {As : List Value} {M : Mem} {r : Option Value} {M' : Mem}
    (hy : plainFor y = true) (hn : (lg_sl As).length ≤ mL) (h : ∀ V : Jdg, Mch cs l (rmN fr lo) D ad ca y.cls cc mL ret r M' V → V M 0 (lv_args 0 As) []) : Con cs l D ad ca y cc mL ret fr lo As M r M' := by
  refine Met_ofWF (cc := cc) (maxL := mL) (ret := ret) hy rfl ?_
  intro p e s m args below meth c s₁ B hml hv
  obtain ⟨rfl, hP, hK, hI, hN⟩ := hv
  have hts := atoms_spec (ws := .code y cc mL ret :: TG) B.pre
  have hown : s.vm.findClass y.cls = some m.cls := findClass_of_methodNamed B.named
  rw [lg_entry_eq]
  have h1 := h _ ⟨p, e, s, m, As.toArray, below, meth, c, ⟨B.exec, B.bytes, hml, hown, fun w hw => hts w (List.mem_cons_of_mem _ hw), hK, hI, hN, B.returns, B.notSynchronized, fun k hk => ⟨k, hk, rfl⟩, trivial⟩, rfl⟩
  exact h1 s.heap [] _ hP va_S.rf (lv_entry As hn)
theorem sp_i {α : Type} {a c : α} {b d : Mem} (h : some (a, b) = some (c, d)) : c = a ∧ d = b := by
  injection h with h
  injection h with h1 h2
  exact ⟨h1.symm, h2.symm⟩
theorem sv_i {b d : Mem} (h : some b = some d) : d = b := by
  injection h with h
  exact h.symm
