/-! The law's own small methods: each calls one method of the class and catches what it throws. -/
def NQ (U : State) : Prop := va_Nc exA exI U ∧ va_Nc exN exI U
abbrev PW (cs : List Nat) (D : va_G) (ad : Nat → Nat) (ca : Nat → ClassId) (M : Mem) : State → Prop := fun U => (SW cs D ad ca M U ∧ XT cs ad U) ∧ NQ U
/-- a method with a table of its own: called with As at M it returns r, the memory is M' then; at most one cell of six places is made -/
def ConW (cs : List Nat) (l : Launch) (D : va_G) (ad : Nat → Nat) (ca : Nat → ClassId) (y : MethodName) (cc : ByteArray) (mL : Nat) (hh : List (Nat × Nat × Nat × Nat)) (fr lo : Nat) (As : List Value) (M : Mem) (r : Int32) (M' : Mem) : Prop :=
  Met l y (.codeWith y cc mL (some .int) hh :: TG) (rmX fr lo) (va_Pc As (PW cs D ad ca M)) (cnQ cs D ad ca (some (.int r)) M') 1 6 (AD cs ad)
abbrev MchW (cs : List Nat) (l : Launch) (R : Room) (D : va_G) (ad : Nat → Nat) (ca : Nat → ClassId) (own : String) (cc : ByteArray) (nL : Nat) (hh : List (Nat × Nat × Nat × Nat)) (kc ks : Nat) (r : Int32) (M' : Mem) (V : Jdg) : Prop :=
  MchG cs l R D ad ca own cc nL (some .int) (fun _ => AD cs ad) (fun s c => XT cs ad s ∧ NQ s ∧ c.exceptionTable.toList = tableOf hh) kc ks (fun below args s => MQ below (cnQ cs D ad ca (some (.int r)) M') args s 1 6 (AD cs ad)) V
theorem ConW_of {cs : List Nat} {l : Launch} {D : va_G} {ad : Nat → Nat} {ca : Nat → ClassId} {y : MethodName} {cc : ByteArray} {mL : Nat} {hh : List (Nat × Nat × Nat × Nat)} {fr lo : Nat} {As : List Value} {M : Mem} {r : Int32} {M' : Mem}
    (hy : plainName y.cls = true) (hn : (lg_sl As).length ≤ mL) (h : ∀ V : Jdg, MchW cs l (rmX fr lo) D ad ca y.cls cc mL hh 0 0 r M' V → V M 0 (lv_args 0 As) []) : ConW cs l D ad ca y cc mL hh fr lo As M r M' := by
  unfold ConW Met
  refine MetFree.of_bodyS (code := cc) (maxLocals := mL) (ret := some .int) hy ?_ ?_
  · intro args s m h hn
    obtain ⟨m9, meth, c, hn9, h1, h2, h3, h4, -, h5, h6, -⟩ := Cond.codeWith_spec (atoms_spec (ws := .codeWith y cc mL (some .int) hh :: TG) h _ List.mem_cons_self)
    cases hn.symm.trans hn9
    exact ⟨meth, c, h1, h2, h3, h4, h5, h6⟩
  · intro p e s m args below meth c s₁ B hml hv _
    have hh0 : s₁.heap = s.heap := by rw [B.state]; rfl
    obtain ⟨rfl, ⟨⟨hP, hK, hI, hN⟩, hX⟩, hQ⟩ := hv
    have hts := atoms_spec (ws := .codeWith y cc mL (some .int) hh :: TG) B.pre
    have hown : s.vm.findClass y.cls = some m.cls := findClass_of_methodNamed B.named
    have htab : c.exceptionTable.toList = tableOf hh := vx_table (x := y) B (hts _ List.mem_cons_self)
    have h1 := h _ ⟨p, e, s, m, As.toArray, below, meth, c, ⟨B.exec, B.bytes, hml, hown, fun w hw => hts w (List.mem_cons_of_mem _ hw), hK, hI, hN, B.returns, B.notSynchronized, fun k hk => ⟨k, hk, rfl⟩, hX, hQ, htab⟩, rfl⟩
    have h2 := h1 s.heap [] _ hP va_S.rf (lv_entry As hn)
    rw [← lg_entry_eq] at h2
    obtain ⟨t, a1, o, b1, b2, b3⟩ := h2 s₁ hh0 (Stand.of_body B)
    exact ⟨t, o, a1, b1, b2, ⟨b3.1, b3.2⟩⟩
section WR
variable {cs : List Nat} {l : Launch} {R : Room} {D : va_G} {ad : Nat → Nat} {ca : Nat → ClassId} {own : String} {cc : ByteArray} {nL : Nat} {M : Mem} {V : Jdg} {pc : Nat} {lv : List (Nat × Value)} {st : List Value} {hh : List (Nat × Nat × Nat × Nat)} {kc ks : Nat}
theorem r_iretW {x : Int32} (h : MchW cs l R D ad ca own cc nL hh kc ks x M V) (hk : kc ≤ 1 ∧ ks ≤ 6) (hd : decode cc pc = .ok (.ireturn, 1)) : V M pc lv [.int x] := by
  obtain ⟨p, e, s, m, args, below, meth, c, ⟨hx, hb, -, -, -, hK, hI, hN, hr, hlk, -⟩, rfl⟩ := h
  exact fun H locs ls hP hS hl => W.widen hk.1 hk.2 (W.iret (v := x) hx hb hr (fun t ht hW => ⟨rfl, ⟨by rw [ht]; exact hP, va_K.moved hW.alike hK, hI, NW.warm hW hN⟩, hS.F ht⟩) hS.2.2 hd (hlocks := hlk))
theorem r_astore {AA : State → Nat → Prop} {Ex : State → Code → Prop} {ret : Option FieldType} {QQ : List Frame → Array Value → State → State → Prop} (h : MchG cs l R D ad ca own cc nL ret AA Ex kc ks QQ V) {i x : Nat} {lv' : List (Nat × Value)} (hd : decode cc pc = .ok (.astore i, 2)) (hn : i < nL) (hl0 : (i, Value.ref x) :: lv.filter (fun q => !(q.1 == i) && !(q.1 + 1 == i && q.2.category == 2)) = lv') (kk : V M (pc + 2) lv' st) : V M pc lv (.ref x :: st) := by
  obtain ⟨p, e, s, m, args, below, meth, c, ⟨hx, hb, -⟩, rfl⟩ := h
  exact fun H locs ls hP hS hl => lv_astore hx hb hd hl hn hl0 (fun ls1 hl1 => kk H locs ls1 hP hS hl1)
/-- the callee throws E, and the row x of the table takes it -/
theorem r_callVXc {r : Int32} {M' : Mem} (h : MchW cs l R D ad ca own cc nL hh 0 0 r M' V) {E : String} {idx o ci : Nat} {cf : List Nat} {C : String} {T : u_T} {N : Nat} {y : MethodName} {cy : ByteArray} {mL fr lo n : Nat} {rt : Option FieldType} {As rest : List Value} (hm : MV own idx C y cy mL rt n) (hd : decode cc pc = .ok (.invokevirtual idx, 3))
    (ho : o ∈ cs) (hs : shp o = .inl (ci, cf)) (hcl : vwCl[ci]? = some (C, T, N)) (hc : ConX cs l D ad ca y cy mL rt fr lo (.ref (ad o) :: As) M E) (hst : st = As.reverse ++ .ref (ad o) :: rest) (hn : As.length = n) (hR : fr + 1 ≤ R.frames ∧ 8 + (mL + 11) + lo ≤ R.locals) (hrest : (rest.map fun v => v.category).sum ≤ 8) (hz : 0 + 1 ≤ R.cells ∧ 0 + 6 ≤ R.slots)
    (pre : List ExceptionTableEntry) (x : ExceptionTableEntry) (suf : List ExceptionTableEntry) (hsplit : tableOf hh = pre ++ x :: suf) (hpass : ∀ z ∈ pre, covers z pc = true ∧ z.catchType ≠ 0 ∧ Cond.classLink own z.catchType exI ∈ TG ∧ (E = exA ∨ E = exN)) (hx0 : covers x pc = true) (h0 : x.catchType ≠ 0) (hlink : Cond.classLink own x.catchType E ∈ TG) (hcast : Cond.castable E E ∈ lw_tbl)
    (kk : ∀ V1 : Jdg, MchW cs l R D ad ca own cc nL hh 1 6 r M' V1 → ∀ q : Nat, V1 M x.handlerPc lv [.ref q]) : V M pc lv st := by
  obtain ⟨p, e, s, m, args, below, meth, c0, ⟨hx, hb, hml, hown, ht, hK, hI, hN, hrt, hlocks, hA, hX, hQ, htab⟩, rfl⟩ := h
  intro H locs ls hP hS hl
  subst hst
  obtain ⟨m1, m2, m3, m4, m5, m6, m7, m8, m9⟩ := hm
  have hG : GoodIn TG (wsV own idx C y (.code y cy mL rt :: TG)) := by
    intro w hw
    unfold wsV at hw
    rcases List.mem_append.mp hw with h1 | h1
    · simp only [List.mem_cons, List.not_mem_nil, or_false] at h1
      rcases h1 with rfl | rfl | rfl | rfl
      · exact tg_self _ m1
      · exact tg_self _ m2
      · exact tg_self _ m3
      · exact tg_self _ m4
    · exact tg_cons m5 w h1
  obtain ⟨kq, hkq, he⟩ := ws_at (ad := ad) (ca := ca) (M := M) ho
  rw [ce_o hs] at he
  have hr := vx_runV (As := As) (rest := rest) (g := F0 m pc ls (As.reverse ++ .ref (ad o) :: rest)) (H := H) (locs := locs) (cells := 0) (slots := 0) (below := below) (meth := meth) ⟨hx, hb, hml, hown, ht⟩ hc (cwV n ht hG rfl rfl rfl ⟨m6, m7, m8, m9⟩ hR) ⟨swx_blind, va_recv hK hP hcl he, fun U hU hW => ⟨rfl, ⟨by rw [hU]; exact hP, va_K.moved hW.alike hK, hI, NW.warm hW hN⟩, hX.warm hW (fun q h1 h2 => by rw [hU]; exact hS.2.1 q h1 h2)⟩⟩ rfl hn hl.1 rfl (lv_room hrest) hd hz (e := e)
  intro T0 hT X
  rcases hr T0 hT X with ⟨v, st₀, t, T', L, -, -, -, -, -, hf, -⟩ | ⟨q, st₀, t, T', L, E', ce, hst0, X', hL, e1, e2, ⟨rfl, hP1, hF⟩, hq, hv, hcl2, hgo⟩
  · exact hf.elim
  · have hF' : st₀.heap.size ≤ t.heap.size ∧ ∀ z : Nat, z < st₀.heap.size → ¬ AD cs ad z → t.heap[z]? = st₀.heap[z]? := hF
    rw [hst0] at hF'
    have hV1 := kk _ ⟨p, e, s, m, args, below, meth, c0, ⟨hx, hb, hml, hown, ht, hK, hI, hN, hrt, hlocks, hA, hX, hQ, htab⟩, rfl⟩ q
    have hk : vx_W p l e R s m args below meth c0 T'.heap (locs ++ L) (0 + 1) (0 + 6) (MQ below (cnQ cs D ad ca (some (.int r)) M') args s 1 6 (AD cs ad)) (F0 m pc ls rest) q :=
      xk_catch hown pre x suf (htab.trans hsplit) (fun z hz => by
          obtain ⟨z1, z2, z3, z4⟩ := hpass z hz
          refine ⟨z1, z2, exI, ht _ z3, ?_⟩
          rcases z4 with rfl | rfl
          · exact hQ.1
          · exact hQ.2) hx0 h0 (ht _ hlink) (hN.use hcast rfl) (by rw [e1]; exact hq) hv hcl2
        (hV1 T'.heap (locs ++ L) ls (by rw [e1]; exact hP1) ⟨by rw [e1]; exact Nat.le_trans hS.1 hF'.1, fun z h1 h2 => by rw [e1, hF'.2 z (Nat.lt_of_lt_of_le h1 hS.1) h2]; exact hS.2.1 z h1 h2, fun z hz => by
          rcases List.mem_append.mp hz with h | h
          · exact hS.2.2 z h
          · exact hL z h⟩ hl)
    obtain ⟨t2, a1, b1⟩ := hk T' rfl X'
    exact ⟨t2, hgo.trans a1, b1⟩
end WR
