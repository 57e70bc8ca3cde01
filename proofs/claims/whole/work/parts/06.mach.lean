/-! The machine over the memory: a method's contract 'Con' and the judgement V of its body. -/
def rmN (fr lo : Nat) : Room := { frames := fr, cells := 0, slots := 0, locals := lo }
def cnQ (cs : List Nat) (D : va_G) (ad : Nat → Nat) (ca : Nat → ClassId) (r : Option Value) (M' : Mem) : Array Value → State → Outcome → State → Prop := fun _ st o t => o = .returned r ∧ SW cs D ad ca M' t ∧ va_F (AD cs ad) st t
/-- method y, called with As at memory M, returns r with memory M' -/
def Con (cs : List Nat) (l : Launch) (D : va_G) (ad : Nat → Nat) (ca : Nat → ClassId) (y : MethodName) (cc : ByteArray) (mL : Nat) (ret : Option FieldType) (fr lo : Nat) (As : List Value) (M : Mem) (r : Option Value) (M' : Mem) : Prop :=
  Met l y (.code y cc mL ret :: TG) (rmN fr lo) (va_Pc As (SW cs D ad ca M)) (cnQ cs D ad ca r M') 0 0 (AD cs ad)
abbrev Jdg : Type := Mem → Nat → List (Nat × Value) → List Value → Prop
/-- what holds inside a body, and what V is: AA: what it may write; Ex: what else is known of its start; kc, ks: cells and slots made so far; QQ: its end -/
def MchG (cs : List Nat) (l : Launch) (R : Room) (D : va_G) (ad : Nat → Nat) (ca : Nat → ClassId) (own : String) (cc : ByteArray) (nL : Nat) (ret : Option FieldType) (AA : State → Nat → Prop) (Ex : State → Code → Prop) (kc ks : Nat) (QQ : List Frame → Array Value → State → State → Prop) (V : Jdg) : Prop :=
  ∃ (p : Program) (e : Env) (s : State) (m : MethodId) (args : Array Value) (below : List Frame) (meth : Method) (c : Code),
    (p.tables.exec = Jvm.exec ∧ c.code = cc ∧ c.maxLocals = nL ∧ s.vm.findClass own = some m.cls ∧ (∀ w ∈ TG, w.before args s = true) ∧ va_K D vwCl (tyM cs ca) s ∧ CS cs ad ∧ NW s ∧ meth.sig.returnType = ret ∧ meth.locks = false ∧ (∀ k ∈ cs, AA s (ad k)) ∧ Ex s c) ∧
    V = fun M pc lv st => ∀ (H : Heap) (locs : List Loc) (ls : Array Slot), va_P D vwCl (wsM cs ad ca M) H → va_S (AA s) s.heap H locs → lv_has ls nL lv →
      W p l e R s m args below meth c H locs kc ks (QQ below args s) (F0 m pc ls st)
abbrev Mch (cs : List Nat) (l : Launch) (R : Room) (D : va_G) (ad : Nat → Nat) (ca : Nat → ClassId) (own : String) (cc : ByteArray) (nL : Nat) (ret : Option FieldType) (r : Option Value) (M' : Mem) (V : Jdg) : Prop :=
  MchG cs l R D ad ca own cc nL ret (fun _ => AD cs ad) (fun _ _ => True) 0 0 (fun below args s => MQ below (cnQ cs D ad ca r M') args s 0 0 (AD cs ad)) V
theorem Con_of {cs : List Nat} {l : Launch} {D : va_G} {ad : Nat → Nat} {ca : Nat → ClassId} {y : MethodName} {cc : ByteArray} {mL : Nat} {ret : Option FieldType} {fr lo : Nat} {As : List Value} {M : Mem} {r : Option Value} {M' : Mem}
    (hy : plainName y.cls = true) (hn : (lg_sl As).length ≤ mL) (h : ∀ V : Jdg, Mch cs l (rmN fr lo) D ad ca y.cls cc mL ret r M' V → V M 0 (lv_args 0 As) []) : Con cs l D ad ca y cc mL ret fr lo As M r M' := by
  refine Met.ofW (cc := cc) (maxL := mL) (ret := ret) hy rfl ?_
  intro p e s m args below meth c s₁ B hml hv
  obtain ⟨rfl, hP, hK, hI, hN⟩ := hv
  have hts := atoms_spec (ws := .code y cc mL ret :: TG) B.pre
  have hown : s.vm.findClass y.cls = some m.cls := findClass_of_methodNamed B.named
  rw [lg_entry_eq]
  have h1 := h _ ⟨p, e, s, m, As.toArray, below, meth, c, ⟨B.exec, B.bytes, hml, hown, fun w hw => hts w (List.mem_cons_of_mem _ hw), hK, hI, hN, B.returns, B.notSynchronized, fun k hk => ⟨k, hk, rfl⟩, trivial⟩, rfl⟩
  exact h1 s.heap [] _ hP va_S.rf (lv_entry As hn)
theorem ws_DA {cs : List Nat} {ad : Nat → Nat} {ca : Nat → ClassId} {M : Mem} {A : Nat → Prop} (hi : CS cs ad) (hA : ∀ k ∈ cs, A (ad k)) : va_D A (wsM cs ad ca M) := by
  refine ⟨(ws_D hi).1, fun k q hq => ?_⟩
  obtain ⟨c1, -, m1, rfl⟩ := ws_lt hq
  exact hA c1 m1
section RULES
variable {cs : List Nat} {l : Launch} {R : Room} {D : va_G} {ad : Nat → Nat} {ca : Nat → ClassId} {own : String} {cc : ByteArray} {nL : Nat} {ret : Option FieldType} {AA : State → Nat → Prop} {Ex : State → Code → Prop} {kc ks : Nat} {QQ : List Frame → Array Value → State → State → Prop} {M : Mem} {V : Jdg} {pc : Nat} {lv : List (Nat × Value)} {st : List Value}
theorem r_sub (h : MchG cs l R D ad ca own cc nL ret AA Ex kc ks QQ V) (ks : List Nat) {lv' : List (Nat × Value)} (hl : lv_pick lv ks = lv') (k : V M pc lv' st) : V M pc lv st := by
  obtain ⟨p, e, s, m, args, below, meth, c, hC, rfl⟩ := h
  exact fun H locs ls hP hS hl0 => k H locs ls hP hS (lv_sub hl0 ks hl)
theorem r_iconst (h : MchG cs l R D ad ca own cc nL ret AA Ex kc ks QQ V) {n : Int} {v : Int32} (hd : decode cc pc = .ok (.iconst n, 1)) (hv : Int32.ofInt n = v) (k : V M (pc + 1) lv (.int v :: st)) : V M pc lv st := by
  obtain ⟨p, e, s, m, args, below, meth, c, ⟨hx, hb, -⟩, rfl⟩ := h
  exact fun H locs ls hP hS hl => lv_iconst hx hb hd hv (k H locs ls hP hS hl)
theorem r_bipush (h : MchG cs l R D ad ca own cc nL ret AA Ex kc ks QQ V) {n : Int} {v : Int32} (hd : decode cc pc = .ok (.bipush n, 2)) (hv : (Int8.ofInt n).toInt32 = v) (k : V M (pc + 2) lv (.int v :: st)) : V M pc lv st := by
  obtain ⟨p, e, s, m, args, below, meth, c, ⟨hx, hb, -⟩, rfl⟩ := h
  exact fun H locs ls hP hS hl => lv_bipush hx hb hd hv (k H locs ls hP hS hl)
theorem r_sipush (h : MchG cs l R D ad ca own cc nL ret AA Ex kc ks QQ V) {n : Int} {v : Int32} (hd : decode cc pc = .ok (.sipush n, 3)) (hv : (Int16.ofInt n).toInt32 = v) (k : V M (pc + 3) lv (.int v :: st)) : V M pc lv st := by
  obtain ⟨p, e, s, m, args, below, meth, c, ⟨hx, hb, -⟩, rfl⟩ := h
  exact fun H locs ls hP hS hl => lv_sipush hx hb hd hv (k H locs ls hP hS hl)
theorem r_lconst (h : MchG cs l R D ad ca own cc nL ret AA Ex kc ks QQ V) {n : Fin 2} {v : Int64} (hd : decode cc pc = .ok (.lconst n, 1)) (hv : Int64.ofNat (n : Nat) = v) (k : V M (pc + 1) lv (.long v :: st)) : V M pc lv st := by
  obtain ⟨p, e, s, m, args, below, meth, c, ⟨hx, hb, -⟩, rfl⟩ := h
  exact fun H locs ls hP hS hl => lv_lconst hx hb hd hv (k H locs ls hP hS hl)
theorem r_ldc (h : MchG cs l R D ad ca own cc nL ret AA Ex kc ks QQ V) {i : Nat} {v : Int32} (hw : Cond.constant own i v ∈ TG) (hd : decode cc pc = .ok (.ldc i, 2)) (k : V M (pc + 2) lv (.int v :: st)) : V M pc lv st := by
  obtain ⟨p, e, s, m, args, below, meth, c, ⟨hx, hb, -, ho, ht, -⟩, rfl⟩ := h
  exact fun H locs ls hP hS hl => lv_ldc hx hb ho (ht _ hw) hd (k H locs ls hP hS hl)
theorem r_ldcw (h : MchG cs l R D ad ca own cc nL ret AA Ex kc ks QQ V) {i : Nat} {v : Int32} (hw : Cond.constant own i v ∈ TG) (hd : decode cc pc = .ok (.ldc_w i, 3)) (k : V M (pc + 3) lv (.int v :: st)) : V M pc lv st := by
  obtain ⟨p, e, s, m, args, below, meth, c, ⟨hx, hb, -, ho, ht, -⟩, rfl⟩ := h
  exact fun H locs ls hP hS hl => lv_ldcw hx hb ho (ht _ hw) hd (k H locs ls hP hS hl)
theorem r_ldc2 (h : MchG cs l R D ad ca own cc nL ret AA Ex kc ks QQ V) {i : Nat} {v : Int64} (hw : Cond.constantLong own i v ∈ TG) (hd : decode cc pc = .ok (.ldc2_w i, 3)) (k : V M (pc + 3) lv (.long v :: st)) : V M pc lv st := by
  obtain ⟨p, e, s, m, args, below, meth, c, ⟨hx, hb, -, ho, ht, -⟩, rfl⟩ := h
  exact fun H locs ls hP hS hl => lv_ldc2 hx hb ho (ht _ hw) hd (k H locs ls hP hS hl)
theorem r_iload_n (h : MchG cs l R D ad ca own cc nL ret AA Ex kc ks QQ V) {k : Fin 4} {i : Nat} {x : Int32} (hd : decode cc pc = .ok (.iload_n k, 1)) (j : Nat) (hi : (k : Nat) = i) (hl0 : lv[j]? = some (i, .int x)) (kk : V M (pc + 1) lv (.int x :: st)) : V M pc lv st := by
  obtain ⟨p, e, s, m, args, below, meth, c, ⟨hx, hb, -⟩, rfl⟩ := h
  exact fun H locs ls hP hS hl => lv_iload_n hx hb hd hi (lv_at hl j hl0) (kk H locs ls hP hS hl)
theorem r_iload (h : MchG cs l R D ad ca own cc nL ret AA Ex kc ks QQ V) {i : Nat} {x : Int32} (hd : decode cc pc = .ok (.iload i, 2)) (j : Nat) (hl0 : lv[j]? = some (i, .int x)) (kk : V M (pc + 2) lv (.int x :: st)) : V M pc lv st := by
  obtain ⟨p, e, s, m, args, below, meth, c, ⟨hx, hb, -⟩, rfl⟩ := h
  exact fun H locs ls hP hS hl => lv_iload hx hb hd (lv_at hl j hl0) (kk H locs ls hP hS hl)
theorem r_lload_n (h : MchG cs l R D ad ca own cc nL ret AA Ex kc ks QQ V) {k : Fin 4} {i : Nat} {x : Int64} (hd : decode cc pc = .ok (.lload_n k, 1)) (j : Nat) (hi : (k : Nat) = i) (hl0 : lv[j]? = some (i, .long x)) (kk : V M (pc + 1) lv (.long x :: st)) : V M pc lv st := by
  obtain ⟨p, e, s, m, args, below, meth, c, ⟨hx, hb, -⟩, rfl⟩ := h
  exact fun H locs ls hP hS hl => lv_lload_n hx hb hd hi (lv_at hl j hl0) (kk H locs ls hP hS hl)
theorem r_lload (h : MchG cs l R D ad ca own cc nL ret AA Ex kc ks QQ V) {i : Nat} {x : Int64} (hd : decode cc pc = .ok (.lload i, 2)) (j : Nat) (hl0 : lv[j]? = some (i, .long x)) (kk : V M (pc + 2) lv (.long x :: st)) : V M pc lv st := by
  obtain ⟨p, e, s, m, args, below, meth, c, ⟨hx, hb, -⟩, rfl⟩ := h
  exact fun H locs ls hP hS hl => lv_lload hx hb hd (lv_at hl j hl0) (kk H locs ls hP hS hl)
theorem r_aload_n (h : MchG cs l R D ad ca own cc nL ret AA Ex kc ks QQ V) {k : Fin 4} {i : Nat} {x : Nat} (hd : decode cc pc = .ok (.aload_n k, 1)) (j : Nat) (hi : (k : Nat) = i) (hl0 : lv[j]? = some (i, .ref x)) (kk : V M (pc + 1) lv (.ref x :: st)) : V M pc lv st := by
  obtain ⟨p, e, s, m, args, below, meth, c, ⟨hx, hb, -⟩, rfl⟩ := h
  exact fun H locs ls hP hS hl => lv_aload_n hx hb hd hi (lv_at hl j hl0) (kk H locs ls hP hS hl)
theorem r_aload (h : MchG cs l R D ad ca own cc nL ret AA Ex kc ks QQ V) {i : Nat} {x : Nat} (hd : decode cc pc = .ok (.aload i, 2)) (j : Nat) (hl0 : lv[j]? = some (i, .ref x)) (kk : V M (pc + 2) lv (.ref x :: st)) : V M pc lv st := by
  obtain ⟨p, e, s, m, args, below, meth, c, ⟨hx, hb, -⟩, rfl⟩ := h
  exact fun H locs ls hP hS hl => lv_aload hx hb hd (lv_at hl j hl0) (kk H locs ls hP hS hl)
theorem r_istore_n (h : MchG cs l R D ad ca own cc nL ret AA Ex kc ks QQ V) {k : Fin 4} {i : Nat} {x : Int32} {lv' : List (Nat × Value)} (hd : decode cc pc = .ok (.istore_n k, 1)) (hi : (k : Nat) = i) (hn : i < nL) (hl0 : (i, Value.int x) :: lv.filter (fun q => !(q.1 == i) && !(q.1 + 1 == i && q.2.category == 2)) = lv') (kk : V M (pc + 1) lv' st) : V M pc lv (.int x :: st) := by
  obtain ⟨p, e, s, m, args, below, meth, c, ⟨hx, hb, -⟩, rfl⟩ := h
  exact fun H locs ls hP hS hl => lv_istore_n hx hb hd hi hl hn hl0 (fun ls1 hl1 => kk H locs ls1 hP hS hl1)
theorem r_istore (h : MchG cs l R D ad ca own cc nL ret AA Ex kc ks QQ V) {i : Nat} {x : Int32} {lv' : List (Nat × Value)} (hd : decode cc pc = .ok (.istore i, 2)) (hn : i < nL) (hl0 : (i, Value.int x) :: lv.filter (fun q => !(q.1 == i) && !(q.1 + 1 == i && q.2.category == 2)) = lv') (kk : V M (pc + 2) lv' st) : V M pc lv (.int x :: st) := by
  obtain ⟨p, e, s, m, args, below, meth, c, ⟨hx, hb, -⟩, rfl⟩ := h
  exact fun H locs ls hP hS hl => lv_istore hx hb hd hl hn hl0 (fun ls1 hl1 => kk H locs ls1 hP hS hl1)
theorem r_lstore_n (h : MchG cs l R D ad ca own cc nL ret AA Ex kc ks QQ V) {k : Fin 4} {i : Nat} {x : Int64} {lv' : List (Nat × Value)} (hd : decode cc pc = .ok (.lstore_n k, 1)) (hi : (k : Nat) = i) (hn : i + 1 < nL) (hl0 : (i, Value.long x) :: lv.filter (fun q => !(q.1 == i) && (!(q.1 == i + 1) && !(q.1 + 1 == i && q.2.category == 2))) = lv') (kk : V M (pc + 1) lv' st) : V M pc lv (.long x :: st) := by
  obtain ⟨p, e, s, m, args, below, meth, c, ⟨hx, hb, -⟩, rfl⟩ := h
  exact fun H locs ls hP hS hl => lv_lstore_n hx hb hd hi hl hn hl0 (fun ls1 hl1 => kk H locs ls1 hP hS hl1)
theorem r_lstore (h : MchG cs l R D ad ca own cc nL ret AA Ex kc ks QQ V) {i : Nat} {x : Int64} {lv' : List (Nat × Value)} (hd : decode cc pc = .ok (.lstore i, 2)) (hn : i + 1 < nL) (hl0 : (i, Value.long x) :: lv.filter (fun q => !(q.1 == i) && (!(q.1 == i + 1) && !(q.1 + 1 == i && q.2.category == 2))) = lv') (kk : V M (pc + 2) lv' st) : V M pc lv (.long x :: st) := by
  obtain ⟨p, e, s, m, args, below, meth, c, ⟨hx, hb, -⟩, rfl⟩ := h
  exact fun H locs ls hP hS hl => lv_lstore hx hb hd hl hn hl0 (fun ls1 hl1 => kk H locs ls1 hP hS hl1)
theorem r_astore_n (h : MchG cs l R D ad ca own cc nL ret AA Ex kc ks QQ V) {k : Fin 4} {i x : Nat} {lv' : List (Nat × Value)} (hd : decode cc pc = .ok (.astore_n k, 1)) (hi : (k : Nat) = i) (hn : i < nL) (hl0 : (i, Value.ref x) :: lv.filter (fun q => !(q.1 == i) && !(q.1 + 1 == i && q.2.category == 2)) = lv') (kk : V M (pc + 1) lv' st) : V M pc lv (.ref x :: st) := by
  obtain ⟨p, e, s, m, args, below, meth, c, ⟨hx, hb, -⟩, rfl⟩ := h
  exact fun H locs ls hP hS hl => lv_astore_n hx hb hd hi hl hn hl0 (fun ls1 hl1 => kk H locs ls1 hP hS hl1)
theorem r_iinc (h : MchG cs l R D ad ca own cc nL ret AA Ex kc ks QQ V) {i : Nat} {n : Int} {x v : Int32} {lv' : List (Nat × Value)} (hd : decode cc pc = .ok (.iinc i n, 3)) (j : Nat) (hk : lv[j]? = some (i, .int x)) (hv : x + Int32.ofInt n = v) (hn : i < nL) (hl0 : (i, Value.int v) :: lv.filter (fun q => !(q.1 == i) && !(q.1 + 1 == i && q.2.category == 2)) = lv') (kk : V M (pc + 3) lv' st) : V M pc lv st := by
  obtain ⟨p, e, s, m, args, below, meth, c, ⟨hx, hb, -⟩, rfl⟩ := h
  exact fun H locs ls hP hS hl => lv_iinc hx hb hd hl hk hv hn hl0 (fun ls1 hl1 => kk H locs ls1 hP hS hl1)
theorem r_topi {x : Int32} (k : ∀ y : Int32, y = x → V M pc lv (.int y :: st)) : V M pc lv (.int x :: st) := k x rfl
theorem r_topl {x : Int64} (k : ∀ y : Int64, y = x → V M pc lv (.long y :: st)) : V M pc lv (.long x :: st) := k x rfl
theorem r_mem (k : ∀ N : Mem, N = M → V N pc lv st) : V M pc lv st := k M rfl
theorem r_iadd (h : MchG cs l R D ad ca own cc nL ret AA Ex kc ks QQ V) {x y : Int32} (hd : decode cc pc = .ok (.iadd, 1))  (k : V M (pc + 1) lv (.int (x + y) :: st)) : V M pc lv (.int y :: .int x :: st) := by
  obtain ⟨p, e, s, m, args, below, meth, c, ⟨hx, hb, -⟩, rfl⟩ := h
  exact fun H locs ls hP hS hl => lv_iadd hx hb hd (k H locs ls hP hS hl)
theorem r_isub (h : MchG cs l R D ad ca own cc nL ret AA Ex kc ks QQ V) {x y : Int32} (hd : decode cc pc = .ok (.isub, 1))  (k : V M (pc + 1) lv (.int (x - y) :: st)) : V M pc lv (.int y :: .int x :: st) := by
  obtain ⟨p, e, s, m, args, below, meth, c, ⟨hx, hb, -⟩, rfl⟩ := h
  exact fun H locs ls hP hS hl => lv_isub hx hb hd (k H locs ls hP hS hl)
theorem r_imul (h : MchG cs l R D ad ca own cc nL ret AA Ex kc ks QQ V) {x y : Int32} (hd : decode cc pc = .ok (.imul, 1))  (k : V M (pc + 1) lv (.int (x * y) :: st)) : V M pc lv (.int y :: .int x :: st) := by
  obtain ⟨p, e, s, m, args, below, meth, c, ⟨hx, hb, -⟩, rfl⟩ := h
  exact fun H locs ls hP hS hl => lv_imul hx hb hd (k H locs ls hP hS hl)
theorem r_iand (h : MchG cs l R D ad ca own cc nL ret AA Ex kc ks QQ V) {x y : Int32} (hd : decode cc pc = .ok (.iand, 1))  (k : V M (pc + 1) lv (.int (x &&& y) :: st)) : V M pc lv (.int y :: .int x :: st) := by
  obtain ⟨p, e, s, m, args, below, meth, c, ⟨hx, hb, -⟩, rfl⟩ := h
  exact fun H locs ls hP hS hl => lv_iand hx hb hd (k H locs ls hP hS hl)
theorem r_ior (h : MchG cs l R D ad ca own cc nL ret AA Ex kc ks QQ V) {x y : Int32} (hd : decode cc pc = .ok (.ior, 1))  (k : V M (pc + 1) lv (.int (x ||| y) :: st)) : V M pc lv (.int y :: .int x :: st) := by
  obtain ⟨p, e, s, m, args, below, meth, c, ⟨hx, hb, -⟩, rfl⟩ := h
  exact fun H locs ls hP hS hl => lv_ior hx hb hd (k H locs ls hP hS hl)
theorem r_ixor (h : MchG cs l R D ad ca own cc nL ret AA Ex kc ks QQ V) {x y : Int32} (hd : decode cc pc = .ok (.ixor, 1))  (k : V M (pc + 1) lv (.int (x ^^^ y) :: st)) : V M pc lv (.int y :: .int x :: st) := by
  obtain ⟨p, e, s, m, args, below, meth, c, ⟨hx, hb, -⟩, rfl⟩ := h
  exact fun H locs ls hP hS hl => lv_ixor hx hb hd (k H locs ls hP hS hl)
theorem r_ishl (h : MchG cs l R D ad ca own cc nL ret AA Ex kc ks QQ V) {x y : Int32} (hd : decode cc pc = .ok (.ishl, 1))  (k : V M (pc + 1) lv (.int (x <<< (y &&& 31)) :: st)) : V M pc lv (.int y :: .int x :: st) := by
  obtain ⟨p, e, s, m, args, below, meth, c, ⟨hx, hb, -⟩, rfl⟩ := h
  exact fun H locs ls hP hS hl => lv_ishl hx hb hd (k H locs ls hP hS hl)
theorem r_ishr (h : MchG cs l R D ad ca own cc nL ret AA Ex kc ks QQ V) {x y : Int32} (hd : decode cc pc = .ok (.ishr, 1))  (k : V M (pc + 1) lv (.int (x >>> (y &&& 31)) :: st)) : V M pc lv (.int y :: .int x :: st) := by
  obtain ⟨p, e, s, m, args, below, meth, c, ⟨hx, hb, -⟩, rfl⟩ := h
  exact fun H locs ls hP hS hl => lv_ishr hx hb hd (k H locs ls hP hS hl)
theorem r_idiv (h : MchG cs l R D ad ca own cc nL ret AA Ex kc ks QQ V) {x y : Int32} (hd : decode cc pc = .ok (.idiv, 1)) (hne : ¬ y = 0) (k : V M (pc + 1) lv (.int (x / y) :: st)) : V M pc lv (.int y :: .int x :: st) := by
  obtain ⟨p, e, s, m, args, below, meth, c, ⟨hx, hb, -⟩, rfl⟩ := h
  exact fun H locs ls hP hS hl => lv_idiv hx hb hd hne (k H locs ls hP hS hl)
theorem r_irem (h : MchG cs l R D ad ca own cc nL ret AA Ex kc ks QQ V) {x y : Int32} (hd : decode cc pc = .ok (.irem, 1)) (hne : ¬ y = 0) (k : V M (pc + 1) lv (.int (x - x / y * y) :: st)) : V M pc lv (.int y :: .int x :: st) := by
  obtain ⟨p, e, s, m, args, below, meth, c, ⟨hx, hb, -⟩, rfl⟩ := h
  exact fun H locs ls hP hS hl => lv_irem hx hb hd hne (k H locs ls hP hS hl)
theorem r_ineg (h : MchG cs l R D ad ca own cc nL ret AA Ex kc ks QQ V) {x : Int32} (hd : decode cc pc = .ok (.ineg, 1))  (k : V M (pc + 1) lv (.int (-x) :: st)) : V M pc lv (.int x :: st) := by
  obtain ⟨p, e, s, m, args, below, meth, c, ⟨hx, hb, -⟩, rfl⟩ := h
  exact fun H locs ls hP hS hl => lv_ineg hx hb hd (k H locs ls hP hS hl)
theorem r_ladd (h : MchG cs l R D ad ca own cc nL ret AA Ex kc ks QQ V) {x y : Int64} (hd : decode cc pc = .ok (.ladd, 1))  (k : V M (pc + 1) lv (.long (x + y) :: st)) : V M pc lv (.long y :: .long x :: st) := by
  obtain ⟨p, e, s, m, args, below, meth, c, ⟨hx, hb, -⟩, rfl⟩ := h
  exact fun H locs ls hP hS hl => lv_ladd hx hb hd (k H locs ls hP hS hl)
theorem r_lsub (h : MchG cs l R D ad ca own cc nL ret AA Ex kc ks QQ V) {x y : Int64} (hd : decode cc pc = .ok (.lsub, 1))  (k : V M (pc + 1) lv (.long (x - y) :: st)) : V M pc lv (.long y :: .long x :: st) := by
  obtain ⟨p, e, s, m, args, below, meth, c, ⟨hx, hb, -⟩, rfl⟩ := h
  exact fun H locs ls hP hS hl => lv_lsub hx hb hd (k H locs ls hP hS hl)
theorem r_lmul (h : MchG cs l R D ad ca own cc nL ret AA Ex kc ks QQ V) {x y : Int64} (hd : decode cc pc = .ok (.lmul, 1))  (k : V M (pc + 1) lv (.long (x * y) :: st)) : V M pc lv (.long y :: .long x :: st) := by
  obtain ⟨p, e, s, m, args, below, meth, c, ⟨hx, hb, -⟩, rfl⟩ := h
  exact fun H locs ls hP hS hl => lv_lmul hx hb hd (k H locs ls hP hS hl)
theorem r_land (h : MchG cs l R D ad ca own cc nL ret AA Ex kc ks QQ V) {x y : Int64} (hd : decode cc pc = .ok (.land, 1))  (k : V M (pc + 1) lv (.long (x &&& y) :: st)) : V M pc lv (.long y :: .long x :: st) := by
  obtain ⟨p, e, s, m, args, below, meth, c, ⟨hx, hb, -⟩, rfl⟩ := h
  exact fun H locs ls hP hS hl => lv_land hx hb hd (k H locs ls hP hS hl)
theorem r_lor (h : MchG cs l R D ad ca own cc nL ret AA Ex kc ks QQ V) {x y : Int64} (hd : decode cc pc = .ok (.lor, 1))  (k : V M (pc + 1) lv (.long (x ||| y) :: st)) : V M pc lv (.long y :: .long x :: st) := by
  obtain ⟨p, e, s, m, args, below, meth, c, ⟨hx, hb, -⟩, rfl⟩ := h
  exact fun H locs ls hP hS hl => lv_lor hx hb hd (k H locs ls hP hS hl)
theorem r_lxor (h : MchG cs l R D ad ca own cc nL ret AA Ex kc ks QQ V) {x y : Int64} (hd : decode cc pc = .ok (.lxor, 1))  (k : V M (pc + 1) lv (.long (x ^^^ y) :: st)) : V M pc lv (.long y :: .long x :: st) := by
  obtain ⟨p, e, s, m, args, below, meth, c, ⟨hx, hb, -⟩, rfl⟩ := h
  exact fun H locs ls hP hS hl => lv_lxor hx hb hd (k H locs ls hP hS hl)
theorem r_ldiv (h : MchG cs l R D ad ca own cc nL ret AA Ex kc ks QQ V) {x y : Int64} (hd : decode cc pc = .ok (.ldiv, 1)) (hne : ¬ y = 0) (k : V M (pc + 1) lv (.long (x / y) :: st)) : V M pc lv (.long y :: .long x :: st) := by
  obtain ⟨p, e, s, m, args, below, meth, c, ⟨hx, hb, -⟩, rfl⟩ := h
  exact fun H locs ls hP hS hl => lv_ldiv hx hb hd hne (k H locs ls hP hS hl)
theorem r_lrem (h : MchG cs l R D ad ca own cc nL ret AA Ex kc ks QQ V) {x y : Int64} (hd : decode cc pc = .ok (.lrem, 1)) (hne : ¬ y = 0) (k : V M (pc + 1) lv (.long (x - x / y * y) :: st)) : V M pc lv (.long y :: .long x :: st) := by
  obtain ⟨p, e, s, m, args, below, meth, c, ⟨hx, hb, -⟩, rfl⟩ := h
  exact fun H locs ls hP hS hl => lv_lrem hx hb hd hne (k H locs ls hP hS hl)
theorem r_lneg (h : MchG cs l R D ad ca own cc nL ret AA Ex kc ks QQ V) {x : Int64} (hd : decode cc pc = .ok (.lneg, 1))  (k : V M (pc + 1) lv (.long (-x) :: st)) : V M pc lv (.long x :: st) := by
  obtain ⟨p, e, s, m, args, below, meth, c, ⟨hx, hb, -⟩, rfl⟩ := h
  exact fun H locs ls hP hS hl => lv_lneg hx hb hd (k H locs ls hP hS hl)
theorem r_i2l (h : MchG cs l R D ad ca own cc nL ret AA Ex kc ks QQ V) {x : Int32} (hd : decode cc pc = .ok (.i2l, 1)) (k : V M (pc + 1) lv (.long x.toInt64 :: st)) : V M pc lv (.int x :: st) := by
  obtain ⟨p, e, s, m, args, below, meth, c, ⟨hx, hb, -⟩, rfl⟩ := h
  exact fun H locs ls hP hS hl => lv_i2l hx hb hd rfl (k H locs ls hP hS hl)
theorem r_l2i (h : MchG cs l R D ad ca own cc nL ret AA Ex kc ks QQ V) {x : Int64} (hd : decode cc pc = .ok (.l2i, 1)) (k : V M (pc + 1) lv (.int x.toInt32 :: st)) : V M pc lv (.long x :: st) := by
  obtain ⟨p, e, s, m, args, below, meth, c, ⟨hx, hb, -⟩, rfl⟩ := h
  exact fun H locs ls hP hS hl => lv_l2i hx hb hd rfl (k H locs ls hP hS hl)
theorem r_i2b (h : MchG cs l R D ad ca own cc nL ret AA Ex kc ks QQ V) {x : Int32} (hd : decode cc pc = .ok (.i2b, 1)) (k : V M (pc + 1) lv (.int x.toInt8.toInt32 :: st)) : V M pc lv (.int x :: st) := by
  obtain ⟨p, e, s, m, args, below, meth, c, ⟨hx, hb, -⟩, rfl⟩ := h
  exact fun H locs ls hP hS hl => lv_i2b hx hb hd rfl (k H locs ls hP hS hl)
theorem r_iushr (h : MchG cs l R D ad ca own cc nL ret AA Ex kc ks QQ V) {x y : Int32} (hd : decode cc pc = .ok (.iushr, 1)) (k : V M (pc + 1) lv (.int (x.toUInt32 >>> (y.toUInt32 &&& Int32.toUInt32 31)).toInt32 :: st)) : V M pc lv (.int y :: .int x :: st) := by
  obtain ⟨p, e, s, m, args, below, meth, c, ⟨hx, hb, -⟩, rfl⟩ := h
  exact fun H locs ls hP hS hl => lv_iushr hx hb hd rfl (k H locs ls hP hS hl)
theorem r_lushr (h : MchG cs l R D ad ca own cc nL ret AA Ex kc ks QQ V) {x : Int64} {y : Int32} (hd : decode cc pc = .ok (.lushr, 1)) (k : V M (pc + 1) lv (.long (x.toUInt64 >>> (y.toInt64.toUInt64 &&& Int64.toUInt64 63)).toInt64 :: st)) : V M pc lv (.int y :: .long x :: st) := by
  obtain ⟨p, e, s, m, args, below, meth, c, ⟨hx, hb, -⟩, rfl⟩ := h
  exact fun H locs ls hP hS hl => lv_lushr hx hb hd rfl (k H locs ls hP hS hl)
theorem r_lshl (h : MchG cs l R D ad ca own cc nL ret AA Ex kc ks QQ V) {x : Int64} {y : Int32} (hd : decode cc pc = .ok (.lshl, 1)) (k : V M (pc + 1) lv (.long (x <<< (y.toInt64 &&& 63)) :: st)) : V M pc lv (.int y :: .long x :: st) := by
  obtain ⟨p, e, s, m, args, below, meth, c, ⟨hx, hb, -⟩, rfl⟩ := h
  exact fun H locs ls hP hS hl => lv_lshl hx hb hd rfl (k H locs ls hP hS hl)
theorem r_lcmp (h : MchG cs l R D ad ca own cc nL ret AA Ex kc ks QQ V) {x y : Int64} (hd : decode cc pc = .ok (.lcmp, 1))  (k : V M (pc + 1) lv (.int (lg_cmp x y) :: st)) : V M pc lv (.long y :: .long x :: st) := by
  obtain ⟨p, e, s, m, args, below, meth, c, ⟨hx, hb, -⟩, rfl⟩ := h
  exact fun H locs ls hP hS hl => W.lcmp hx hb hd (k H locs ls hP hS hl)
theorem r_dup (h : MchG cs l R D ad ca own cc nL ret AA Ex kc ks QQ V) {va : Value} (hd : decode cc pc = .ok (.dup, 1)) (hva : va.category = 1) (k : V M (pc + 1) lv (va :: va :: st)) : V M pc lv (va :: st) := by
  obtain ⟨p, e, s, m, args, below, meth, c, ⟨hx, hb, -⟩, rfl⟩ := h
  exact fun H locs ls hP hS hl => lv_dup hx hb hd hva (k H locs ls hP hS hl)
theorem r_pop (h : MchG cs l R D ad ca own cc nL ret AA Ex kc ks QQ V) {va : Value} (hd : decode cc pc = .ok (.pop, 1)) (hva : va.category = 1) (k : V M (pc + 1) lv (st)) : V M pc lv (va :: st) := by
  obtain ⟨p, e, s, m, args, below, meth, c, ⟨hx, hb, -⟩, rfl⟩ := h
  exact fun H locs ls hP hS hl => lv_pop hx hb hd hva (k H locs ls hP hS hl)
theorem r_dup_x1 (h : MchG cs l R D ad ca own cc nL ret AA Ex kc ks QQ V) {va vb : Value} (hd : decode cc pc = .ok (.dup_x1, 1)) (hva : va.category = 1) (hvb : vb.category = 1) (k : V M (pc + 1) lv (va :: vb :: va :: st)) : V M pc lv (va :: vb :: st) := by
  obtain ⟨p, e, s, m, args, below, meth, c, ⟨hx, hb, -⟩, rfl⟩ := h
  exact fun H locs ls hP hS hl => lv_dup_x1 hx hb hd hva hvb (k H locs ls hP hS hl)
theorem r_dup2_11 (h : MchG cs l R D ad ca own cc nL ret AA Ex kc ks QQ V) {va vb : Value} (hd : decode cc pc = .ok (.dup2, 1)) (hva : va.category = 1) (hvb : vb.category = 1) (k : V M (pc + 1) lv (va :: vb :: va :: vb :: st)) : V M pc lv (va :: vb :: st) := by
  obtain ⟨p, e, s, m, args, below, meth, c, ⟨hx, hb, -⟩, rfl⟩ := h
  exact fun H locs ls hP hS hl => lv_dup2_11 hx hb hd hva hvb (k H locs ls hP hS hl)
theorem r_dup2_2 (h : MchG cs l R D ad ca own cc nL ret AA Ex kc ks QQ V) {va : Value} (hd : decode cc pc = .ok (.dup2, 1)) (hva : va.category = 2) (k : V M (pc + 1) lv (va :: va :: st)) : V M pc lv (va :: st) := by
  obtain ⟨p, e, s, m, args, below, meth, c, ⟨hx, hb, -⟩, rfl⟩ := h
  exact fun H locs ls hP hS hl => lv_dup2_2 hx hb hd hva (k H locs ls hP hS hl)
theorem r_if_eq (h : MchG cs l R D ad ca own cc nL ret AA Ex kc ks QQ V) {x : Int32} {off : Int} (tgt : Nat) (hd : decode cc pc = .ok (.ifCond .eq off, 3)) (ht : (pc : Int) + off = (tgt : Int)) (kt : x = 0 → V M tgt lv st) (kf : ¬ (x = 0) → V M (pc + 3) lv st) : V M pc lv (.int x :: st) := by
  obtain ⟨p, e, s, m, args, below, meth, c, ⟨hx, hb, -⟩, rfl⟩ := h
  exact fun H locs ls hP hS hl => lv_if_eq hx hb hd ht (fun q => kt q H locs ls hP hS hl) (fun q => kf q H locs ls hP hS hl)
theorem r_icmp_eq (h : MchG cs l R D ad ca own cc nL ret AA Ex kc ks QQ V) {x y : Int32} {off : Int} (tgt : Nat) (hd : decode cc pc = .ok (.if_icmp .eq off, 3)) (ht : (pc : Int) + off = (tgt : Int)) (kt : x = y → V M tgt lv st) (kf : ¬ (x = y) → V M (pc + 3) lv st) : V M pc lv (.int y :: .int x :: st) := by
  obtain ⟨p, e, s, m, args, below, meth, c, ⟨hx, hb, -⟩, rfl⟩ := h
  exact fun H locs ls hP hS hl => lv_icmp_eq hx hb hd ht (fun q => kt q H locs ls hP hS hl) (fun q => kf q H locs ls hP hS hl)
theorem r_if_ne (h : MchG cs l R D ad ca own cc nL ret AA Ex kc ks QQ V) {x : Int32} {off : Int} (tgt : Nat) (hd : decode cc pc = .ok (.ifCond .ne off, 3)) (ht : (pc : Int) + off = (tgt : Int)) (kt : ¬ x = 0 → V M tgt lv st) (kf : x = 0 → V M (pc + 3) lv st) : V M pc lv (.int x :: st) := by
  obtain ⟨p, e, s, m, args, below, meth, c, ⟨hx, hb, -⟩, rfl⟩ := h
  exact fun H locs ls hP hS hl => lv_if_ne hx hb hd ht (fun q => kt q H locs ls hP hS hl) (fun q => kf q H locs ls hP hS hl)
theorem r_icmp_ne (h : MchG cs l R D ad ca own cc nL ret AA Ex kc ks QQ V) {x y : Int32} {off : Int} (tgt : Nat) (hd : decode cc pc = .ok (.if_icmp .ne off, 3)) (ht : (pc : Int) + off = (tgt : Int)) (kt : ¬ x = y → V M tgt lv st) (kf : x = y → V M (pc + 3) lv st) : V M pc lv (.int y :: .int x :: st) := by
  obtain ⟨p, e, s, m, args, below, meth, c, ⟨hx, hb, -⟩, rfl⟩ := h
  exact fun H locs ls hP hS hl => lv_icmp_ne hx hb hd ht (fun q => kt q H locs ls hP hS hl) (fun q => kf q H locs ls hP hS hl)
theorem r_if_lt (h : MchG cs l R D ad ca own cc nL ret AA Ex kc ks QQ V) {x : Int32} {off : Int} (tgt : Nat) (hd : decode cc pc = .ok (.ifCond .lt off, 3)) (ht : (pc : Int) + off = (tgt : Int)) (kt : x < 0 → V M tgt lv st) (kf : ¬ (x < 0) → V M (pc + 3) lv st) : V M pc lv (.int x :: st) := by
  obtain ⟨p, e, s, m, args, below, meth, c, ⟨hx, hb, -⟩, rfl⟩ := h
  exact fun H locs ls hP hS hl => lv_if_lt hx hb hd ht (fun q => kt q H locs ls hP hS hl) (fun q => kf q H locs ls hP hS hl)
theorem r_icmp_lt (h : MchG cs l R D ad ca own cc nL ret AA Ex kc ks QQ V) {x y : Int32} {off : Int} (tgt : Nat) (hd : decode cc pc = .ok (.if_icmp .lt off, 3)) (ht : (pc : Int) + off = (tgt : Int)) (kt : x < y → V M tgt lv st) (kf : ¬ (x < y) → V M (pc + 3) lv st) : V M pc lv (.int y :: .int x :: st) := by
  obtain ⟨p, e, s, m, args, below, meth, c, ⟨hx, hb, -⟩, rfl⟩ := h
  exact fun H locs ls hP hS hl => lv_icmp_lt hx hb hd ht (fun q => kt q H locs ls hP hS hl) (fun q => kf q H locs ls hP hS hl)
theorem r_if_ge (h : MchG cs l R D ad ca own cc nL ret AA Ex kc ks QQ V) {x : Int32} {off : Int} (tgt : Nat) (hd : decode cc pc = .ok (.ifCond .ge off, 3)) (ht : (pc : Int) + off = (tgt : Int)) (kt : 0 ≤ x → V M tgt lv st) (kf : ¬ (0 ≤ x) → V M (pc + 3) lv st) : V M pc lv (.int x :: st) := by
  obtain ⟨p, e, s, m, args, below, meth, c, ⟨hx, hb, -⟩, rfl⟩ := h
  exact fun H locs ls hP hS hl => lv_if_ge hx hb hd ht (fun q => kt q H locs ls hP hS hl) (fun q => kf q H locs ls hP hS hl)
theorem r_icmp_ge (h : MchG cs l R D ad ca own cc nL ret AA Ex kc ks QQ V) {x y : Int32} {off : Int} (tgt : Nat) (hd : decode cc pc = .ok (.if_icmp .ge off, 3)) (ht : (pc : Int) + off = (tgt : Int)) (kt : y ≤ x → V M tgt lv st) (kf : ¬ (y ≤ x) → V M (pc + 3) lv st) : V M pc lv (.int y :: .int x :: st) := by
  obtain ⟨p, e, s, m, args, below, meth, c, ⟨hx, hb, -⟩, rfl⟩ := h
  exact fun H locs ls hP hS hl => lv_icmp_ge hx hb hd ht (fun q => kt q H locs ls hP hS hl) (fun q => kf q H locs ls hP hS hl)
theorem r_if_gt (h : MchG cs l R D ad ca own cc nL ret AA Ex kc ks QQ V) {x : Int32} {off : Int} (tgt : Nat) (hd : decode cc pc = .ok (.ifCond .gt off, 3)) (ht : (pc : Int) + off = (tgt : Int)) (kt : 0 < x → V M tgt lv st) (kf : ¬ (0 < x) → V M (pc + 3) lv st) : V M pc lv (.int x :: st) := by
  obtain ⟨p, e, s, m, args, below, meth, c, ⟨hx, hb, -⟩, rfl⟩ := h
  exact fun H locs ls hP hS hl => lv_if_gt hx hb hd ht (fun q => kt q H locs ls hP hS hl) (fun q => kf q H locs ls hP hS hl)
theorem r_icmp_gt (h : MchG cs l R D ad ca own cc nL ret AA Ex kc ks QQ V) {x y : Int32} {off : Int} (tgt : Nat) (hd : decode cc pc = .ok (.if_icmp .gt off, 3)) (ht : (pc : Int) + off = (tgt : Int)) (kt : y < x → V M tgt lv st) (kf : ¬ (y < x) → V M (pc + 3) lv st) : V M pc lv (.int y :: .int x :: st) := by
  obtain ⟨p, e, s, m, args, below, meth, c, ⟨hx, hb, -⟩, rfl⟩ := h
  exact fun H locs ls hP hS hl => lv_icmp_gt hx hb hd ht (fun q => kt q H locs ls hP hS hl) (fun q => kf q H locs ls hP hS hl)
theorem r_if_le (h : MchG cs l R D ad ca own cc nL ret AA Ex kc ks QQ V) {x : Int32} {off : Int} (tgt : Nat) (hd : decode cc pc = .ok (.ifCond .le off, 3)) (ht : (pc : Int) + off = (tgt : Int)) (kt : x ≤ 0 → V M tgt lv st) (kf : ¬ (x ≤ 0) → V M (pc + 3) lv st) : V M pc lv (.int x :: st) := by
  obtain ⟨p, e, s, m, args, below, meth, c, ⟨hx, hb, -⟩, rfl⟩ := h
  exact fun H locs ls hP hS hl => lv_if_le hx hb hd ht (fun q => kt q H locs ls hP hS hl) (fun q => kf q H locs ls hP hS hl)
theorem r_icmp_le (h : MchG cs l R D ad ca own cc nL ret AA Ex kc ks QQ V) {x y : Int32} {off : Int} (tgt : Nat) (hd : decode cc pc = .ok (.if_icmp .le off, 3)) (ht : (pc : Int) + off = (tgt : Int)) (kt : x ≤ y → V M tgt lv st) (kf : ¬ (x ≤ y) → V M (pc + 3) lv st) : V M pc lv (.int y :: .int x :: st) := by
  obtain ⟨p, e, s, m, args, below, meth, c, ⟨hx, hb, -⟩, rfl⟩ := h
  exact fun H locs ls hP hS hl => lv_icmp_le hx hb hd ht (fun q => kt q H locs ls hP hS hl) (fun q => kf q H locs ls hP hS hl)
theorem r_goto (h : MchG cs l R D ad ca own cc nL ret AA Ex kc ks QQ V) {off : Int} (tgt : Nat) (hd : decode cc pc = .ok (.goto off, 3)) (ht : (pc : Int) + off = (tgt : Int)) (k : V M tgt lv st) : V M pc lv st := by
  obtain ⟨p, e, s, m, args, below, meth, c, ⟨hx, hb, -⟩, rfl⟩ := h
  exact fun H locs ls hP hS hl => lv_goto hx hb hd ht (k H locs ls hP hS hl)
theorem r_lookup (h : MchG cs l R D ad ca own cc nL ret AA Ex kc ks QQ V) {x : Int32} {dflt : Int} {ps : Array (Int × Int)} {len : Nat} {off : Int} (tgt : Nat) (hd : decode cc pc = .ok (.lookupswitch dflt ps, len)) (hp : (ps.toList.zip (ps.toList.drop 1)).all (fun (a, next) => a.1 < next.1) = true) (ho : Op.lookupswitch.offset ps.toList dflt x.toInt = off) (ht : (pc : Int) + off = (tgt : Int)) (k : V M tgt lv st) : V M pc lv (.int x :: st) := by
  obtain ⟨p, e, s, m, args, below, meth, c, ⟨hx, hb, -⟩, rfl⟩ := h
  exact fun H locs ls hP hS hl => lv_lookup hx hb hd hp ho ht (k H locs ls hP hS hl)
theorem r_tableOut (h : MchG cs l R D ad ca own cc nL ret AA Ex kc ks QQ V) {x : Int32} {dflt lo hi : Int} {offs : Array Int} {len : Nat} (tgt : Nat) (hd : decode cc pc = .ok (.tableswitch dflt lo hi offs, len)) (hq : x.toInt < lo ∨ hi < x.toInt) (ht : (pc : Int) + dflt = (tgt : Int)) (k : V M tgt lv st) : V M pc lv (.int x :: st) := by
  obtain ⟨p, e, s, m, args, below, meth, c, ⟨hx, hb, -⟩, rfl⟩ := h
  exact fun H locs ls hP hS hl => lv_tableOut hx hb hd hq ht (k H locs ls hP hS hl)
theorem r_tableIn (h : MchG cs l R D ad ca own cc nL ret AA Ex kc ks QQ V) {x : Int32} {dflt lo hi : Int} {offs : Array Int} {len : Nat} {off : Int} (tgt : Nat) (hd : decode cc pc = .ok (.tableswitch dflt lo hi offs, len)) (h1 : ¬ x.toInt < lo) (h2 : ¬ hi < x.toInt) (ho : offs[(x.toInt - lo).toNat]? = some off) (ht : (pc : Int) + off = (tgt : Int)) (k : V M tgt lv st) : V M pc lv (.int x :: st) := by
  obtain ⟨p, e, s, m, args, below, meth, c, ⟨hx, hb, -⟩, rfl⟩ := h
  exact fun H locs ls hP hS hl => lv_tableIn hx hb hd h1 h2 ho ht (k H locs ls hP hS hl)
/-! answers -/
theorem r_iret {x : Int32} (h : Mch cs l R D ad ca own cc nL (some .int) (some (.int x)) M V) (hd : decode cc pc = .ok (.ireturn, 1)) : V M pc lv [.int x] := by
  obtain ⟨p, e, s, m, args, below, meth, c, ⟨hx, hb, -, -, -, hK, hI, hN, hr, hlk, -⟩, rfl⟩ := h
  exact fun H locs ls hP hS hl => W.iret (v := x) hx hb hr (fun t ht hW => ⟨rfl, ⟨by rw [ht]; exact hP, va_K.moved hW.alike hK, hI, NW.warm hW hN⟩, hS.F ht⟩) hS.2.2 hd (hlocks := hlk)
theorem r_zret {x : Int32} (h : Mch cs l R D ad ca own cc nL (some .boolean) (some (.int x)) M V) (hx1 : x = 0 ∨ x = 1) (hd : decode cc pc = .ok (.ireturn, 1)) : V M pc lv [.int x] := by
  obtain ⟨p, e, s, m, args, below, meth, c, ⟨hx, hb, -, -, -, hK, hI, hN, hr, hlk, -⟩, rfl⟩ := h
  have hn : narrow .boolean (.int x) = .int x := by rcases hx1 with rfl | rfl <;> rfl
  exact fun H locs ls hP hS hl => W.zret (v := x) hx hb hr hn (fun t ht hW => ⟨rfl, ⟨by rw [ht]; exact hP, va_K.moved hW.alike hK, hI, NW.warm hW hN⟩, hS.F ht⟩) hS.2.2 hd (hlocks := hlk)
theorem r_lret {x : Int64} (h : Mch cs l R D ad ca own cc nL (some .long) (some (.long x)) M V) (hd : decode cc pc = .ok (.lreturn, 1)) : V M pc lv [.long x] := by
  obtain ⟨p, e, s, m, args, below, meth, c, ⟨hx, hb, -, -, -, hK, hI, hN, hr, hlk, -⟩, rfl⟩ := h
  exact fun H locs ls hP hS hl => W.lret (v := x) hx hb hr (fun t ht hW => ⟨rfl, ⟨by rw [ht]; exact hP, va_K.moved hW.alike hK, hI, NW.warm hW hN⟩, hS.F ht⟩) hS.2.2 hd (hlocks := hlk)
theorem r_vret (h : Mch cs l R D ad ca own cc nL none none M V) (hd : decode cc pc = .ok (.return_, 1)) : V M pc lv [] := by
  obtain ⟨p, e, s, m, args, below, meth, c, ⟨hx, hb, -, -, -, hK, hI, hN, hr, hlk, -⟩, rfl⟩ := h
  exact fun H locs ls hP hS hl => W.vret hx hb hr (fun t ht hW => ⟨rfl, ⟨by rw [ht]; exact hP, va_K.moved hW.alike hK, hI, NW.warm hW hN⟩, hS.F ht⟩) hS.2.2 hd (hlocks := hlk)
/-! fields -/
/-- the field k of class ci, by its pool entry in 'own' -/
def FL (own : String) (idx ci k : Nat) : Prop := ∃ (C : String) (T : u_T) (N : Nat) (ty0 : Nat → FieldType), vwCl[ci]? = some (C, T, N) ∧ k < N ∧ (∀ w ∈ u_ws C T N, w ∈ TG) ∧ (∀ k, k < N → parseFieldDescriptor (T k).2.2.1 = some (ty0 k)) ∧ (∀ a, a < N → ∀ b, b < N → a ≠ b → (T a).2.1 ≠ (T b).2.1) ∧ (T k).1 = C ∧
  (Cond.fieldLink own idx C (T k).2.1 (T k).2.2.1 ∈ TG ∨ ∃ host, Cond.fieldLinkNest own idx C (T k).2.1 (T k).2.2.1 host ∈ lw_tbl)
def FP (own : String) (idx ci k : Nat) (ty : FieldType) : Prop := FL own idx ci k ∧ ∀ (C : String) (T : u_T) (N : Nat), vwCl[ci]? = some (C, T, N) → (T k).2.2.2 = false ∧ parseFieldDescriptor (T k).2.2.1 = some ty
theorem r_get {v : Value} (h : MchG cs l R D ad ca own cc nL ret AA Ex kc ks QQ V) {idx ci k c : Nat} {cf : List Nat} (hf : FL own idx ci k) (hc : c ∈ cs) (hs : shp c = .inl (ci, cf)) (hv : (fvL ad M c 0 cf)[k]? = some v) (hd : decode cc pc = .ok (.getfield idx, 3)) (kk : V M (pc + 3) lv (v :: st)) : V M pc lv (.ref (ad c) :: st) := by
  obtain ⟨p, e, s, m, args, below, meth, c0, ⟨hx, hb, -, ho, ht, hK, hI, hN, -⟩, rfl⟩ := h
  obtain ⟨C, T, N, ty0, h1, h2, h3, -, -, h6, h7⟩ := hf
  intro H locs ls hP hS hl
  obtain ⟨kq, hkq, he⟩ := ws_at (ad := ad) (ca := ca) (M := M) hc
  rw [ce_o hs] at he
  have hsame : ∀ x, s.fieldFound? (T k).1 (T k).2.1 (T k).2.2.1 = some x → s.fieldFound? C (T k).2.1 (T k).2.2.1 = some x := fun x q => by rw [h6] at q; exact q
  rcases h7 with h7 | ⟨host, h7⟩
  · exact va_get hx hb ht h3 ho hK hP kq he h1 k h2 (ht _ h7) hsame hv hd (kk H locs ls hP hS hl)
  · exact va_getN hx hb ht h3 ho hK hP kq he h1 k h2 (va_Nw.use rfl (hN _ h7 rfl)) hsame hv hd (kk H locs ls hP hS hl)
theorem r_geti (h : MchG cs l R D ad ca own cc nL ret AA Ex kc ks QQ V) {idx ci k c : Nat} {cf : List Nat} (hf : FL own idx ci k) (hc : c ∈ cs) (hs : shp c = .inl (ci, cf)) (hv : cf[k]? = some 0) (hd : decode cc pc = .ok (.getfield idx, 3)) (kk : V M (pc + 3) lv (.int (M.1 c k) :: st)) : V M pc lv (.ref (ad c) :: st) := by
  have e := fv_get (ad := ad) (M := M) (c := c) (b := 0) hv
  rw [Nat.zero_add] at e
  exact r_get h hf hc hs e hd kk
theorem r_getl (h : MchG cs l R D ad ca own cc nL ret AA Ex kc ks QQ V) {idx ci k c : Nat} {cf : List Nat} (hf : FL own idx ci k) (hc : c ∈ cs) (hs : shp c = .inl (ci, cf)) (hv : cf[k]? = some 1) (hd : decode cc pc = .ok (.getfield idx, 3)) (kk : V M (pc + 3) lv (.long (M.2 c k) :: st)) : V M pc lv (.ref (ad c) :: st) := by
  have e := fv_get (ad := ad) (M := M) (c := c) (b := 0) hv
  rw [Nat.zero_add] at e
  exact r_get h hf hc hs e hd kk
theorem r_getr (h : MchG cs l R D ad ca own cc nL ret AA Ex kc ks QQ V) {idx ci k c q : Nat} {cf : List Nat} (hf : FL own idx ci k) (hc : c ∈ cs) (hs : shp c = .inl (ci, cf)) (hv : cf[k]? = some (q + 2)) (hd : decode cc pc = .ok (.getfield idx, 3)) (kk : V M (pc + 3) lv (.ref (ad q) :: st)) : V M pc lv (.ref (ad c) :: st) :=
  r_get h hf hc hs (fv_get (ad := ad) (M := M) (c := c) (b := 0) hv) hd kk
theorem r_put {v : Value} {M1 : Mem} (h : MchG cs l R D ad ca own cc nL ret AA Ex kc ks QQ V) {idx ci k c : Nat} {cf : List Nat} {ty : FieldType} (hf : FP own idx ci k ty) (hc : c ∈ cs) (hs : shp c = .inl (ci, cf)) (hl0 : k < cf.length) (hn : narrow ty v = v) (hfit : fits ty v = true) (hset : (fvL ad M c 0 cf).set k v = fvL ad M1 c 0 cf) (hoth : ∀ a, a ≠ c → M.1 a = M1.1 a ∧ M.2 a = M1.2 a) (hd : decode cc pc = .ok (.putfield idx, 3)) (kk : V M1 (pc + 3) lv st) : V M pc lv (v :: .ref (ad c) :: st) := by
  obtain ⟨p, e, s, m, args, below, meth, c0, ⟨hx, hb, -, ho, ht, hK, hI, hN, -, -, hA, -⟩, rfl⟩ := h
  obtain ⟨⟨C, T, N, ty0, h1, h2, h3, h4, h5, h6, h7⟩, hf2⟩ := hf
  obtain ⟨g1, g2⟩ := hf2 C T N h1
  intro H locs ls hP hS hl
  obtain ⟨kq, hkq, he⟩ := ws_at (ad := ad) (ca := ca) (M := M) hc
  rw [ce_o hs] at he
  have hsame : ∀ x, s.fieldFound? (T k).1 (T k).2.1 (T k).2.2.1 = some x → s.fieldFound? C (T k).2.1 (T k).2.2.1 = some x := fun x q => by rw [h6] at q; exact q
  have hw : (wsM cs ad ca M).set kq (ad c, .inr (ci, (fvL ad M c 0 cf).set k v)) = wsM cs ad ca M1 := ws_set hI.1 hkq (by rw [hset, ce_o hs]) hoth
  rcases h7 with h7 | ⟨host, h7⟩
  · refine va_put hx hb ht h3 ty0 h4 h5 ho hK hP (ws_DA hI hA) hS kq he h1 k h2 (ht _ h7) hsame g1 g2 hn hfit (by rw [fv_len]; exact hl0) hd (fun H1 locs1 hP1 _ hS1 => ?_)
    rw [hw] at hP1
    exact kk H1 locs1 ls hP1 hS1 hl
  · refine va_putN hx hb ht h3 ty0 h4 h5 ho hK hP (ws_DA hI hA) hS kq he h1 k h2 (va_Nw.use rfl (hN _ h7 rfl)) hsame g1 g2 hn hfit (by rw [fv_len]; exact hl0) hd (fun H1 locs1 hP1 _ hS1 => ?_)
    rw [hw] at hP1
    exact kk H1 locs1 ls hP1 hS1 hl
theorem pI_set (c j : Nat) (v : Int32) (cf : List Nat) (h : cf[j]? = some 0) : (fvL ad M c 0 cf).set j (.int v) = fvL ad (pI M c j v) c 0 cf :=
  fv_setI cf 0 j h (fun i => by simp [pI, upd]) rfl
theorem pI_oth (c j : Nat) (v : Int32) : ∀ a, a ≠ c → M.1 a = (pI M c j v).1 a ∧ M.2 a = (pI M c j v).2 a := fun a ha => by simp [pI, ha]
theorem pL_set (c j : Nat) (v : Int64) (cf : List Nat) (h : cf[j]? = some 1) : (fvL ad M c 0 cf).set j (.long v) = fvL ad (pL M c j v) c 0 cf :=
  fv_setL cf 0 j h (fun i => by simp [pL, vp_updL]) rfl
theorem pL_oth (c j : Nat) (v : Int64) : ∀ a, a ≠ c → M.1 a = (pL M c j v).1 a ∧ M.2 a = (pL M c j v).2 a := fun a ha => by simp [pL, ha]
theorem r_puti {v : Int32} (h : MchG cs l R D ad ca own cc nL ret AA Ex kc ks QQ V) {idx ci k c : Nat} {cf : List Nat} (hf : FP own idx ci k .int) (hc : c ∈ cs) (hs : shp c = .inl (ci, cf)) (hv : cf[k]? = some 0) (hd : decode cc pc = .ok (.putfield idx, 3)) (kk : V (pI M c k v) (pc + 3) lv st) : V M pc lv (.int v :: .ref (ad c) :: st) :=
  r_put h hf hc hs (List.getElem?_eq_some_iff.mp hv).1 rfl rfl (pI_set c k v cf hv) (pI_oth c k v) hd kk
theorem r_putz {v : Int32} (h : MchG cs l R D ad ca own cc nL ret AA Ex kc ks QQ V) {idx ci k c : Nat} {cf : List Nat} (hf : FP own idx ci k .boolean) (hb : v = 0 ∨ v = 1) (hc : c ∈ cs) (hs : shp c = .inl (ci, cf)) (hv : cf[k]? = some 0) (hd : decode cc pc = .ok (.putfield idx, 3)) (kk : V (pI M c k v) (pc + 3) lv st) : V M pc lv (.int v :: .ref (ad c) :: st) :=
  r_put h hf hc hs (List.getElem?_eq_some_iff.mp hv).1 (by rcases hb with rfl | rfl <;> rfl) (by rcases hb with rfl | rfl <;> rfl) (pI_set c k v cf hv) (pI_oth c k v) hd kk
theorem r_putl {v : Int64} (h : MchG cs l R D ad ca own cc nL ret AA Ex kc ks QQ V) {idx ci k c : Nat} {cf : List Nat} (hf : FP own idx ci k .long) (hc : c ∈ cs) (hs : shp c = .inl (ci, cf)) (hv : cf[k]? = some 1) (hd : decode cc pc = .ok (.putfield idx, 3)) (kk : V (pL M c k v) (pc + 3) lv st) : V M pc lv (.long v :: .ref (ad c) :: st) :=
  r_put h hf hc hs (List.getElem?_eq_some_iff.mp hv).1 rfl rfl (pL_set c k v cf hv) (pL_oth c k v) hd kk
/-! arrays -/
/-- an index within a row of n places -/
def inb (i : Int32) (n : Nat) : Bool := decide (0 ≤ i.toInt) && decide (i.toInt < n)
theorem inb_vp {i : Int32} {n : Nat} (h : inb i n = true) : vp_in i n := by
  simp only [inb, Bool.and_eq_true, decide_eq_true_eq] at h
  exact vp_in_iff.mpr h
theorem r_iald (h : MchG cs l R D ad ca own cc nL ret AA Ex kc ks QQ V) {c n : Nat} {i : Int32} (hc : c ∈ cs) (hs : shp c = .inr (0, n)) (hi : inb i n = true) (hd : decode cc pc = .ok (.iaload, 1)) (kk : V M (pc + 1) lv (.int (M.1 c i.toNatClampNeg) :: st)) : V M pc lv (.int i :: .ref (ad c) :: st) := by
  obtain ⟨p, e, s, m, args, below, meth, c0, ⟨hx, hb, -, ho, ht, hK, hI, hN, -⟩, rfl⟩ := h
  intro H locs ls hP hS hl
  obtain ⟨t0, h0⟩ := ty_at (ca := ca) hc hs
  obtain ⟨kq, hkq, he⟩ := ws_at (ad := ad) (ca := ca) (M := M) hc
  exact va_iald hx hb hK hP kq t0 (by rw [he, ce_a hs]; rfl) h0 (inb_vp hi) hd (kk H locs ls hP hS hl)
theorem r_zald (h : MchG cs l R D ad ca own cc nL ret AA Ex kc ks QQ V) {c n : Nat} {i : Int32} (hc : c ∈ cs) (hs : shp c = .inr (1, n)) (hi : inb i n = true) (hd : decode cc pc = .ok (.baload, 1)) (kk : V M (pc + 1) lv (.int (M.1 c i.toNatClampNeg) :: st)) : V M pc lv (.int i :: .ref (ad c) :: st) := by
  obtain ⟨p, e, s, m, args, below, meth, c0, ⟨hx, hb, -, ho, ht, hK, hI, hN, -⟩, rfl⟩ := h
  intro H locs ls hP hS hl
  obtain ⟨t0, h0⟩ := ty_at (ca := ca) hc hs
  obtain ⟨kq, hkq, he⟩ := ws_at (ad := ad) (ca := ca) (M := M) hc
  exact va_zald hx hb hK hP kq t0 (by rw [he, ce_a hs]; rfl) h0 (inb_vp hi) hd (kk H locs ls hP hS hl)
theorem r_bald (h : MchG cs l R D ad ca own cc nL ret AA Ex kc ks QQ V) {c n : Nat} {i : Int32} (hc : c ∈ cs) (hs : shp c = .inr (2, n)) (hi : inb i n = true) (hd : decode cc pc = .ok (.baload, 1)) (kk : V M (pc + 1) lv (.int (M.1 c i.toNatClampNeg) :: st)) : V M pc lv (.int i :: .ref (ad c) :: st) := by
  obtain ⟨p, e, s, m, args, below, meth, c0, ⟨hx, hb, -, ho, ht, hK, hI, hN, -⟩, rfl⟩ := h
  intro H locs ls hP hS hl
  obtain ⟨t0, h0⟩ := ty_at (ca := ca) hc hs
  obtain ⟨kq, hkq, he⟩ := ws_at (ad := ad) (ca := ca) (M := M) hc
  exact va_bald hx hb hK hP kq t0 (by rw [he, ce_a hs]; rfl) h0 (inb_vp hi) hd (kk H locs ls hP hS hl)
theorem r_lald (h : MchG cs l R D ad ca own cc nL ret AA Ex kc ks QQ V) {c n : Nat} {i : Int32} (hc : c ∈ cs) (hs : shp c = .inr (3, n)) (hi : inb i n = true) (hd : decode cc pc = .ok (.laload, 1)) (kk : V M (pc + 1) lv (.long (M.2 c i.toNatClampNeg) :: st)) : V M pc lv (.int i :: .ref (ad c) :: st) := by
  obtain ⟨p, e, s, m, args, below, meth, c0, ⟨hx, hb, -, ho, ht, hK, hI, hN, -⟩, rfl⟩ := h
  intro H locs ls hP hS hl
  obtain ⟨t0, h0⟩ := ty_at (ca := ca) hc hs
  obtain ⟨kq, hkq, he⟩ := ws_at (ad := ad) (ca := ca) (M := M) hc
  exact va_lald hx hb hK hP kq t0 (by rw [he, ce_a hs]; rfl) h0 (inb_vp hi) hd (kk H locs ls hP hS hl)
theorem r_aald (h : MchG cs l R D ad ca own cc nL ret AA Ex kc ks QQ V) {c n : Nat} {i : Int32} (hc : c ∈ cs) (hs : shp c = .inr (4, n)) (hi : inb i n = true) (hd : decode cc pc = .ok (.aaload, 1)) (kk : V M (pc + 1) lv (.ref (ad (6 + i.toNatClampNeg)) :: st)) : V M pc lv (.int i :: .ref (ad c) :: st) := by
  obtain ⟨p, e, s, m, args, below, meth, c0, ⟨hx, hb, -, ho, ht, hK, hI, hN, -⟩, rfl⟩ := h
  intro H locs ls hP hS hl
  obtain ⟨t0, h0⟩ := ty_at (ca := ca) hc hs
  obtain ⟨kq, hkq, he⟩ := ws_at (ad := ad) (ca := ca) (M := M) hc
  exact va_aldq (f := fun i => some (ad (6 + i))) hx hb hK hP kq t0 (by rw [he, ce_a hs]; rfl) h0 (inb_vp hi) hd (kk H locs ls hP hS hl)
theorem row_setI {c n t j k : Nat} {v : Int32} (hs : shp c = .inr (t, n)) (ht : t < 3) (hn : cs.Nodup) (hk : cs[k]? = some c) : (wsM cs ad ca M).set k (ad c, .inl (ca c, n, .inl (upd (M.1 c) j v))) = wsM cs ad ca (pI M c j v) := by
  refine ws_set hn hk ?_ (pI_oth c j v)
  rw [ce_a hs]
  rcases (show t = 0 ∨ t = 1 ∨ t = 2 by omega) with rfl | rfl | rfl <;> simp [rowE, pI]
theorem row_setL {c n j k : Nat} {v : Int64} (hs : shp c = .inr (3, n)) (hn : cs.Nodup) (hk : cs[k]? = some c) : (wsM cs ad ca M).set k (ad c, .inl (ca c, n, .inr (.inl (vp_updL (M.2 c) j v)))) = wsM cs ad ca (pL M c j v) := by
  refine ws_set hn hk ?_ (pL_oth c j v)
  rw [ce_a hs]
  simp [rowE, pL]
theorem r_iast (h : MchG cs l R D ad ca own cc nL ret AA Ex kc ks QQ V) {c n : Nat} {i x : Int32} (hc : c ∈ cs) (hs : shp c = .inr (0, n)) (hi : inb i n = true) (hd : decode cc pc = .ok (.iastore, 1)) (kk : V (pI M c i.toNatClampNeg x) (pc + 1) lv st) : V M pc lv (.int x :: .int i :: .ref (ad c) :: st) := by
  obtain ⟨p, e, s, m, args, below, meth, c0, ⟨hx, hb, -, ho, ht, hK, hI, hN, -, -, hA, -⟩, rfl⟩ := h
  intro H locs ls hP hS hl
  obtain ⟨t0, h0⟩ := ty_at (ca := ca) hc hs
  obtain ⟨kq, hkq, he⟩ := ws_at (ad := ad) (ca := ca) (M := M) hc
  refine va_iast hx hb hK hP (ws_DA hI hA) hS kq t0 (f := M.1 c) (by rw [he, ce_a hs]; rfl) h0 (inb_vp hi) hd (fun H1 locs1 hP1 _ hS1 => ?_)
  rw [row_setI hs (by decide) hI.1 hkq] at hP1
  exact kk H1 locs1 ls hP1 hS1 hl
theorem r_zast (h : MchG cs l R D ad ca own cc nL ret AA Ex kc ks QQ V) {c n : Nat} {i x : Int32} (hc : c ∈ cs) (hs : shp c = .inr (1, n)) (hi : inb i n = true) (hz : x = 0 ∨ x = 1) (hd : decode cc pc = .ok (.bastore, 1)) (kk : V (pI M c i.toNatClampNeg x) (pc + 1) lv st) : V M pc lv (.int x :: .int i :: .ref (ad c) :: st) := by
  obtain ⟨p, e, s, m, args, below, meth, c0, ⟨hx, hb, -, ho, ht, hK, hI, hN, -, -, hA, -⟩, rfl⟩ := h
  intro H locs ls hP hS hl
  obtain ⟨t0, h0⟩ := ty_at (ca := ca) hc hs
  obtain ⟨kq, hkq, he⟩ := ws_at (ad := ad) (ca := ca) (M := M) hc
  have hv : vp_nar .boolean x = x := by rcases hz with rfl | rfl <;> rfl
  refine va_zast hx hb hK hP (ws_DA hI hA) hS kq t0 (f := M.1 c) (by rw [he, ce_a hs]; rfl) h0 (inb_vp hi) hd (fun H1 locs1 hP1 _ hS1 => ?_)
  rw [hv, row_setI hs (by decide) hI.1 hkq] at hP1
  exact kk H1 locs1 ls hP1 hS1 hl
theorem r_bast (h : MchG cs l R D ad ca own cc nL ret AA Ex kc ks QQ V) {c n : Nat} {i x : Int32} (hc : c ∈ cs) (hs : shp c = .inr (2, n)) (hi : inb i n = true) (hd : decode cc pc = .ok (.bastore, 1)) (kk : V (pI M c i.toNatClampNeg x.toInt8.toInt32) (pc + 1) lv st) : V M pc lv (.int x :: .int i :: .ref (ad c) :: st) := by
  obtain ⟨p, e, s, m, args, below, meth, c0, ⟨hx, hb, -, ho, ht, hK, hI, hN, -, -, hA, -⟩, rfl⟩ := h
  intro H locs ls hP hS hl
  obtain ⟨t0, h0⟩ := ty_at (ca := ca) hc hs
  obtain ⟨kq, hkq, he⟩ := ws_at (ad := ad) (ca := ca) (M := M) hc
  refine va_bast hx hb hK hP (ws_DA hI hA) hS kq t0 (f := M.1 c) (by rw [he, ce_a hs]; rfl) h0 (inb_vp hi) hd (fun H1 locs1 hP1 _ hS1 => ?_)
  rw [vp_nar_byte, row_setI hs (by decide) hI.1 hkq] at hP1
  exact kk H1 locs1 ls hP1 hS1 hl
theorem r_last (h : MchG cs l R D ad ca own cc nL ret AA Ex kc ks QQ V) {c n : Nat} {i : Int32} {x : Int64} (hc : c ∈ cs) (hs : shp c = .inr (3, n)) (hi : inb i n = true) (hd : decode cc pc = .ok (.lastore, 1)) (kk : V (pL M c i.toNatClampNeg x) (pc + 1) lv st) : V M pc lv (.long x :: .int i :: .ref (ad c) :: st) := by
  obtain ⟨p, e, s, m, args, below, meth, c0, ⟨hx, hb, -, ho, ht, hK, hI, hN, -, -, hA, -⟩, rfl⟩ := h
  intro H locs ls hP hS hl
  obtain ⟨t0, h0⟩ := ty_at (ca := ca) hc hs
  obtain ⟨kq, hkq, he⟩ := ws_at (ad := ad) (ca := ca) (M := M) hc
  refine va_last hx hb hK hP (ws_DA hI hA) hS kq t0 (f := M.2 c) (by rw [he, ce_a hs]; rfl) h0 (inb_vp hi) hd (fun H1 locs1 hP1 _ hS1 => ?_)
  rw [row_setL hs hI.1 hkq] at hP1
  exact kk H1 locs1 ls hP1 hS1 hl
theorem r_alen (h : MchG cs l R D ad ca own cc nL ret AA Ex kc ks QQ V) {c n t : Nat} {v : Int32} (hc : c ∈ cs) (hs : shp c = .inr (t, n)) (hv : Int32.ofNat n = v) (hd : decode cc pc = .ok (.arraylength, 1)) (kk : V M (pc + 1) lv (.int v :: st)) : V M pc lv (.ref (ad c) :: st) := by
  obtain ⟨p, e, s, m, args, below, meth, c0, ⟨hx, hb, -, ho, ht, hK, hI, hN, -⟩, rfl⟩ := h
  intro H locs ls hP hS hl
  obtain ⟨t0, h0⟩ := ty_at (ca := ca) hc hs
  obtain ⟨kq, hkq, he⟩ := ws_at (ad := ad) (ca := ca) (M := M) hc
  exact va_alen hx hb hK hP kq t0 (x := (n, rowE ad M c t)) (by rw [he, ce_a hs]) h0 hv hd (kk H locs ls hP hS hl)
/-! calls -/
theorem r_run {A : Nat → Prop} {H : Heap} {locs : List Loc} {ls : Array Slot} {p : Program} {e : Env} {s : State} {m : MethodId} {args : Array Value} {below : List Frame} {meth : Method} {c : Code} {Q : State → Prop} {rest st0 : List Value} {r1 : Option Value} {M1 : Mem} {a : Array Value}
    (hr : va_Run p l e R s m args below meth c H locs kc ks 0 0 (F0 m pc ls st0) rest (cnQ cs D ad ca r1 M1 a) (AD cs ad)) (hA : ∀ k ∈ cs, A (ad k)) (hS : va_S A s.heap H locs)
    (kk : ∀ (H1 : Heap) (locs1 : List Loc), va_P D vwCl (wsM cs ad ca M1) H1 → va_S A s.heap H1 locs1 → W p l e R s m args below meth c H1 locs1 kc ks Q (F0 m (pc + 3) ls (r1.toList ++ rest))) : W p l e R s m args below meth c H locs kc ks Q (F0 m pc ls st0) := by
  have hAD : ∀ q, AD cs ad q → A q := fun q h => by
    obtain ⟨k, hk, rfl⟩ := h
    exact hA k hk
  intro T hT X
  obtain ⟨v, st₀, t, T', L, h0, X', hL, e1, e2, ⟨hv, hSW, hz, hk⟩, st⟩ := hr T hT X
  cases hv
  rw [h0] at hz hk
  obtain ⟨t2, a1, b1⟩ := kk T'.heap (locs ++ L) (by rw [e1]; exact hSW.1) ⟨Nat.le_trans hS.1 (by rw [e1]; exact hz), fun q h1 h2 => by rw [e1, hk q (Nat.lt_of_lt_of_le h1 hS.1) (fun z => h2 (hAD q z))]; exact hS.2.1 q h1 h2, fun q hq => by
      rcases List.mem_append.mp hq with h | h
      · exact hS.2.2 q h
      · exact hAD _ (hL q h)⟩ T' rfl X'
  exact ⟨t2, st t2 a1, b1⟩
theorem sw_blind {As : List Value} : FrameBlind (va_Pc As (SW cs D ad ca M)) := by
  intro a U g mk q
  obtain ⟨q0, qP, qK, qI, qN⟩ := q
  exact ⟨q0, qP, va_K.moved (u := U) (U := U.calling g mk a) (Vm.Alike.refl U.vm) qK, qI, NW.same (s := U) (U := U.calling g mk a) rfl qN⟩
theorem sw_call {s : State} {H : Heap} (hP : va_P D vwCl (wsM cs ad ca M) H) (hK : va_K D vwCl (tyM cs ca) s) (hI : CS cs ad) (hN : NW s) (As : List Value) : ∀ U : State, U.heap = H → s.WarmedH U.vm → va_Pc As (SW cs D ad ca M) As.toArray U :=
  fun U hU hW => ⟨rfl, by rw [hU]; exact hP, va_K.moved hW.alike hK, hI, NW.warm hW hN⟩
/-- what a call of an instance method of the class C needs of the tables -/
def MV (own : String) (idx : Nat) (C : String) (y : MethodName) (cy : ByteArray) (mL : Nat) (rt : Option FieldType) (n : Nat) : Prop :=
  Cond.methodLink own idx y ∈ TG ∧ Cond.instanceMethod y ∈ TG ∧ Cond.selects C y y ∈ TG ∧ Cond.initialized C ∈ TG ∧ Cond.code y cy mL rt ∈ TG ∧ y.cls = C ∧ y.cls ≠ "java/lang/invoke/MethodHandle" ∧ y.cls ≠ "java/lang/invoke/VarHandle" ∧ (parseMethodDescriptor y.desc).map (fun d => d.parameters.length) = some n
def MS (own : String) (idx : Nat) (y : MethodName) (cy : ByteArray) (mL : Nat) (rt : Option FieldType) (n : Nat) : Prop :=
  (Cond.methodLink own idx y ∈ TG ∨ ∃ host, Cond.methodLinkNest own idx y host ∈ lw_tbl) ∧ Cond.static y ∈ TG ∧ Cond.initialized y.cls ∈ TG ∧ Cond.code y cy mL rt ∈ TG ∧ y.cls ≠ "java/lang/invoke/MethodHandle" ∧ y.cls ≠ "java/lang/invoke/VarHandle" ∧ (parseMethodDescriptor y.desc).map (fun d => d.parameters.length) = some n
theorem tg_cons {w : Cond} (h : w ∈ TG) : GoodIn TG (w :: TG) := fun v hv => by
  rcases List.mem_cons.mp hv with rfl | hv
  · exact tg_self v h
  · exact tg_self v hv
theorem r_callV (h : MchG cs l R D ad ca own cc nL ret AA Ex kc ks QQ V) {idx o ci : Nat} {cf : List Nat} {C : String} {T : u_T} {N : Nat} {y : MethodName} {cy : ByteArray} {mL fr lo n : Nat} {rt : Option FieldType} {As rest : List Value} {r1 : Option Value} {M1 : Mem} (hm : MV own idx C y cy mL rt n) (hd : decode cc pc = .ok (.invokevirtual idx, 3))
    (ho : o ∈ cs) (hs : shp o = .inl (ci, cf)) (hcl : vwCl[ci]? = some (C, T, N)) (hc : Con cs l D ad ca y cy mL rt fr lo (.ref (ad o) :: As) M r1 M1) (hst : st = As.reverse ++ .ref (ad o) :: rest) (hn : As.length = n) (hR : fr + 1 ≤ R.frames ∧ 8 + (mL + 11) + lo ≤ R.locals) (hrest : (rest.map fun v => v.category).sum ≤ 8) (hz : kc + 0 ≤ R.cells ∧ ks + 0 ≤ R.slots) (kk : V M1 (pc + 3) lv (r1.toList ++ rest)) : V M pc lv st := by
  obtain ⟨p, e, s, m, args, below, meth, c0, ⟨hx, hb, hml, hown, ht, hK, hI, hN, -, -, hA, -⟩, rfl⟩ := h
  intro H locs ls hP hS hl
  subst hst
  obtain ⟨m1, m2, m3, m4, m5, m6, m7, m8, m9⟩ := hm
  have hG : GoodIn TG (wsV own idx C y (.code y cy mL rt :: TG)) := by
    intro w hw
    unfold wsV at hw
    rcases List.mem_append.mp hw with h1 | h1
    · simp only [List.mem_cons, List.not_mem_nil, or_false] at h1
      rcases h1 with rfl | rfl | rfl | rfl
      · exact tg_self _ m1
      · exact tg_self _ m2
      · exact tg_self _ m3
      · exact tg_self _ m4
    · exact tg_cons m5 w h1
  obtain ⟨kq, hkq, he⟩ := ws_at (ad := ad) (ca := ca) (M := M) ho
  rw [ce_o hs] at he
  exact r_run (va_runV (As := As) (rest := rest) ⟨hx, hb, hml, hown, ht⟩ hc (cwV n ht hG rfl rfl rfl ⟨m6, m7, m8, m9⟩ hR) ⟨sw_blind, va_recv hK hP hcl he, sw_call hP hK hI hN _⟩ rfl hn hl.1 rfl (lv_room hrest) hd hz) hA hS (fun H1 locs1 hP1 hS1 => kk H1 locs1 ls hP1 hS1 hl)
theorem r_callS (h : MchG cs l R D ad ca own cc nL ret AA Ex kc ks QQ V) {idx : Nat} {y : MethodName} {cy : ByteArray} {mL fr lo n : Nat} {rt : Option FieldType} {As rest : List Value} {r1 : Option Value} {M1 : Mem} (hm : MS own idx y cy mL rt n) (hd : decode cc pc = .ok (.invokestatic idx, 3))
    (hc : Con cs l D ad ca y cy mL rt fr lo As M r1 M1) (hst : st = As.reverse ++ rest) (hn : As.length = n) (hR : fr + 1 ≤ R.frames ∧ 8 + (mL + 11) + lo ≤ R.locals) (hrest : (rest.map fun v => v.category).sum ≤ 8) (hz : kc + 0 ≤ R.cells ∧ ks + 0 ≤ R.slots) (kk : V M1 (pc + 3) lv (r1.toList ++ rest)) : V M pc lv st := by
  obtain ⟨p, e, s, m, args, below, meth, c0, ⟨hx, hb, hml, hown, ht, hK, hI, hN, -, -, hA, -⟩, rfl⟩ := h
  intro H locs ls hP hS hl
  subst hst
  obtain ⟨m1, m2, m3, m5, m7, m8, m9⟩ := hm
  rcases m1 with m1 | ⟨host, m1⟩
  · have hG : GoodIn TG (va_wsS own idx y (.code y cy mL rt :: TG)) := by
      intro w hw
      unfold va_wsS at hw
      rcases List.mem_append.mp hw with h1 | h1
      · simp only [List.mem_cons, List.not_mem_nil, or_false] at h1
        rcases h1 with rfl | rfl | rfl
        · exact tg_self _ m1
        · exact tg_self _ m2
        · exact tg_self _ m3
      · exact tg_cons m5 w h1
    exact r_run (va_runS (As := As) (rest := rest) ⟨hx, hb, hml, hown, ht⟩ hc (va_cwS n ht hG rfl rfl rfl ⟨m7, m8, m9⟩ hR) ⟨sw_blind, sw_call hP hK hI hN _⟩ rfl hn hl.1 rfl (lv_room hrest) hd hz) hA hS (fun H1 locs1 hP1 hS1 => kk H1 locs1 ls hP1 hS1 hl)
  · exact r_run (va_runSN (As := As) (rest := rest) ⟨hx, hb, hml, hown, ht⟩ hc ⟨va_cnB n ht (tg_cons m5) rfl rfl rfl (hN _ m1 rfl) (ht _ m3) ⟨m7, m8, m9⟩ hR, ht _ m2, trivial⟩ ⟨sw_blind, sw_call hP hK hI hN _⟩ rfl hn hl.1 rfl (lv_room hrest) hd hz) hA hS (fun H1 locs1 hP1 hS1 => kk H1 locs1 ls hP1 hS1 hl)
/-- System.arraycopy of ints, of longs -/
theorem r_copyi (h : MchG cs l R D ad ca own cc nL ret AA Ex kc ks QQ V) {idx c0 c1 n0 n1 : Nat} {sp dp n : Int32} (hw : Cond.methodLink own idx arraycopyName ∈ TG ∧ Cond.native arraycopyName ∈ TG ∧ Cond.static arraycopyName ∈ TG ∧ Cond.initialized "java/lang/System" ∈ TG) (hd : decode cc pc = .ok (.invokestatic idx, 3)) (hc0 : c0 ∈ cs) (hc1 : c1 ∈ cs) (hs0 : shp c0 = .inr (0, n0)) (hs1 : shp c1 = .inr (0, n1))
    (h1 : ¬ sp < 0) (h2 : ¬ dp < 0) (h3 : ¬ n < 0) (h4 : sp.toNatClampNeg + n.toNatClampNeg ≤ n0) (h5 : dp.toNatClampNeg + n.toNatClampNeg ≤ n1) (hf : 1 ≤ R.frames) (hlo : (st.map fun v => v.category).sum + (nativeFrameWords "java/lang/System" "arraycopy" 5 + 11) ≤ R.locals)
    (kk : V (pIr M c1 (va_cpy (M.1 c0) (M.1 c1) sp.toNatClampNeg dp.toNatClampNeg n.toNatClampNeg)) (pc + 3) lv st) : V M pc lv (.int n :: .int dp :: .ref (ad c1) :: .int sp :: .ref (ad c0) :: st) := by
  obtain ⟨p, e, s, m, args, below, meth, c, ⟨hx, hb, hml, hown, ht, hK, hI, hN, -, -, hA, -⟩, rfl⟩ := h
  intro H locs ls hP hS hl
  obtain ⟨t0, g0⟩ := ty_at (ca := ca) hc0 hs0
  obtain ⟨t1, g1⟩ := ty_at (ca := ca) hc1 hs1
  obtain ⟨k0, hk0, he0⟩ := ws_at (ad := ad) (ca := ca) (M := M) hc0
  obtain ⟨k1, hk1, he1⟩ := ws_at (ad := ad) (ca := ca) (M := M) hc1
  refine va_copyi hx hb (hml.trans hl.1.symm) hown (ht _ hw.1) (ht _ hw.2.1) (ht _ hw.2.2.1) (ht _ hw.2.2.2) hK hP (ws_DA hI hA) hS k0 k1 t0 t1 (f := M.1 c0) (g := M.1 c1) (by rw [he0, ce_a hs0]; rfl) (by rw [he1, ce_a hs1]; rfl) g0 g1 rfl h1 h2 h3 h4 h5 (fun _ _ => rfl) hf hlo hd (fun H1 locs1 hP1 _ hS1 => ?_)
  have e1 : (wsM cs ad ca M).set k1 (ad c1, .inl (ca c1, n1, .inl (va_cpy (M.1 c0) (M.1 c1) sp.toNatClampNeg dp.toNatClampNeg n.toNatClampNeg))) = wsM cs ad ca (pIr M c1 (va_cpy (M.1 c0) (M.1 c1) sp.toNatClampNeg dp.toNatClampNeg n.toNatClampNeg)) := by
    refine ws_set hI.1 hk1 (by rw [ce_a hs1]; simp [rowE, pIr]) (fun a ha => by simp [pIr, ha])
  rw [e1] at hP1
  exact kk H1 locs1 ls hP1 hS1 hl
theorem r_copyl (h : MchG cs l R D ad ca own cc nL ret AA Ex kc ks QQ V) {idx c0 n0 : Nat} {sp dp n : Int32} (hw : Cond.methodLink own idx arraycopyName ∈ TG ∧ Cond.native arraycopyName ∈ TG ∧ Cond.static arraycopyName ∈ TG ∧ Cond.initialized "java/lang/System" ∈ TG) (hd : decode cc pc = .ok (.invokestatic idx, 3)) (hc0 : c0 ∈ cs) (hs0 : shp c0 = .inr (3, n0))
    (h1 : ¬ sp < 0) (h2 : ¬ dp < 0) (h3 : ¬ n < 0) (h4 : sp.toNatClampNeg + n.toNatClampNeg ≤ n0) (h5 : dp.toNatClampNeg + n.toNatClampNeg ≤ n0) (hf : 1 ≤ R.frames) (hlo : (st.map fun v => v.category).sum + (nativeFrameWords "java/lang/System" "arraycopy" 5 + 11) ≤ R.locals)
    (kk : V (pLr M c0 (va_cpy (M.2 c0) (M.2 c0) sp.toNatClampNeg dp.toNatClampNeg n.toNatClampNeg)) (pc + 3) lv st) : V M pc lv (.int n :: .int dp :: .ref (ad c0) :: .int sp :: .ref (ad c0) :: st) := by
  obtain ⟨p, e, s, m, args, below, meth, c, ⟨hx, hb, hml, hown, ht, hK, hI, hN, -, -, hA, -⟩, rfl⟩ := h
  intro H locs ls hP hS hl
  obtain ⟨t0, g0⟩ := ty_at (ca := ca) hc0 hs0
  obtain ⟨k0, hk0, he0⟩ := ws_at (ad := ad) (ca := ca) (M := M) hc0
  refine va_copyl hx hb (hml.trans hl.1.symm) hown (ht _ hw.1) (ht _ hw.2.1) (ht _ hw.2.2.1) (ht _ hw.2.2.2) hK hP (ws_DA hI hA) hS k0 k0 t0 t0 (f := M.2 c0) (g := M.2 c0) (by rw [he0, ce_a hs0]; rfl) (by rw [he0, ce_a hs0]; rfl) g0 g0 rfl h1 h2 h3 h4 h5 (fun _ _ => rfl) hf hlo hd (fun H1 locs1 hP1 _ hS1 => ?_)
  have e1 : (wsM cs ad ca M).set k0 (ad c0, .inl (ca c0, n0, .inr (.inl (va_cpy (M.2 c0) (M.2 c0) sp.toNatClampNeg dp.toNatClampNeg n.toNatClampNeg)))) = wsM cs ad ca (pLr M c0 (va_cpy (M.2 c0) (M.2 c0) sp.toNatClampNeg dp.toNatClampNeg n.toNatClampNeg)) := by
    refine ws_set hI.1 hk0 (by rw [ce_a hs0]; simp [rowE, pLr]) (fun a ha => by simp [pLr, ha])
  rw [e1] at hP1
  exact kk H1 locs1 ls hP1 hS1 hl
end RULES
/-! words of the pure functions that the bytecode is read as -/
def gd {α : Type} (b : Bool) (x : Option α) : Option α := if b then x else none
theorem gd_some {α : Type} {b : Bool} {x : Option α} {y : α} (h : gd b x = some y) : b = true ∧ x = some y := by
  unfold gd at h
  split at h
  · exact ⟨by assumption, h⟩
  · cases h
theorem gd_t {α : Type} {b : Bool} {x : Option α} (h : b = true) : gd b x = x := if_pos h
def nm {α β : Type} (a : α) (f : α → Option β) : Option β := f a
theorem nm_app {α β : Type} {x e : α} {f : α → Option β} {y : β} (ex : x = e) (h : nm e f = some y) : f x = some y := by rw [ex]; exact h
def bd {α β : Type} (o : Option (α × Mem)) (f : α → Mem → Option β) : Option β := match o with
  | none => none
  | some (x, M) => f x M
theorem bd_some {α β : Type} {o : Option (α × Mem)} {f : α → Mem → Option β} {y : β} (h : bd o f = some y) : ∃ x M, o = some (x, M) ∧ f x M = some y := by
  cases o with
  | none => cases h
  | some p => exact ⟨p.1, p.2, rfl, h⟩
def bv {β : Type} (o : Option Mem) (f : Mem → Option β) : Option β := match o with
  | none => none
  | some M => f M
theorem bv_some {β : Type} {o : Option Mem} {f : Mem → Option β} {y : β} (h : bv o f = some y) : ∃ M, o = some M ∧ f M = some y := by
  cases o with
  | none => cases h
  | some p => exact ⟨p, rfl, h⟩
def isb (v : Int32) : Bool := decide (v = 0) || decide (v = 1)
theorem isb_or {v : Int32} (h : isb v = true) : v = 0 ∨ v = 1 := by
  simpa [isb] using h
def nz (v : Int32) : Bool := decide (¬ v = 0)
theorem nz_ne {v : Int32} (h : nz v = true) : ¬ v = 0 := by simpa [nz] using h
def nzl (v : Int64) : Bool := decide (¬ v = 0)
theorem nzl_ne {v : Int64} (h : nzl v = true) : ¬ v = 0 := by simpa [nzl] using h
def isLaw (k : Nat) : Bool := decide (6 ≤ k) && decide (k < 12)
theorem isLaw_sh {k : Nat} (h : isLaw k = true) : k ∈ csA ∧ shp k = .inl (2, [0, 0, 0, 0, 0, 0]) := by
  simp only [isLaw, Bool.and_eq_true, decide_eq_true_eq] at h
  refine ⟨List.mem_range.mpr (by unfold NC; omega), ?_⟩
  rcases (show k = 6 ∨ k = 7 ∨ k = 8 ∨ k = 9 ∨ k = 10 ∨ k = 11 by omega) with rfl | rfl | rfl | rfl | rfl | rfl <;> rfl
