/-! The system's own layer: its cells by numbers, a memory that is two tables (ints, longs), and the machine's steps over it. -/
/-- ints (and booleans, bytes) by cell and place; longs likewise -/
abbrev Mem : Type := (Nat → Nat → Int32) × (Nat → Nat → Int64)
/-- how many cells there are -/
def NC : Nat := 56
/-- a cell's form: an object (its class, its fields: 0 int, 1 long, k + 2 the cell k), or an array (0 ints, 1 booleans, 2 bytes, 3 longs, 4 LAWS; its length) -/
def shp : Nat → (Nat × List Nat) ⊕ (Nat × Nat)
  | 0 => .inl (8, [3, 5, 6, 17, 23, 26, 32, 36, 37, 0, 38, 0, 0])
  | 1 => .inl (7, [4, 0])
  | 2 => .inr (2, 500)
  | 3 => .inl (1, [0, 0, 0, 0, 1])
  | 4 => .inl (3, [5, 7, 0, 14, 15, 16, 0])
  | 5 => .inr (4, 6)
  | 6 => .inl (2, [0, 0, 0, 0, 0, 0])
  | 7 => .inl (2, [0, 0, 0, 0, 0, 0])
  | 8 => .inl (2, [0, 0, 0, 0, 0, 0])
  | 9 => .inl (2, [0, 0, 0, 0, 0, 0])
  | 10 => .inl (2, [0, 0, 0, 0, 0, 0])
  | 11 => .inl (2, [0, 0, 0, 0, 0, 0])
  | 12 => .inr (0, 4)
  | 13 => .inr (3, 1081)
  | 14 => .inr (3, 3721)
  | 15 => .inl (4, [5, 18, 0, 0, 0, 19, 20, 21, 22])
  | 16 => .inr (3, 300)
  | 17 => .inr (0, 300)
  | 18 => .inr (0, 300)
  | 19 => .inr (0, 300)
  | 20 => .inr (0, 300)
  | 21 => .inl (6, [5, 6, 17, 24, 25, 0, 0, 0, 1, 0, 0, 0, 0, 0])
  | 22 => .inr (3, 62)
  | 23 => .inr (0, 62)
  | 24 => .inl (0, [5, 6, 27, 28, 0, 29, 30, 31, 0])
  | 25 => .inr (0, 488)
  | 26 => .inr (0, 488)
  | 27 => .inr (0, 61)
  | 28 => .inr (0, 61)
  | 29 => .inr (3, 488)
  | 30 => .inl (5, [5, 33, 0, 1, 34, 35])
  | 31 => .inr (0, 3661)
  | 32 => .inr (0, 121)
  | 33 => .inr (0, 61)
  | 34 => .inr (3, 8)
  | 35 => .inr (0, 4)
  | 36 => .inr (0, 61)
  | 37 => .inl (9, [0, 40, 0, 0, 0, 0, 0, 41, 42, 43, 44, 45, 46, 0, 47, 48, 0, 0, 0, 0, 49, 50, 51, 0, 0, 0, 52, 53, 54, 0, 55, 56])
  | 38 => .inr (0, 500)
  | 39 => .inr (1, 1020)
  | 40 => .inr (0, 6)
  | 41 => .inr (0, 6)
  | 42 => .inr (0, 6)
  | 43 => .inr (0, 6)
  | 44 => .inr (1, 6)
  | 45 => .inr (0, 4)
  | 46 => .inr (0, 4)
  | 47 => .inr (0, 61)
  | 48 => .inr (0, 600)
  | 49 => .inr (1, 18000)
  | 50 => .inr (0, 60)
  | 51 => .inr (0, 61)
  | 52 => .inr (0, 62)
  | 53 => .inr (0, 3700)
  | 54 => .inr (1, 60)
  | _ => .inr (3, 1)
def shTy : Nat → FieldType
  | 0 => .int
  | 1 => .boolean
  | 2 => .byte
  | 3 => .long
  | _ => .object "SumBench$Law"
def fv1 (ad : Nat → Nat) (M : Mem) (c j : Nat) : Nat → Value
  | 0 => .int (M.1 c j)
  | 1 => .long (M.2 c j)
  | k + 2 => .ref (ad k)
def fvL (ad : Nat → Nat) (M : Mem) (c : Nat) : Nat → List Nat → List Value
  | _, [] => []
  | j, k :: r => fv1 ad M c j k :: fvL ad M c (j + 1) r
theorem fv1_ext {ad : Nat → Nat} {M M' : Mem} {c j : Nat} (h1 : M.1 c j = M'.1 c j) (h2 : M.2 c j = M'.2 c j) : ∀ k, fv1 ad M c j k = fv1 ad M' c j k
  | 0 => by simp [fv1, h1]
  | 1 => by simp [fv1, h2]
  | k + 2 => rfl
def rowE (ad : Nat → Nat) (M : Mem) (c t : Nat) : (Nat → Int32) ⊕ (Nat → Int64) ⊕ (Nat → UInt32) ⊕ (Nat → UInt64) ⊕ (Nat → Option Nat) :=
  match t with
  | 3 => .inr (.inl (M.2 c))
  | 4 => .inr (.inr (.inr (.inr (fun i => some (ad (6 + i))))))
  | _ => .inl (M.1 c)
def celE (ad : Nat → Nat) (ca : Nat → ClassId) (M : Mem) (c : Nat) : va_E := match shp c with
  | .inl x => .inr (x.1, fvL ad M c 0 x.2)
  | .inr x => .inl (ca c, x.2, rowE ad M c x.1)
/-- the world of the cells cs -/
def wsM (cs : List Nat) (ad : Nat → Nat) (ca : Nat → ClassId) (M : Mem) : va_W := cs.map (fun c => (ad c, celE ad ca M c))
def tyM (cs : List Nat) (ca : Nat → ClassId) : List (ClassId × FieldType) := cs.filterMap (fun c => match shp c with | .inl _ => none | .inr x => some (ca c, shTy x.1))
/-- all cells -/
def csA : List Nat := List.range NC
/-- the cells are apart -/
def CS (cs : List Nat) (ad : Nat → Nat) : Prop := cs.Nodup ∧ ∀ i ∈ cs, ∀ j ∈ cs, ad i = ad j → i = j
/-- the words of the tables that stay good; those of nest mates -/
def TG : List Cond := lw_tbl.filter goodWord
def nstW : Cond → Bool
  | .fieldLinkNest _ _ _ _ _ _ => true
  | .methodLinkNest _ _ _ _ => true
  | .declares _ => true
  | .castable _ _ => true
  | _ => false
theorem nst_tab {w : Cond} (h : nstW w = true) : w.onTables = true := by
  cases w <;> first | rfl | cases h
theorem cast_alike {a b : String} {s U : State} {A A' : Array Value} (h : s.vm.Alike U.vm) (hc : (Cond.castable a b).before A s = true) : (Cond.castable a b).before A' U = true := by
  obtain ⟨c3, c4, h3, h4, h5⟩ := Cond.castable_spec hc
  simp only [Cond.before, Cond.holds, Cond.value]
  rw [h.findClass, h.findClass, h3, h4]
  simp only [h.assignable, h5]
  rfl
def NW (U : State) : Prop := ∀ w ∈ lw_tbl, nstW w = true → va_Nw w U
theorem NW.warm {s U : State} (hW : s.WarmedH U.vm) (h : NW s) : NW U := by
  intro w hw hn
  have h1 := h w hw hn
  cases w with
  | fieldLinkNest a i b n d h => exact va_Nw.warmF hW h1
  | methodLinkNest a i x h => exact va_Nw.warmM hW h1
  | declares x => exact va_Nw.warmD hW h1
  | castable a b => exact cast_alike hW.alike h1
  | _ => cases hn
theorem NW.same {s U : State} (e : s.vm = U.vm) (h : NW s) : NW U := fun w hw hn => va_Nw.same (nst_tab hn) e (h w hw hn)
theorem NW.use {s : State} (h : NW s) {w : Cond} (hw : w ∈ lw_tbl) (hn : nstW w = true) {A : Array Value} : w.before A s = true := va_Nw.use (nst_tab hn) (h w hw hn)
theorem tg_of {w : Cond} (hm : w ∈ lw_tbl) (hg : goodWord w = true) : w ∈ TG := List.mem_filter.mpr ⟨hm, hg⟩
theorem tb_i (i : Nat) {w : Cond} (h : tables_1[i]? = some w) : w ∈ lw_tbl := List.mem_append_right _ (List.mem_of_getElem? h)
theorem tg_i (i : Nat) {w : Cond} (h : tables_1[i]? = some w) (hg : goodWord w = true) : w ∈ TG := tg_of (tb_i i h) hg
theorem tg_s (i : Nat) {w : Cond} (h : (k2_sels lw_privs)[i]? = some w) (hg : goodWord w = true) : w ∈ TG := tg_of (List.mem_append_left _ (List.mem_of_getElem? h)) hg
theorem tg_good : ∀ w ∈ TG, goodWord w = true := fun _ h => (List.mem_filter.mp h).2
theorem tg_self : GoodIn TG TG := fun w h => ⟨h, good_of_word (tg_good w h)⟩
/-- the world of the system's cells cs -/
def SW (cs : List Nat) (D : va_G) (ad : Nat → Nat) (ca : Nat → ClassId) (M : Mem) (U : State) : Prop :=
  va_P D vwCl (wsM cs ad ca M) U.heap ∧ va_K D vwCl (tyM cs ca) U ∧ CS cs ad ∧ NW U
def AD (cs : List Nat) (ad : Nat → Nat) : Nat → Prop := fun q => ∃ k ∈ cs, q = ad k
theorem ws_at {cs : List Nat} {ad : Nat → Nat} {ca : Nat → ClassId} {M : Mem} {c : Nat} (h : c ∈ cs) : ∃ k : Nat, cs[k]? = some c ∧ (wsM cs ad ca M)[k]? = some (ad c, celE ad ca M c) := by
  obtain ⟨k, hk⟩ := List.getElem?_of_mem h
  exact ⟨k, hk, by simp [wsM, List.getElem?_map, hk]⟩
theorem ws_lt {cs : List Nat} {ad : Nat → Nat} {ca : Nat → ClassId} {M : Mem} {k : Nat} {q : Nat × va_E} (h : (wsM cs ad ca M)[k]? = some q) : ∃ c, cs[k]? = some c ∧ c ∈ cs ∧ q = (ad c, celE ad ca M c) := by
  simp only [wsM, List.getElem?_map] at h
  cases hc : cs[k]? with
  | none => rw [hc] at h; cases h
  | some c =>
    rw [hc] at h
    exact ⟨c, rfl, List.mem_of_getElem? hc, (Option.some.inj h).symm⟩
theorem nd_inj {cs : List Nat} (h : cs.Nodup) {i j c : Nat} (hi : cs[i]? = some c) (hj : cs[j]? = some c) : i = j := by
  obtain ⟨li, ei⟩ := List.getElem?_eq_some_iff.mp hi
  obtain ⟨lj, ej⟩ := List.getElem?_eq_some_iff.mp hj
  have hp := List.pairwise_iff_getElem.mp h
  rcases Nat.lt_trichotomy i j with q | q | q
  · exact absurd (ei.trans ej.symm) (hp i j li lj q)
  · exact q
  · exact absurd (ej.trans ei.symm) (hp j i lj li q)
theorem ws_D {cs : List Nat} {ad : Nat → Nat} {ca : Nat → ClassId} {M : Mem} (hi : CS cs ad) : va_D (AD cs ad) (wsM cs ad ca M) := by
  refine ⟨fun i j p q hp hq e => ?_, fun k q hq => ?_⟩
  · obtain ⟨c1, g1, m1, rfl⟩ := ws_lt hp
    obtain ⟨c2, g2, m2, rfl⟩ := ws_lt hq
    have e1 := hi.2 c1 m1 c2 m2 e
    subst e1
    exact nd_inj hi.1 g1 g2
  · obtain ⟨c1, g1, m1, rfl⟩ := ws_lt hq
    exact ⟨c1, m1, rfl⟩
theorem ce_o {ad : Nat → Nat} {ca : Nat → ClassId} {M : Mem} {c ci : Nat} {cs : List Nat} (h : shp c = .inl (ci, cs)) : celE ad ca M c = .inr (ci, fvL ad M c 0 cs) := by simp [celE, h]
theorem ce_a {ad : Nat → Nat} {ca : Nat → ClassId} {M : Mem} {c t n : Nat} (h : shp c = .inr (t, n)) : celE ad ca M c = .inl (ca c, n, rowE ad M c t) := by simp [celE, h]
theorem ty_at {cs : List Nat} {ca : Nat → ClassId} {c t n : Nat} (hc : c ∈ cs) (h : shp c = .inr (t, n)) : ∃ k : Nat, (tyM cs ca)[k]? = some (ca c, shTy t) := by
  have hm : (ca c, shTy t) ∈ tyM cs ca := List.mem_filterMap.mpr ⟨c, hc, by simp [h]⟩
  exact List.getElem?_of_mem hm
theorem fv_get {ad : Nat → Nat} {M : Mem} {c : Nat} : ∀ {cs : List Nat} {b j k : Nat}, cs[j]? = some k → (fvL ad M c b cs)[j]? = some (fv1 ad M c (b + j) k)
  | [], b, j, k, h => by simp at h
  | x :: r, b, 0, k, h => by
    simp at h
    subst h
    simp [fvL]
  | x :: r, b, j + 1, k, h => by
    simp at h
    have h1 := fv_get (ad := ad) (M := M) (c := c) (cs := r) (b := b + 1) (j := j) h
    simp only [fvL, List.getElem?_cons_succ]
    rw [h1]
    have e : b + 1 + j = b + (j + 1) := by omega
    rw [e]
theorem fv_len {ad : Nat → Nat} {M : Mem} {c : Nat} : ∀ (cs : List Nat) (b : Nat), (fvL ad M c b cs).length = cs.length
  | [], _ => rfl
  | _ :: r, b => by simp [fvL, fv_len r (b + 1)]
/-- a store of an int, of a long -/
def pI (M : Mem) (c j : Nat) (v : Int32) : Mem := (fun a => if a = c then upd (M.1 c) j v else M.1 a, M.2)
def pL (M : Mem) (c j : Nat) (v : Int64) : Mem := (M.1, fun a => if a = c then vp_updL (M.2 c) j v else M.2 a)
/-- a whole row of ints, of longs -/
def pIr (M : Mem) (c : Nat) (f : Nat → Int32) : Mem := (fun a => if a = c then f else M.1 a, M.2)
def pLr (M : Mem) (c : Nat) (f : Nat → Int64) : Mem := (M.1, fun a => if a = c then f else M.2 a)
theorem fv_ext {ad : Nat → Nat} {M M' : Mem} {c : Nat} (h1 : M.1 c = M'.1 c) (h2 : M.2 c = M'.2 c) : ∀ (cs : List Nat) (b : Nat), fvL ad M c b cs = fvL ad M' c b cs
  | [], _ => rfl
  | x :: r, b => by
    show fv1 ad M c b x :: fvL ad M c (b + 1) r = fv1 ad M' c b x :: fvL ad M' c (b + 1) r
    rw [fv_ext h1 h2 r (b + 1), fv1_ext (congrFun h1 b) (congrFun h2 b) x]
theorem fv_above {ad : Nat → Nat} {M M' : Mem} {c b : Nat} (h1 : ∀ i, b < i → M.1 c i = M'.1 c i) (h2 : ∀ i, b < i → M.2 c i = M'.2 c i) : ∀ (l : List Nat) (k : Nat), b < k → fvL ad M c k l = fvL ad M' c k l
  | [], _, _ => rfl
  | x :: r, k, hk => by
    show fv1 ad M c k x :: fvL ad M c (k + 1) r = fv1 ad M' c k x :: fvL ad M' c (k + 1) r
    rw [fv_above h1 h2 r (k + 1) (by omega), fv1_ext (h1 k hk) (h2 k hk) x]
theorem ce_ext {ad : Nat → Nat} {ca : Nat → ClassId} {M M' : Mem} {c : Nat} (h1 : M.1 c = M'.1 c) (h2 : M.2 c = M'.2 c) : celE ad ca M c = celE ad ca M' c := by
  unfold celE
  split
  · rw [fv_ext h1 h2]
  · unfold rowE
    rw [h1, h2]
theorem fv_setI {ad : Nat → Nat} {M M' : Mem} {c : Nat} {v : Int32} : ∀ (cs : List Nat) (b j : Nat), cs[j]? = some 0 → (∀ i, M'.1 c i = if i = b + j then v else M.1 c i) → M'.2 c = M.2 c → (fvL ad M c b cs).set j (.int v) = fvL ad M' c b cs
  | [], b, j, h, _, _ => by simp at h
  | x :: r, b, 0, h, h1, h2 => by
    simp at h
    subst h
    show Value.int v :: fvL ad M c (b + 1) r = Value.int (M'.1 c b) :: fvL ad M' c (b + 1) r
    have e1 : M'.1 c b = v := by rw [h1 b]; simp
    have k1 : ∀ i, b < i → M.1 c i = M'.1 c i := fun i hi => by rw [h1 i, if_neg (by omega)]
    have k2 : ∀ i, b < i → M.2 c i = M'.2 c i := fun i _ => by rw [h2]
    rw [e1, fv_above (M := M) (M' := M') k1 k2 r (b + 1) (by omega)]
  | x :: r, b, j + 1, h, h1, h2 => by
    simp at h
    have k1 : ∀ i, M'.1 c i = if i = b + 1 + j then v else M.1 c i := fun i => by
      rw [h1 i]
      have e : b + (j + 1) = b + 1 + j := by omega
      rw [e]
    have ih := fv_setI (ad := ad) (M := M) (M' := M') (c := c) (v := v) r (b + 1) j h k1 h2
    have e3 : M.1 c b = M'.1 c b := by rw [h1 b, if_neg (by omega)]
    have e4 : M.2 c b = M'.2 c b := by rw [h2]
    show fv1 ad M c b x :: (fvL ad M c (b + 1) r).set j (.int v) = fv1 ad M' c b x :: fvL ad M' c (b + 1) r
    rw [ih, fv1_ext e3 e4 x]
theorem fv_setL {ad : Nat → Nat} {M M' : Mem} {c : Nat} {v : Int64} : ∀ (cs : List Nat) (b j : Nat), cs[j]? = some 1 → (∀ i, M'.2 c i = if i = b + j then v else M.2 c i) → M'.1 c = M.1 c → (fvL ad M c b cs).set j (.long v) = fvL ad M' c b cs
  | [], b, j, h, _, _ => by simp at h
  | x :: r, b, 0, h, h1, h2 => by
    simp at h
    subst h
    show Value.long v :: fvL ad M c (b + 1) r = Value.long (M'.2 c b) :: fvL ad M' c (b + 1) r
    have e1 : M'.2 c b = v := by rw [h1 b]; simp
    have k1 : ∀ i, b < i → M.2 c i = M'.2 c i := fun i hi => by rw [h1 i, if_neg (by omega)]
    have k2 : ∀ i, b < i → M.1 c i = M'.1 c i := fun i _ => by rw [h2]
    rw [e1, fv_above (M := M) (M' := M') k2 k1 r (b + 1) (by omega)]
  | x :: r, b, j + 1, h, h1, h2 => by
    simp at h
    have k1 : ∀ i, M'.2 c i = if i = b + 1 + j then v else M.2 c i := fun i => by
      rw [h1 i]
      have e : b + (j + 1) = b + 1 + j := by omega
      rw [e]
    have ih := fv_setL (ad := ad) (M := M) (M' := M') (c := c) (v := v) r (b + 1) j h k1 h2
    have e3 : M.2 c b = M'.2 c b := by rw [h1 b, if_neg (by omega)]
    have e4 : M.1 c b = M'.1 c b := by rw [h2]
    show fv1 ad M c b x :: (fvL ad M c (b + 1) r).set j (.long v) = fv1 ad M' c b x :: fvL ad M' c (b + 1) r
    rw [ih, fv1_ext e4 e3 x]
/-- a cell set anew is the world of the changed memory -/
theorem ws_set {cs : List Nat} {ad : Nat → Nat} {ca : Nat → ClassId} {M M' : Mem} {c k : Nat} {e : va_E} (hn : cs.Nodup) (hk : cs[k]? = some c) (he : e = celE ad ca M' c) (ho : ∀ a, a ≠ c → M.1 a = M'.1 a ∧ M.2 a = M'.2 a) : (wsM cs ad ca M).set k (ad c, e) = wsM cs ad ca M' := by
  subst he
  have hkl : k < cs.length := (List.getElem?_eq_some_iff.mp hk).1
  apply List.ext_getElem?
  intro i
  by_cases hik : i = k
  · subst hik
    rw [List.getElem?_set_self (by simpa [wsM] using hkl)]
    simp [wsM, List.getElem?_map, hk]
  · rw [List.getElem?_set_ne (Ne.symm hik)]
    simp only [wsM, List.getElem?_map]
    cases hc : cs[i]? with
    | none => rfl
    | some d =>
      have hd : d ≠ c := fun q => by
        subst q
        exact hik (nd_inj hn hc hk)
      simp only [Option.map_some]
      rw [ce_ext (ho d hd).1 (ho d hd).2]
