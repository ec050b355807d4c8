/-! MEMORY OF NUMBERED CELLS: after the constructors the layout never changes; a cell is a number, its address is 'ad' of it -/
/-- the tables' words that every warmed state keeps -/
def tbG : List Cond := lw_tbl.filter goodWord
theorem tbG_of {v : Cond} (h : v ∈ lw_tbl) (hg : goodWord v = true) : v ∈ tbG := List.mem_filter.mpr ⟨h, hg⟩
abbrev Mem : Type := (Nat → Nat → Int32) × (Nat → Nat → Int64)
def sI (M : Mem) (c i : Nat) (v : Int32) : Mem := (fun a b => if a = c ∧ b = i then v else M.1 a b, M.2)
def sL (M : Mem) (c i : Nat) (v : Int64) : Mem := (M.1, fun a b => if a = c ∧ b = i then v else M.2 a b)
theorem sI_1 (M : Mem) (c i : Nat) (v : Int32) (a b : Nat) : (sI M c i v).1 a b = if a = c ∧ b = i then v else M.1 a b := rfl
theorem sI_2 (M : Mem) (c i : Nat) (v : Int32) : (sI M c i v).2 = M.2 := rfl
theorem sL_1 (M : Mem) (c i : Nat) (v : Int64) : (sL M c i v).1 = M.1 := rfl
theorem sL_2 (M : Mem) (c i : Nat) (v : Int64) (a b : Nat) : (sL M c i v).2 a b = if a = c ∧ b = i then v else M.2 a b := rfl
theorem sI_row (M : Mem) (c i : Nat) (v : Int32) : (sI M c i v).1 c = upd (M.1 c) i v := by
  funext b
  simp [sI, upd]
theorem sI_off (M : Mem) (c i : Nat) (v : Int32) {a : Nat} (h : a ≠ c) : (sI M c i v).1 a = M.1 a := by
  funext b
  simp [sI, h]
theorem sL_row (M : Mem) (c i : Nat) (v : Int64) : (sL M c i v).2 c = vp_updL (M.2 c) i v := by
  funext b
  simp [sL, vp_updL]
theorem sL_off (M : Mem) (c i : Nat) (v : Int64) {a : Nat} (h : a ≠ c) : (sL M c i v).2 a = M.2 a := by
  funext b
  simp [sL, h]
/-- the world's own numbers: class numbers and slots; array classes (0 int, 1 long, 2 boolean, 3 .. of references); addresses of the cells; the address of the static table -/
abbrev Wp : Type := va_G × (Nat → ClassId) × (Nat → Nat) × Nat
abbrev Wad (w : Wp) (c : Nat) : Nat := w.2.2.1 c
/-- a shape: how many cells, and what stands in each -/
abbrev Sh : Type := Nat × (Wp → Mem → Nat → va_E)
def wd (h : Sh) (w : Wp) (M : Mem) : va_W := (List.range h.1).map fun c => (w.2.2.1 c, h.2 w M c)
def wA (h : Sh) (w : Wp) : Nat → Prop := fun q => ∃ c, c < h.1 ∧ q = w.2.2.1 c
def ShLoc (h : Sh) : Prop := ∀ (w : Wp) (M N : Mem) (c : Nat), N.1 c = M.1 c → N.2 c = M.2 c → h.2 w N c = h.2 w M c
def tysW (w : Wp) : List (ClassId × FieldType) := [(w.2.1 0, .int), (w.2.1 1, .long), (w.2.1 2, .boolean), (w.2.1 3, .object "MeetHouse$Family"), (w.2.1 4, .object "MeetHouse$Thing"), (w.2.1 5, .object "MeetHouse$Act")]
def WL (k : Nat) : Int64 := match k with
  | 0 => 6148914691236517205
  | 1 => 3689348814741910323
  | 2 => 1085102592571150095
  | 3 => 71777214294589695
  | 4 => 281470681808895
  | _ => 4294967295
def WInj (h : Sh) (w : Wp) : Prop := ∀ i j, i < h.1 → j < h.1 → w.2.2.1 i = w.2.2.1 j → i = j
def Kw (h : Sh) (w : Wp) (U : State) : Prop := va_K w.1 vwCl (tysW w) U ∧ WInj h w ∧ va_Z "MeetHouse$Pot" "WITHOUT" "[J" (.ref w.2.2.2) (wA h w) U U.heap ∧ va_T .long w.2.2.2 6 (fun j => .long (WL j)) (wA h w) U U.heap
theorem Kw.moved {h : Sh} {w : Wp} {u U : State} (k : Kw h w u) (hvm : u.vm.Alike U.vm) (hq : ∀ a : Nat, a < u.heap.size → ¬ wA h w a → U.heap[a]? = u.heap[a]?) : Kw h w U :=
  ⟨k.1.moved hvm, k.2.1, (k.2.2.1.moved hvm).kept hq, (k.2.2.2.moved hvm).kept hq⟩
theorem wd_at {h : Sh} {w : Wp} {M : Mem} {c : Nat} (hc : c < h.1) : (wd h w M)[c]? = some (w.2.2.1 c, h.2 w M c) := by
  simp [wd, List.getElem?_map, List.getElem?_range hc]
theorem wd_lt {h : Sh} {w : Wp} {M : Mem} {c : Nat} {q : Nat × va_E} (hc : (wd h w M)[c]? = some q) : c < h.1 := by
  have h1 := (List.getElem?_eq_some_iff.mp hc).1
  simpa [wd] using h1
theorem wd_D {h : Sh} {w : Wp} {M : Mem} (hi : WInj h w) : va_D (wA h w) (wd h w M) := by
  refine ⟨fun i j p q h1 h2 e => ?_, fun k q hk => ?_⟩
  · have l1 := wd_lt h1
    have l2 := wd_lt h2
    rw [wd_at l1] at h1
    rw [wd_at l2] at h2
    cases h1; cases h2
    exact hi i j l1 l2 e
  · have l1 := wd_lt hk
    rw [wd_at l1] at hk
    cases hk
    exact ⟨k, l1, rfl⟩
theorem wd_set {h : Sh} {w : Wp} {M N : Mem} {c : Nat} {e : va_E} (hl : ShLoc h) (hc : c < h.1) (he : h.2 w N c = e) (h1 : ∀ a, a ≠ c → N.1 a = M.1 a) (h2 : ∀ a, a ≠ c → N.2 a = M.2 a) : (wd h w M).set c (w.2.2.1 c, e) = wd h w N := by
  apply List.ext_getElem?
  intro i
  by_cases hi : i = c
  · subst hi
    rw [wd_at hc, List.getElem?_set_self (by simpa [wd] using hc), he]
  · rw [List.getElem?_set_ne (fun q => hi q.symm)]
    by_cases hb : i < h.1
    · rw [wd_at hb, wd_at hb, hl w M N i (h1 i hi) (h2 i hi)]
    · rw [List.getElem?_eq_none (by simpa [wd] using hb), List.getElem?_eq_none (by simpa [wd] using hb)]
/-- a walk's own things -/
abbrev Cx : Type := Program × Launch × Env × Room × State × MethodId × Array Value × List Frame × Method × Code
def rmd (d : Nat) : Room := { frames := d, cells := 0, slots := 0, locals := 64 * d }
def Qct (h : Sh) (w : Wp) (r : Option Value × Mem) : Array Value → State → Outcome → State → Prop := fun _ st oc t => (oc = .returned r.1 ∧ va_P w.1 vwCl (wd h w r.2) t.heap) ∧ va_F (wA h w) st t
def wsy (y : MethodName) (cc : ByteArray) (n : Nat) (rt : Option FieldType) : List Cond := Cond.code y cc n rt :: tbG
/-- A METHOD'S CONTRACT: at memory M, with the values av, it answers v and leaves memory M' -/
def Ct (h : Sh) (w : Wp) (l : Launch) (y : MethodName) (cc : ByteArray) (n : Nat) (rt : Option FieldType) (d : Nat) (av : List Value) (M : Mem) (r : Option Value × Mem) : Prop :=
  Met l y (wsy y cc n rt) (rmd d) (va_Pc av (fun U => va_P w.1 vwCl (wd h w M) U.heap ∧ Kw h w U)) (Qct h w r) 0 0 (wA h w)
/-- what stands fast in a walk -/
def Gd (h : Sh) (w : Wp) (x : Cx) (own : String) (cc : ByteArray) (n : Nat) (rt : Option FieldType) (d : Nat) : Prop :=
  x.1.tables.exec = Jvm.exec ∧ x.2.2.2.2.2.2.2.2.2.code = cc ∧ x.2.2.2.2.2.2.2.2.2.maxLocals = n ∧ x.2.2.2.2.1.vm.findClass own = some x.2.2.2.2.2.1.cls ∧ (∀ w ∈ tbG, w.before x.2.2.2.2.2.2.1 x.2.2.2.2.1 = true) ∧ Kw h w x.2.2.2.2.1 ∧ x.2.2.2.2.2.2.2.2.1.sig.returnType = rt ∧ x.2.2.2.2.2.2.2.2.1.locks = false ∧ x.2.2.2.1 = rmd d ∧ ShLoc h
/-- THE WALK: at pc, with locals L, stack st, memory M, the method comes to its end with r -/
def U (h : Sh) (w : Wp) (x : Cx) (r : Option Value × Mem) (M : Mem) (pc : Nat) (L : List (Nat × Value)) (st : List Value) : Prop :=
  ∀ (H : Heap) (locs : List Loc) (ls : Array Slot), va_P w.1 vwCl (wd h w M) H → va_S (wA h w) x.2.2.2.2.1.heap H locs → lv_has ls x.2.2.2.2.2.2.2.2.2.maxLocals L →
    W x.1 x.2.1 x.2.2.1 x.2.2.2.1 x.2.2.2.2.1 x.2.2.2.2.2.1 x.2.2.2.2.2.2.1 x.2.2.2.2.2.2.2.1 x.2.2.2.2.2.2.2.2.1 x.2.2.2.2.2.2.2.2.2 H locs 0 0 (MQ x.2.2.2.2.2.2.2.1 (Qct h w r) x.2.2.2.2.2.2.1 x.2.2.2.2.1 0 0 (wA h w)) (F0 x.2.2.2.2.2.1 pc ls st)
theorem ct_of {h : Sh} {w : Wp} {l : Launch} {y : MethodName} {cc : ByteArray} {n : Nat} {rt : Option FieldType} {d : Nat} {av : List Value} {M : Mem} {r : Option Value × Mem} {L : List (Nat × Value)} (hs : ShLoc h) (hy : plainName y.cls = true) (hn : (lg_sl av).length ≤ n) (hL : lv_args 0 av = L)
    (body : ∀ x : Cx, x.2.1 = l → Gd h w x y.cls cc n rt d → U h w x r M 0 L []) : Ct h w l y cc n rt d av M r := by
  refine Met.ofW (cc := cc) (maxL := n) (ret := rt) hy rfl ?_
  intro p e s m args below meth c s₁ B hml hv
  obtain ⟨rfl, hP, hK⟩ := hv
  have hts := atoms_spec (ws := wsy y cc n rt) B.pre
  have g : Gd h w (p, l, e, rmd d, s, m, av.toArray, below, meth, c) y.cls cc n rt d := ⟨B.exec, B.bytes, hml, findClass_of_methodNamed B.named, fun v hv => hts v (List.mem_cons_of_mem _ hv), hK, B.returns, B.notSynchronized, rfl, hs⟩
  have hl := lv_entry av hn
  rw [lg_entry_eq]
  rw [hL] at hl
  have hb := body _ rfl g s.heap [] _ hP va_S.rf (by show lv_has _ c.maxLocals L; rw [hml]; exact hl)
  exact hb
section URows
variable {h : Sh} {w : Wp} {x : Cx} {r : Option Value × Mem} {M : Mem} {pc : Nat} {L : List (Nat × Value)} {st : List Value} {own : String} {cc : ByteArray} {n : Nat} {rt : Option FieldType} {d : Nat}
theorem u_iconst (g : Gd h w x own cc n rt d) {k : Int} {v : Int32} (hd : decode cc pc = .ok (.iconst k, 1)) (hv : Int32.ofInt k = v) (kk : U h w x r M (pc + 1) L (.int v :: st)) : U h w x r M pc L st := fun H locs ls hP hS hl => lv_iconst g.1 g.2.1 hd hv (kk H locs ls hP hS hl)
theorem u_bipush (g : Gd h w x own cc n rt d) {k : Int} {v : Int32} (hd : decode cc pc = .ok (.bipush k, 2)) (hv : (Int8.ofInt k).toInt32 = v) (kk : U h w x r M (pc + 2) L (.int v :: st)) : U h w x r M pc L st := fun H locs ls hP hS hl => lv_bipush g.1 g.2.1 hd hv (kk H locs ls hP hS hl)
theorem u_sipush (g : Gd h w x own cc n rt d) {k : Int} {v : Int32} (hd : decode cc pc = .ok (.sipush k, 3)) (hv : (Int16.ofInt k).toInt32 = v) (kk : U h w x r M (pc + 3) L (.int v :: st)) : U h w x r M pc L st := fun H locs ls hP hS hl => lv_sipush g.1 g.2.1 hd hv (kk H locs ls hP hS hl)
theorem u_lconst (g : Gd h w x own cc n rt d) {k : Fin 2} {v : Int64} (hd : decode cc pc = .ok (.lconst k, 1)) (hv : Int64.ofNat (k : Nat) = v) (kk : U h w x r M (pc + 1) L (.long v :: st)) : U h w x r M pc L st := fun H locs ls hP hS hl => lv_lconst g.1 g.2.1 hd hv (kk H locs ls hP hS hl)
theorem u_null (g : Gd h w x own cc n rt d) (hd : decode cc pc = .ok (.aconst_null, 1)) (kk : U h w x r M (pc + 1) L (.null :: st)) : U h w x r M pc L st := fun H locs ls hP hS hl => lv_null g.1 g.2.1 hd (kk H locs ls hP hS hl)
theorem u_ldc (g : Gd h w x own cc n rt d) {i : Nat} {v : Int32} (hw : Cond.constant own i v ∈ tbG) (hd : decode cc pc = .ok (.ldc i, 2)) (kk : U h w x r M (pc + 2) L (.int v :: st)) : U h w x r M pc L st := fun H locs ls hP hS hl => lv_ldc g.1 g.2.1 g.2.2.2.1 (g.2.2.2.2.1 _ hw) hd (kk H locs ls hP hS hl)
theorem u_ldc_w (g : Gd h w x own cc n rt d) {i : Nat} {v : Int32} (hw : Cond.constant own i v ∈ tbG) (hd : decode cc pc = .ok (.ldc_w i, 3)) (kk : U h w x r M (pc + 3) L (.int v :: st)) : U h w x r M pc L st := fun H locs ls hP hS hl => lv_ldcw g.1 g.2.1 g.2.2.2.1 (g.2.2.2.2.1 _ hw) hd (kk H locs ls hP hS hl)
theorem u_ldc2_w (g : Gd h w x own cc n rt d) {i : Nat} {v : Int64} (hw : Cond.constantLong own i v ∈ tbG) (hd : decode cc pc = .ok (.ldc2_w i, 3)) (kk : U h w x r M (pc + 3) L (.long v :: st)) : U h w x r M pc L st := fun H locs ls hP hS hl => lv_ldc2 g.1 g.2.1 g.2.2.2.1 (g.2.2.2.2.1 _ hw) hd (kk H locs ls hP hS hl)
theorem u_iload_n (g : Gd h w x own cc n rt d) (q : Nat) {k : Fin 4} {v : Int32} (hd : decode cc pc = .ok (.iload_n k, 1)) (hL : L[q]? = some ((k : Nat), .int v)) (kk : U h w x r M (pc + 1) L (.int v :: st)) : U h w x r M pc L st := fun H locs ls hP hS hl => lv_iload_n g.1 g.2.1 hd rfl (lv_at hl q hL) (kk H locs ls hP hS hl)
theorem u_iload (g : Gd h w x own cc n rt d) (q : Nat) {k : Nat} {v : Int32} (hd : decode cc pc = .ok (.iload k, 2)) (hL : L[q]? = some (k, .int v)) (kk : U h w x r M (pc + 2) L (.int v :: st)) : U h w x r M pc L st := fun H locs ls hP hS hl => lv_iload g.1 g.2.1 hd (lv_at hl q hL) (kk H locs ls hP hS hl)
theorem u_lload_n (g : Gd h w x own cc n rt d) (q : Nat) {k : Fin 4} {v : Int64} (hd : decode cc pc = .ok (.lload_n k, 1)) (hL : L[q]? = some ((k : Nat), .long v)) (kk : U h w x r M (pc + 1) L (.long v :: st)) : U h w x r M pc L st := fun H locs ls hP hS hl => lv_lload_n g.1 g.2.1 hd rfl (lv_at hl q hL) (kk H locs ls hP hS hl)
theorem u_lload (g : Gd h w x own cc n rt d) (q : Nat) {k : Nat} {v : Int64} (hd : decode cc pc = .ok (.lload k, 2)) (hL : L[q]? = some (k, .long v)) (kk : U h w x r M (pc + 2) L (.long v :: st)) : U h w x r M pc L st := fun H locs ls hP hS hl => lv_lload g.1 g.2.1 hd (lv_at hl q hL) (kk H locs ls hP hS hl)
theorem u_aload_n (g : Gd h w x own cc n rt d) (q : Nat) {k : Fin 4} {v : Nat} (hd : decode cc pc = .ok (.aload_n k, 1)) (hL : L[q]? = some ((k : Nat), .ref v)) (kk : U h w x r M (pc + 1) L (.ref v :: st)) : U h w x r M pc L st := fun H locs ls hP hS hl => lv_aload_n g.1 g.2.1 hd rfl (lv_at hl q hL) (kk H locs ls hP hS hl)
theorem u_aload (g : Gd h w x own cc n rt d) (q : Nat) {k : Nat} {v : Nat} (hd : decode cc pc = .ok (.aload k, 2)) (hL : L[q]? = some (k, .ref v)) (kk : U h w x r M (pc + 2) L (.ref v :: st)) : U h w x r M pc L st := fun H locs ls hP hS hl => lv_aload g.1 g.2.1 hd (lv_at hl q hL) (kk H locs ls hP hS hl)
theorem u_aload_nN (g : Gd h w x own cc n rt d) (q : Nat) {k : Fin 4} (hd : decode cc pc = .ok (.aload_n k, 1)) (hL : L[q]? = some ((k : Nat), .null)) (kk : U h w x r M (pc + 1) L (.null :: st)) : U h w x r M pc L st := fun H locs ls hP hS hl => lv_aload_nN g.1 g.2.1 hd rfl (lv_at hl q hL) (kk H locs ls hP hS hl)
theorem u_aloadN (g : Gd h w x own cc n rt d) (q : Nat) {k : Nat} (hd : decode cc pc = .ok (.aload k, 2)) (hL : L[q]? = some (k, .null)) (kk : U h w x r M (pc + 2) L (.null :: st)) : U h w x r M pc L st := fun H locs ls hP hS hl => lv_aloadN g.1 g.2.1 hd (lv_at hl q hL) (kk H locs ls hP hS hl)
theorem u_istore_n (g : Gd h w x own cc n rt d) {k : Fin 4} {v : Int32} (L' : List (Nat × Value)) (hd : decode cc pc = .ok (.istore_n k, 1)) (hn : (k : Nat) < n) (hL : ((k : Nat), Value.int v) :: L.filter (fun q => !(q.1 == (k : Nat)) && !(q.1 + 1 == (k : Nat) && q.2.category == 2)) = L') (kk : U h w x r M (pc + 1) L' st) : U h w x r M pc L (.int v :: st) := fun H locs ls hP hS hl => lv_istore_n g.1 g.2.1 hd rfl hl (by rw [g.2.2.1]; exact hn) hL (fun ls' hl' => kk H locs ls' hP hS hl')
theorem u_istore (g : Gd h w x own cc n rt d) {k : Nat} {v : Int32} (L' : List (Nat × Value)) (hd : decode cc pc = .ok (.istore k, 2)) (hn : k < n) (hL : (k, Value.int v) :: L.filter (fun q => !(q.1 == k) && !(q.1 + 1 == k && q.2.category == 2)) = L') (kk : U h w x r M (pc + 2) L' st) : U h w x r M pc L (.int v :: st) := fun H locs ls hP hS hl => lv_istore g.1 g.2.1 hd hl (by rw [g.2.2.1]; exact hn) hL (fun ls' hl' => kk H locs ls' hP hS hl')
theorem u_lstore_n (g : Gd h w x own cc n rt d) {k : Fin 4} {v : Int64} (L' : List (Nat × Value)) (hd : decode cc pc = .ok (.lstore_n k, 1)) (hn : (k : Nat) + 1 < n) (hL : ((k : Nat), Value.long v) :: L.filter (fun q => !(q.1 == (k : Nat)) && (!(q.1 == (k : Nat) + 1) && !(q.1 + 1 == (k : Nat) && q.2.category == 2))) = L') (kk : U h w x r M (pc + 1) L' st) : U h w x r M pc L (.long v :: st) := fun H locs ls hP hS hl => lv_lstore_n g.1 g.2.1 hd rfl hl (by rw [g.2.2.1]; exact hn) hL (fun ls' hl' => kk H locs ls' hP hS hl')
theorem u_lstore (g : Gd h w x own cc n rt d) {k : Nat} {v : Int64} (L' : List (Nat × Value)) (hd : decode cc pc = .ok (.lstore k, 2)) (hn : k + 1 < n) (hL : (k, Value.long v) :: L.filter (fun q => !(q.1 == k) && (!(q.1 == k + 1) && !(q.1 + 1 == k && q.2.category == 2))) = L') (kk : U h w x r M (pc + 2) L' st) : U h w x r M pc L (.long v :: st) := fun H locs ls hP hS hl => lv_lstore g.1 g.2.1 hd hl (by rw [g.2.2.1]; exact hn) hL (fun ls' hl' => kk H locs ls' hP hS hl')
theorem u_astore_n (g : Gd h w x own cc n rt d) {k : Fin 4} {v : Nat} (L' : List (Nat × Value)) (hd : decode cc pc = .ok (.astore_n k, 1)) (hn : (k : Nat) < n) (hL : ((k : Nat), Value.ref v) :: L.filter (fun q => !(q.1 == (k : Nat)) && !(q.1 + 1 == (k : Nat) && q.2.category == 2)) = L') (kk : U h w x r M (pc + 1) L' st) : U h w x r M pc L (.ref v :: st) := fun H locs ls hP hS hl => lv_astore_n g.1 g.2.1 hd rfl hl (by rw [g.2.2.1]; exact hn) hL (fun ls' hl' => kk H locs ls' hP hS hl')
theorem u_astore (g : Gd h w x own cc n rt d) {k : Nat} {v : Nat} (L' : List (Nat × Value)) (hd : decode cc pc = .ok (.astore k, 2)) (hn : k < n) (hL : (k, Value.ref v) :: L.filter (fun q => !(q.1 == k) && !(q.1 + 1 == k && q.2.category == 2)) = L') (kk : U h w x r M (pc + 2) L' st) : U h w x r M pc L (.ref v :: st) := fun H locs ls hP hS hl => lv_astore g.1 g.2.1 hd hl (by rw [g.2.2.1]; exact hn) hL (fun ls' hl' => kk H locs ls' hP hS hl')
theorem u_astore_nN (g : Gd h w x own cc n rt d) {k : Fin 4} (L' : List (Nat × Value)) (hd : decode cc pc = .ok (.astore_n k, 1)) (hn : (k : Nat) < n) (hL : ((k : Nat), Value.null) :: L.filter (fun q => !(q.1 == (k : Nat)) && !(q.1 + 1 == (k : Nat) && q.2.category == 2)) = L') (kk : U h w x r M (pc + 1) L' st) : U h w x r M pc L (.null :: st) := fun H locs ls hP hS hl => lv_astore_nN g.1 g.2.1 hd rfl hl (by rw [g.2.2.1]; exact hn) hL (fun ls' hl' => kk H locs ls' hP hS hl')
theorem u_astoreN (g : Gd h w x own cc n rt d) {k : Nat} (L' : List (Nat × Value)) (hd : decode cc pc = .ok (.astore k, 2)) (hn : k < n) (hL : (k, Value.null) :: L.filter (fun q => !(q.1 == k) && !(q.1 + 1 == k && q.2.category == 2)) = L') (kk : U h w x r M (pc + 2) L' st) : U h w x r M pc L (.null :: st) := fun H locs ls hP hS hl => lv_astoreN g.1 g.2.1 hd hl (by rw [g.2.2.1]; exact hn) hL (fun ls' hl' => kk H locs ls' hP hS hl')
theorem u_iinc (g : Gd h w x own cc n rt d) (q : Nat) {k : Nat} {i : Int} {u v : Int32} (L' : List (Nat × Value)) (hd : decode cc pc = .ok (.iinc k i, 3)) (hq : L[q]? = some (k, .int u)) (hv : u + Int32.ofInt i = v) (hn : k < n) (hL : (k, Value.int v) :: L.filter (fun q => !(q.1 == k) && !(q.1 + 1 == k && q.2.category == 2)) = L') (kk : U h w x r M (pc + 3) L' st) : U h w x r M pc L st := fun H locs ls hP hS hl => lv_iinc g.1 g.2.1 hd hl hq hv (by rw [g.2.2.1]; exact hn) hL (fun ls' hl' => kk H locs ls' hP hS hl')
theorem u_sub (ks : List Nat) {L' : List (Nat × Value)} (hL : lv_pick L ks = L') (kk : U h w x r M pc L' st) : U h w x r M pc L st := fun H locs ls hP hS hl => kk H locs ls hP hS (lv_sub hl ks hL)
theorem u_iadd (g : Gd h w x own cc n rt d) {a b : Int32} (hd : decode cc pc = .ok (.iadd, 1)) (kk : U h w x r M (pc + 1) L (.int (a + b) :: st)) : U h w x r M pc L (.int b :: .int a :: st) := fun H locs ls hP hS hl => lv_iadd g.1 g.2.1 hd (kk H locs ls hP hS hl)
theorem u_isub (g : Gd h w x own cc n rt d) {a b : Int32} (hd : decode cc pc = .ok (.isub, 1)) (kk : U h w x r M (pc + 1) L (.int (a - b) :: st)) : U h w x r M pc L (.int b :: .int a :: st) := fun H locs ls hP hS hl => lv_isub g.1 g.2.1 hd (kk H locs ls hP hS hl)
theorem u_imul (g : Gd h w x own cc n rt d) {a b : Int32} (hd : decode cc pc = .ok (.imul, 1)) (kk : U h w x r M (pc + 1) L (.int (a * b) :: st)) : U h w x r M pc L (.int b :: .int a :: st) := fun H locs ls hP hS hl => lv_imul g.1 g.2.1 hd (kk H locs ls hP hS hl)
theorem u_iand (g : Gd h w x own cc n rt d) {a b : Int32} (hd : decode cc pc = .ok (.iand, 1)) (kk : U h w x r M (pc + 1) L (.int (a &&& b) :: st)) : U h w x r M pc L (.int b :: .int a :: st) := fun H locs ls hP hS hl => lv_iand g.1 g.2.1 hd (kk H locs ls hP hS hl)
theorem u_ior (g : Gd h w x own cc n rt d) {a b : Int32} (hd : decode cc pc = .ok (.ior, 1)) (kk : U h w x r M (pc + 1) L (.int (a ||| b) :: st)) : U h w x r M pc L (.int b :: .int a :: st) := fun H locs ls hP hS hl => lv_ior g.1 g.2.1 hd (kk H locs ls hP hS hl)
theorem u_ixor (g : Gd h w x own cc n rt d) {a b : Int32} (hd : decode cc pc = .ok (.ixor, 1)) (kk : U h w x r M (pc + 1) L (.int (a ^^^ b) :: st)) : U h w x r M pc L (.int b :: .int a :: st) := fun H locs ls hP hS hl => lv_ixor g.1 g.2.1 hd (kk H locs ls hP hS hl)
theorem u_idiv (g : Gd h w x own cc n rt d) {a b : Int32} (hd : decode cc pc = .ok (.idiv, 1)) (hne : ¬ b = 0) (kk : U h w x r M (pc + 1) L (.int (a / b) :: st)) : U h w x r M pc L (.int b :: .int a :: st) := fun H locs ls hP hS hl => lv_idiv g.1 g.2.1 hd hne (kk H locs ls hP hS hl)
theorem u_irem (g : Gd h w x own cc n rt d) {a b : Int32} (hd : decode cc pc = .ok (.irem, 1)) (hne : ¬ b = 0) (kk : U h w x r M (pc + 1) L (.int (a - a / b * b) :: st)) : U h w x r M pc L (.int b :: .int a :: st) := fun H locs ls hP hS hl => lv_irem g.1 g.2.1 hd hne (kk H locs ls hP hS hl)
theorem u_ineg (g : Gd h w x own cc n rt d) {a : Int32} (hd : decode cc pc = .ok (.ineg, 1)) (kk : U h w x r M (pc + 1) L (.int (-a) :: st)) : U h w x r M pc L (.int a :: st) := fun H locs ls hP hS hl => lv_ineg g.1 g.2.1 hd (kk H locs ls hP hS hl)
theorem u_ishl (g : Gd h w x own cc n rt d) {a b : Int32} (hd : decode cc pc = .ok (.ishl, 1)) (kk : U h w x r M (pc + 1) L (.int (a <<< (b &&& 31)) :: st)) : U h w x r M pc L (.int b :: .int a :: st) := fun H locs ls hP hS hl => lv_ishl g.1 g.2.1 hd (kk H locs ls hP hS hl)
theorem u_ishr (g : Gd h w x own cc n rt d) {a b : Int32} (hd : decode cc pc = .ok (.ishr, 1)) (kk : U h w x r M (pc + 1) L (.int (a >>> (b &&& 31)) :: st)) : U h w x r M pc L (.int b :: .int a :: st) := fun H locs ls hP hS hl => lv_ishr g.1 g.2.1 hd (kk H locs ls hP hS hl)
def iushr (a b : Int32) : Int32 := (a.toUInt32 >>> (b.toUInt32 &&& Int32.toUInt32 31)).toInt32
def lushr (a : Int64) (b : Int32) : Int64 := (a.toUInt64 >>> (b.toInt64.toUInt64 &&& Int64.toUInt64 63)).toInt64
def lshl (a : Int64) (b : Int32) : Int64 := a <<< (b.toInt64 &&& 63)
theorem u_iushr (g : Gd h w x own cc n rt d) {a b : Int32} (hd : decode cc pc = .ok (.iushr, 1)) (kk : U h w x r M (pc + 1) L (.int (iushr a b) :: st)) : U h w x r M pc L (.int b :: .int a :: st) := fun H locs ls hP hS hl => lv_iushr g.1 g.2.1 hd rfl (kk H locs ls hP hS hl)
theorem u_lushr (g : Gd h w x own cc n rt d) {a : Int64} {b : Int32} (hd : decode cc pc = .ok (.lushr, 1)) (kk : U h w x r M (pc + 1) L (.long (lushr a b) :: st)) : U h w x r M pc L (.int b :: .long a :: st) := fun H locs ls hP hS hl => lv_lushr g.1 g.2.1 hd rfl (kk H locs ls hP hS hl)
theorem u_lshl (g : Gd h w x own cc n rt d) {a : Int64} {b : Int32} (hd : decode cc pc = .ok (.lshl, 1)) (kk : U h w x r M (pc + 1) L (.long (lshl a b) :: st)) : U h w x r M pc L (.int b :: .long a :: st) := fun H locs ls hP hS hl => lv_lshl g.1 g.2.1 hd rfl (kk H locs ls hP hS hl)
theorem u_ladd (g : Gd h w x own cc n rt d) {a b : Int64} (hd : decode cc pc = .ok (.ladd, 1)) (kk : U h w x r M (pc + 1) L (.long (a + b) :: st)) : U h w x r M pc L (.long b :: .long a :: st) := fun H locs ls hP hS hl => lv_ladd g.1 g.2.1 hd (kk H locs ls hP hS hl)
theorem u_lsub (g : Gd h w x own cc n rt d) {a b : Int64} (hd : decode cc pc = .ok (.lsub, 1)) (kk : U h w x r M (pc + 1) L (.long (a - b) :: st)) : U h w x r M pc L (.long b :: .long a :: st) := fun H locs ls hP hS hl => lv_lsub g.1 g.2.1 hd (kk H locs ls hP hS hl)
theorem u_lmul (g : Gd h w x own cc n rt d) {a b : Int64} (hd : decode cc pc = .ok (.lmul, 1)) (kk : U h w x r M (pc + 1) L (.long (a * b) :: st)) : U h w x r M pc L (.long b :: .long a :: st) := fun H locs ls hP hS hl => lv_lmul g.1 g.2.1 hd (kk H locs ls hP hS hl)
theorem u_land (g : Gd h w x own cc n rt d) {a b : Int64} (hd : decode cc pc = .ok (.land, 1)) (kk : U h w x r M (pc + 1) L (.long (a &&& b) :: st)) : U h w x r M pc L (.long b :: .long a :: st) := fun H locs ls hP hS hl => lv_land g.1 g.2.1 hd (kk H locs ls hP hS hl)
theorem u_lor (g : Gd h w x own cc n rt d) {a b : Int64} (hd : decode cc pc = .ok (.lor, 1)) (kk : U h w x r M (pc + 1) L (.long (a ||| b) :: st)) : U h w x r M pc L (.long b :: .long a :: st) := fun H locs ls hP hS hl => lv_lor g.1 g.2.1 hd (kk H locs ls hP hS hl)
theorem u_lxor (g : Gd h w x own cc n rt d) {a b : Int64} (hd : decode cc pc = .ok (.lxor, 1)) (kk : U h w x r M (pc + 1) L (.long (a ^^^ b) :: st)) : U h w x r M pc L (.long b :: .long a :: st) := fun H locs ls hP hS hl => lv_lxor g.1 g.2.1 hd (kk H locs ls hP hS hl)
theorem u_lneg (g : Gd h w x own cc n rt d) {a : Int64} (hd : decode cc pc = .ok (.lneg, 1)) (kk : U h w x r M (pc + 1) L (.long (-a) :: st)) : U h w x r M pc L (.long a :: st) := fun H locs ls hP hS hl => lv_lneg g.1 g.2.1 hd (kk H locs ls hP hS hl)
theorem u_i2l (g : Gd h w x own cc n rt d) {a : Int32} (hd : decode cc pc = .ok (.i2l, 1)) (kk : U h w x r M (pc + 1) L (.long a.toInt64 :: st)) : U h w x r M pc L (.int a :: st) := fun H locs ls hP hS hl => lv_i2l g.1 g.2.1 hd rfl (kk H locs ls hP hS hl)
theorem u_l2i (g : Gd h w x own cc n rt d) {a : Int64} (hd : decode cc pc = .ok (.l2i, 1)) (kk : U h w x r M (pc + 1) L (.int a.toInt32 :: st)) : U h w x r M pc L (.long a :: st) := fun H locs ls hP hS hl => lv_l2i g.1 g.2.1 hd rfl (kk H locs ls hP hS hl)
theorem u_lcmp (g : Gd h w x own cc n rt d) {a b : Int64} (hd : decode cc pc = .ok (.lcmp, 1)) (kk : U h w x r M (pc + 1) L (.int (lg_cmp a b) :: st)) : U h w x r M pc L (.long b :: .long a :: st) := fun H locs ls hP hS hl => W.lcmp g.1 g.2.1 hd (kk H locs ls hP hS hl)
theorem u_dup (g : Gd h w x own cc n rt d) {v : Value} (hd : decode cc pc = .ok (.dup, 1)) (hv : v.category = 1) (kk : U h w x r M (pc + 1) L (v :: v :: st)) : U h w x r M pc L (v :: st) := fun H locs ls hP hS hl => lv_dup g.1 g.2.1 hd hv (kk H locs ls hP hS hl)
theorem u_pop (g : Gd h w x own cc n rt d) {v : Value} (hd : decode cc pc = .ok (.pop, 1)) (hv : v.category = 1) (kk : U h w x r M (pc + 1) L st) : U h w x r M pc L (v :: st) := fun H locs ls hP hS hl => lv_pop g.1 g.2.1 hd hv (kk H locs ls hP hS hl)
theorem u_dup2 (g : Gd h w x own cc n rt d) {u v : Value} (hd : decode cc pc = .ok (.dup2, 1)) (hu : u.category = 1) (hv : v.category = 1) (kk : U h w x r M (pc + 1) L (u :: v :: u :: v :: st)) : U h w x r M pc L (u :: v :: st) := fun H locs ls hP hS hl => lv_dup2_11 g.1 g.2.1 hd hu hv (kk H locs ls hP hS hl)
theorem u_goto (g : Gd h w x own cc n rt d) {off : Int} (tgt : Nat) (hd : decode cc pc = .ok (.goto off, 3)) (ht : (pc : Int) + off = (tgt : Int)) (kk : U h w x r M tgt L st) : U h w x r M pc L st := fun H locs ls hP hS hl => lv_goto g.1 g.2.1 hd ht (kk H locs ls hP hS hl)
theorem u_if_eq (g : Gd h w x own cc n rt d) {a : Int32} {off : Int} (tgt : Nat) (hd : decode cc pc = .ok (.ifCond .eq off, 3)) (ht : (pc : Int) + off = (tgt : Int)) (kt : a = 0 → U h w x r M tgt L st) (kf : ¬ a = 0 → U h w x r M (pc + 3) L st) : U h w x r M pc L (.int a :: st) := fun H locs ls hP hS hl => lv_if_eq g.1 g.2.1 hd ht (fun q => kt q H locs ls hP hS hl) (fun q => kf q H locs ls hP hS hl)
theorem u_if_ne (g : Gd h w x own cc n rt d) {a : Int32} {off : Int} (tgt : Nat) (hd : decode cc pc = .ok (.ifCond .ne off, 3)) (ht : (pc : Int) + off = (tgt : Int)) (kt : ¬ a = 0 → U h w x r M tgt L st) (kf : a = 0 → U h w x r M (pc + 3) L st) : U h w x r M pc L (.int a :: st) := fun H locs ls hP hS hl => lv_if_ne g.1 g.2.1 hd ht (fun q => kt q H locs ls hP hS hl) (fun q => kf (by first | exact q | exact Classical.not_not.mp q) H locs ls hP hS hl)
theorem u_if_lt (g : Gd h w x own cc n rt d) {a : Int32} {off : Int} (tgt : Nat) (hd : decode cc pc = .ok (.ifCond .lt off, 3)) (ht : (pc : Int) + off = (tgt : Int)) (kt : a < 0 → U h w x r M tgt L st) (kf : ¬ a < 0 → U h w x r M (pc + 3) L st) : U h w x r M pc L (.int a :: st) := fun H locs ls hP hS hl => lv_if_lt g.1 g.2.1 hd ht (fun q => kt q H locs ls hP hS hl) (fun q => kf q H locs ls hP hS hl)
theorem u_if_ge (g : Gd h w x own cc n rt d) {a : Int32} {off : Int} (tgt : Nat) (hd : decode cc pc = .ok (.ifCond .ge off, 3)) (ht : (pc : Int) + off = (tgt : Int)) (kt : 0 ≤ a → U h w x r M tgt L st) (kf : ¬ 0 ≤ a → U h w x r M (pc + 3) L st) : U h w x r M pc L (.int a :: st) := fun H locs ls hP hS hl => lv_if_ge g.1 g.2.1 hd ht (fun q => kt q H locs ls hP hS hl) (fun q => kf q H locs ls hP hS hl)
theorem u_if_gt (g : Gd h w x own cc n rt d) {a : Int32} {off : Int} (tgt : Nat) (hd : decode cc pc = .ok (.ifCond .gt off, 3)) (ht : (pc : Int) + off = (tgt : Int)) (kt : 0 < a → U h w x r M tgt L st) (kf : ¬ 0 < a → U h w x r M (pc + 3) L st) : U h w x r M pc L (.int a :: st) := fun H locs ls hP hS hl => lv_if_gt g.1 g.2.1 hd ht (fun q => kt q H locs ls hP hS hl) (fun q => kf q H locs ls hP hS hl)
theorem u_if_le (g : Gd h w x own cc n rt d) {a : Int32} {off : Int} (tgt : Nat) (hd : decode cc pc = .ok (.ifCond .le off, 3)) (ht : (pc : Int) + off = (tgt : Int)) (kt : a ≤ 0 → U h w x r M tgt L st) (kf : ¬ a ≤ 0 → U h w x r M (pc + 3) L st) : U h w x r M pc L (.int a :: st) := fun H locs ls hP hS hl => lv_if_le g.1 g.2.1 hd ht (fun q => kt q H locs ls hP hS hl) (fun q => kf q H locs ls hP hS hl)
theorem u_icmp_eq (g : Gd h w x own cc n rt d) {a b : Int32} {off : Int} (tgt : Nat) (hd : decode cc pc = .ok (.if_icmp .eq off, 3)) (ht : (pc : Int) + off = (tgt : Int)) (kt : a = b → U h w x r M tgt L st) (kf : ¬ a = b → U h w x r M (pc + 3) L st) : U h w x r M pc L (.int b :: .int a :: st) := fun H locs ls hP hS hl => lv_icmp_eq g.1 g.2.1 hd ht (fun q => kt q H locs ls hP hS hl) (fun q => kf q H locs ls hP hS hl)
theorem u_icmp_ne (g : Gd h w x own cc n rt d) {a b : Int32} {off : Int} (tgt : Nat) (hd : decode cc pc = .ok (.if_icmp .ne off, 3)) (ht : (pc : Int) + off = (tgt : Int)) (kt : ¬ a = b → U h w x r M tgt L st) (kf : a = b → U h w x r M (pc + 3) L st) : U h w x r M pc L (.int b :: .int a :: st) := fun H locs ls hP hS hl => lv_icmp_ne g.1 g.2.1 hd ht (fun q => kt q H locs ls hP hS hl) (fun q => kf (by first | exact q | exact Classical.not_not.mp q) H locs ls hP hS hl)
theorem u_icmp_lt (g : Gd h w x own cc n rt d) {a b : Int32} {off : Int} (tgt : Nat) (hd : decode cc pc = .ok (.if_icmp .lt off, 3)) (ht : (pc : Int) + off = (tgt : Int)) (kt : a < b → U h w x r M tgt L st) (kf : ¬ a < b → U h w x r M (pc + 3) L st) : U h w x r M pc L (.int b :: .int a :: st) := fun H locs ls hP hS hl => lv_icmp_lt g.1 g.2.1 hd ht (fun q => kt q H locs ls hP hS hl) (fun q => kf q H locs ls hP hS hl)
theorem u_icmp_ge (g : Gd h w x own cc n rt d) {a b : Int32} {off : Int} (tgt : Nat) (hd : decode cc pc = .ok (.if_icmp .ge off, 3)) (ht : (pc : Int) + off = (tgt : Int)) (kt : b ≤ a → U h w x r M tgt L st) (kf : ¬ b ≤ a → U h w x r M (pc + 3) L st) : U h w x r M pc L (.int b :: .int a :: st) := fun H locs ls hP hS hl => lv_icmp_ge g.1 g.2.1 hd ht (fun q => kt q H locs ls hP hS hl) (fun q => kf q H locs ls hP hS hl)
theorem u_icmp_gt (g : Gd h w x own cc n rt d) {a b : Int32} {off : Int} (tgt : Nat) (hd : decode cc pc = .ok (.if_icmp .gt off, 3)) (ht : (pc : Int) + off = (tgt : Int)) (kt : b < a → U h w x r M tgt L st) (kf : ¬ b < a → U h w x r M (pc + 3) L st) : U h w x r M pc L (.int b :: .int a :: st) := fun H locs ls hP hS hl => lv_icmp_gt g.1 g.2.1 hd ht (fun q => kt q H locs ls hP hS hl) (fun q => kf q H locs ls hP hS hl)
theorem u_icmp_le (g : Gd h w x own cc n rt d) {a b : Int32} {off : Int} (tgt : Nat) (hd : decode cc pc = .ok (.if_icmp .le off, 3)) (ht : (pc : Int) + off = (tgt : Int)) (kt : a ≤ b → U h w x r M tgt L st) (kf : ¬ a ≤ b → U h w x r M (pc + 3) L st) : U h w x r M pc L (.int b :: .int a :: st) := fun H locs ls hP hS hl => lv_icmp_le g.1 g.2.1 hd ht (fun q => kt q H locs ls hP hS hl) (fun q => kf q H locs ls hP hS hl)
theorem u_nonnull (g : Gd h w x own cc n rt d) {a : Nat} {off : Int} (tgt : Nat) (hd : decode cc pc = .ok (.ifnonnull off, 3)) (ht : (pc : Int) + off = (tgt : Int)) (kk : U h w x r M tgt L st) : U h w x r M pc L (.ref a :: st) := fun H locs ls hP hS hl => lv_ifnonnull g.1 g.2.1 hd ht (kk H locs ls hP hS hl)
theorem u_nonnullN (g : Gd h w x own cc n rt d) {off : Int} (hd : decode cc pc = .ok (.ifnonnull off, 3)) (kk : U h w x r M (pc + 3) L st) : U h w x r M pc L (.null :: st) := fun H locs ls hP hS hl => lv_ifnonnullN g.1 g.2.1 hd (kk H locs ls hP hS hl)
theorem u_isnull (g : Gd h w x own cc n rt d) {a : Nat} {off : Int} (hd : decode cc pc = .ok (.ifnull off, 3)) (kk : U h w x r M (pc + 3) L st) : U h w x r M pc L (.ref a :: st) := fun H locs ls hP hS hl => lv_ifnull g.1 g.2.1 hd (kk H locs ls hP hS hl)
theorem u_isnullN (g : Gd h w x own cc n rt d) {off : Int} (tgt : Nat) (hd : decode cc pc = .ok (.ifnull off, 3)) (ht : (pc : Int) + off = (tgt : Int)) (kk : U h w x r M tgt L st) : U h w x r M pc L (.null :: st) := fun H locs ls hP hS hl => lv_ifnullN g.1 g.2.1 hd ht (kk H locs ls hP hS hl)
theorem u_acmp_ne (g : Gd h w x own cc n rt d) {a b : Nat} {off : Int} (tgt : Nat) (ha : a < h.1) (hb : b < h.1) (hd : decode cc pc = .ok (.if_acmp .ne off, 3)) (ht : (pc : Int) + off = (tgt : Int)) (kt : ¬ a = b → U h w x r M tgt L st) (kf : a = b → U h w x r M (pc + 3) L st) : U h w x r M pc L (.ref (w.2.2.1 b) :: .ref (w.2.2.1 a) :: st) := fun H locs ls hP hS hl => lv_acmp_ne (rx := some (w.2.2.1 a)) (ry := some (w.2.2.1 b)) g.1 g.2.1 hd ht (fun q => kt (fun e => q (by rw [e])) H locs ls hP hS hl) (fun q => kf (g.2.2.2.2.2.1.2.1 a b ha hb (Option.some.inj q)) H locs ls hP hS hl)
theorem u_tableIn (g : Gd h w x own cc n rt d) {a : Int32} {dflt lo hi off : Int} {offs : Array Int} {len : Nat} (tgt : Nat) (hd : decode cc pc = .ok (.tableswitch dflt lo hi offs, len)) (v : Int32) (hv : a = v) (h1 : (decide (v.toInt < lo) || decide (hi < v.toInt)) = false) (ho : offs[(v.toInt - lo).toNat]? = some off) (ht : (pc : Int) + off = (tgt : Int)) (kk : U h w x r M tgt L st) : U h w x r M pc L (.int a :: st) := by
  intro H locs ls hP hS hl
  subst hv
  simp only [Bool.or_eq_false_iff, decide_eq_false_iff_not] at h1
  exact lv_tableIn g.1 g.2.1 hd h1.1 h1.2 ho ht (kk H locs ls hP hS hl)
theorem u_tableOut (g : Gd h w x own cc n rt d) {a : Int32} {dflt lo hi : Int} {offs : Array Int} {len : Nat} (tgt : Nat) (hd : decode cc pc = .ok (.tableswitch dflt lo hi offs, len)) (ho : a.toInt < lo ∨ hi < a.toInt) (ht : (pc : Int) + dflt = (tgt : Int)) (kk : U h w x r M tgt L st) : U h w x r M pc L (.int a :: st) := fun H locs ls hP hS hl => lv_tableOut g.1 g.2.1 hd ho ht (kk H locs ls hP hS hl)
theorem u_get (g : Gd h w x own cc n rt d) {c ci : Nat} {fs : List Value} {C : String} {T : u_T} {N : Nat} (hc : c < h.1) (he : h.2 w M c = .inr (ci, fs)) (hcl : vwCl[ci]? = some (C, T, N)) (hin : ∀ v ∈ u_ws C T N, v ∈ tbG) (k : Nat) (hk : k < N) {index : Nat} (hlink : Cond.fieldLink own index (T k).1 (T k).2.1 (T k).2.2.1 ∈ tbG) {v : Value} (hv : fs[k]? = some v) (hd : decode cc pc = .ok (.getfield index, 3)) (kk : U h w x r M (pc + 3) L (v :: st)) : U h w x r M pc L (.ref (w.2.2.1 c) :: st) := by
  intro H locs ls hP hS hl
  exact va_get (D := w.1) g.1 g.2.1 g.2.2.2.2.1 hin g.2.2.2.1 g.2.2.2.2.2.1.1 hP c (by rw [wd_at hc, he]) hcl k hk (g.2.2.2.2.1 _ hlink) (fun _ q => q) hv hd (kk H locs ls hP hS hl)
theorem u_put (g : Gd h w x own cc n rt d) {c ci : Nat} {fs : List Value} {C : String} {T : u_T} {N : Nat} (hc : c < h.1) (he : h.2 w M c = .inr (ci, fs)) (hcl : vwCl[ci]? = some (C, T, N)) (hin : ∀ v ∈ u_ws C T N, v ∈ tbG) (ty0 : Nat → FieldType) (hty : ∀ k, k < N → parseFieldDescriptor (T k).2.2.1 = some (ty0 k)) (hnm : ∀ a, a < N → ∀ b, b < N → a ≠ b → (T a).2.1 ≠ (T b).2.1) (k : Nat) (hk : k < N) {index : Nat} (hlink : Cond.fieldLink own index (T k).1 (T k).2.1 (T k).2.2.1 ∈ tbG) (hfin : (T k).2.2.2 = false) {v : Int32} (hn : narrow (ty0 k) (.int v) = .int v) (hfit : fits (ty0 k) (.int v) = true) (hlen : k < fs.length) (heN : h.2 w (sI M c k v) c = .inr (ci, fs.set k (.int v))) (hd : decode cc pc = .ok (.putfield index, 3)) (kk : U h w x r (sI M c k v) (pc + 3) L st) : U h w x r M pc L (.int v :: .ref (w.2.2.1 c) :: st) := by
  intro H locs ls hP hS hl
  refine va_put (D := w.1) g.1 g.2.1 g.2.2.2.2.1 hin ty0 hty hnm g.2.2.2.1 g.2.2.2.2.2.1.1 hP (wd_D g.2.2.2.2.2.1.2.1) hS c (by rw [wd_at hc, he]) hcl k hk (g.2.2.2.2.1 _ hlink) (fun _ q => q) hfin (hty k hk) hn hfit hlen hd (fun H1 locs1 hP1 _ hS1 => ?_)
  rw [wd_set (N := sI M c k v) g.2.2.2.2.2.2.2.2.2 hc heN (fun a ha => sI_off M c k v ha) (fun a _ => rfl)] at hP1
  exact kk H1 locs1 ls hP1 hS1 hl
theorem u_iald (g : Gd h w x own cc n rt d) {c N : Nat} {i : Int32} (hc : c < h.1) (he : h.2 w M c = .inl (w.2.1 0, N, .inl (M.1 c))) (hi : vp_in i N) (hd : decode cc pc = .ok (.iaload, 1)) (kk : U h w x r M (pc + 1) L (.int (M.1 c i.toNatClampNeg) :: st)) : U h w x r M pc L (.int i :: .ref (w.2.2.1 c) :: st) := fun H locs ls hP hS hl => va_iald (D := w.1) g.1 g.2.1 g.2.2.2.2.2.1.1 hP c 0 (by rw [wd_at hc, he]) rfl hi hd (kk H locs ls hP hS hl)
theorem u_zald (g : Gd h w x own cc n rt d) {c N : Nat} {i : Int32} (hc : c < h.1) (he : h.2 w M c = .inl (w.2.1 2, N, .inl (M.1 c))) (hi : vp_in i N) (hd : decode cc pc = .ok (.baload, 1)) (kk : U h w x r M (pc + 1) L (.int (M.1 c i.toNatClampNeg) :: st)) : U h w x r M pc L (.int i :: .ref (w.2.2.1 c) :: st) := fun H locs ls hP hS hl => va_zald (D := w.1) g.1 g.2.1 g.2.2.2.2.2.1.1 hP c 2 (by rw [wd_at hc, he]) rfl hi hd (kk H locs ls hP hS hl)
theorem u_lald (g : Gd h w x own cc n rt d) {c N : Nat} {i : Int32} (hc : c < h.1) (he : h.2 w M c = .inl (w.2.1 1, N, .inr (.inl (M.2 c)))) (hi : vp_in i N) (hd : decode cc pc = .ok (.laload, 1)) (kk : U h w x r M (pc + 1) L (.long (M.2 c i.toNatClampNeg) :: st)) : U h w x r M pc L (.int i :: .ref (w.2.2.1 c) :: st) := fun H locs ls hP hS hl => va_lald (D := w.1) g.1 g.2.1 g.2.2.2.2.2.1.1 hP c 1 (by rw [wd_at hc, he]) rfl hi hd (kk H locs ls hP hS hl)
theorem u_aald (g : Gd h w x own cc n rt d) {c N t0 : Nat} {C : String} {f : Nat → Nat} {i : Int32} (hc : c < h.1) (he : h.2 w M c = .inl (w.2.1 t0, N, .inr (.inr (.inr (.inr (fun j => some (w.2.2.1 (f j)))))))) (ht : (tysW w)[t0]? = some (w.2.1 t0, .object C)) (hi : vp_in i N) (hd : decode cc pc = .ok (.aaload, 1)) (kk : U h w x r M (pc + 1) L (.ref (w.2.2.1 (f i.toNatClampNeg)) :: st)) : U h w x r M pc L (.int i :: .ref (w.2.2.1 c) :: st) := fun H locs ls hP hS hl => va_aldq (D := w.1) (f := fun j => some (w.2.2.1 (f j))) g.1 g.2.1 g.2.2.2.2.2.1.1 hP c t0 (by rw [wd_at hc, he]) ht hi hd (kk H locs ls hP hS hl)
theorem u_iast (g : Gd h w x own cc n rt d) {c N : Nat} {i v : Int32} (hc : c < h.1) (he : h.2 w M c = .inl (w.2.1 0, N, .inl (M.1 c))) (heN : h.2 w (sI M c i.toNatClampNeg v) c = .inl (w.2.1 0, N, .inl ((sI M c i.toNatClampNeg v).1 c))) (hi : vp_in i N) (hd : decode cc pc = .ok (.iastore, 1)) (kk : U h w x r (sI M c i.toNatClampNeg v) (pc + 1) L st) : U h w x r M pc L (.int v :: .int i :: .ref (w.2.2.1 c) :: st) := by
  intro H locs ls hP hS hl
  refine va_iast (D := w.1) g.1 g.2.1 g.2.2.2.2.2.1.1 hP (wd_D g.2.2.2.2.2.1.2.1) hS c 0 (by rw [wd_at hc, he]) rfl hi hd (fun H1 locs1 hP1 _ hS1 => ?_)
  rw [wd_set (N := sI M c i.toNatClampNeg v) g.2.2.2.2.2.2.2.2.2 hc (by rw [heN, sI_row]) (fun a ha => sI_off M c _ v ha) (fun a _ => rfl)] at hP1
  exact kk H1 locs1 ls hP1 hS1 hl
def isB (v : Int32) : Prop := v = 0 ∨ v = 1
theorem isB_nar {v : Int32} (h : isB v) : vp_nar .boolean v = v := by rcases h with rfl | rfl <;> rfl
theorem isB_narrow {v : Int32} (h : isB v) : narrow .boolean (.int v) = .int v := by rcases h with rfl | rfl <;> rfl
theorem isB_fits {v : Int32} (h : isB v) : fits .boolean (.int v) = true := by rcases h with rfl | rfl <;> rfl
theorem u_zast (g : Gd h w x own cc n rt d) {c N : Nat} {i v : Int32} (hv : isB v) (hc : c < h.1) (he : h.2 w M c = .inl (w.2.1 2, N, .inl (M.1 c))) (heN : h.2 w (sI M c i.toNatClampNeg v) c = .inl (w.2.1 2, N, .inl ((sI M c i.toNatClampNeg v).1 c))) (hi : vp_in i N) (hd : decode cc pc = .ok (.bastore, 1)) (kk : U h w x r (sI M c i.toNatClampNeg v) (pc + 1) L st) : U h w x r M pc L (.int v :: .int i :: .ref (w.2.2.1 c) :: st) := by
  intro H locs ls hP hS hl
  refine va_zast (D := w.1) g.1 g.2.1 g.2.2.2.2.2.1.1 hP (wd_D g.2.2.2.2.2.1.2.1) hS c 2 (by rw [wd_at hc, he]) rfl hi hd (fun H1 locs1 hP1 _ hS1 => ?_)
  rw [isB_nar hv, wd_set (N := sI M c i.toNatClampNeg v) g.2.2.2.2.2.2.2.2.2 hc (by rw [heN, sI_row]) (fun a ha => sI_off M c _ v ha) (fun a _ => rfl)] at hP1
  exact kk H1 locs1 ls hP1 hS1 hl
theorem u_last (g : Gd h w x own cc n rt d) {c N : Nat} {i : Int32} {v : Int64} (hc : c < h.1) (he : h.2 w M c = .inl (w.2.1 1, N, .inr (.inl (M.2 c)))) (heN : h.2 w (sL M c i.toNatClampNeg v) c = .inl (w.2.1 1, N, .inr (.inl ((sL M c i.toNatClampNeg v).2 c)))) (hi : vp_in i N) (hd : decode cc pc = .ok (.lastore, 1)) (kk : U h w x r (sL M c i.toNatClampNeg v) (pc + 1) L st) : U h w x r M pc L (.long v :: .int i :: .ref (w.2.2.1 c) :: st) := by
  intro H locs ls hP hS hl
  refine va_last (D := w.1) g.1 g.2.1 g.2.2.2.2.2.1.1 hP (wd_D g.2.2.2.2.2.1.2.1) hS c 1 (by rw [wd_at hc, he]) rfl hi hd (fun H1 locs1 hP1 _ hS1 => ?_)
  rw [wd_set (M := M) (N := sL M c i.toNatClampNeg v) g.2.2.2.2.2.2.2.2.2 hc (by rw [heN, sL_row]) (fun a _ => rfl) (fun a ha => sL_off M c _ v ha)] at hP1
  exact kk H1 locs1 ls hP1 hS1 hl
theorem u_getsW (g : Gd h w x own cc n rt d) {index : Nat} (hw : Cond.fieldLink own index "MeetHouse$Pot" "WITHOUT" "[J" ∈ tbG) (hd : decode cc pc = .ok (.getstatic index, 3)) (kk : U h w x r M (pc + 3) L (.ref w.2.2.2 :: st)) : U h w x r M pc L st := fun H locs ls hP hS hl => va_gets g.1 g.2.1 g.2.2.2.2.2.1.2.2.1 hS g.2.2.2.1 (g.2.2.2.2.1 _ hw) (fun _ q => q) hd (kk H locs ls hP hS hl)
theorem u_tlW (g : Gd h w x own cc n rt d) {i : Int32} (hi : vp_in i 6) (hd : decode cc pc = .ok (.laload, 1)) (kk : U h w x r M (pc + 1) L (.long (WL i.toNatClampNeg) :: st)) : U h w x r M pc L (.int i :: .ref w.2.2.2 :: st) := fun H locs ls hP hS hl => va_tl g.1 g.2.1 g.2.2.2.2.2.1.2.2.2 hS hi rfl hd (kk H locs ls hP hS hl)
theorem u_iret (g : Gd h w x own cc n (some .int) d) {v : Int32} (hd : decode cc pc = .ok (.ireturn, 1)) (hr : r = (some (.int v), M)) : U h w x r M pc L [.int v] := by
  intro H locs ls hP hS hl
  subst hr
  exact W.iret g.1 g.2.1 g.2.2.2.2.2.2.1 (fun t ht hW => ⟨⟨rfl, by rw [ht]; exact hP⟩, hS.F ht⟩) hS.2.2 hd (hlocks := g.2.2.2.2.2.2.2.1)
theorem u_zret (g : Gd h w x own cc n (some .boolean) d) {v : Int32} (hv : isB v) (hd : decode cc pc = .ok (.ireturn, 1)) (hr : r = (some (.int v), M)) : U h w x r M pc L [.int v] := by
  intro H locs ls hP hS hl
  subst hr
  exact W.zret g.1 g.2.1 g.2.2.2.2.2.2.1 (isB_narrow hv) (fun t ht hW => ⟨⟨rfl, by rw [ht]; exact hP⟩, hS.F ht⟩) hS.2.2 hd (hlocks := g.2.2.2.2.2.2.2.1)
theorem u_lret (g : Gd h w x own cc n (some .long) d) {v : Int64} (hd : decode cc pc = .ok (.lreturn, 1)) (hr : r = (some (.long v), M)) : U h w x r M pc L [.long v] := by
  intro H locs ls hP hS hl
  subst hr
  exact W.lret g.1 g.2.1 g.2.2.2.2.2.2.1 (fun t ht hW => ⟨⟨rfl, by rw [ht]; exact hP⟩, hS.F ht⟩) hS.2.2 hd (hlocks := g.2.2.2.2.2.2.2.1)
theorem u_vret (g : Gd h w x own cc n none d) (hd : decode cc pc = .ok (.return_, 1)) (hr : r = (none, M)) : U h w x r M pc L [] := by
  intro H locs ls hP hS hl
  subst hr
  exact W.vret g.1 g.2.1 g.2.2.2.2.2.2.1 (fun t ht hW => ⟨⟨rfl, by rw [ht]; exact hP⟩, hS.F ht⟩) hS.2.2 hd (hlocks := g.2.2.2.2.2.2.2.1)
def rv (w : Wp) (o : Option Nat) : Value := match o with
  | none => .null
  | some c => .ref (w.2.2.1 c)
theorem u_aret {C : String} (g : Gd h w x own cc n (some (.object C)) d) {v : Option Nat} (hd : decode cc pc = .ok (.areturn, 1)) (hr : r = (some (rv w v), M)) : U h w x r M pc L [rv w v] := by
  intro H locs ls hP hS hl
  subst hr
  exact W.aret g.1 g.2.1 g.2.2.2.2.2.2.1 (Or.inl ⟨_, rfl⟩) (by cases v with | none => exact Or.inl rfl | some c => exact Or.inr ⟨_, rfl⟩) (fun t ht hW => ⟨⟨rfl, by rw [ht]; exact hP⟩, hS.F ht⟩) hS.2.2 hd (hlocks := g.2.2.2.2.2.2.2.1)
end URows
