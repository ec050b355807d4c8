/-! GROWING WORLDS, for the constructors: cells stand one behind the other from B on -/
def gw (B n : Nat) (ce : Nat → va_E) : va_W := (List.range n).map fun c => (B + c, ce c)
def cu (ce : Nat → va_E) (c : Nat) (e : va_E) : Nat → va_E := fun a => if a = c then e else ce a
theorem cu_s (ce : Nat → va_E) (c : Nat) (e : va_E) : cu ce c e c = e := by simp [cu]
theorem cu_n (ce : Nat → va_E) {c a : Nat} (e : va_E) (h : a ≠ c) : cu ce c e a = ce a := by simp [cu, h]
theorem gw_at {B n : Nat} {ce : Nat → va_E} {c : Nat} (hc : c < n) : (gw B n ce)[c]? = some (B + c, ce c) := by
  simp [gw, List.getElem?_map, List.getElem?_range hc]
theorem gw_lt {B n : Nat} {ce : Nat → va_E} {c : Nat} {q : Nat × va_E} (hc : (gw B n ce)[c]? = some q) : c < n := by
  have h1 := (List.getElem?_eq_some_iff.mp hc).1
  simpa [gw] using h1
theorem gw_D {B n : Nat} {ce : Nat → va_E} : va_D (fun q => B ≤ q) (gw B n ce) := by
  refine ⟨fun i j p q h1 h2 e => ?_, fun k q hk => ?_⟩
  · have l1 := gw_lt h1
    have l2 := gw_lt h2
    rw [gw_at l1] at h1
    rw [gw_at l2] at h2
    cases h1; cases h2
    exact Nat.add_left_cancel e
  · have l1 := gw_lt hk
    rw [gw_at l1] at hk
    cases hk
    exact Nat.le_add_right _ _
theorem gw_eq {B n : Nat} {ce ce' : Nat → va_E} (h : ∀ c, c < n → ce c = ce' c) : gw B n ce = gw B n ce' := by
  apply List.ext_getElem?
  intro i
  by_cases hb : i < n
  · rw [gw_at hb, gw_at hb, h i hb]
  · rw [List.getElem?_eq_none (by simpa [gw] using hb), List.getElem?_eq_none (by simpa [gw] using hb)]
theorem gw_set {B n : Nat} {ce : Nat → va_E} {c : Nat} {e : va_E} (hc : c < n) : (gw B n ce).set c (B + c, e) = gw B n (cu ce c e) := by
  apply List.ext_getElem?
  intro i
  by_cases hi : i = c
  · subst hi
    rw [gw_at hc, List.getElem?_set_self (by simpa [gw] using hc), cu_s]
  · rw [List.getElem?_set_ne (fun q => hi q.symm)]
    by_cases hb : i < n
    · rw [gw_at hb, gw_at hb, cu_n _ _ hi]
    · rw [List.getElem?_eq_none (by simpa [gw] using hb), List.getElem?_eq_none (by simpa [gw] using hb)]
theorem gw_push {B n : Nat} {ce : Nat → va_E} {e : va_E} : gw B n ce ++ [(B + n, e)] = gw B (n + 1) (cu ce n e) := by
  have h1 : gw B (n + 1) (cu ce n e) = gw B n (cu ce n e) ++ [(B + n, e)] := by
    simp [gw, List.range_succ, cu_s]
  rw [h1, gw_eq (ce := ce) (ce' := cu ce n e)]
  intro c hc
  rw [cu_n _ _ (by omega)]
def tysC (ca : Nat → ClassId) : List (ClassId × FieldType) := [(ca 0, .int), (ca 1, .long), (ca 2, .boolean), (ca 3, .object "MeetHouse$Family"), (ca 4, .object "MeetHouse$Thing"), (ca 5, .object "MeetHouse$Act")]
/-- the links to constructors of nest mates, which no word keeps -/
def nestQ : List (String × Nat × MethodName) := [(RX10, 9, yX5_init), (RX10, 35, yX6_init), (RX4, 24, yX0_init), (RX0, 23, yX9_init), (RX9, 20, yX6_init), (RX10, 55, yX8_init), (RX10, 62, yX3_init), (RX3, 11, yX7_init), (RX10, 69, yX2_init), (RX10, 77, yX1_init), (RX10, 78, yX9_init)]
def Nst (V : State) : Prop := (∀ q ∈ nestQ, va_Nw (.methodLinkNest q.1 q.2.1 q.2.2 "MeetHouse") V) ∧ va_AO "MeetHouse$Family" V ∧ va_AO "MeetHouse$Thing" V ∧ va_AO "MeetHouse$Act" V
def Qn (D : va_G) (B : Nat) (fin : Nat × (Nat → va_E)) : Array Value → State → Outcome → State → Prop := fun _ st oc t => (oc = .returned none ∧ t.heap.size = B + fin.1 ∧ va_P D vwCl (gw B fin.1 fin.2) t.heap) ∧ va_F (fun q => B ≤ q) st t
def rmn (d mc ms : Nat) : Room := { frames := d, cells := mc, slots := ms, locals := 64 * d }
/-- A CONSTRUCTOR'S CONTRACT: the blank object is the last cell, at B; behind it stand fin.1 cells from B on, as fin.2 has them -/
def Cn (D : va_G) (ca : Nat → ClassId) (l : Launch) (y : MethodName) (cc : ByteArray) (n d mc ms B : Nat) (e0 : va_E) (fin : Nat × (Nat → va_E)) : Prop :=
  Met l y (wsy y cc n none) (rmn d mc ms) (va_Pc [.ref B] (fun V => V.heap.size = B + 1 ∧ va_P D vwCl (gw B 1 (fun _ => e0)) V.heap ∧ va_K D vwCl (tysC ca) V ∧ Nst V)) (Qn D B fin) mc ms (fun q => B ≤ q)
def Gn (D : va_G) (ca : Nat → ClassId) (x : Cx) (own : String) (cc : ByteArray) (n d mc ms : Nat) : Prop :=
  x.1.tables.exec = Jvm.exec ∧ x.2.2.2.2.2.2.2.2.2.code = cc ∧ x.2.2.2.2.2.2.2.2.2.maxLocals = n ∧ x.2.2.2.2.1.vm.findClass own = some x.2.2.2.2.2.1.cls ∧ (∀ w ∈ tbG, w.before x.2.2.2.2.2.2.1 x.2.2.2.2.1 = true) ∧ va_K D vwCl (tysC ca) x.2.2.2.2.1 ∧ x.2.2.2.2.2.2.2.2.1.sig.returnType = none ∧ x.2.2.2.2.2.2.2.2.1.locks = false ∧ x.2.2.2.1 = rmn d mc ms ∧ x.2.2.2.2.2.2.2.2.1.name = "<init>" ∧ Nst x.2.2.2.2.1
def V (D : va_G) (x : Cx) (B : Nat) (fin : Nat × (Nat → va_E)) (mc ms n : Nat) (ce : Nat → va_E) (ck cs pc : Nat) (L : List (Nat × Value)) (st : List Value) : Prop :=
  ∀ (H : Heap) (locs : List Loc) (ls : Array Slot), H.size = B + n → va_P D vwCl (gw B n ce) H → va_S (fun q => B ≤ q) x.2.2.2.2.1.heap H locs → lv_has ls x.2.2.2.2.2.2.2.2.2.maxLocals L →
    W x.1 x.2.1 x.2.2.1 x.2.2.2.1 x.2.2.2.2.1 x.2.2.2.2.2.1 x.2.2.2.2.2.2.1 x.2.2.2.2.2.2.2.1 x.2.2.2.2.2.2.2.2.1 x.2.2.2.2.2.2.2.2.2 H locs ck cs (MQ x.2.2.2.2.2.2.2.1 (Qn D B fin) x.2.2.2.2.2.2.1 x.2.2.2.2.1 mc ms (fun q => B ≤ q)) (F0 x.2.2.2.2.2.1 pc ls st)
theorem cn_of {D : va_G} {ca : Nat → ClassId} {l : Launch} {y : MethodName} {cc : ByteArray} {n d mc ms B : Nat} {e0 : va_E} {fin : Nat × (Nat → va_E)} (hy : plainName y.cls = true) (hi : y.name = "<init>") (hn : 1 ≤ n)
    (body : ∀ x : Cx, x.2.1 = l → Gn D ca x y.cls cc n d mc ms → V D x B fin mc ms 1 (fun _ => e0) 0 0 0 [(0, .ref B)] []) : Cn D ca l y cc n d mc ms B e0 fin := by
  refine Met.ofW (cc := cc) (maxL := n) (ret := none) hy rfl ?_
  intro p e s m args below meth c s₁ Bd hml hv
  obtain ⟨rfl, hz, hP, hK, hNs⟩ := hv
  have hts := atoms_spec (ws := wsy y cc n none) Bd.pre
  have g : Gn D ca (p, l, e, rmn d mc ms, s, m, ([.ref B] : List Value).toArray, below, meth, c) y.cls cc n d mc ms := ⟨Bd.exec, Bd.bytes, hml, findClass_of_methodNamed Bd.named, fun v hv => hts v (List.mem_cons_of_mem _ hv), hK, Bd.returns, Bd.notSynchronized, rfl, by rw [(name_of_methodNamed Bd.named Bd.method).1, hi], hNs⟩
  have hl := lv_entry ([.ref B]) (n := n) hn
  rw [lg_entry_eq]
  have hb := body _ rfl g s.heap [] _ hz hP va_S.rf (by show lv_has _ c.maxLocals _; rw [hml]; exact hl)
  exact hb
section VRows
variable {D : va_G} {ca : Nat → ClassId} {x : Cx} {B : Nat} {fin : Nat × (Nat → va_E)} {mc ms N : Nat} {ce : Nat → va_E} {ck cs pc : Nat} {L : List (Nat × Value)} {st : List Value} {own : String} {cc : ByteArray} {n d : Nat}
theorem v_iconst (g : Gn D ca x own cc n d mc ms) {k : Int} {v : Int32} (hd : decode cc pc = .ok (.iconst k, 1)) (hv : Int32.ofInt k = v) (kk : V D x B fin mc ms N ce ck cs (pc + 1) L (.int v :: st)) : V D x B fin mc ms N ce ck cs pc L st := fun H locs ls hz hP hS hl => lv_iconst g.1 g.2.1 hd hv (kk H locs ls hz hP hS hl)
theorem v_bipush (g : Gn D ca x own cc n d mc ms) {k : Int} {v : Int32} (hd : decode cc pc = .ok (.bipush k, 2)) (hv : (Int8.ofInt k).toInt32 = v) (kk : V D x B fin mc ms N ce ck cs (pc + 2) L (.int v :: st)) : V D x B fin mc ms N ce ck cs pc L st := fun H locs ls hz hP hS hl => lv_bipush g.1 g.2.1 hd hv (kk H locs ls hz hP hS hl)
theorem v_sipush (g : Gn D ca x own cc n d mc ms) {k : Int} {v : Int32} (hd : decode cc pc = .ok (.sipush k, 3)) (hv : (Int16.ofInt k).toInt32 = v) (kk : V D x B fin mc ms N ce ck cs (pc + 3) L (.int v :: st)) : V D x B fin mc ms N ce ck cs pc L st := fun H locs ls hz hP hS hl => lv_sipush g.1 g.2.1 hd hv (kk H locs ls hz hP hS hl)
theorem v_ldc (g : Gn D ca x own cc n d mc ms) {i : Nat} {v : Int32} (hw : Cond.constant own i v ∈ tbG) (hd : decode cc pc = .ok (.ldc i, 2)) (kk : V D x B fin mc ms N ce ck cs (pc + 2) L (.int v :: st)) : V D x B fin mc ms N ce ck cs pc L st := fun H locs ls hz hP hS hl => lv_ldc g.1 g.2.1 g.2.2.2.1 (g.2.2.2.2.1 _ hw) hd (kk H locs ls hz hP hS hl)
theorem v_aload_n (g : Gn D ca x own cc n d mc ms) (q : Nat) {k : Fin 4} {v : Nat} (hd : decode cc pc = .ok (.aload_n k, 1)) (hL : L[q]? = some ((k : Nat), .ref v)) (kk : V D x B fin mc ms N ce ck cs (pc + 1) L (.ref v :: st)) : V D x B fin mc ms N ce ck cs pc L st := fun H locs ls hz hP hS hl => lv_aload_n g.1 g.2.1 hd rfl (lv_at hl q hL) (kk H locs ls hz hP hS hl)
theorem v_iload_n (g : Gn D ca x own cc n d mc ms) (q : Nat) {k : Fin 4} {v : Int32} (hd : decode cc pc = .ok (.iload_n k, 1)) (hL : L[q]? = some ((k : Nat), .int v)) (kk : V D x B fin mc ms N ce ck cs (pc + 1) L (.int v :: st)) : V D x B fin mc ms N ce ck cs pc L st := fun H locs ls hz hP hS hl => lv_iload_n g.1 g.2.1 hd rfl (lv_at hl q hL) (kk H locs ls hz hP hS hl)
theorem v_istore_n (g : Gn D ca x own cc n d mc ms) {k : Fin 4} {v : Int32} (L' : List (Nat × Value)) (hd : decode cc pc = .ok (.istore_n k, 1)) (hn : (k : Nat) < n) (hL : ((k : Nat), Value.int v) :: L.filter (fun q => !(q.1 == (k : Nat)) && !(q.1 + 1 == (k : Nat) && q.2.category == 2)) = L') (kk : V D x B fin mc ms N ce ck cs (pc + 1) L' st) : V D x B fin mc ms N ce ck cs pc L (.int v :: st) := fun H locs ls hz hP hS hl => lv_istore_n g.1 g.2.1 hd rfl hl (by rw [g.2.2.1]; exact hn) hL (fun ls' hl' => kk H locs ls' hz hP hS hl')
theorem v_iinc (g : Gn D ca x own cc n d mc ms) (q : Nat) {k : Nat} {i : Int} {u v : Int32} (L' : List (Nat × Value)) (hd : decode cc pc = .ok (.iinc k i, 3)) (hq : L[q]? = some (k, .int u)) (hv : u + Int32.ofInt i = v) (hn : k < n) (hL : (k, Value.int v) :: L.filter (fun q => !(q.1 == k) && !(q.1 + 1 == k && q.2.category == 2)) = L') (kk : V D x B fin mc ms N ce ck cs (pc + 3) L' st) : V D x B fin mc ms N ce ck cs pc L st := fun H locs ls hz hP hS hl => lv_iinc g.1 g.2.1 hd hl hq hv (by rw [g.2.2.1]; exact hn) hL (fun ls' hl' => kk H locs ls' hz hP hS hl')
theorem v_sub (ks : List Nat) {L' : List (Nat × Value)} (hL : lv_pick L ks = L') (kk : V D x B fin mc ms N ce ck cs pc L' st) : V D x B fin mc ms N ce ck cs pc L st := fun H locs ls hz hP hS hl => kk H locs ls hz hP hS (lv_sub hl ks hL)
theorem v_goto (g : Gn D ca x own cc n d mc ms) {off : Int} (tgt : Nat) (hd : decode cc pc = .ok (.goto off, 3)) (ht : (pc : Int) + off = (tgt : Int)) (kk : V D x B fin mc ms N ce ck cs tgt L st) : V D x B fin mc ms N ce ck cs pc L st := fun H locs ls hz hP hS hl => lv_goto g.1 g.2.1 hd ht (kk H locs ls hz hP hS hl)
theorem v_icmp_ge (g : Gn D ca x own cc n d mc ms) {a b : Int32} {off : Int} (tgt : Nat) (hd : decode cc pc = .ok (.if_icmp .ge off, 3)) (ht : (pc : Int) + off = (tgt : Int)) (kt : b ≤ a → V D x B fin mc ms N ce ck cs tgt L st) (kf : ¬ b ≤ a → V D x B fin mc ms N ce ck cs (pc + 3) L st) : V D x B fin mc ms N ce ck cs pc L (.int b :: .int a :: st) := fun H locs ls hz hP hS hl => lv_icmp_ge g.1 g.2.1 hd ht (fun q => kt q H locs ls hz hP hS hl) (fun q => kf q H locs ls hz hP hS hl)
theorem v_dup (g : Gn D ca x own cc n d mc ms) {v : Value} (hd : decode cc pc = .ok (.dup, 1)) (hv : v.category = 1) (kk : V D x B fin mc ms N ce ck cs (pc + 1) L (v :: v :: st)) : V D x B fin mc ms N ce ck cs pc L (v :: st) := fun H locs ls hz hP hS hl => lv_dup g.1 g.2.1 hd hv (kk H locs ls hz hP hS hl)
theorem v_objInit (g : Gn D ca x own cc n d mc ms) {k a : Nat} (w1 : Cond.methodLink own k objectInit ∈ tbG) (w2 : Cond.instanceMethod objectInit ∈ tbG) (w3 : Cond.code objectInit ⟨#[0xb1]⟩ 1 none ∈ tbG) (hd1 : 1 ≤ d) (hst : (st.map fun v => v.category).sum ≤ 8) (hd : decode cc pc = .ok (.invokespecial k, 3)) (kk : V D x B fin mc ms N ce ck cs (pc + 3) L st) : V D x B fin mc ms N ce ck cs pc L (.ref a :: st) := by
  intro H locs ls hz hP hS hl
  have hR : x.2.2.2.1 = rmn d mc ms := g.2.2.2.2.2.2.2.2.1
  refine W.objInit g.1 g.2.1 g.2.2.2.1 (g.2.2.2.2.1 _ w1) (g.2.2.2.2.1 _ w2) (g.2.2.2.2.1 _ w3) rfl hl.1 rfl hd ?_ ?_ (W.eq (g2 := F0 x.2.2.2.2.2.1 (pc + 3) ls st) rfl (kk H locs ls hz hP hS hl))
  · rw [hR]; exact hd1
  · rw [hR]; show _ ≤ 64 * d; simp only [JFrame.monitorRoom] at *; omega
theorem v_put (g : Gn D ca x own cc n d mc ms) {c ci : Nat} {fs : List Value} {C : String} {T : u_T} {K : Nat} (hc : c < N) (he : ce c = .inr (ci, fs)) (hcl : vwCl[ci]? = some (C, T, K)) (hin : ∀ v ∈ u_ws C T K, v ∈ tbG) (ty0 : Nat → FieldType) (hty : ∀ k, k < K → parseFieldDescriptor (T k).2.2.1 = some (ty0 k)) (hnm : ∀ a, a < K → ∀ b, b < K → a ≠ b → (T a).2.1 ≠ (T b).2.1) (k : Nat) (hk : k < K) {index : Nat} (hlink : Cond.fieldLink own index (T k).1 (T k).2.1 (T k).2.2.1 ∈ tbG) (hfin : (T k).2.2.2 = false) {v : Value} (hn : narrow (ty0 k) v = v) (hfit : fits (ty0 k) v = true) (hlen : k < fs.length) {fs' : List Value} (hfs : fs.set k v = fs') {a : Nat} (ha : a = B + c) (hd : decode cc pc = .ok (.putfield index, 3)) (kk : V D x B fin mc ms N (cu ce c (.inr (ci, fs'))) ck cs (pc + 3) L st) : V D x B fin mc ms N ce ck cs pc L (v :: .ref a :: st) := by
  intro H locs ls hz hP hS hl
  subst ha
  subst hfs
  have hsz : ∀ H1 : Heap, va_S (fun q => B ≤ q) x.2.2.2.2.1.heap H1 [] → True := fun _ _ => trivial
  intro T0 hT X
  have key : W x.1 x.2.1 x.2.2.1 x.2.2.2.1 x.2.2.2.2.1 x.2.2.2.2.2.1 x.2.2.2.2.2.2.1 x.2.2.2.2.2.2.2.1 x.2.2.2.2.2.2.2.2.1 x.2.2.2.2.2.2.2.2.2 H locs ck cs (MQ x.2.2.2.2.2.2.2.1 (Qn D B fin) x.2.2.2.2.2.2.1 x.2.2.2.2.1 mc ms (fun q => B ≤ q)) (F0 x.2.2.2.2.2.1 pc ls (v :: .ref (B + c) :: st)) := by
    have hK := g.2.2.2.2.2.1
    have hap := va_apart (own := own) g.2.2.2.2.1 hin ty0 hty hnm hK hcl
    obtain ⟨r, h1, cell, q1, q2, q3, q4⟩ := hP c _ (by rw [gw_at hc, he])
    have hr : r = (C, T, K) := Option.some.inj (h1.symm.trans hcl)
    subst hr
    obtain ⟨hS1, hfc, kC, hkC, hkind⟩ := hK.1 ci _ hcl
    obtain ⟨cf, kf, fi, f, hi, hsl⟩ := hS1 k hk
    have hlay := g.2.2.2.2.1 _ (hin _ (u_in_lay hk))
    unfold u_lay at hlay
    rw [if_neg (by rw [hfin]; decide)] at hlay
    have hst := (u_facts hfc hkC (u_lays g.2.2.2.2.1 hin hk) hi).1
    have h6 := u_store hfc hkC hkind hlay hi (hty k hk) hn hfit
    refine W.putK g.1 g.2.1 (f := f) ⟨g.2.2.2.1, g.2.2.2.2.1 _ hlink, ⟨_, _, _, hi⟩, hst⟩ (by rw [q2]; exact h6) q1 q3 (by rw [hsl]; exact k2_hasslot (q4 k hk)) rfl rfl hd fun H' e1 e2 e3 => ?_
    rw [hsl] at e1 ⊢
    refine kk H' _ ls (by rw [e2]; exact hz) ?_ (hS.put e2 e3 (Nat.le_add_right _ _)) hl
    rw [← gw_set hc]
    exact hP.set gw_D (by rw [gw_at hc, he]) ⟨_, hcl, t_OB.to (V := updV (vp_V fs) k v) ⟨_, e1, q2, q3, t_set q4 hap hk v⟩ (fun j _ => vp_updV_set hlen v j)⟩ e3
  exact key T0 hT X
theorem v_putF (g : Gn D ca x own cc n d mc ms) {c ci : Nat} {fs : List Value} {C : String} {T : u_T} {K : Nat} (hc : c < N) (he : ce c = .inr (ci, fs)) (hcl : vwCl[ci]? = some (C, T, K)) (hin : ∀ v ∈ u_ws C T K, v ∈ tbG) (ty0 : Nat → FieldType) (hty : ∀ k, k < K → parseFieldDescriptor (T k).2.2.1 = some (ty0 k)) (hnm : ∀ a, a < K → ∀ b, b < K → a ≠ b → (T a).2.1 ≠ (T b).2.1) (k : Nat) (hk : k < K) {index : Nat} (hlink : Cond.fieldLink own index (T k).1 (T k).2.1 (T k).2.2.1 ∈ tbG) (hfin : (T k).2.2.2 = true) (hdecl : (T k).1 = own) {v : Value} (hn : narrow (ty0 k) v = v) (hfit : fits (ty0 k) v = true) (hlen : k < fs.length) {fs' : List Value} (hfs : fs.set k v = fs') {a : Nat} (ha : a = B + c) (hd : decode cc pc = .ok (.putfield index, 3)) (kk : V D x B fin mc ms N (cu ce c (.inr (ci, fs'))) ck cs (pc + 3) L st) : V D x B fin mc ms N ce ck cs pc L (v :: .ref a :: st) := by
  intro H locs ls hz hP hS hl
  subst ha
  subst hfs
  have hK := g.2.2.2.2.2.1
  have hap := va_apart (own := own) g.2.2.2.2.1 hin ty0 hty hnm hK hcl
  obtain ⟨r, h1, cell, q1, q2, q3, q4⟩ := hP c _ (by rw [gw_at hc, he])
  have hr : r = (C, T, K) := Option.some.inj (h1.symm.trans hcl)
  subst hr
  obtain ⟨hS1, hfc, kC, hkC, hkind⟩ := hK.1 ci _ hcl
  obtain ⟨cf, kf, fi, f, hi, hsl⟩ := hS1 k hk
  have hlay := g.2.2.2.2.1 _ (hin _ (u_in_lay hk))
  unfold u_lay at hlay
  rw [if_pos hfin] at hlay
  have hst := (u_facts hfc hkC (u_lays g.2.2.2.2.1 hin hk) hi).1
  have hcf : x.2.2.2.2.2.1.cls = cf := by
    obtain ⟨_, _, c', _, _, _, -, -, hf', -, -, -, hown2, -⟩ := Cond.laysFinal_spec hlay
    have e1 : c' = cf := by have := hi.symm.trans hf'; simp at this; exact this.1.symm
    rw [hdecl] at hown2
    rw [← e1]; exact Option.some.inj (g.2.2.2.1.symm.trans hown2)
  have h6 := u_fits hfc hkC hkind (Or.inr hlay) hi (hty k hk) hn hfit
  refine W.putFinK g.1 g.2.1 g.2.2.2.1 (g.2.2.2.2.1 _ hlink) hi hst hcf g.2.2.2.2.2.2.2.2.2.1 (by rw [q2]; exact h6) q1 q3 (by rw [hsl]; exact k2_hasslot (q4 k hk)) rfl rfl hd fun H' e1 e2 e3 => ?_
  rw [hsl] at e1 ⊢
  refine kk H' _ ls (by rw [e2]; exact hz) ?_ (hS.put e2 e3 (Nat.le_add_right _ _)) hl
  rw [← gw_set hc]
  exact hP.set gw_D (by rw [gw_at hc, he]) ⟨_, hcl, t_OB.to (V := updV (vp_V fs) k v) ⟨_, e1, q2, q3, t_set q4 hap hk v⟩ (fun j _ => vp_updV_set hlen v j)⟩ e3
theorem v_get (g : Gn D ca x own cc n d mc ms) {c ci : Nat} {fs : List Value} {C : String} {T : u_T} {K : Nat} (hc : c < N) (he : ce c = .inr (ci, fs)) (hcl : vwCl[ci]? = some (C, T, K)) (hin : ∀ v ∈ u_ws C T K, v ∈ tbG) (k : Nat) (hk : k < K) {index : Nat} (hlink : Cond.fieldLink own index (T k).1 (T k).2.1 (T k).2.2.1 ∈ tbG) {v : Value} (hv : fs[k]? = some v) {a : Nat} (ha : a = B + c) (hd : decode cc pc = .ok (.getfield index, 3)) (kk : V D x B fin mc ms N ce ck cs (pc + 3) L (v :: st)) : V D x B fin mc ms N ce ck cs pc L (.ref a :: st) := by
  intro H locs ls hz hP hS hl
  subst ha
  exact va_get (D := D) g.1 g.2.1 g.2.2.2.2.1 hin g.2.2.2.1 g.2.2.2.2.2.1 hP c (by rw [gw_at hc, he]) hcl k hk (g.2.2.2.2.1 _ hlink) (fun _ q => q) hv hd (kk H locs ls hz hP hS hl)
theorem v_grow {H H1 : Heap} {e : va_E} (hz : H.size = B + N) (hP : va_P D vwCl (gw B N ce) H) (o1 : ∀ q, q < B + N → H1[q]? = H[q]?) (he : va_at D vwCl (B + N, e) H1) : va_P D vwCl (gw B (N + 1) (cu ce N e)) H1 := by
  rw [← gw_push]
  have hk : ∀ (k : Nat) (x : Nat × va_E), (gw B N ce)[k]? = some x → H1[x.1]? = H[x.1]? := fun k x hx => o1 x.1 (by rw [← hz]; exact (hP k x hx).lt)
  refine (hP.kept hk).app (fun k x hx => ?_)
  have hq : k < 1 := (List.getElem?_eq_some_iff.mp hx).1
  rw [show k = 0 by omega] at hx
  cases hx
  exact he
theorem v_new (g : Gn D ca x own cc n d mc ms) {ci index K : Nat} {C : String} {T : u_T} (hcl : vwCl[ci]? = some (C, T, K)) (hin : ∀ v ∈ u_ws C T K, v ∈ tbG) (ty : Nat → FieldType) (hty : ∀ k, k < K → parseFieldDescriptor (T k).2.2.1 = some (ty k)) (w1 : Cond.classLink own index C ∈ tbG) (w2 : Cond.instantiable C K ∈ tbG) (w3 : Cond.initialized C ∈ tbG) {fs : List Value} (hfs : ∀ j, j < K → defaultValue (ty j) = vp_V fs j) (h1 : ck + 1 ≤ mc) (h2 : cs + K ≤ ms) (hd : decode cc pc = .ok (.new index, 3)) (kk : V D x B fin mc ms (N + 1) (cu ce N (.inr (ci, fs))) (ck + 1) (cs + K) (pc + 3) L (.ref (B + N) :: st)) : V D x B fin mc ms N ce ck cs pc L st := by
  intro H locs ls hz hP hS hl
  have hR : x.2.2.2.1 = rmn d mc ms := g.2.2.2.2.2.2.2.2.1
  have hKn := g.2.2.2.2.2.1.1 ci _ hcl
  refine W.newcK g.1 g.2.1 g.2.2.2.1 (g.2.2.2.2.1 _ w1) (g.2.2.2.2.1 _ w2) (g.2.2.2.2.1 _ w3) rfl hd (by rw [hR]; exact h1) (by rw [hR]; exact h2) hKn.2.1 hz fun H1 kC hkC e1 z1 o1 => ?_
  refine kk H1 locs ls (by omega) (v_grow hz hP o1 ⟨_, hcl, (u_born ty g.2.2.2.2.1 hin hKn hkC e1 hty).to hfs⟩) ?_ hl
  exact ⟨Nat.le_trans hS.1 (by omega), fun q h3 h4 => (o1 q (by have := hS.1; omega)).trans (hS.2.1 q h3 h4), hS.2.2⟩
theorem v_newa (g : Gn D ca x own cc n d mc ms) {atype : ArrayType} (t0 : Nat) {ty : FieldType} (hty : newarray.typeOf atype = ty) (hra : ∀ cA : ClassId, va_RA x.2.2.2.2.1 cA ty = (x.2.2.2.2.1.vm.findClass ("[" ++ ty.toString) = some cA)) (ht : (tysC ca)[t0]? = some (ca t0, ty)) (hw : Cond.arrayClass ty ∈ tbG) {v : Int32} {K : Nat} {a0 : vp_A} (ha : ∀ cA : ClassId, vp_cell cA a0 = arrV cA K (fun _ => defaultValue ty)) (hn : ¬ v < 0) (hN : v.toNatClampNeg = K) (hb : K * componentBytes ty ≤ 536870912) (h1 : ck + 1 ≤ mc) (h2 : cs + K ≤ ms) (hd : decode cc pc = .ok (.newarray atype, 2)) (kk : V D x B fin mc ms (N + 1) (cu ce N (.inl (ca t0, a0))) (ck + 1) (cs + K) (pc + 2) L (.ref (B + N) :: st)) : V D x B fin mc ms N ce ck cs pc L (.int v :: st) := by
  intro H locs ls hz hP hS hl
  subst hty
  have hR : x.2.2.2.1 = rmn d mc ms := g.2.2.2.2.2.2.2.2.1
  refine va_newaK g.1 g.2.1 (g.2.2.2.2.1 _ hw) rfl hd rfl hn hN hb (by rw [hR]; exact h1) (by rw [hR]; exact h2) hz fun H1 cA e1 z1 o1 hAr hNm => ?_
  have hcA : cA = ca t0 := by
    have h3 := (g.2.2.2.2.2.1.2 t0 _ ht).2
    rw [hra] at h3
    exact Option.some.inj (hNm.symm.trans h3)
  subst hcA
  refine kk H1 locs ls (by omega) (v_grow hz hP o1 ?_) ?_ hl
  · show H1[B + N]? = some (vp_cell _ _)
    rw [ha]
    exact e1
  · exact ⟨Nat.le_trans hS.1 (by omega), fun q h3 h4 => (o1 q (by have := hS.1; omega)).trans (hS.2.1 q h3 h4), hS.2.2⟩
theorem v_newq (g : Gn D ca x own cc n d mc ms) {C : String} {index : Nat} (t0 : Nat) (ht : (tysC ca)[t0]? = some (ca t0, .object C)) (w1 : Cond.classLink own index C ∈ tbG) (hov : va_AO C x.2.2.2.2.1) {v : Int32} {K : Nat} (hn : ¬ v < 0) (hN : v.toNatClampNeg = K) (hb : K * 4 ≤ 536870912) (h1 : ck + 1 ≤ mc) (h2 : cs + K ≤ ms) (hd : decode cc pc = .ok (.anewarray index, 3)) (kk : V D x B fin mc ms (N + 1) (cu ce N (.inl (ca t0, K, .inr (.inr (.inr (.inr (fun _ => none))))))) (ck + 1) (cs + K) (pc + 3) L (.ref (B + N) :: st)) : V D x B fin mc ms N ce ck cs pc L (.int v :: st) := by
  intro H locs ls hz hP hS hl
  subst hN
  have hR : x.2.2.2.1 = rmn d mc ms := g.2.2.2.2.2.2.2.2.1
  refine W.anew g.1 g.2.1 g.2.2.2.1 (g.2.2.2.2.1 _ w1) (va_AO.use hov) rfl hd rfl hn hb (by rw [hR]; exact h1) (by rw [hR]; exact h2) fun cA kA comp f1 f2 f3 f4 => ?_
  have hcA : cA = ca t0 := by
    obtain ⟨_, _, _, _, _, h3⟩ := (g.2.2.2.2.2.1.2 t0 _ ht).2
    exact Option.some.inj (f1.symm.trans h3)
  subst hcA
  generalize hH1 : H.push ({ cls := ca t0, slots := Array.replicate v.toNatClampNeg .null, vm := .none } : Cell) = H1
  have z1 : H1.size = H.size + 1 := by rw [← hH1, Array.size_push]
  have e1 : H1[H.size]? = some (arrV (ca t0) v.toNatClampNeg (fun _ => .null)) := by rw [← hH1, Array.getElem?_push_size, ← arrV_new]
  have o1 : ∀ q : Nat, q < B + N → H1[q]? = H[q]? := fun q hq => by rw [← hH1, Array.getElem?_push, if_neg (Nat.ne_of_lt (by rw [hz]; exact hq))]
  have hq := kk H1 locs ls (by omega) (v_grow hz hP o1 (by
    show H1[B + N]? = some (vp_cell _ _)
    rw [vp_cell_q, ← hz]
    exact e1)) ⟨Nat.le_trans hS.1 (by omega), fun q h3 h4 => (o1 q (by have := hS.1; omega)).trans (hS.2.1 q h3 h4), hS.2.2⟩ hl
  rw [hz]
  exact hq
theorem v_aast (g : Gn D ca x own cc n d mc ms) {c c2 ci K a1 a2 : Nat} {i : Int32} (t0 : Nat) {q : vw_C} {vs : List Value} {f : Nat → Option Nat} (hc : c < N) (he : ce c = .inl (ca t0, K, .inr (.inr (.inr (.inr f))))) (ht : (tysC ca)[t0]? = some (ca t0, .object q.1)) (hc2 : c2 < N) (he2 : ce c2 = .inr (ci, vs)) (hcl : vwCl[ci]? = some q) (hi : vp_in i K) (h1 : a1 = B + c) (h2 : a2 = B + c2) (hd : decode cc pc = .ok (.aastore, 1)) (kk : V D x B fin mc ms N (cu ce c (.inl (ca t0, K, .inr (.inr (.inr (.inr (va_up f i.toNatClampNeg (some (B + c2)))))))) ) ck cs (pc + 1) L st) : V D x B fin mc ms N ce ck cs pc L (.ref a2 :: .int i :: .ref a1 :: st) := by
  intro H locs ls hz hP hS hl
  subst h1; subst h2
  have hK := g.2.2.2.2.2.1
  have ha : (gw B N ce)[c]? = some (B + c, .inl (ca t0, K, .inr (.inr (.inr (.inr f))))) := by rw [gw_at hc, he]
  have hv : (gw B N ce)[c2]? = some (B + c2, .inr (ci, vs)) := by rw [gw_at hc2, he2]
  have hlt : i.toNatClampNeg < K := Nat.not_le.mp fun q => hi (Or.inr q)
  have h0 : ¬ i < 0 := fun q => hi (Or.inl q)
  obtain ⟨r', hr', cellV, g1, g2, g3, -⟩ := hP c2 _ hv
  have hcls := (hK.1 ci q hcl).2
  obtain ⟨kA, comp, k1, k2, k3, -⟩ := (hK.2 t0 _ ht).2
  have hcomp : comp = D.1 ci := Option.some.inj (k3.symm.trans hcls.1)
  subst hcomp
  obtain ⟨kC, hkC, -⟩ := hcls.2
  refine W.aast g.1 g.2.1 (hP c _ ha) (fun q h => by cases h) (fun h => by cases h) k1 k2 rfl hkC ⟨h0, by show _ < (arrV _ _ _).slots.size; rw [arrV_size]; exact hlt⟩ g1 (fun q h => by rw [g3] at h; cases h) (by rw [g2]; exact hkC) (by rw [g2]; exact va_assign hcls) rfl rfl hd fun H1 e z oq => ?_
  refine kk H1 _ ls (by rw [z]; exact hz) ?_ (hS.put z oq (Nat.le_add_right _ _)) hl
  rw [← gw_set hc]
  refine hP.set gw_D ha ?_ oq
  show H1[B + c]? = some (vp_cell _ _)
  rw [e]
  rw [vp_cell_q, vp_cell_q, arrV_store]
  congr 2
  funext q
  by_cases hq : q = i.toNatClampNeg
  · subst hq
    simp [updV, va_up, va_rf]
  · simp [updV, va_up, hq]
theorem v_vret (g : Gn D ca x own cc n d mc ms) (hd : decode cc pc = .ok (.return_, 1)) (h1 : ck ≤ mc) (h2 : cs ≤ ms) (hN : N = fin.1) (hf : ∀ c, c < N → ce c = fin.2 c) : V D x B fin mc ms N ce ck cs pc L [] := by
  intro H locs ls hz hP hS hl
  refine W.widen (k := mc) (n := ms) h1 h2 ?_
  rw [gw_eq hf, hN] at hP
  exact W.vret g.1 g.2.1 g.2.2.2.2.2.2.1 (fun t ht hW => ⟨⟨rfl, by rw [ht, hz, hN], by rw [ht]; exact hP⟩, hS.F ht⟩) hS.2.2 hd (hlocks := g.2.2.2.2.2.2.2.1)
end VRows
