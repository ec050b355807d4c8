def R_law : String := "MeetHouseLaw"
def lw_P (b : Addr) (xs : List Int32) (args : Array Value) (s : State) : Prop := args = #[.ref b] ∧ s.IntsAt b xs ∧ xs.length ≤ 3584 ∧ (Jvm.Cond.and given_1 narrow_1).before args s = true
def lw_Q (_ : Array Value) (s : State) (o : Outcome) (t : State) : Prop := o = .returned (some (.int 1)) ∧ Framed s o t [] 600000 7302250
def lw_Z (below : List Frame) (a : Array Value) (s : State) : State → Prop := fun t => ∃ o, t.status = .running ∧ Ended t below o ∧ lw_Q a s o t
/-- the law's own end, with 1 on the stack, nothing written that was there before, its room as the claim has it -/
theorem lw_ret {p : Program} {l : Launch} {e : Env} {s : State} {m : MethodId} {below : List Frame} {meth : Method} {c : Code} {b : Nat} (hx : p.tables.exec = Jvm.exec) (hb : c.code = code) (hr : meth.sig.returnType = ret) (hlocks : meth.locks = false) {pc : Nat} {H : Heap} {ls : Array Slot} (hdg : decode code pc = .ok (.ireturn, 1)) : W p l e room_1 s m #[Value.ref b] below meth c H [] 600000 7302250 (lw_Z below #[Value.ref b] s) (F0 m pc ls [.int 1]) := by
  intro T hT X
  obtain ⟨fs, hret, hrun, hended, hW, hframe⟩ := X.leave (v := some (.int 1)) (hlocks := hlocks) (fun h => by rw [hr] at h; cases h)
  have hmeth' : T.vm.method? m = some meth := X.method'
  refine ⟨T.setFrames fs, ?_, .returned (some (.int 1)), hrun, hended, rfl, ⟨_, rfl⟩, hW, hframe⟩
  jvm_step X.here [X.here.top, hx, hb, hdg, hmeth', hr, ret, narrow_b1]
  (try refine ⟨rfl, ?_⟩); (try refine ⟨rfl, ?_⟩)
  first | (intro acts; rw [hret _ acts rfl rfl rfl]) | rw [hret _ _ rfl rfl rfl]
  exact Steps.refl _
/-- what holds at the law's entry: the machine, the code, the tables' words (any of lw_tbl by 'hts w (by decide +kernel)'), the script of L ints xs at the cell b, what the Statement gives of the start (any of its parts by flat_of_before) -/
def lw_At (p : Program) (s : State) (m : MethodId) (meth : Method) (c : Code) (b L : Nat) (xs : Nat → Int32) : Prop :=
  p.tables.exec = Jvm.exec ∧ c.code = code ∧ meth.sig.returnType = ret ∧ c.maxLocals = 4 ∧ s.vm.findClass R_law = some m.cls ∧ (∀ w ∈ lw_tbl, w.before #[Value.ref b] s = true) ∧ va_X b L xs s s.heap ∧ b < s.heap.size ∧ meth.locks = false ∧ (Jvm.Cond.and given_1 narrow_1).before #[Value.ref b] s = true
/-- the law's worlds: class numbers and slots; array classes; where the class's cells begin; where the reference's begin; the static table -/
abbrev Lp : Type := va_G × (Nat → ClassId) × Nat × Nat × Nat
def wX (q : Lp) : Wp := (q.1, q.2.1, (fun c => q.2.2.1 + c), q.2.2.2.2)
def wY (q : Lp) : Wp := (q.1, q.2.1, (fun c => q.2.2.2.1 + c), q.2.2.2.2)
def LG (q : Lp) (x : Cx) (b n : Nat) (xs : Nat → Int32) : Prop :=
  x.1.tables.exec = Jvm.exec ∧ x.2.2.2.2.2.2.2.2.2.code = code ∧ x.2.2.2.2.2.2.2.2.2.maxLocals = 4 ∧ x.2.2.2.2.1.vm.findClass R_law = some x.2.2.2.2.2.1.cls ∧ (∀ w ∈ tbG, w.before x.2.2.2.2.2.2.1 x.2.2.2.2.1 = true) ∧ va_K q.1 vwCl (tysC q.2.1) x.2.2.2.2.1 ∧
  va_Z "MeetHouse$Pot" "WITHOUT" "[J" (.ref q.2.2.2.2) (fun p => x.2.2.2.2.1.heap.size ≤ p) x.2.2.2.2.1 x.2.2.2.2.1.heap ∧ va_T .long q.2.2.2.2 6 (fun j => .long (WL j)) (fun p => x.2.2.2.2.1.heap.size ≤ p) x.2.2.2.2.1 x.2.2.2.2.1.heap ∧ x.2.2.2.2.1.heap.size ≤ q.2.2.1 ∧ q.2.2.1 + 360 ≤ q.2.2.2.1 ∧ va_X b n xs x.2.2.2.2.1 x.2.2.2.2.1.heap ∧ b < x.2.2.2.2.1.heap.size ∧ x.2.2.2.1 = room_1
def LU (q : Lp) (x : Cx) (Q : State → Prop) (M1 M2 : Mem) (pc : Nat) (L : List (Nat × Value)) (st : List Value) : Prop :=
  ∀ (H : Heap) (locs : List Loc) (ls : Array Slot), va_P q.1 vwCl (wd shX (wX q) M1) H → va_P q.1 vwCl (wd shY (wY q) M2) H → va_S (fun p => x.2.2.2.2.1.heap.size ≤ p) x.2.2.2.2.1.heap H locs → lv_has ls x.2.2.2.2.2.2.2.2.2.maxLocals L →
    W x.1 x.2.1 x.2.2.1 x.2.2.2.1 x.2.2.2.2.1 x.2.2.2.2.2.1 x.2.2.2.2.2.2.1 x.2.2.2.2.2.2.2.1 x.2.2.2.2.2.2.2.2.1 x.2.2.2.2.2.2.2.2.2 H locs 600000 7302250 Q (F0 x.2.2.2.2.2.1 pc ls st)
section LRows
variable {q : Lp} {x : Cx} {Q : State → Prop} {M1 M2 : Mem} {pc : Nat} {L : List (Nat × Value)} {st S : List Value} {b n : Nat} {xs : Nat → Int32}
theorem l_iconst (g : LG q x b n xs) {k : Int} {v : Int32} (hd : decode code pc = .ok (.iconst k, 1)) (hv : Int32.ofInt k = v) (kk : LU q x Q M1 M2 (pc + 1) L (.int v :: st)) : LU q x Q M1 M2 pc L st := fun H locs ls h1 h2 hS hl => lv_iconst g.1 g.2.1 hd hv (kk H locs ls h1 h2 hS hl)
theorem l_bipush (g : LG q x b n xs) {k : Int} {v : Int32} (hd : decode code pc = .ok (.bipush k, 2)) (hv : (Int8.ofInt k).toInt32 = v) (kk : LU q x Q M1 M2 (pc + 2) L (.int v :: st)) : LU q x Q M1 M2 pc L st := fun H locs ls h1 h2 hS hl => lv_bipush g.1 g.2.1 hd hv (kk H locs ls h1 h2 hS hl)
theorem l_aload_n (g : LG q x b n xs) (p : Nat) {k : Fin 4} {v : Nat} (hd : decode code pc = .ok (.aload_n k, 1)) (hL : L[p]? = some ((k : Nat), .ref v)) (kk : LU q x Q M1 M2 (pc + 1) L (.ref v :: st)) : LU q x Q M1 M2 pc L st := fun H locs ls h1 h2 hS hl => lv_aload_n g.1 g.2.1 hd rfl (lv_at hl p hL) (kk H locs ls h1 h2 hS hl)
theorem l_iload_n (g : LG q x b n xs) (p : Nat) {k : Fin 4} {v : Int32} (hd : decode code pc = .ok (.iload_n k, 1)) (hL : L[p]? = some ((k : Nat), .int v)) (kk : LU q x Q M1 M2 (pc + 1) L (.int v :: st)) : LU q x Q M1 M2 pc L st := fun H locs ls h1 h2 hS hl => lv_iload_n g.1 g.2.1 hd rfl (lv_at hl p hL) (kk H locs ls h1 h2 hS hl)
theorem l_iadd (g : LG q x b n xs) {u v : Int32} (hd : decode code pc = .ok (.iadd, 1)) (kk : LU q x Q M1 M2 (pc + 1) L (.int (u + v) :: st)) : LU q x Q M1 M2 pc L (.int v :: .int u :: st) := fun H locs ls h1 h2 hS hl => lv_iadd g.1 g.2.1 hd (kk H locs ls h1 h2 hS hl)
theorem l_isub (g : LG q x b n xs) {u v : Int32} (hd : decode code pc = .ok (.isub, 1)) (kk : LU q x Q M1 M2 (pc + 1) L (.int (u - v) :: st)) : LU q x Q M1 M2 pc L (.int v :: .int u :: st) := fun H locs ls h1 h2 hS hl => lv_isub g.1 g.2.1 hd (kk H locs ls h1 h2 hS hl)
theorem l_iand (g : LG q x b n xs) {u v : Int32} (hd : decode code pc = .ok (.iand, 1)) (kk : LU q x Q M1 M2 (pc + 1) L (.int (u &&& v) :: st)) : LU q x Q M1 M2 pc L (.int v :: .int u :: st) := fun H locs ls h1 h2 hS hl => lv_iand g.1 g.2.1 hd (kk H locs ls h1 h2 hS hl)
theorem l_lcmp (g : LG q x b n xs) {u v : Int64} (hd : decode code pc = .ok (.lcmp, 1)) (kk : LU q x Q M1 M2 (pc + 1) L (.int (lg_cmp u v) :: st)) : LU q x Q M1 M2 pc L (.long v :: .long u :: st) := fun H locs ls h1 h2 hS hl => W.lcmp g.1 g.2.1 hd (kk H locs ls h1 h2 hS hl)
theorem l_goto (g : LG q x b n xs) {off : Int} (tgt : Nat) (hd : decode code pc = .ok (.goto off, 3)) (ht : (pc : Int) + off = (tgt : Int)) (kk : LU q x Q M1 M2 tgt L st) : LU q x Q M1 M2 pc L st := fun H locs ls h1 h2 hS hl => lv_goto g.1 g.2.1 hd ht (kk H locs ls h1 h2 hS hl)
theorem l_slen (g : LG q x b n xs) (hd : decode code pc = .ok (.arraylength, 1)) (kk : LU q x Q M1 M2 (pc + 1) L (.int (Int32.ofNat n) :: st)) : LU q x Q M1 M2 pc L (.ref b :: st) := fun H locs ls h1 h2 hS hl => va_slen g.1 g.2.1 g.2.2.2.2.2.2.2.2.2.2.1 g.2.2.2.2.2.2.2.2.2.2.2.1 (Nat.not_le.mpr g.2.2.2.2.2.2.2.2.2.2.2.1) hS hd (kk H locs ls h1 h2 hS hl)
theorem l_sld (g : LG q x b n xs) {i : Int32} (hi : vp_in i n) (hd : decode code pc = .ok (.iaload, 1)) (kk : LU q x Q M1 M2 (pc + 1) L (.int (xs i.toNatClampNeg) :: st)) : LU q x Q M1 M2 pc L (.int i :: .ref b :: st) := fun H locs ls h1 h2 hS hl => va_sld g.1 g.2.1 g.2.2.2.2.2.2.2.2.2.2.1 g.2.2.2.2.2.2.2.2.2.2.2.1 (Nat.not_le.mpr g.2.2.2.2.2.2.2.2.2.2.2.1) hS hi hd (kk H locs ls h1 h2 hS hl)
theorem l_istore_n (g : LG q x b n xs) {k : Fin 4} {v : Int32} (L' : List (Nat × Value)) (hd : decode code pc = .ok (.istore_n k, 1)) (hn : (k : Nat) < 4) (hL : ((k : Nat), Value.int v) :: L.filter (fun q => !(q.1 == (k : Nat)) && !(q.1 + 1 == (k : Nat) && q.2.category == 2)) = L') (kk : LU q x Q M1 M2 (pc + 1) L' st) : LU q x Q M1 M2 pc L (.int v :: st) := fun H locs ls h1 h2 hS hl => lv_istore_n g.1 g.2.1 hd rfl hl (by rw [g.2.2.1]; exact hn) hL (fun ls' hl' => kk H locs ls' h1 h2 hS hl')
theorem l_iinc (g : LG q x b n xs) (p : Nat) {k : Nat} {i : Int} {u v : Int32} (L' : List (Nat × Value)) (hd : decode code pc = .ok (.iinc k i, 3)) (hq : L[p]? = some (k, .int u)) (hv : u + Int32.ofInt i = v) (hn : k < 4) (hL : (k, Value.int v) :: L.filter (fun q => !(q.1 == k) && !(q.1 + 1 == k && q.2.category == 2)) = L') (kk : LU q x Q M1 M2 (pc + 3) L' st) : LU q x Q M1 M2 pc L st := fun H locs ls h1 h2 hS hl => lv_iinc g.1 g.2.1 hd hl hq hv (by rw [g.2.2.1]; exact hn) hL (fun ls' hl' => kk H locs ls' h1 h2 hS hl')
theorem l_sub (ks : List Nat) {L' : List (Nat × Value)} (hL : lv_pick L ks = L') (kk : LU q x Q M1 M2 pc L' st) : LU q x Q M1 M2 pc L st := fun H locs ls h1 h2 hS hl => kk H locs ls h1 h2 hS (lv_sub hl ks hL)
theorem l_icmp_gt (g : LG q x b n xs) {u v : Int32} {off : Int} (tgt : Nat) (hd : decode code pc = .ok (.if_icmp .gt off, 3)) (ht : (pc : Int) + off = (tgt : Int)) (kt : v < u → LU q x Q M1 M2 tgt L st) (kf : ¬ v < u → LU q x Q M1 M2 (pc + 3) L st) : LU q x Q M1 M2 pc L (.int v :: .int u :: st) := fun H locs ls h1 h2 hS hl => lv_icmp_gt g.1 g.2.1 hd ht (fun z => kt z H locs ls h1 h2 hS hl) (fun z => kf z H locs ls h1 h2 hS hl)
theorem l_icmp_eq (g : LG q x b n xs) {u v : Int32} {off : Int} (tgt : Nat) (hd : decode code pc = .ok (.if_icmp .eq off, 3)) (ht : (pc : Int) + off = (tgt : Int)) (he : u = v) (kt : LU q x Q M1 M2 tgt L st) : LU q x Q M1 M2 pc L (.int v :: .int u :: st) := fun H locs ls h1 h2 hS hl => lv_icmp_eq g.1 g.2.1 hd ht (fun _ => kt H locs ls h1 h2 hS hl) (fun z => absurd he z)
theorem l_if_eq (g : LG q x b n xs) {u : Int32} {off : Int} (tgt : Nat) (hd : decode code pc = .ok (.ifCond .eq off, 3)) (ht : (pc : Int) + off = (tgt : Int)) (he : u = 0) (kt : LU q x Q M1 M2 tgt L st) : LU q x Q M1 M2 pc L (.int u :: st) := fun H locs ls h1 h2 hS hl => lv_if_eq g.1 g.2.1 hd ht (fun _ => kt H locs ls h1 h2 hS hl) (fun z => absurd he z)
theorem l_if_neq (g : LG q x b n xs) {u : Int32} {off : Int} (tgt : Nat) (hd : decode code pc = .ok (.ifCond .eq off, 3)) (ht : (pc : Int) + off = (tgt : Int)) (he : ¬ u = 0) (kf : LU q x Q M1 M2 (pc + 3) L st) : LU q x Q M1 M2 pc L (.int u :: st) := fun H locs ls h1 h2 hS hl => lv_if_eq g.1 g.2.1 hd ht (fun z => absurd z he) (fun _ => kf H locs ls h1 h2 hS hl)
theorem l_tableIn (g : LG q x b n xs) {a : Int32} {dflt lo hi off : Int} {offs : Array Int} {len : Nat} (tgt : Nat) (hd : decode code pc = .ok (.tableswitch dflt lo hi offs, len)) (v : Int32) (hv : a = v) (h1 : (decide (v.toInt < lo) || decide (hi < v.toInt)) = false) (ho : offs[(v.toInt - lo).toNat]? = some off) (ht : (pc : Int) + off = (tgt : Int)) (kk : LU q x Q M1 M2 tgt L st) : LU q x Q M1 M2 pc L (.int a :: st) := by
  intro H locs ls h2 h3 hS hl
  subst hv
  simp only [Bool.or_eq_false_iff, decide_eq_false_iff_not] at h1
  exact lv_tableIn g.1 g.2.1 hd h1.1 h1.2 ho ht (kk H locs ls h2 h3 hS hl)
theorem l_tableOut (g : LG q x b n xs) {a : Int32} {dflt lo hi : Int} {offs : Array Int} {len : Nat} (tgt : Nat) (hd : decode code pc = .ok (.tableswitch dflt lo hi offs, len)) (ho : a.toInt < lo ∨ hi < a.toInt) (ht : (pc : Int) + dflt = (tgt : Int)) (kk : LU q x Q M1 M2 tgt L st) : LU q x Q M1 M2 pc L (.int a :: st) := fun H locs ls h1 h2 hS hl => lv_tableOut g.1 g.2.1 hd ho ht (kk H locs ls h1 h2 hS hl)
theorem l_frame {h : Sh} {w : Wp} {M : Mem} {H H1 : Heap} (hP : va_P w.1 vwCl (wd h w M) H) (hk : ∀ c, c < h.1 → H1[w.2.2.1 c]? = H[w.2.2.1 c]?) : va_P w.1 vwCl (wd h w M) H1 := by
  intro k p hp
  have hlt := wd_lt hp
  refine (hP k p hp).kept ?_
  rw [wd_at hlt] at hp
  cases hp
  exact hk k hlt
theorem l_KX (g : LG q x b n xs) {V : State} {H : Heap} {locs : List Loc} (hS : va_S (fun p => x.2.2.2.2.1.heap.size ≤ p) x.2.2.2.2.1.heap H locs) (hV : V.heap = H) (hW : x.2.2.2.2.1.WarmedH V.vm) : Kw shX (wX q) V := by
  have hA : ∀ p, wA shX (wX q) p → x.2.2.2.2.1.heap.size ≤ p := by
    rintro p ⟨c, hc, rfl⟩
    have := g.2.2.2.2.2.2.2.2.1
    show _ ≤ q.2.2.1 + c
    omega
  have k0 : Kw shX (wX q) x.2.2.2.2.1 := ⟨g.2.2.2.2.2.1, fun i j _ _ e => Nat.add_left_cancel e, g.2.2.2.2.2.2.1.narrow hA, g.2.2.2.2.2.2.2.1.narrow hA⟩
  exact k0.moved hW.alike (fun a h1 h2 => by rw [hV]; exact hS.2.1 a h1 (Nat.not_le.mpr h1))
theorem l_KY (g : LG q x b n xs) {V : State} {H : Heap} {locs : List Loc} (hS : va_S (fun p => x.2.2.2.2.1.heap.size ≤ p) x.2.2.2.2.1.heap H locs) (hV : V.heap = H) (hW : x.2.2.2.2.1.WarmedH V.vm) : Kw shY (wY q) V := by
  have hA : ∀ p, wA shY (wY q) p → x.2.2.2.2.1.heap.size ≤ p := by
    rintro p ⟨c, hc, rfl⟩
    have h1 := g.2.2.2.2.2.2.2.2.1
    have h2 := g.2.2.2.2.2.2.2.2.2.1
    show _ ≤ q.2.2.2.1 + c
    omega
  have k0 : Kw shY (wY q) x.2.2.2.2.1 := ⟨g.2.2.2.2.2.1, fun i j _ _ e => Nat.add_left_cancel e, g.2.2.2.2.2.2.1.narrow hA, g.2.2.2.2.2.2.2.1.narrow hA⟩
  exact k0.moved hW.alike (fun a h1 h2 => by rw [hV]; exact hS.2.1 a h1 (Nat.not_le.mpr h1))
theorem l_callX {index k dy ny : Nat} {y : MethodName} {cy : ByteArray} {ry : Option FieldType} {v : Value} {N1 : Mem} (g : LG q x b n xs) (cw : CWv R_law index y cy ny ry k) (As : List Value) (hq : y.cls = RX10) (hct : Ct shX (wX q) x.2.1 y cy ny ry dy (.ref ((wX q).2.2.1 0) :: As) M1 (some v, N1)) (hdd : dy ≤ 100) (hny : ny ≤ 45) (hk : As.length = k) (hst : (st.map fun v => v.category).sum ≤ 8) (hSt : S = As.reverse ++ .ref ((wX q).2.2.1 0) :: st) (hd : decode code pc = .ok (.invokevirtual index, 3)) (kk : LU q x Q N1 M2 (pc + 3) L (v :: st)) : LU q x Q M1 M2 pc L S := by
  intro H locs ls h1 h2 hS hl
  have hR : x.2.2.2.1 = room_1 := g.2.2.2.2.2.2.2.2.2.2.2.2
  obtain ⟨⟨w1, w2, w3, w4, w5⟩, n1, n2, n3⟩ := cw
  have hws : ∀ v ∈ wsV R_law index y.cls y (wsy y cy ny ry), v ∈ tbG := by
    intro v hv
    simp only [wsV, wsy, List.cons_append, List.nil_append, List.mem_cons] at hv
    rcases hv with rfl | rfl | rfl | rfl | rfl | hv
    · exact w1
    · exact w2
    · exact w3
    · exact w4
    · exact w5
    · exact hv
  have hrun : va_Run x.1 x.2.1 x.2.2.1 x.2.2.2.1 x.2.2.2.2.1 x.2.2.2.2.2.1 x.2.2.2.2.2.2.1 x.2.2.2.2.2.2.2.1 x.2.2.2.2.2.2.2.2.1 x.2.2.2.2.2.2.2.2.2 H locs 600000 7302250 0 0 (F0 x.2.2.2.2.2.1 pc ls S) st (Qct shX (wX q) (some v, N1) (Value.ref ((wX q).2.2.1 0) :: As).toArray) (wA shX (wX q)) := by
    refine va_runV (C := y.cls) (Ts := tbG) (cc := code) (own := R_law) (nL := x.2.2.2.2.2.2.2.2.2.maxLocals) (bytes := cy) (maxL := ny) (ret := ry) (n := k) ⟨g.1, g.2.1, rfl, g.2.2.2.1, g.2.2.2.2.1⟩ hct (cwV k g.2.2.2.2.1 (good_all hws) rfl rfl rfl ⟨rfl, n1, n2, n3⟩ ?_) ⟨u_blind, ?_, fun V hV hW => ⟨rfl, by rw [hV]; exact h1, l_KX g hS hV hW⟩⟩ rfl hk hl.1 hSt (lv_room hst) hd ⟨?_, ?_⟩
    · rw [hR]
      show dy + 1 ≤ 2048 ∧ 8 + (ny + 11) + 64 * dy ≤ 84000
      omega
    · obtain ⟨cell, a1, a2, a3⟩ := va_recv g.2.2.2.2.2.1 h1 (ci := 10) rfl (q0 := 0) (by rw [wd_at (show 0 < shX.1 by decide), (ceX_10 (show kX 0 = 10 from rfl))])
      exact ⟨cell, a1, a2, by rw [hq]; exact a3⟩
    · rw [hR]; exact Nat.le_refl _
    · rw [hR]; exact Nat.le_refl _
  intro T hT X
  obtain ⟨v', st₀, t, T', L', h0, X', hL, e1, e2, ⟨⟨hv, hP1⟩, hF⟩, stp⟩ := hrun T hT X
  have hvv : v' = some v := by cases hv; rfl
  subst hvv
  have hA : ∀ p, wA shX (wX q) p → x.2.2.2.2.1.heap.size ≤ p := by
    rintro p ⟨c, hc, rfl⟩
    have h3 := g.2.2.2.2.2.2.2.2.1
    have h4 := g.2.2.2.2.2.2.2.2.2.1
    show _ ≤ q.2.2.1 + c
    omega
  have hS1 : va_S (fun p => x.2.2.2.2.1.heap.size ≤ p) x.2.2.2.2.1.heap T'.heap (locs ++ L') := by
    refine ⟨Nat.le_trans hS.1 (by rw [e1, ← h0]; exact hF.1), fun p h3 h4 => ?_, fun p hp => ?_⟩
    · rw [e1, hF.2 p (by rw [h0]; exact Nat.lt_of_lt_of_le h3 hS.1) (fun z => h4 (hA p z)), h0]
      exact hS.2.1 p h3 h4
    · rcases List.mem_append.mp hp with h3 | h3
      · exact hS.2.2 p h3
      · exact hA _ (hL p h3)
  have hO : va_P q.1 vwCl (wd shY (wY q) M2) T'.heap := by
    refine l_frame (w := wY q) h2 (fun c hc => ?_)
    have hc : c < 25 := hc
    have hin : (wY q).2.2.1 c < H.size := (h2 c _ (wd_at hc)).lt
    rw [e1, hF.2 _ (by rw [h0]; exact hin) ?_, h0]
    rintro ⟨c2, hc2, e⟩
    have hc2 : c2 < 360 := hc2
    have h4 := g.2.2.2.2.2.2.2.2.2.1
    have e : q.2.2.2.1 + c = q.2.2.1 + c2 := e
    omega
  obtain ⟨t2, a1, b1⟩ := kk T'.heap (locs ++ L') ls (by rw [e1]; exact hP1) hO hS1 hl T' rfl X'
  exact ⟨t2, stp t2 a1, b1⟩
theorem l_callY {index k dy ny : Nat} {y : MethodName} {cy : ByteArray} {ry : Option FieldType} {v : Value} {N1 : Mem} (g : LG q x b n xs) (cw : CWv R_law index y cy ny ry k) (As : List Value) (hq : y.cls = RX11) (hct : Ct shY (wY q) x.2.1 y cy ny ry dy (.ref ((wY q).2.2.1 0) :: As) M2 (some v, N1)) (hdd : dy ≤ 100) (hny : ny ≤ 45) (hk : As.length = k) (hst : (st.map fun v => v.category).sum ≤ 8) (hSt : S = As.reverse ++ .ref ((wY q).2.2.1 0) :: st) (hd : decode code pc = .ok (.invokevirtual index, 3)) (kk : LU q x Q M1 N1 (pc + 3) L (v :: st)) : LU q x Q M1 M2 pc L S := by
  intro H locs ls h1 h2 hS hl
  have hR : x.2.2.2.1 = room_1 := g.2.2.2.2.2.2.2.2.2.2.2.2
  obtain ⟨⟨w1, w2, w3, w4, w5⟩, n1, n2, n3⟩ := cw
  have hws : ∀ v ∈ wsV R_law index y.cls y (wsy y cy ny ry), v ∈ tbG := by
    intro v hv
    simp only [wsV, wsy, List.cons_append, List.nil_append, List.mem_cons] at hv
    rcases hv with rfl | rfl | rfl | rfl | rfl | hv
    · exact w1
    · exact w2
    · exact w3
    · exact w4
    · exact w5
    · exact hv
  have hrun : va_Run x.1 x.2.1 x.2.2.1 x.2.2.2.1 x.2.2.2.2.1 x.2.2.2.2.2.1 x.2.2.2.2.2.2.1 x.2.2.2.2.2.2.2.1 x.2.2.2.2.2.2.2.2.1 x.2.2.2.2.2.2.2.2.2 H locs 600000 7302250 0 0 (F0 x.2.2.2.2.2.1 pc ls S) st (Qct shY (wY q) (some v, N1) (Value.ref ((wY q).2.2.1 0) :: As).toArray) (wA shY (wY q)) := by
    refine va_runV (C := y.cls) (Ts := tbG) (cc := code) (own := R_law) (nL := x.2.2.2.2.2.2.2.2.2.maxLocals) (bytes := cy) (maxL := ny) (ret := ry) (n := k) ⟨g.1, g.2.1, rfl, g.2.2.2.1, g.2.2.2.2.1⟩ hct (cwV k g.2.2.2.2.1 (good_all hws) rfl rfl rfl ⟨rfl, n1, n2, n3⟩ ?_) ⟨u_blind, ?_, fun V hV hW => ⟨rfl, by rw [hV]; exact h2, l_KY g hS hV hW⟩⟩ rfl hk hl.1 hSt (lv_room hst) hd ⟨?_, ?_⟩
    · rw [hR]
      show dy + 1 ≤ 2048 ∧ 8 + (ny + 11) + 64 * dy ≤ 84000
      omega
    · obtain ⟨cell, a1, a2, a3⟩ := va_recv g.2.2.2.2.2.1 h2 (ci := 11) rfl (q0 := 0) (by rw [wd_at (show 0 < shY.1 by decide), ceY_0])
      exact ⟨cell, a1, a2, by rw [hq]; exact a3⟩
    · rw [hR]; exact Nat.le_refl _
    · rw [hR]; exact Nat.le_refl _
  intro T hT X
  obtain ⟨v', st₀, t, T', L', h0, X', hL, e1, e2, ⟨⟨hv, hP1⟩, hF⟩, stp⟩ := hrun T hT X
  have hvv : v' = some v := by cases hv; rfl
  subst hvv
  have hA : ∀ p, wA shY (wY q) p → x.2.2.2.2.1.heap.size ≤ p := by
    rintro p ⟨c, hc, rfl⟩
    have h3 := g.2.2.2.2.2.2.2.2.1
    have h4 := g.2.2.2.2.2.2.2.2.2.1
    show _ ≤ q.2.2.2.1 + c
    omega
  have hS1 : va_S (fun p => x.2.2.2.2.1.heap.size ≤ p) x.2.2.2.2.1.heap T'.heap (locs ++ L') := by
    refine ⟨Nat.le_trans hS.1 (by rw [e1, ← h0]; exact hF.1), fun p h3 h4 => ?_, fun p hp => ?_⟩
    · rw [e1, hF.2 p (by rw [h0]; exact Nat.lt_of_lt_of_le h3 hS.1) (fun z => h4 (hA p z)), h0]
      exact hS.2.1 p h3 h4
    · rcases List.mem_append.mp hp with h3 | h3
      · exact hS.2.2 p h3
      · exact hA _ (hL p h3)
  have hO : va_P q.1 vwCl (wd shX (wX q) M1) T'.heap := by
    refine l_frame (w := wX q) h1 (fun c hc => ?_)
    have hc : c < 360 := hc
    have hin : (wX q).2.2.1 c < H.size := (h1 c _ (wd_at hc)).lt
    rw [e1, hF.2 _ (by rw [h0]; exact hin) ?_, h0]
    rintro ⟨c2, hc2, e⟩
    have hc2 : c2 < 25 := hc2
    have h4 := g.2.2.2.2.2.2.2.2.2.1
    have e : q.2.2.1 + c = q.2.2.2.1 + c2 := e
    omega
  obtain ⟨t2, a1, b1⟩ := kk T'.heap (locs ++ L') ls hO (by rw [e1]; exact hP1) hS1 hl T' rfl X'
  exact ⟨t2, stp t2 a1, b1⟩
end LRows
theorem sc_in {i n : Nat} (k : Nat) (hi : i + 7 ≤ n) (hk : k < 7) (hn : n ≤ 3584) : vp_in (nI i + nI k) n := by
  rw [nI_add]
  exact vp_in_nI (by omega) (by omega)
theorem lg_cmp_self (u : Int64) : lg_cmp u u = 0 := by simp [lg_cmp]
