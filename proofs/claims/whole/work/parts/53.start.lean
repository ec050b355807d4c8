/-- the law's beginning: cells grow from B on -/
def SG (D : va_G) (ca : Nat → ClassId) (x : Cx) : Prop :=
  x.1.tables.exec = Jvm.exec ∧ x.2.2.2.2.2.2.2.2.2.code = code ∧ x.2.2.2.2.2.2.2.2.2.maxLocals = 4 ∧ x.2.2.2.2.1.vm.findClass R_law = some x.2.2.2.2.2.1.cls ∧ (∀ w ∈ tbG, w.before x.2.2.2.2.2.2.1 x.2.2.2.2.1 = true) ∧ va_K D vwCl (tysC ca) x.2.2.2.2.1 ∧ Nst x.2.2.2.2.1 ∧ x.2.2.2.1 = room_1
def SV (D : va_G) (x : Cx) (B : Nat) (Q : State → Prop) (n : Nat) (ce : Nat → va_E) (ck cs pc : Nat) (L : List (Nat × Value)) (st : List Value) : Prop :=
  ∀ (H : Heap) (locs : List Loc) (ls : Array Slot), H.size = B + n → va_P D vwCl (gw B n ce) H → va_S (fun q => B ≤ q) x.2.2.2.2.1.heap H locs → lv_has ls x.2.2.2.2.2.2.2.2.2.maxLocals L →
    W x.1 x.2.1 x.2.2.1 x.2.2.2.1 x.2.2.2.2.1 x.2.2.2.2.2.1 x.2.2.2.2.2.2.1 x.2.2.2.2.2.2.2.1 x.2.2.2.2.2.2.2.2.1 x.2.2.2.2.2.2.2.2.2 H locs ck cs Q (F0 x.2.2.2.2.2.1 pc ls st)
section SRows
variable {D : va_G} {ca : Nat → ClassId} {x : Cx} {B : Nat} {Q : State → Prop} {N : Nat} {ce ce' : Nat → va_E} {ck cs pc : Nat} {L : List (Nat × Value)} {st : List Value}
theorem s_dup (g : SG D ca x) {v : Value} (hd : decode code pc = .ok (.dup, 1)) (hv : v.category = 1) (kk : SV D x B Q N ce ck cs (pc + 1) L (v :: v :: st)) : SV D x B Q N ce ck cs pc L (v :: st) := fun H locs ls hz hP hS hl => lv_dup g.1 g.2.1 hd hv (kk H locs ls hz hP hS hl)
theorem s_astore_n (g : SG D ca x) {k : Fin 4} {v : Nat} (L' : List (Nat × Value)) (hd : decode code pc = .ok (.astore_n k, 1)) (hn : (k : Nat) < 4) (hL : ((k : Nat), Value.ref v) :: L.filter (fun q => !(q.1 == (k : Nat)) && !(q.1 + 1 == (k : Nat) && q.2.category == 2)) = L') (kk : SV D x B Q N ce ck cs (pc + 1) L' st) : SV D x B Q N ce ck cs pc L (.ref v :: st) := fun H locs ls hz hP hS hl => lv_astore_n g.1 g.2.1 hd rfl hl (by rw [g.2.2.1]; exact hn) hL (fun ls' hl' => kk H locs ls' hz hP hS hl')
theorem s_new (g : SG D ca x) {ci index K : Nat} {C : String} {T : u_T} (hcl : vwCl[ci]? = some (C, T, K)) (hin : ∀ v ∈ u_ws C T K, v ∈ tbG) (ty : Nat → FieldType) (hty : ∀ k, k < K → parseFieldDescriptor (T k).2.2.1 = some (ty k)) (w1 : Cond.classLink R_law index C ∈ tbG) (w2 : Cond.instantiable C K ∈ tbG) (w3 : Cond.initialized C ∈ tbG) {fs : List Value} (hfs : ∀ j, j < K → defaultValue (ty j) = vp_V fs j) (h1 : ck + 1 ≤ 600000) (h2 : cs + K ≤ 7302250) (hd : decode code pc = .ok (.new index, 3)) (kk : SV D x B Q (N + 1) (cu ce N (.inr (ci, fs))) (ck + 1) (cs + K) (pc + 3) L (.ref (B + N) :: st)) : SV D x B Q N ce ck cs pc L st := by
  intro H locs ls hz hP hS hl
  have hR : x.2.2.2.1 = room_1 := g.2.2.2.2.2.2.2
  have hKn := g.2.2.2.2.2.1.1 ci _ hcl
  refine W.newcK g.1 g.2.1 g.2.2.2.1 (g.2.2.2.2.1 _ w1) (g.2.2.2.2.1 _ w2) (g.2.2.2.2.1 _ w3) rfl hd (by rw [hR]; exact h1) (by rw [hR]; exact h2) hKn.2.1 hz fun H1 kC hkC e1 z1 o1 => ?_
  refine kk H1 locs ls (by omega) (v_grow hz hP o1 ⟨_, hcl, (u_born ty g.2.2.2.2.1 hin hKn hkC e1 hty).to hfs⟩) ?_ hl
  exact ⟨Nat.le_trans hS.1 (by omega), fun q h3 h4 => (o1 q (by have := hS.1; omega)).trans (hS.2.1 q h3 h4), hS.2.2⟩
theorem s_callI {index dy mcy msy ny N1 : Nat} {y : MethodName} {cy : ByteArray} {e0 : va_E} {fy : Nat × (Nat → va_E)} (g : SG D ca x) (w1 : Cond.methodLink R_law index y ∈ tbG) (w2 : Cond.initialized y.cls ∈ tbG) (w3 : Cond.code y cy ny none ∈ tbG) (w4 : Cond.instanceMethod y ∈ tbG) (hy : y.cls ≠ "java/lang/invoke/MethodHandle" ∧ y.cls ≠ "java/lang/invoke/VarHandle" ∧ (parseMethodDescriptor y.desc).map (fun d => d.parameters.length) = some 0) (hyn : y.name = "<init>")
    (hct : Cn D ca x.2.1 y cy ny dy mcy msy (B + N) e0 fy) (he : ce N = e0) (hdd : dy ≤ 100) (hny : ny ≤ 45) (h1 : ck + mcy ≤ 600000) (h2 : cs + msy ≤ 7302250) (hst : (st.map fun v => v.category).sum ≤ 8) (hd : decode code pc = .ok (.invokespecial index, 3))
    (hce : ∀ c, c < N → ce' c = ce c) (hce2 : ∀ c, c < fy.1 → ce' (N + c) = fy.2 c) (hN1 : N + fy.1 = N1)
    (kk : SV D x B Q N1 ce' (ck + mcy) (cs + msy) (pc + 3) L st) : SV D x B Q (N + 1) ce ck cs pc L (.ref (B + N) :: st) := by
  subst hN1
  intro H locs ls hz hP hS hl
  have hR : x.2.2.2.1 = room_1 := g.2.2.2.2.2.2.2
  have hws : ∀ v ∈ wsy y cy ny none, v ∈ tbG := by
    intro v hv
    simp only [wsy, List.mem_cons] at hv
    rcases hv with rfl | hv
    · exact w3
    · exact hv
  have hpre : ∀ V : State, V.heap = H → x.2.2.2.2.1.WarmedH V.vm → va_Pc [.ref (B + N)] (fun V => V.heap.size = B + N + 1 ∧ va_P D vwCl (gw (B + N) 1 (fun _ => e0)) V.heap ∧ va_K D vwCl (tysC ca) V ∧ Nst V) ([.ref (B + N)] : List Value).toArray V := by
    intro V hV hW
    refine ⟨rfl, by rw [hV, hz]; omega, ?_, g.2.2.2.2.2.1.moved hW.alike, fun z hz => va_Nw.warmM hW (g.2.2.2.2.2.2.1.1 z hz), g.2.2.2.2.2.2.1.2.1.moved hW.alike, g.2.2.2.2.2.2.1.2.2.1.moved hW.alike, g.2.2.2.2.2.2.1.2.2.2.moved hW.alike⟩
    intro k q hk
    have hlt := gw_lt hk
    rw [gw_at hlt] at hk
    cases hk
    rw [show k = 0 by omega, hV, ← he]
    exact hP N _ (gw_at (by omega))
  have hrun : va_Run x.1 x.2.1 x.2.2.1 x.2.2.2.1 x.2.2.2.2.1 x.2.2.2.2.2.1 x.2.2.2.2.2.2.1 x.2.2.2.2.2.2.2.1 x.2.2.2.2.2.2.2.2.1 x.2.2.2.2.2.2.2.2.2 H locs ck cs mcy msy (F0 x.2.2.2.2.2.1 pc ls (.ref (B + N) :: st)) st (Qn D (B + N) fy (Value.ref (B + N) :: []).toArray) (fun q => B + N ≤ q) := by
    refine va_runI (Ts := tbG) (cc := code) (own := R_law) (nL := x.2.2.2.2.2.2.2.2.2.maxLocals) (bytes := cy) (maxL := ny) (n := 0) (As := []) ⟨g.1, g.2.1, rfl, g.2.2.2.1, g.2.2.2.2.1⟩ hct (cwI 0 g.2.2.2.2.1 (good_all hws) rfl rfl rfl (g.2.2.2.2.1 _ w2) (g.2.2.2.2.1 _ w1) (g.2.2.2.2.1 _ w4) hyn hy ?_) ⟨v_blind, hpre⟩ rfl rfl hl.1 rfl (lv_room hst) hd ⟨?_, ?_⟩
    · rw [hR]
      show dy + 1 ≤ 2048 ∧ 8 + (ny + 11) + 64 * dy ≤ 84000
      omega
    · rw [hR]; exact h1
    · rw [hR]; exact h2
  intro T hT X
  obtain ⟨v', st₀, t, T', L', h0, X', hL, e1, e2, ⟨⟨hv, hz1, hP1⟩, hF⟩, stp⟩ := hrun T hT X
  cases hv
  have hS1 : va_S (fun q => B ≤ q) x.2.2.2.2.1.heap T'.heap (locs ++ L') := by
    refine ⟨Nat.le_trans hS.1 (by rw [e1, ← h0]; exact hF.1), fun q h1 h2 => ?_, fun q hq => ?_⟩
    · rw [e1, hF.2 q (by rw [h0]; exact Nat.lt_of_lt_of_le h1 hS.1) (fun h3 => h2 (by show B ≤ q; have h3 : B + N ≤ q := h3; omega)), h0]
      exact hS.2.1 q h1 h2
    · rcases List.mem_append.mp hq with h1 | h1
      · exact hS.2.2 q h1
      · have h3 : B + N ≤ q.base := hL q h1
        show B ≤ q.base
        omega
  have hP2 : va_P D vwCl (gw B (N + fy.1) ce') T'.heap := by
    intro k q hk
    have hlt := gw_lt hk
    rw [gw_at hlt] at hk
    cases hk
    by_cases hkN : k < N
    · rw [hce k hkN]
      refine (hP k _ (gw_at (by omega))).kept ?_
      show T'.heap[B + k]? = H[B + k]?
      rw [e1, hF.2 (B + k) (by rw [h0]; omega) (fun h3 => by have h3 : B + N ≤ B + k := h3; omega), h0]
    · have h4 : k = N + (k - N) := by omega
      have h5 : ce' k = fy.2 (k - N) := by
        have h6 := hce2 (k - N) (by omega)
        rw [← h4] at h6
        exact h6
      rw [h5, e1]
      have h7 := hP1 (k - N) _ (gw_at (by omega))
      rw [show B + N + (k - N) = B + k by omega] at h7
      exact h7
  obtain ⟨t2, a1, b1⟩ := kk T'.heap (locs ++ L') ls (by rw [e1, hz1]; omega) hP2 hS1 hl T' rfl X'
  exact ⟨t2, stp t2 a1, b1⟩
end SRows
theorem known_all {args : Array Value} {s : State} (hts : ∀ w ∈ tbG, w.before args s = true) : ∃ D : va_G, ∀ (c : Nat) (q : vw_C), vwCl[c]? = some q → u_Kn s q.1 q.2.1 q.2.2 (D.1 c) (D.2 c) := by
  obtain ⟨c0, i0, k0⟩ := u_known (C := RX0) (T := TX0) (N := 4) (n := 4) hts inX0 (hts (.instantiable RX0 4) (tbG_of (List.mem_of_getElem? (i := 138) (by decide +kernel)) (by decide +kernel)))
  obtain ⟨c1, i1, k1⟩ := u_known (C := RX1) (T := TX1) (N := 3) (n := 3) hts inX1 (hts (.instantiable RX1 3) (tbG_of (List.mem_of_getElem? (i := 280) (by decide +kernel)) (by decide +kernel)))
  obtain ⟨c2, i2, k2⟩ := u_known (C := RX2) (T := TX2) (N := 2) (n := 2) hts inX2 (hts (.instantiable RX2 2) (tbG_of (List.mem_of_getElem? (i := 266) (by decide +kernel)) (by decide +kernel)))
  obtain ⟨c3, i3, k3⟩ := u_known (C := RX3) (T := TX3) (N := 10) (n := 10) hts inX3 (hts (.instantiable RX3 10) (tbG_of (List.mem_of_getElem? (i := 211) (by decide +kernel)) (by decide +kernel)))
  obtain ⟨c4, i4, k4⟩ := u_known (C := RX4) (T := TX4) (N := 3) (n := 3) hts inX4 (hts (.instantiable RX4 3) (tbG_of (List.mem_of_getElem? (i := 131) (by decide +kernel)) (by decide +kernel)))
  obtain ⟨c5, i5, k5⟩ := u_known (C := RX5) (T := TX5) (N := 4) (n := 4) hts inX5 (hts (.instantiable RX5 4) (tbG_of (List.mem_of_getElem? (i := 83) (by decide +kernel)) (by decide +kernel)))
  obtain ⟨c6, i6, k6⟩ := u_known (C := RX6) (T := TX6) (N := 3) (n := 3) hts inX6 (hts (.instantiable RX6 3) (tbG_of (List.mem_of_getElem? (i := 111) (by decide +kernel)) (by decide +kernel)))
  obtain ⟨c7, i7, k7⟩ := u_known (C := RX7) (T := TX7) (N := 3) (n := 3) hts inX7 (hts (.instantiable RX7 3) (tbG_of (List.mem_of_getElem? (i := 217) (by decide +kernel)) (by decide +kernel)))
  obtain ⟨c8, i8, k8⟩ := u_known (C := RX8) (T := TX8) (N := 2) (n := 2) hts inX8 (hts (.instantiable RX8 2) (tbG_of (List.mem_of_getElem? (i := 196) (by decide +kernel)) (by decide +kernel)))
  obtain ⟨c9, i9, k9⟩ := u_known (C := RX9) (T := TX9) (N := 3) (n := 3) hts inX9 (hts (.instantiable RX9 3) (tbG_of (List.mem_of_getElem? (i := 144) (by decide +kernel)) (by decide +kernel)))
  obtain ⟨c10, i10, k10⟩ := u_known (C := RX10) (T := TX10) (N := 12) (n := 12) hts inX10 (hts (.instantiable RX10 12) (tbG_of (List.mem_of_getElem? (i := 75) (by decide +kernel)) (by decide +kernel)))
  obtain ⟨c11, i11, k11⟩ := u_known (C := RX11) (T := TX11) (N := 36) (n := 36) hts inX11 (hts (.instantiable RX11 36) (tbG_of (List.mem_of_getElem? (i := 914) (by decide +kernel)) (by decide +kernel)))
  refine ⟨(fun k => match k with | 0 => c0 | 1 => c1 | 2 => c2 | 3 => c3 | 4 => c4 | 5 => c5 | 6 => c6 | 7 => c7 | 8 => c8 | 9 => c9 | 10 => c10 | _ => c11, fun k => match k with | 0 => i0 | 1 => i1 | 2 => i2 | 3 => i3 | 4 => i4 | 5 => i5 | 6 => i6 | 7 => i7 | 8 => i8 | 9 => i9 | 10 => i10 | _ => i11), ?_⟩
  intro c q hq
  match c, hq with
  | 0, hq => cases hq; exact k0
  | 1, hq => cases hq; exact k1
  | 2, hq => cases hq; exact k2
  | 3, hq => cases hq; exact k3
  | 4, hq => cases hq; exact k4
  | 5, hq => cases hq; exact k5
  | 6, hq => cases hq; exact k6
  | 7, hq => cases hq; exact k7
  | 8, hq => cases hq; exact k8
  | 9, hq => cases hq; exact k9
  | 10, hq => cases hq; exact k10
  | 11, hq => cases hq; exact k11
  | c + 12, hq => simp [vwCl] at hq
theorem known_arr {args : Array Value} {s : State} (hts : ∀ w ∈ lw_tbl, w.before args s = true) : ∃ ca : Nat → ClassId, ∀ (k : Nat) (q : ClassId × FieldType), (tysC ca)[k]? = some q → ArrOfT s q.1 q.2 ∧ va_RA s q.1 q.2 := by
  obtain ⟨c0, k0, p0, a0, b0, d0⟩ := Cond.arrayClass_spec (hts (.arrayClass .int) (List.mem_of_getElem? (i := 107) (by decide +kernel)))
  obtain ⟨c1, k1, p1, a1, b1, d1⟩ := Cond.arrayClass_spec (hts (.arrayClass .long) (List.mem_of_getElem? (i := 232) (by decide +kernel)))
  obtain ⟨c2, k2, p2, a2, b2, d2⟩ := Cond.arrayClass_spec (hts (.arrayClass .boolean) (List.mem_of_getElem? (i := 1029) (by decide +kernel)))
  obtain ⟨p3, c3, k3, e3, -, b3, d3, a3⟩ := Cond.arrayOver_spec (hts (.arrayOver (.object "MeetHouse$Family")) (List.mem_of_getElem? (i := 109) (by decide +kernel)))
  obtain ⟨p4, c4, k4, e4, -, b4, d4, a4⟩ := Cond.arrayOver_spec (hts (.arrayOver (.object "MeetHouse$Thing")) (List.mem_of_getElem? (i := 129) (by decide +kernel)))
  obtain ⟨p5, c5, k5, e5, -, b5, d5, a5⟩ := Cond.arrayOver_spec (hts (.arrayOver (.object "MeetHouse$Act")) (List.mem_of_getElem? (i := 137) (by decide +kernel)))
  refine ⟨fun k => match k with | 0 => c0 | 1 => c1 | 2 => c2 | 3 => c3 | 4 => c4 | _ => c5, ?_⟩
  intro k q hq
  match k, hq with
  | 0, hq => cases hq; exact ⟨fun n z => ⟨fun k h => (by cases h), k0, b0, p0, d0⟩, a0⟩
  | 1, hq => cases hq; exact ⟨fun n z => ⟨fun k h => (by cases h), k1, b1, p1, d1⟩, a1⟩
  | 2, hq => cases hq; exact ⟨fun n z => ⟨fun k h => (by cases h), k2, b2, p2, d2⟩, a2⟩
  | 3, hq => cases hq; exact ⟨fun n z => ⟨fun k h => (by cases h), k3, b3, p3, d3⟩, ⟨k3, p3, b3, d3, e3, a3⟩⟩
  | 4, hq => cases hq; exact ⟨fun n z => ⟨fun k h => (by cases h), k4, b4, p4, d4⟩, ⟨k4, p4, b4, d4, e4, a4⟩⟩
  | 5, hq => cases hq; exact ⟨fun n z => ⟨fun k h => (by cases h), k5, b5, p5, d5⟩, ⟨k5, p5, b5, d5, e5, a5⟩⟩
  | k + 6, hq => simp [tysC] at hq
theorem known_nest {args : Array Value} {s : State} (hts : ∀ w ∈ lw_tbl, w.before args s = true) : Nst s := by
  refine ⟨?_, va_AO.of (hts _ (List.mem_of_getElem? (i := 109) (by decide +kernel))), va_AO.of (hts _ (List.mem_of_getElem? (i := 129) (by decide +kernel))), va_AO.of (hts _ (List.mem_of_getElem? (i := 137) (by decide +kernel)))⟩
  intro q hq
  simp only [nestQ, List.mem_cons, List.not_mem_nil, or_false] at hq
  rcases hq with rfl | rfl | rfl | rfl | rfl | rfl | rfl | rfl | rfl | rfl | rfl
  · exact va_Nw.of rfl (hts _ (List.mem_of_getElem? (i := 84) (by decide +kernel)))
  · exact va_Nw.of rfl (hts _ (List.mem_of_getElem? (i := 112) (by decide +kernel)))
  · exact va_Nw.of rfl (hts _ (List.mem_of_getElem? (i := 139) (by decide +kernel)))
  · exact va_Nw.of rfl (hts _ (List.mem_of_getElem? (i := 145) (by decide +kernel)))
  · exact va_Nw.of rfl (hts _ (List.mem_of_getElem? (i := 150) (by decide +kernel)))
  · exact va_Nw.of rfl (hts _ (List.mem_of_getElem? (i := 197) (by decide +kernel)))
  · exact va_Nw.of rfl (hts _ (List.mem_of_getElem? (i := 212) (by decide +kernel)))
  · exact va_Nw.of rfl (hts _ (List.mem_of_getElem? (i := 218) (by decide +kernel)))
  · exact va_Nw.of rfl (hts _ (List.mem_of_getElem? (i := 267) (by decide +kernel)))
  · exact va_Nw.of rfl (hts _ (List.mem_of_getElem? (i := 281) (by decide +kernel)))
  · exact va_Nw.of rfl (hts _ (List.mem_of_getElem? (i := 304) (by decide +kernel)))
theorem known_static {args : Array Value} {s : State} (hts : ∀ w ∈ lw_tbl, w.before args s = true) (hgv : (Jvm.Cond.and given_1 narrow_1).before args s = true) : ∃ t : Nat, va_Z "MeetHouse$Pot" "WITHOUT" "[J" (.ref t) (fun p => s.heap.size ≤ p) s s.heap ∧ va_T .long t 6 (fun j => .long (WL j)) (fun p => s.heap.size ≤ p) s s.heap := by
  have hs := flat_of_before _ hgv
  have hA : ∀ a : Nat, a < s.heap.size → ¬ s.heap.size ≤ a := fun a h => Nat.not_le.mpr h
  obtain ⟨t, ht, hT⟩ := va_Tof (tm := .static "MeetHouse$Pot" "WITHOUT" "[J") (ty := .long) (N := 6) (f := fun j => .long (WL j)) (A := fun p => s.heap.size ≤ p) (by decide) (hs (.arrayOf (.static "MeetHouse$Pot" "WITHOUT" "[J") .long) (by decide +kernel)) (va_eqt (hs (.eq (.length (.static "MeetHouse$Pot" "WITHOUT" "[J")) (.int 6)) (by decide +kernel))) (fun j hj => by
    match j, hj with
    | 0, _ => exact va_eqtl (hs (.eq (.elem (.static "MeetHouse$Pot" "WITHOUT" "[J") (.int 0)) (.long 6148914691236517205)) (by decide +kernel))
    | 1, _ => exact va_eqtl (hs (.eq (.elem (.static "MeetHouse$Pot" "WITHOUT" "[J") (.int 1)) (.long 3689348814741910323)) (by decide +kernel))
    | 2, _ => exact va_eqtl (hs (.eq (.elem (.static "MeetHouse$Pot" "WITHOUT" "[J") (.int 2)) (.long 1085102592571150095)) (by decide +kernel))
    | 3, _ => exact va_eqtl (hs (.eq (.elem (.static "MeetHouse$Pot" "WITHOUT" "[J") (.int 3)) (.long 71777214294589695)) (by decide +kernel))
    | 4, _ => exact va_eqtl (hs (.eq (.elem (.static "MeetHouse$Pot" "WITHOUT" "[J") (.int 4)) (.long 281470681808895)) (by decide +kernel))
    | 5, _ => exact va_eqtl (hs (.eq (.elem (.static "MeetHouse$Pot" "WITHOUT" "[J") (.int 5)) (.long 4294967295)) (by decide +kernel))
    | j + 6, h => exact absurd h (by omega)) hA
  exact ⟨t, va_Zof (hts (.laysStatic "MeetHouse$Pot" "WITHOUT" "[J") (List.mem_of_getElem? (i := 427) (by decide +kernel))) (hts (.initialized "MeetHouse$Pot") (List.mem_of_getElem? (i := 67) (by decide +kernel))) ht hA, hT⟩
set_option maxHeartbeats 4000000 in
set_option maxRecDepth 100000 in
/-- the law, from its entry, over the steps -/
theorem start_open {Rel : Mem → Mem → Prop} (hsteps : Steps Rel) (hfirst : Rel M0X M0Y) {p : Program} {e : Env} {s : State} {m : MethodId} {below : List Frame} {meth : Method} {c : Code} (l : Launch) {b L : Nat} {xs : Nat → Int32} (hL : L ≤ 3584) (C0 : lw_At p s m meth c b L xs) : W p l e room_1 s m #[Value.ref b] below meth c s.heap [] 0 0 (lw_Z below #[Value.ref b] s) (entryFrame m ([Value.ref b] : List Value).toArray 4) := by
  obtain ⟨hx, hb, hr, hml, hown, hts0, hX, hbl, hlocks, hgv⟩ := C0
  have hts : ∀ w ∈ tbG, w.before #[Value.ref b] s = true := fun w hw => hts0 w (List.mem_filter.mp hw).1
  obtain ⟨D, hKD⟩ := known_all hts
  obtain ⟨ca, hca⟩ := known_arr hts0
  have hN := known_nest hts0
  obtain ⟨tW, hZ, hT⟩ := known_static hts0 hgv
  have hK : va_K D vwCl (tysC ca) s := ⟨hKD, hca⟩
  have g : SG D ca (p, l, e, room_1, s, m, #[Value.ref b], below, meth, c) := ⟨hx, hb, hml, hown, hts, hK, hN, rfl⟩
  have g2 : LG (D, ca, s.heap.size, s.heap.size + 360, tW) (p, l, e, room_1, s, m, #[Value.ref b], below, meth, c) b L xs := ⟨hx, hb, hml, hown, hts, hK, hZ, hT, Nat.le_refl _, Nat.le_refl _, hX, hbl, rfl⟩
  have hl := lv_entry ([.ref b]) (n := 4) (Nat.le_of_ble_eq_true rfl)
  rw [lg_entry_eq]
  have key : SV D (p, l, e, room_1, s, m, #[Value.ref b], below, meth, c) s.heap.size (lw_Z below #[Value.ref b] s) 0 (fun _ => .inr (99, [])) 0 0 0 [(0, .ref b)] [] := by
    refine s_new g (ci := 10) (fs := [.null, .null, .int 0, .null, .int 0, .null, .null, .null, .null, .null, .null, .int 0]) rfl inX10 tyX10 tyX10_ok (tbG_of (List.mem_of_getElem? (i := 74) (by decide +kernel)) (by decide +kernel)) (tbG_of (List.mem_of_getElem? (i := 75) (by decide +kernel)) (by decide +kernel)) (tbG_of (List.mem_of_getElem? (i := 59) (by decide +kernel)) (by decide +kernel)) (fun j hj => by match j, hj with | 0, _ => rfl | 1, _ => rfl | 2, _ => rfl | 3, _ => rfl | 4, _ => rfl | 5, _ => rfl | 6, _ => rfl | 7, _ => rfl | 8, _ => rfl | 9, _ => rfl | 10, _ => rfl | 11, _ => rfl | q + 12, h => exact absurd h (by omega)) (by decide) (by decide) dL_law_0 ?_
    refine s_dup g dL_law_3 rfl ?_
    refine s_callI (N := 0) (st := [.ref (s.heap.size + 0)]) (ce' := fiX10 ca s.heap.size 24 16) g (tbG_of (List.mem_of_getElem? (i := 76) (by decide +kernel)) (by decide +kernel)) (tbG_of (List.mem_of_getElem? (i := 59) (by decide +kernel)) (by decide +kernel)) (tbG_of (List.mem_of_getElem? (i := 78) (by decide +kernel)) (by decide +kernel)) (tbG_of (List.mem_of_getElem? (i := 77) (by decide +kernel)) (by decide +kernel)) (by decide +kernel) rfl (c_X10_init D ca l (s.heap.size + 0)) (cu_s _ _ _) (by decide) (by decide) (by decide) (by decide) (Nat.le_of_ble_eq_true rfl) dL_law_4 (fun c hc => absurd hc (by omega)) (fun c hc => by rw [Nat.zero_add]; rfl) (N1 := 360) rfl ?_
    refine s_astore_n g [(1, .ref (s.heap.size + 0)), (0, .ref b)] dL_law_7 (by decide) rfl ?_
    refine s_new g (ci := 11) (fs := [.null, .null, .null, .int 0, .int 0, .int 0, .null, .int 0, .null, .null, .null, .int 0, .null, .int 0, .null, .null, .null, .null, .int 0, .null, .int 0, .null, .null, .null, .int 0, .null, .null, .int 0, .null, .null, .null, .null, .null, .int 0, .int 0, .null]) rfl inX11 tyX11 tyX11_ok (tbG_of (List.mem_of_getElem? (i := 913) (by decide +kernel)) (by decide +kernel)) (tbG_of (List.mem_of_getElem? (i := 914) (by decide +kernel)) (by decide +kernel)) (tbG_of (List.mem_of_getElem? (i := 70) (by decide +kernel)) (by decide +kernel)) (fun j hj => by match j, hj with | 0, _ => rfl | 1, _ => rfl | 2, _ => rfl | 3, _ => rfl | 4, _ => rfl | 5, _ => rfl | 6, _ => rfl | 7, _ => rfl | 8, _ => rfl | 9, _ => rfl | 10, _ => rfl | 11, _ => rfl | 12, _ => rfl | 13, _ => rfl | 14, _ => rfl | 15, _ => rfl | 16, _ => rfl | 17, _ => rfl | 18, _ => rfl | 19, _ => rfl | 20, _ => rfl | 21, _ => rfl | 22, _ => rfl | 23, _ => rfl | 24, _ => rfl | 25, _ => rfl | 26, _ => rfl | 27, _ => rfl | 28, _ => rfl | 29, _ => rfl | 30, _ => rfl | 31, _ => rfl | 32, _ => rfl | 33, _ => rfl | 34, _ => rfl | 35, _ => rfl | q + 36, h => exact absurd h (by omega)) (by decide) (by decide) dL_law_8 ?_
    refine s_dup g dL_law_11 rfl ?_
    refine s_callI (N := 360) (st := [.ref (s.heap.size + 360)]) (ce' := cj (fiX10 ca s.heap.size 24 16) 360 (fiX11 ca (s.heap.size + 360))) g (tbG_of (List.mem_of_getElem? (i := 915) (by decide +kernel)) (by decide +kernel)) (tbG_of (List.mem_of_getElem? (i := 70) (by decide +kernel)) (by decide +kernel)) (tbG_of (List.mem_of_getElem? (i := 917) (by decide +kernel)) (by decide +kernel)) (tbG_of (List.mem_of_getElem? (i := 916) (by decide +kernel)) (by decide +kernel)) (by decide +kernel) rfl (c_X11_init D ca l (s.heap.size + 360)) (cu_s _ _ _) (by decide) (by decide) (by decide) (by decide) (Nat.le_of_ble_eq_true rfl) dL_law_12 (fun c hc => by rw [cj_lo _ _ _ c hc, cu_n _ _ (by omega)]) (cj_hi _ _ _ _) (N1 := 385) rfl ?_
    refine s_astore_n g [(2, .ref (s.heap.size + 360)), (1, .ref (s.heap.size + 0)), (0, .ref b)] dL_law_15 (by decide) rfl ?_
    intro H locs ls hz hP hS hl
    refine W.widen (k := 600000) (n := 7302250) (Nat.le_of_ble_eq_true rfl) (Nat.le_of_ble_eq_true rfl) ?_
    have h1 : va_P D vwCl (wd shX (wX (D, ca, s.heap.size, s.heap.size + 360, tW)) M0X) H := by
      refine conv_X (fun k q hq => ?_)
      have hlt := gw_lt hq
      rw [gw_at hlt] at hq
      cases hq
      have h3 := hP k _ (gw_at (by omega))
      rw [cj_lo _ _ _ k hlt] at h3
      exact h3
    have h2 : va_P D vwCl (wd shY (wY (D, ca, s.heap.size, s.heap.size + 360, tW)) M0Y) H := by
      refine conv_Y (fun k q hq => ?_)
      have hlt := gw_lt hq
      rw [gw_at hlt] at hq
      cases hq
      have h3 := hP (360 + k) _ (gw_at (by omega))
      rw [cj_hi _ _ _ 25 k hlt, ← Nat.add_assoc] at h3
      exact h3
    have hloop : LU (D, ca, s.heap.size, s.heap.size + 360, tW) (p, l, e, room_1, s, m, #[Value.ref b], below, meth, c) (lw_Z below #[Value.ref b] s) M0X M0Y 16 [(2, .ref (s.heap.size + 360)), (1, .ref (s.heap.size + 0)), (0, .ref b)] [] := by
      refine l_iconst g2 (v := 0) dL_law_16 rfl ?_
      refine l_istore_n g2 [(3, .int 0), (2, .ref (s.heap.size + 360)), (1, .ref (s.heap.size + 0)), (0, .ref b)] dL_law_17 (by decide) rfl ?_
      refine l_sub [3, 2, 1, 0] rfl (law_loop hsteps g2 hL ?_ (L + 8) 0 M0X M0Y (by omega) (by omega) hfirst)
      intro M1 M2 L2
      refine l_iconst g2 (v := 1) dL_law_1566 rfl ?_
      intro H locs ls h1 h2 hS hl
      refine va_forget (fun q hq => hS.2.2 q hq) ?_
      exact lw_ret hx hb hr hlocks dL_law_1567
    exact hloop H locs ls h1 h2 hS hl
  refine key s.heap [] _ rfl (fun k q hq => ?_) va_S.rf (by show lv_has _ c.maxLocals _; rw [hml]; exact hl)
  simp [gw] at hq
