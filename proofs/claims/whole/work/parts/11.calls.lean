theorem goodTbl : tbG.all goodWord = true := by
  refine List.all_eq_true.mpr fun v hv => ?_
  exact (List.mem_filter.mp hv).2
theorem good_all {ws : List Cond} (h : ∀ v ∈ ws, v ∈ tbG) : GoodIn tbG ws := fun v hv => ⟨h v hv, good_of_word (List.all_eq_true.mp goodTbl v (h v hv))⟩
/-- the words of a call: the link, the method's own, its code, its parameters -/
def CWv (own : String) (index : Nat) (y : MethodName) (cy : ByteArray) (ny : Nat) (ry : Option FieldType) (k : Nat) : Prop := (Cond.methodLink own index y ∈ tbG ∧ Cond.instanceMethod y ∈ tbG ∧ Cond.selects y.cls y y ∈ tbG ∧ Cond.initialized y.cls ∈ tbG ∧ Cond.code y cy ny ry ∈ tbG) ∧ (y.cls ≠ "java/lang/invoke/MethodHandle" ∧ y.cls ≠ "java/lang/invoke/VarHandle" ∧ (parseMethodDescriptor y.desc).map (fun d => d.parameters.length) = some k)
def CWs (own : String) (index : Nat) (y : MethodName) (cy : ByteArray) (ny : Nat) (ry : Option FieldType) (k : Nat) : Prop := (Cond.methodLink own index y ∈ tbG ∧ Cond.static y ∈ tbG ∧ Cond.initialized y.cls ∈ tbG ∧ Cond.code y cy ny ry ∈ tbG) ∧ (y.cls ≠ "java/lang/invoke/MethodHandle" ∧ y.cls ≠ "java/lang/invoke/VarHandle" ∧ (parseMethodDescriptor y.desc).map (fun d => d.parameters.length) = some k)
section UCalls
variable {h : Sh} {w : Wp} {x : Cx} {r : Option Value × Mem} {M : Mem} {pc : Nat} {L : List (Nat × Value)} {st S : List Value} {own : String} {cc : ByteArray} {n : Nat} {rt : Option FieldType} {d : Nat}
theorem u_back {v : Option Value} {M1 : Mem} {H : Heap} {locs : List Loc} {ls : Array Slot} {av : Array Value} (hS : va_S (wA h w) x.2.2.2.2.1.heap H locs) (hl : lv_has ls x.2.2.2.2.2.2.2.2.2.maxLocals L)
    (hrun : va_Run x.1 x.2.1 x.2.2.1 x.2.2.2.1 x.2.2.2.2.1 x.2.2.2.2.2.1 x.2.2.2.2.2.2.1 x.2.2.2.2.2.2.2.1 x.2.2.2.2.2.2.2.2.1 x.2.2.2.2.2.2.2.2.2 H locs 0 0 0 0 (F0 x.2.2.2.2.2.1 pc ls S) st (Qct h w (v, M1) av) (wA h w))
    (kk : U h w x r M1 (pc + 3) L (v.toList ++ st)) : W x.1 x.2.1 x.2.2.1 x.2.2.2.1 x.2.2.2.2.1 x.2.2.2.2.2.1 x.2.2.2.2.2.2.1 x.2.2.2.2.2.2.2.1 x.2.2.2.2.2.2.2.2.1 x.2.2.2.2.2.2.2.2.2 H locs 0 0 (MQ x.2.2.2.2.2.2.2.1 (Qct h w r) x.2.2.2.2.2.2.1 x.2.2.2.2.1 0 0 (wA h w)) (F0 x.2.2.2.2.2.1 pc ls S) := by
  intro T hT X
  obtain ⟨v', st₀, t, T', L', h0, X', hL, e1, e2, ⟨⟨hv, hP1⟩, hF⟩, stp⟩ := hrun T hT X
  have hvv : v' = v := by cases hv; rfl
  subst hvv
  have hS1 : va_S (wA h w) x.2.2.2.2.1.heap T'.heap (locs ++ L') := by
    refine ⟨Nat.le_trans hS.1 (by rw [e1, ← h0]; exact hF.1), fun q h1 h2 => ?_, fun q hq => ?_⟩
    · rw [e1, hF.2 q (by rw [h0]; exact Nat.lt_of_lt_of_le h1 hS.1) h2, h0]
      exact hS.2.1 q h1 h2
    · rcases List.mem_append.mp hq with h1 | h1
      · exact hS.2.2 q h1
      · exact hL q h1
  obtain ⟨t2, a1, b1⟩ := kk T'.heap (locs ++ L') ls (by rw [e1]; exact hP1) hS1 hl T' rfl X'
  exact ⟨t2, stp t2 a1, b1⟩
theorem u_blind {av : List Value} : FrameBlind (va_Pc av (fun V => va_P w.1 vwCl (wd h w M) V.heap ∧ Kw h w V)) := by
  intro a V g mk q
  obtain ⟨q1, q2, q3⟩ := q
  exact ⟨q1, q2, q3.moved (U := V.calling g mk a) (Vm.Alike.refl V.vm) (fun _ _ _ => rfl)⟩
theorem u_pre {av : List Value} {H : Heap} {locs : List Loc} (g : Gd h w x own cc n rt d) (hP : va_P w.1 vwCl (wd h w M) H) (hS : va_S (wA h w) x.2.2.2.2.1.heap H locs) : ∀ V : State, V.heap = H → x.2.2.2.2.1.WarmedH V.vm → va_Pc av (fun V => va_P w.1 vwCl (wd h w M) V.heap ∧ Kw h w V) av.toArray V := by
  intro V hV hW
  exact ⟨rfl, by rw [hV]; exact hP, g.2.2.2.2.2.1.moved hW.alike (fun a h1 h2 => by rw [hV]; exact hS.2.1 a h1 h2)⟩
theorem u_callV {index k c ci dy ny : Nat} {y : MethodName} {cy : ByteArray} {ry : Option FieldType} {fs : List Value} {q : vw_C} {v : Option Value} {M1 : Mem} (g : Gd h w x own cc n rt d) (cw : CWv own index y cy ny ry k) (As : List Value) (hc : c < h.1) (he : h.2 w M c = .inr (ci, fs)) (hcl : vwCl[ci]? = some q) (hq : q.1 = y.cls)
    (hct : Ct h w x.2.1 y cy ny ry dy (.ref (w.2.2.1 c) :: As) M (v, M1)) (hdd : dy + 1 ≤ d) (hny : ny ≤ 45) (hk : As.length = k) (hst : (st.map fun v => v.category).sum ≤ 8) (hSt : S = As.reverse ++ .ref (w.2.2.1 c) :: st) (hd : decode cc pc = .ok (.invokevirtual index, 3))
    (kk : U h w x r M1 (pc + 3) L (v.toList ++ st)) : U h w x r M pc L S := by
  intro H locs ls hP hS hl
  have hR : x.2.2.2.1 = rmd d := g.2.2.2.2.2.2.2.2.1
  obtain ⟨⟨w1, w2, w3, w4, w5⟩, n1, n2, n3⟩ := cw
  have hws : ∀ v ∈ wsV own index y.cls y (wsy y cy ny ry), v ∈ tbG := by
    intro v hv
    simp only [wsV, wsy, List.cons_append, List.nil_append, List.mem_cons] at hv
    rcases hv with rfl | rfl | rfl | rfl | rfl | hv
    · exact w1
    · exact w2
    · exact w3
    · exact w4
    · exact w5
    · exact hv
  refine u_back (st := st) (av := (Value.ref (w.2.2.1 c) :: As).toArray) hS hl ?_ kk
  refine va_runV (C := y.cls) (Ts := tbG) (cc := cc) (own := own) (nL := x.2.2.2.2.2.2.2.2.2.maxLocals) (bytes := cy) (maxL := ny) (ret := ry) (n := k) ⟨g.1, g.2.1, rfl, g.2.2.2.1, g.2.2.2.2.1⟩ hct (cwV k g.2.2.2.2.1 (good_all hws) rfl rfl rfl ⟨rfl, n1, n2, n3⟩ ?_) ⟨u_blind, ?_, u_pre g hP hS⟩ rfl hk hl.1 hSt (lv_room hst) hd ⟨?_, ?_⟩
  · rw [hR]
    show dy + 1 ≤ d ∧ 8 + (ny + 11) + 64 * dy ≤ 64 * d
    omega
  · obtain ⟨cell, a1, a2, a3⟩ := va_recv g.2.2.2.2.2.1.1 hP hcl (q0 := c) (by rw [wd_at hc, he])
    exact ⟨cell, a1, a2, by rw [← hq]; exact a3⟩
  · exact Nat.zero_le _
  · exact Nat.zero_le _
theorem u_callS {index k dy ny : Nat} {y : MethodName} {cy : ByteArray} {ry : Option FieldType} {v : Option Value} {M1 : Mem} (g : Gd h w x own cc n rt d) (cw : CWs own index y cy ny ry k) (As : List Value)
    (hct : Ct h w x.2.1 y cy ny ry dy As M (v, M1)) (hdd : dy + 1 ≤ d) (hny : ny ≤ 45) (hk : As.length = k) (hst : (st.map fun v => v.category).sum ≤ 8) (hSt : S = As.reverse ++ st) (hd : decode cc pc = .ok (.invokestatic index, 3))
    (kk : U h w x r M1 (pc + 3) L (v.toList ++ st)) : U h w x r M pc L S := by
  intro H locs ls hP hS hl
  have hR : x.2.2.2.1 = rmd d := g.2.2.2.2.2.2.2.2.1
  obtain ⟨⟨w1, w2, w3, w4⟩, n1, n2, n3⟩ := cw
  have hws : ∀ v ∈ va_wsS own index y (wsy y cy ny ry), v ∈ tbG := by
    intro v hv
    simp only [va_wsS, wsy, List.cons_append, List.nil_append, List.mem_cons] at hv
    rcases hv with rfl | rfl | rfl | rfl | hv
    · exact w1
    · exact w2
    · exact w3
    · exact w4
    · exact hv
  refine u_back (st := st) (av := As.toArray) hS hl ?_ kk
  refine va_runS (Ts := tbG) (cc := cc) (own := own) (nL := x.2.2.2.2.2.2.2.2.2.maxLocals) (bytes := cy) (maxL := ny) (ret := ry) (n := k) ⟨g.1, g.2.1, rfl, g.2.2.2.1, g.2.2.2.2.1⟩ hct (va_cwS k g.2.2.2.2.1 (good_all hws) rfl rfl rfl ⟨n1, n2, n3⟩ ?_) ⟨u_blind, u_pre g hP hS⟩ rfl hk hl.1 hSt (lv_room hst) hd ⟨?_, ?_⟩
  · rw [hR]
    show dy + 1 ≤ d ∧ 8 + (ny + 11) + 64 * dy ≤ 64 * d
    omega
  · exact Nat.zero_le _
  · exact Nat.zero_le _
end UCalls
theorem ob_if {α : Type} {c : Prop} [Decidable c] {a : Option α} {r : α} (h : (if c then a else none) = some r) : c ∧ a = some r := by
  by_cases hc : c
  · rw [if_pos hc] at h; exact ⟨hc, h⟩
  · rw [if_neg hc] at h; cases h
theorem ob_bind {α β : Type} {a : Option α} {f : α → Option β} {r : β} (h : a.bind f = some r) : ∃ q, a = some q ∧ f q = some r := by
  cases a with
  | none => cases h
  | some q => exact ⟨q, rfl, h⟩
def inB (i : Int32) (n : Nat) : Bool := !(decide (i < 0) || decide (n ≤ i.toNatClampNeg))
theorem inB_in {i : Int32} {n : Nat} (h : inB i n = true) : vp_in i n := by
  intro q
  rcases q with q | q <;> simp [inB, q] at h
theorem inB_iff {i : Int32} {n : Nat} : inB i n = true ↔ vp_in i n := by
  refine ⟨inB_in, fun q => ?_⟩
  simp only [inB, Bool.not_eq_true', Bool.or_eq_false_iff, decide_eq_false_iff_not]
  exact ⟨fun e => q (Or.inl e), fun e => q (Or.inr e)⟩
/-- turns enough for every loop -/
def fuelN : Nat := 70000
