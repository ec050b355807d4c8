section VCalls
variable {D : va_G} {ca : Nat → ClassId} {x : Cx} {B : Nat} {fin : Nat × (Nat → va_E)} {mc ms N : Nat} {ce ce' : Nat → va_E} {ck cs pc : Nat} {L : List (Nat × Value)} {st : List Value} {own : String} {cc : ByteArray} {n d : Nat}
theorem v_back {mcy msy : Nat} {fy : Nat × (Nat → va_E)} {H : Heap} {locs : List Loc} {ls : Array Slot} {av : Array Value} {S : List Value} (hz : H.size = B + (N + 1)) (hP : va_P D vwCl (gw B (N + 1) ce) H) (hS : va_S (fun q => B ≤ q) x.2.2.2.2.1.heap H locs) (hl : lv_has ls x.2.2.2.2.2.2.2.2.2.maxLocals L)
    (hrun : va_Run x.1 x.2.1 x.2.2.1 x.2.2.2.1 x.2.2.2.2.1 x.2.2.2.2.2.1 x.2.2.2.2.2.2.1 x.2.2.2.2.2.2.2.1 x.2.2.2.2.2.2.2.2.1 x.2.2.2.2.2.2.2.2.2 H locs ck cs mcy msy (F0 x.2.2.2.2.2.1 pc ls S) st (Qn D (B + N) fy av) (fun q => B + N ≤ q))
    (hce : ∀ c, c < N → ce' c = ce c) (hce2 : ∀ c, c < fy.1 → ce' (N + c) = fy.2 c)
    (kk : V D x B fin mc ms (N + fy.1) ce' (ck + mcy) (cs + msy) (pc + 3) L st) : W x.1 x.2.1 x.2.2.1 x.2.2.2.1 x.2.2.2.2.1 x.2.2.2.2.2.1 x.2.2.2.2.2.2.1 x.2.2.2.2.2.2.2.1 x.2.2.2.2.2.2.2.2.1 x.2.2.2.2.2.2.2.2.2 H locs ck cs (MQ x.2.2.2.2.2.2.2.1 (Qn D B fin) x.2.2.2.2.2.2.1 x.2.2.2.2.1 mc ms (fun q => B ≤ q)) (F0 x.2.2.2.2.2.1 pc ls S) := by
  intro T hT X
  obtain ⟨v', st₀, t, T', L', h0, X', hL, e1, e2, ⟨⟨hv, hz1, hP1⟩, hF⟩, stp⟩ := hrun T hT X
  cases hv
  have hS1 : va_S (fun q => B ≤ q) x.2.2.2.2.1.heap T'.heap (locs ++ L') := by
    refine ⟨Nat.le_trans hS.1 (by rw [e1, ← h0]; exact hF.1), fun q h1 h2 => ?_, fun q hq => ?_⟩
    · rw [e1, hF.2 q (by rw [h0]; exact Nat.lt_of_lt_of_le h1 hS.1) (fun h3 => h2 (by show B ≤ q; have h3 : B + N ≤ q := h3; omega)), h0]
      exact hS.2.1 q h1 h2
    · rcases List.mem_append.mp hq with h1 | h1
      · exact hS.2.2 q h1
      · have h3 : B + N ≤ q.base := hL q h1
        show B ≤ q.base
        omega
  have hP2 : va_P D vwCl (gw B (N + fy.1) ce') T'.heap := by
    intro k q hk
    have hlt := gw_lt hk
    rw [gw_at hlt] at hk
    cases hk
    by_cases hkN : k < N
    · rw [hce k hkN]
      refine (hP k _ (gw_at (by omega))).kept ?_
      show T'.heap[B + k]? = H[B + k]?
      rw [e1, hF.2 (B + k) (by rw [h0]; omega) (fun h3 => by have h3 : B + N ≤ B + k := h3; omega), h0]
    · have h4 : k = N + (k - N) := by omega
      have h5 : ce' k = fy.2 (k - N) := by
        have h6 := hce2 (k - N) (by omega)
        rw [← h4] at h6
        exact h6
      rw [h5, e1]
      have h7 := hP1 (k - N) _ (gw_at (by omega))
      rw [show B + N + (k - N) = B + k by omega] at h7
      exact h7
  obtain ⟨t2, a1, b1⟩ := kk T'.heap (locs ++ L') ls (by rw [e1, hz1]; omega) hP2 hS1 hl T' rfl X'
  exact ⟨t2, stp t2 a1, b1⟩
theorem v_blind {e0 : va_E} {b : Nat} : FrameBlind (va_Pc [.ref b] (fun V => V.heap.size = b + 1 ∧ va_P D vwCl (gw b 1 (fun _ => e0)) V.heap ∧ va_K D vwCl (tysC ca) V ∧ Nst V)) := by
  intro a V g mk q
  obtain ⟨q1, q2, q3, q4, q5⟩ := q
  exact ⟨q1, q2, q3, va_K.moved (u := V) (U := V.calling g mk a) (Vm.Alike.refl V.vm) q4, fun z hz => va_Nw.same rfl rfl (q5.1 z hz), q5.2.1.moved (Vm.Alike.refl V.vm), q5.2.2.1.moved (Vm.Alike.refl V.vm), q5.2.2.2.moved (Vm.Alike.refl V.vm)⟩
theorem v_pre {e0 : va_E} {H : Heap} (g : Gn D ca x own cc n d mc ms) (hz : H.size = B + (N + 1)) (hP : va_P D vwCl (gw B (N + 1) ce) H) (he : ce N = e0) : ∀ V : State, V.heap = H → x.2.2.2.2.1.WarmedH V.vm → va_Pc [.ref (B + N)] (fun V => V.heap.size = B + N + 1 ∧ va_P D vwCl (gw (B + N) 1 (fun _ => e0)) V.heap ∧ va_K D vwCl (tysC ca) V ∧ Nst V) ([.ref (B + N)] : List Value).toArray V := by
  intro V hV hW
  refine ⟨rfl, by rw [hV, hz]; omega, ?_, g.2.2.2.2.2.1.moved hW.alike, fun z hz => va_Nw.warmM hW (g.2.2.2.2.2.2.2.2.2.2.1 z hz), g.2.2.2.2.2.2.2.2.2.2.2.1.moved hW.alike, g.2.2.2.2.2.2.2.2.2.2.2.2.1.moved hW.alike, g.2.2.2.2.2.2.2.2.2.2.2.2.2.moved hW.alike⟩
  intro k q hk
  have hlt := gw_lt hk
  rw [gw_at hlt] at hk
  cases hk
  rw [show k = 0 by omega, hV, ← he]
  exact hP N _ (gw_at (by omega))
theorem v_callN {index dy mcy msy ny N1 : Nat} {y : MethodName} {cy : ByteArray} {e0 : va_E} {fy : Nat × (Nat → va_E)} (g : Gn D ca x own cc n d mc ms) (w1 : (own, index, y) ∈ nestQ) (w2 : Cond.initialized y.cls ∈ tbG) (w3 : Cond.code y cy ny none ∈ tbG) (w4 : Cond.instanceMethod y ∈ tbG) (hy : y.cls ≠ "java/lang/invoke/MethodHandle" ∧ y.cls ≠ "java/lang/invoke/VarHandle" ∧ (parseMethodDescriptor y.desc).map (fun d => d.parameters.length) = some 0) (hyn : y.name = "<init>")
    (hct : Cn D ca x.2.1 y cy ny dy mcy msy (B + N) e0 fy) (he : ce N = e0) (hdd : dy + 1 ≤ d) (hny : ny ≤ 45) (h1 : ck + mcy ≤ mc) (h2 : cs + msy ≤ ms) (hst : (st.map fun v => v.category).sum ≤ 8) (hd : decode cc pc = .ok (.invokespecial index, 3))
    (hce : ∀ c, c < N → ce' c = ce c) (hce2 : ∀ c, c < fy.1 → ce' (N + c) = fy.2 c) (hN1 : N + fy.1 = N1)
    (kk : V D x B fin mc ms N1 ce' (ck + mcy) (cs + msy) (pc + 3) L st) : V D x B fin mc ms (N + 1) ce ck cs pc L (.ref (B + N) :: st) := by
  subst hN1
  intro H locs ls hz hP hS hl
  have hR : x.2.2.2.1 = rmn d mc ms := g.2.2.2.2.2.2.2.2.1
  have hws : ∀ v ∈ wsy y cy ny none, v ∈ tbG := by
    intro v hv
    simp only [wsy, List.mem_cons] at hv
    rcases hv with rfl | hv
    · exact w3
    · exact hv
  refine v_back (st := st) (av := (Value.ref (B + N) :: []).toArray) hz hP hS hl ?_ hce hce2 kk
  refine va_runIN (Ts := tbG) (cc := cc) (own := own) (host := "MeetHouse") (nL := x.2.2.2.2.2.2.2.2.2.maxLocals) (bytes := cy) (maxL := ny) (n := 0) (As := []) ⟨g.1, g.2.1, rfl, g.2.2.2.1, g.2.2.2.2.1⟩ hct ⟨va_cnB 0 g.2.2.2.2.1 (good_all hws) rfl rfl rfl ?_ (g.2.2.2.2.1 _ w2) hy ?_, hyn, g.2.2.2.2.1 _ w4⟩ ⟨v_blind, v_pre g hz hP he⟩ rfl rfl hl.1 rfl (lv_room hst) hd ⟨?_, ?_⟩
  · exact g.2.2.2.2.2.2.2.2.2.2.1 _ w1
  · rw [hR]
    show dy + 1 ≤ d ∧ 8 + (ny + 11) + 64 * dy ≤ 64 * d
    omega
  · rw [hR]; exact h1
  · rw [hR]; exact h2
theorem v_callI {index dy mcy msy ny N1 : Nat} {y : MethodName} {cy : ByteArray} {e0 : va_E} {fy : Nat × (Nat → va_E)} (g : Gn D ca x own cc n d mc ms) (w1 : Cond.methodLink own index y ∈ tbG) (w2 : Cond.initialized y.cls ∈ tbG) (w3 : Cond.code y cy ny none ∈ tbG) (w4 : Cond.instanceMethod y ∈ tbG) (hy : y.cls ≠ "java/lang/invoke/MethodHandle" ∧ y.cls ≠ "java/lang/invoke/VarHandle" ∧ (parseMethodDescriptor y.desc).map (fun d => d.parameters.length) = some 0) (hyn : y.name = "<init>")
    (hct : Cn D ca x.2.1 y cy ny dy mcy msy (B + N) e0 fy) (he : ce N = e0) (hdd : dy + 1 ≤ d) (hny : ny ≤ 45) (h1 : ck + mcy ≤ mc) (h2 : cs + msy ≤ ms) (hst : (st.map fun v => v.category).sum ≤ 8) (hd : decode cc pc = .ok (.invokespecial index, 3))
    (hce : ∀ c, c < N → ce' c = ce c) (hce2 : ∀ c, c < fy.1 → ce' (N + c) = fy.2 c) (hN1 : N + fy.1 = N1)
    (kk : V D x B fin mc ms N1 ce' (ck + mcy) (cs + msy) (pc + 3) L st) : V D x B fin mc ms (N + 1) ce ck cs pc L (.ref (B + N) :: st) := by
  subst hN1
  intro H locs ls hz hP hS hl
  have hR : x.2.2.2.1 = rmn d mc ms := g.2.2.2.2.2.2.2.2.1
  have hws : ∀ v ∈ wsy y cy ny none, v ∈ tbG := by
    intro v hv
    simp only [wsy, List.mem_cons] at hv
    rcases hv with rfl | hv
    · exact w3
    · exact hv
  refine v_back (st := st) (av := (Value.ref (B + N) :: []).toArray) hz hP hS hl ?_ hce hce2 kk
  refine va_runI (Ts := tbG) (cc := cc) (own := own) (nL := x.2.2.2.2.2.2.2.2.2.maxLocals) (bytes := cy) (maxL := ny) (n := 0) (As := []) ⟨g.1, g.2.1, rfl, g.2.2.2.1, g.2.2.2.2.1⟩ hct (cwI 0 g.2.2.2.2.1 (good_all hws) rfl rfl rfl (g.2.2.2.2.1 _ w2) (g.2.2.2.2.1 _ w1) (g.2.2.2.2.1 _ w4) hyn hy ?_) ⟨v_blind, v_pre g hz hP he⟩ rfl rfl hl.1 rfl (lv_room hst) hd ⟨?_, ?_⟩
  · rw [hR]
    show dy + 1 ≤ d ∧ 8 + (ny + 11) + 64 * dy ≤ 64 * d
    omega
  · rw [hR]; exact h1
  · rw [hR]; exact h2
end VCalls
