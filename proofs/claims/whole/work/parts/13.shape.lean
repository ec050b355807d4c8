/-! THE TWO SHAPES: kinds of the cells, what stands in each. Kinds 0 .. 11: objects of X0 .. X11; 40, 41, 42 arrays of references; 1000 + n, 20000 + n, 100000 + n arrays of n ints, longs, booleans; 99 none -/
def kX (c : Nat) : Nat := if c < 12 then (match c with
  | 0 => 10
  | 1 => 5
  | 2 => 1016
  | 3 => 1016
  | 4 => 1016
  | 5 => 40
  | 6 => 1120
  | 7 => 6
  | 8 => 1120
  | 9 => 41
  | 10 => 4
  | _ => 42)
  else if c < 252 then (if c % 4 = 0 then 0 else if c % 4 = 1 then 9 else if c % 4 = 2 then 6 else 1120)
  else if c < 264 then (match c with
  | 252 => 8
  | 253 => 8140
  | 254 => 3
  | 255 => 7
  | 256 => 21024
  | 257 => 20064
  | 258 => 1320
  | 259 => 1016
  | 260 => 1016
  | 261 => 1016
  | 262 => 1016
  | _ => 2)
  else if c < 312 then (if c % 2 = 0 then 1 else 1120)
  else if c < 360 then (if c % 3 = 0 then 9 else if c % 3 = 1 then 6 else 1120)
  else 99
def kY (c : Nat) : Nat := match c with
  | 0 => 11
  | 1 => 1016
  | 2 => 1016
  | 3 => 1016
  | 4 => 1120
  | 5 => 1024
  | 6 => 1024
  | 7 => 3880
  | 8 => 1121
  | 9 => 1016
  | 10 => 1016
  | 11 => 2936
  | 12 => 8140
  | 13 => 8560
  | 14 => 165536
  | 15 => 165536
  | 16 => 1120
  | 17 => 1017
  | 18 => 1017
  | 19 => 1017
  | 20 => 5096
  | 21 => 1016
  | 22 => 165536
  | 23 => 165536
  | 24 => 1120
  | _ => 99
def ceA (w : Wp) (M : Mem) (c k : Nat) (o : va_E) : va_E := if 100000 ≤ k then .inl (w.2.1 2, k - 100000, .inl (M.1 c)) else if 20000 ≤ k then .inl (w.2.1 1, k - 20000, .inr (.inl (M.2 c))) else if 1000 ≤ k then .inl (w.2.1 0, k - 1000, .inl (M.1 c)) else o
def obX (w : Wp) (M : Mem) (c k : Nat) : va_E := match k with
  | 0 => .inr (0, [.int (M.1 c 0), .int (M.1 c 1), .int (M.1 c 2), .ref (w.2.2.1 (c + 1))])
  | 1 => .inr (1, [.int (M.1 c 0), .int (M.1 c 1), .ref (w.2.2.1 (c + 1))])
  | 2 => .inr (2, [.int (M.1 c 0), .int (M.1 c 1)])
  | 3 => .inr (3, [.ref (w.2.2.1 255), .ref (w.2.2.1 258), .ref (w.2.2.1 259), .ref (w.2.2.1 260), .int (M.1 c 4), .int (M.1 c 5), .ref (w.2.2.1 261), .ref (w.2.2.1 262), .int (M.1 c 8), .int (M.1 c 9)])
  | 4 => .inr (4, [.ref (w.2.2.1 11), .int (M.1 c 1), .int (M.1 c 2)])
  | 5 => .inr (5, [.int (M.1 c 0), .ref (w.2.2.1 2), .ref (w.2.2.1 3), .ref (w.2.2.1 4)])
  | 6 => .inr (6, [.int (M.1 c 0), .int (M.1 c 1), .ref (w.2.2.1 (c + 1))])
  | 7 => .inr (7, [.ref (w.2.2.1 256), .ref (w.2.2.1 257), .int (M.1 c 2)])
  | 8 => .inr (8, [.int (M.1 c 0), .ref (w.2.2.1 253)])
  | 9 => .inr (9, [.int (M.1 c 0), .int (M.1 c 1), .ref (w.2.2.1 (c + 1))])
  | 10 => .inr (10, [.ref (w.2.2.1 1), .ref (w.2.2.1 5), .int (M.1 c 2), .ref (w.2.2.1 6), .int (M.1 c 4), .ref (w.2.2.1 7), .ref (w.2.2.1 9), .ref (w.2.2.1 10), .ref (w.2.2.1 252), .ref (w.2.2.1 254), .ref (w.2.2.1 263), .int (M.1 c 11)])
  | 40 => .inl (w.2.1 3, 24, .inr (.inr (.inr (.inr (fun j => some (w.2.2.1 (264 + 2 * j)))))))
  | 41 => .inl (w.2.1 4, 16, .inr (.inr (.inr (.inr (fun j => some (w.2.2.1 (312 + 3 * j)))))))
  | 42 => .inl (w.2.1 5, 60, .inr (.inr (.inr (.inr (fun j => some (w.2.2.1 (12 + 4 * j)))))))
  | _ => .inr (99, [])
def obY (w : Wp) (M : Mem) (c : Nat) : va_E := .inr (11, [.ref (w.2.2.1 1), .ref (w.2.2.1 2), .ref (w.2.2.1 3), .int (M.1 c 3), .int (M.1 c 4), .int (M.1 c 5), .ref (w.2.2.1 4), .int (M.1 c 7), .ref (w.2.2.1 5), .ref (w.2.2.1 6), .ref (w.2.2.1 7), .int (M.1 c 11), .ref (w.2.2.1 8), .int (M.1 c 13), .ref (w.2.2.1 9), .ref (w.2.2.1 10), .ref (w.2.2.1 11), .ref (w.2.2.1 12), .int (M.1 c 18), .ref (w.2.2.1 13), .int (M.1 c 20), .ref (w.2.2.1 14), .ref (w.2.2.1 15), .ref (w.2.2.1 16), .int (M.1 c 24), .ref (w.2.2.1 17), .ref (w.2.2.1 18), .int (M.1 c 27), .ref (w.2.2.1 19), .ref (w.2.2.1 20), .ref (w.2.2.1 21), .ref (w.2.2.1 22), .ref (w.2.2.1 23), .int (M.1 c 33), .int (M.1 c 34), .ref (w.2.2.1 24)])
def ceX (w : Wp) (M : Mem) (c : Nat) : va_E := ceA w M c (kX c) (obX w M c (kX c))
def ceY (w : Wp) (M : Mem) (c : Nat) : va_E := ceA w M c (kY c) (obY w M c)
def shX : Sh := (360, ceX)
def shY : Sh := (25, ceY)
theorem ceA_loc {w : Wp} {M N : Mem} {c k : Nat} {o1 o2 : va_E} (h1 : N.1 c = M.1 c) (h2 : N.2 c = M.2 c) (ho : o1 = o2) : ceA w N c k o1 = ceA w M c k o2 := by
  unfold ceA
  rw [h1, h2, ho]
theorem obX_loc {w : Wp} {M N : Mem} {c k : Nat} (h1 : N.1 c = M.1 c) : obX w N c k = obX w M c k := by
  unfold obX
  rw [h1]
theorem shX_loc : ShLoc shX := fun w M N c h1 h2 => ceA_loc h1 h2 (obX_loc h1)
theorem shY_loc : ShLoc shY := fun w M N c h1 h2 => ceA_loc h1 h2 (by unfold obY; rw [h1])
theorem kX_lt {c k : Nat} (h : kX c = k) (hk : (k == 99) = false) : c < shX.1 := by
  show c < 360
  by_cases hc : c < 360
  · exact hc
  · have e : kX c = 99 := by
      unfold kX
      rw [if_neg (by omega), if_neg (by omega), if_neg (by omega), if_neg (by omega), if_neg hc]
    rw [e] at h
    subst h
    cases hk
theorem kY_lt {c k : Nat} (h : kY c = k) (hk : (k == 99) = false) : c < shY.1 := by
  show c < 25
  by_cases hc : c < 25
  · exact hc
  · have e : kY c = 99 := by
      unfold kY
      split <;> first | omega | rfl
    rw [e] at h
    subst h
    cases hk
theorem ceX_0 {w : Wp} {M : Mem} {c : Nat} (h : kX c = 0) : shX.2 w M c = .inr (0, [.int (M.1 c 0), .int (M.1 c 1), .int (M.1 c 2), .ref (w.2.2.1 (c + 1))]) := by
  show ceA w M c (kX c) (obX w M c (kX c)) = _
  rw [h]
  rfl
theorem ceX_1 {w : Wp} {M : Mem} {c : Nat} (h : kX c = 1) : shX.2 w M c = .inr (1, [.int (M.1 c 0), .int (M.1 c 1), .ref (w.2.2.1 (c + 1))]) := by
  show ceA w M c (kX c) (obX w M c (kX c)) = _
  rw [h]
  rfl
theorem ceX_2 {w : Wp} {M : Mem} {c : Nat} (h : kX c = 2) : shX.2 w M c = .inr (2, [.int (M.1 c 0), .int (M.1 c 1)]) := by
  show ceA w M c (kX c) (obX w M c (kX c)) = _
  rw [h]
  rfl
theorem ceX_3 {w : Wp} {M : Mem} {c : Nat} (h : kX c = 3) : shX.2 w M c = .inr (3, [.ref (w.2.2.1 255), .ref (w.2.2.1 258), .ref (w.2.2.1 259), .ref (w.2.2.1 260), .int (M.1 c 4), .int (M.1 c 5), .ref (w.2.2.1 261), .ref (w.2.2.1 262), .int (M.1 c 8), .int (M.1 c 9)]) := by
  show ceA w M c (kX c) (obX w M c (kX c)) = _
  rw [h]
  rfl
theorem ceX_4 {w : Wp} {M : Mem} {c : Nat} (h : kX c = 4) : shX.2 w M c = .inr (4, [.ref (w.2.2.1 11), .int (M.1 c 1), .int (M.1 c 2)]) := by
  show ceA w M c (kX c) (obX w M c (kX c)) = _
  rw [h]
  rfl
theorem ceX_5 {w : Wp} {M : Mem} {c : Nat} (h : kX c = 5) : shX.2 w M c = .inr (5, [.int (M.1 c 0), .ref (w.2.2.1 2), .ref (w.2.2.1 3), .ref (w.2.2.1 4)]) := by
  show ceA w M c (kX c) (obX w M c (kX c)) = _
  rw [h]
  rfl
theorem ceX_6 {w : Wp} {M : Mem} {c : Nat} (h : kX c = 6) : shX.2 w M c = .inr (6, [.int (M.1 c 0), .int (M.1 c 1), .ref (w.2.2.1 (c + 1))]) := by
  show ceA w M c (kX c) (obX w M c (kX c)) = _
  rw [h]
  rfl
theorem ceX_7 {w : Wp} {M : Mem} {c : Nat} (h : kX c = 7) : shX.2 w M c = .inr (7, [.ref (w.2.2.1 256), .ref (w.2.2.1 257), .int (M.1 c 2)]) := by
  show ceA w M c (kX c) (obX w M c (kX c)) = _
  rw [h]
  rfl
theorem ceX_8 {w : Wp} {M : Mem} {c : Nat} (h : kX c = 8) : shX.2 w M c = .inr (8, [.int (M.1 c 0), .ref (w.2.2.1 253)]) := by
  show ceA w M c (kX c) (obX w M c (kX c)) = _
  rw [h]
  rfl
theorem ceX_9 {w : Wp} {M : Mem} {c : Nat} (h : kX c = 9) : shX.2 w M c = .inr (9, [.int (M.1 c 0), .int (M.1 c 1), .ref (w.2.2.1 (c + 1))]) := by
  show ceA w M c (kX c) (obX w M c (kX c)) = _
  rw [h]
  rfl
theorem ceX_10 {w : Wp} {M : Mem} {c : Nat} (h : kX c = 10) : shX.2 w M c = .inr (10, [.ref (w.2.2.1 1), .ref (w.2.2.1 5), .int (M.1 c 2), .ref (w.2.2.1 6), .int (M.1 c 4), .ref (w.2.2.1 7), .ref (w.2.2.1 9), .ref (w.2.2.1 10), .ref (w.2.2.1 252), .ref (w.2.2.1 254), .ref (w.2.2.1 263), .int (M.1 c 11)]) := by
  show ceA w M c (kX c) (obX w M c (kX c)) = _
  rw [h]
  rfl
theorem ceY_0 {w : Wp} {M : Mem} : shY.2 w M 0 = .inr (11, [.ref (w.2.2.1 1), .ref (w.2.2.1 2), .ref (w.2.2.1 3), .int (M.1 0 3), .int (M.1 0 4), .int (M.1 0 5), .ref (w.2.2.1 4), .int (M.1 0 7), .ref (w.2.2.1 5), .ref (w.2.2.1 6), .ref (w.2.2.1 7), .int (M.1 0 11), .ref (w.2.2.1 8), .int (M.1 0 13), .ref (w.2.2.1 9), .ref (w.2.2.1 10), .ref (w.2.2.1 11), .ref (w.2.2.1 12), .int (M.1 0 18), .ref (w.2.2.1 13), .int (M.1 0 20), .ref (w.2.2.1 14), .ref (w.2.2.1 15), .ref (w.2.2.1 16), .int (M.1 0 24), .ref (w.2.2.1 17), .ref (w.2.2.1 18), .int (M.1 0 27), .ref (w.2.2.1 19), .ref (w.2.2.1 20), .ref (w.2.2.1 21), .ref (w.2.2.1 22), .ref (w.2.2.1 23), .int (M.1 0 33), .int (M.1 0 34), .ref (w.2.2.1 24)]) := rfl
theorem ceX_i {w : Wp} {M : Mem} {c : Nat} (N : Nat) (hN : N < 19000) (h : kX c = 1000 + N) : shX.2 w M c = .inl (w.2.1 0, N, .inl (M.1 c)) := by
  show ceA w M c (kX c) _ = _
  unfold ceA
  rw [h, if_neg (by omega), if_neg (by omega), if_pos (by omega), Nat.add_sub_cancel_left]
theorem ceX_j {w : Wp} {M : Mem} {c : Nat} (N : Nat) (hN : N < 80000) (h : kX c = 20000 + N) : shX.2 w M c = .inl (w.2.1 1, N, .inr (.inl (M.2 c))) := by
  show ceA w M c (kX c) _ = _
  unfold ceA
  rw [h, if_neg (by omega), if_pos (by omega), Nat.add_sub_cancel_left]
theorem ceX_z {w : Wp} {M : Mem} {c : Nat} (N : Nat) (h : kX c = 100000 + N) : shX.2 w M c = .inl (w.2.1 2, N, .inl (M.1 c)) := by
  show ceA w M c (kX c) _ = _
  unfold ceA
  rw [h, if_pos (by omega), Nat.add_sub_cancel_left]
theorem ceY_i {w : Wp} {M : Mem} {c : Nat} (N : Nat) (hN : N < 19000) (h : kY c = 1000 + N) : shY.2 w M c = .inl (w.2.1 0, N, .inl (M.1 c)) := by
  show ceA w M c (kY c) _ = _
  unfold ceA
  rw [h, if_neg (by omega), if_neg (by omega), if_pos (by omega), Nat.add_sub_cancel_left]
theorem ceY_j {w : Wp} {M : Mem} {c : Nat} (N : Nat) (hN : N < 80000) (h : kY c = 20000 + N) : shY.2 w M c = .inl (w.2.1 1, N, .inr (.inl (M.2 c))) := by
  show ceA w M c (kY c) _ = _
  unfold ceA
  rw [h, if_neg (by omega), if_pos (by omega), Nat.add_sub_cancel_left]
theorem ceY_z {w : Wp} {M : Mem} {c : Nat} (N : Nat) (h : kY c = 100000 + N) : shY.2 w M c = .inl (w.2.1 2, N, .inl (M.1 c)) := by
  show ceA w M c (kY c) _ = _
  unfold ceA
  rw [h, if_pos (by omega), Nat.add_sub_cancel_left]
theorem kX_dec (P : Nat → Prop) [DecidablePred P] (h : ∀ c, c < 360 → P c) {c : Nat} (hc : c < 360) : P c := h c hc
theorem kX_s6 {c : Nat} (h : kX c = 6) : kX (c + 1) = 1120 := by
  have hc : c < 360 := kX_lt h rfl
  have : ∀ c, c < 360 → kX c = 6 → kX (c + 1) = 1120 := by decide +kernel
  exact this c hc h
theorem kX_s1 {c : Nat} (h : kX c = 1) : kX (c + 1) = 1120 := by
  have hc : c < 360 := kX_lt h rfl
  have : ∀ c, c < 360 → kX c = 1 → kX (c + 1) = 1120 := by decide +kernel
  exact this c hc h
theorem kX_s9 {c : Nat} (h : kX c = 9) : kX (c + 1) = 6 := by
  have hc : c < 360 := kX_lt h rfl
  have : ∀ c, c < 360 → kX c = 9 → kX (c + 1) = 6 := by decide +kernel
  exact this c hc h
theorem kX_s0 {c : Nat} (h : kX c = 0) : kX (c + 1) = 9 := by
  have hc : c < 360 := kX_lt h rfl
  have : ∀ c, c < 360 → kX c = 0 → kX (c + 1) = 9 := by decide +kernel
  exact this c hc h
theorem kX_fam {j : Nat} (h : j < 24) : kX (264 + 2 * j) = 1 := (show ∀ j, j < 24 → kX (264 + 2 * j) = 1 by decide +kernel) j h
theorem kX_place {j : Nat} (h : j < 16) : kX (312 + 3 * j) = 9 := (show ∀ j, j < 16 → kX (312 + 3 * j) = 9 by decide +kernel) j h
theorem kX_act {j : Nat} (h : j < 60) : kX (12 + 4 * j) = 0 := (show ∀ j, j < 60 → kX (12 + 4 * j) = 0 by decide +kernel) j h
theorem vp_in_lt {i : Int32} {n : Nat} (h : vp_in i n) : i.toNatClampNeg < n := Nat.not_le.mp fun q => h (Or.inr q)
