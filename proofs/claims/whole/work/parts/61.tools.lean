/-! small rows for the steps -/
theorem one_ne : ¬ (1 : Int32) = 0 := by decide
theorem in_no {x : Int32} {n : Nat} (hn : n < 2 ^ 30) (h : x < 0 ∨ nI n ≤ x) : f_X11_in x 0 (nI n - 1) = some 0 := by
  unfold f_X11_in
  by_cases h0 : x < 0
  · rw [if_pos h0]
  · rw [if_neg h0, if_pos]
    have h1 : nI n ≤ x := by
      rcases h with h | h
      · exact absurd h h0
      · exact h
    show nI n - nI 1 < x
    rw [Int32.lt_iff_toInt_lt, pk_sub_toInt hn (by decide)]
    rw [Int32.le_iff_toInt_le, nI_toInt (by omega)] at h1
    omega
theorem in_yes {j n : Nat} (h : j < n) (hn : n < 2 ^ 30) : f_X11_in (nI j) 0 (nI n - 1) = some 1 := by
  unfold f_X11_in
  rw [if_neg (nI_pos (by omega)), if_neg]
  show ¬ nI n - nI 1 < nI j
  rw [pk_sub (by omega)]
  exact nI_nlt (by omega) (by omega)
theorem in_no2 {x : Int32} {n : Nat} (hn : n < 2 ^ 29) (h : x < 0 ∨ nI (n + 1) ≤ x) : f_X11_in x 0 (nI n) = some 0 := by
  have e := in_no (n := n + 1) (x := x) (by omega) h
  rw [nI_pred] at e
  exact e
theorem in_yes2 {j n : Nat} (h : j < n + 1) (hn : n < 2 ^ 29) : f_X11_in (nI j) 0 (nI n) = some 1 := by
  have e := in_yes (n := n + 1) (j := j) h (by omega)
  rw [nI_pred] at e
  exact e
theorem inB_nI {j n : Nat} (h : j < n) (hn : n < 2 ^ 31) : inB (nI j) n = true := inB_iff.mpr (vp_in_nI h hn)
theorem isThere_no {x : Int32} {M : Mem} {n : Nat} (h0 : M.1 1 0 = nI n) (h : x < 0 ∨ nI n ≤ x) : f_X5_isThere x M = some 0 := by
  unfold f_X5_isThere
  rw [h0]
  rcases h with h | h
  · rw [if_pos h]
  · by_cases h2 : x < 0
    · rw [if_pos h2]
    · rw [if_neg h2, if_pos h]
theorem isThere_yes {j : Nat} {M : Mem} {n : Nat} (h0 : M.1 1 0 = nI n) (hn : n ≤ 16) (h : j < n) : f_X5_isThere (nI j) M = some 1 := by
  unfold f_X5_isThere
  rw [h0, if_neg (nI_pos (by omega)), if_neg (nI_ge h (by omega)), if_neg]
  exact nI_ge (show j < 16 by omega) (by decide)
theorem famAt_no {x : Int32} {M : Mem} {n : Nat} (h0 : M.1 0 2 = nI n) (h : x < 0 ∨ nI n ≤ x) : f_X10_familyAt x M = some none := by
  unfold f_X10_familyAt
  rw [h0]
  rcases h with h | h
  · rw [if_pos h]
  · by_cases h2 : x < 0
    · rw [if_pos h2]
    · rw [if_neg h2, if_pos h]
theorem famAt_yes {j : Nat} {M : Mem} {n : Nat} (h0 : M.1 0 2 = nI n) (hn : n ≤ 24) (h : j < n) : f_X10_familyAt (nI j) M = some (some (264 + 2 * j)) := by
  unfold f_X10_familyAt
  rw [h0, if_neg (nI_pos (by omega)), if_neg (nI_ge h (by omega)), if_pos (show nI j < (24 : Int32) from nI_lt (show j < 24 by omega) (by decide)), if_pos (inB_nI (by omega) (by decide)), nI_clamp (by omega)]
theorem isFam_no {x : Int32} {M : Mem} {n : Nat} (h0 : M.1 0 11 = nI n) (hn : n ≤ 24) (h : x < 0 ∨ nI n ≤ x) : f_X11_isFamily x M = some 0 := by
  unfold f_X11_isFamily
  rw [h0, in_no (by omega) h]
  rfl
theorem isFam_yes {j : Nat} {M : Mem} {n : Nat} (h0 : M.1 0 11 = nI n) (hn : n ≤ 24) (h : j < n) : f_X11_isFamily (nI j) M = some 1 := by
  unfold f_X11_isFamily
  rw [h0, in_yes h (by omega)]
  rfl
theorem placeAt_no {x : Int32} {M : Mem} (h : x < 0 ∨ nI 16 ≤ x) : f_X10_placeAt x M = some none := by
  unfold f_X10_placeAt
  by_cases h2 : x < 0
  · rw [if_pos h2]
  · rw [if_neg h2, if_neg]
    rcases h with h | h
    · exact absurd h h2
    · intro q
      have q : x < nI 16 := q
      rw [Int32.lt_iff_toInt_lt] at q
      rw [Int32.le_iff_toInt_le] at h
      omega
theorem placeAt_yes {j : Nat} {M : Mem} (h : j < 16) : f_X10_placeAt (nI j) M = some (some (312 + 3 * j)) := by
  unfold f_X10_placeAt
  rw [if_neg (nI_pos (by omega)), if_pos (show nI j < (16 : Int32) from nI_lt (show j < 16 by omega) (by decide)), if_pos (inB_nI (by omega) (by decide)), nI_clamp (by omega)]
theorem isPlace_no {x : Int32} (h : x < 0 ∨ nI 16 ≤ x) : f_X11_isPlace x = some 0 := by
  unfold f_X11_isPlace
  rw [show f_X11_in x 0 15 = some 0 from in_no2 (n := 15) (by decide) h]
  rfl
theorem isPlace_yes {j : Nat} (h : j < 16) : f_X11_isPlace (nI j) = some 1 := by
  unfold f_X11_isPlace
  rw [show f_X11_in (nI j) 0 15 = some 1 from in_yes2 (n := 15) h (by decide)]
  rfl
/-- all but the status and what is only made use of within a call -/
def KeepX (M N : Mem) : Prop := AgX M N ∧ N.1 0 4 = M.1 0 4 ∧ N.1 6 = M.1 6 ∧ N.1 252 0 = M.1 252 0 ∧ N.1 253 = M.1 253
def KeepY (M N : Mem) : Prop := AgY M N ∧ N.1 0 7 = M.1 0 7 ∧ N.1 4 = M.1 4 ∧ N.1 0 18 = M.1 0 18 ∧ N.1 12 = M.1 12
theorem KeepX.refl (M : Mem) : KeepX M M := ⟨AgX.refl M, rfl, rfl, rfl, rfl⟩
theorem KeepY.refl (M : Mem) : KeepY M M := ⟨AgY.refl M, rfl, rfl, rfl, rfl⟩
theorem KeepX.trans {A B C : Mem} (h : KeepX A B) (k : KeepX B C) : KeepX A C := ⟨h.1.trans k.1, k.2.1.trans h.2.1, k.2.2.1.trans h.2.2.1, k.2.2.2.1.trans h.2.2.2.1, k.2.2.2.2.trans h.2.2.2.2⟩
theorem KeepY.trans {A B C : Mem} (h : KeepY A B) (k : KeepY B C) : KeepY A C := ⟨h.1.trans k.1, k.2.1.trans h.2.1, k.2.2.1.trans h.2.2.1, k.2.2.2.1.trans h.2.2.2.1, k.2.2.2.2.trans h.2.2.2.2⟩
/-- a write that nothing live sees -/
theorem keepX_st (M : Mem) (v : Int32) : KeepX M (sI M 0 11 v) := by
  refine ⟨⟨by simp [sI], fun c hc => sI_off _ _ _ _ (by omega)⟩, by simp [sI], sI_off _ _ _ _ (by decide), by simp [sI], sI_off _ _ _ _ (by decide)⟩
theorem keepX_scr (M : Mem) {c : Nat} (i : Nat) (v : Int32) (hc : 254 ≤ c ∧ c < 264) : KeepX M (sI M c i v) := by
  refine ⟨⟨by rw [sI_off _ _ _ _ (by omega)], fun a ha => sI_off _ _ _ _ (by omega)⟩, by rw [sI_off _ _ _ _ (by omega)], sI_off _ _ _ _ (by omega), by rw [sI_off _ _ _ _ (by omega)], sI_off _ _ _ _ (by omega)⟩
theorem keepX_L (M : Mem) (c i : Nat) (v : Int64) : KeepX M (sL M c i v) := ⟨⟨rfl, fun _ _ => rfl⟩, rfl, rfl, rfl, rfl⟩
theorem keepY_f (M : Mem) {i : Nat} (v : Int32) (hi : i = 4 ∨ i = 5 ∨ i = 24 ∨ i = 27 ∨ i = 33 ∨ i = 34) : KeepY M (sI M 0 i v) := by
  refine ⟨⟨⟨?_, ?_, ?_, ?_⟩, fun c hc => sI_off _ _ _ _ (by omega)⟩, ?_, sI_off _ _ _ _ (by decide), ?_, sI_off _ _ _ _ (by decide)⟩ <;> · rw [sI_1, if_neg]; omega
theorem keepY_scr (M : Mem) {c : Nat} (i : Nat) (v : Int32) (hc : 14 ≤ c) : KeepY M (sI M c i v) := by
  refine ⟨⟨⟨?_, ?_, ?_, ?_⟩, fun a ha => sI_off _ _ _ _ (by omega)⟩, ?_, sI_off _ _ _ _ (by omega), ?_, sI_off _ _ _ _ (by omega)⟩ <;> rw [sI_off _ _ _ _ (by omega)]
theorem Rel_keep {M1 M2 N1 N2 : Mem} (H : Rel M1 M2) (k1 : KeepX M1 N1) (k2 : KeepY M2 N2) (hs : N1.1 0 11 = N2.1 0 4) : Rel N1 N2 := by
  obtain ⟨z, h, hC, ⟨n, ts, l1, l2, l3, l4⟩, ⟨n2, s1, s2, s3, s4⟩, -⟩ := H
  refine ⟨z, h, Core_ag hC k1.1 k2.1, ⟨n, ts, l1, ?_, ?_, fun i hi => ?_⟩, ⟨n2, s1, ?_, ?_, fun i hi => ?_⟩, hs⟩
  · rw [k1.2.1]; exact l2
  · rw [k2.2.1]; exact l3
  · rw [k1.2.2.1, k2.2.2.1]; exact l4 i hi
  · rw [k1.2.2.2.1]; exact s2
  · rw [k2.2.2.2.1]; exact s3
  · rw [k1.2.2.2.2, k2.2.2.2.2]; exact s4 i hi
theorem st_X (M : Mem) (v : Int32) : (sI M 0 11 v).1 0 11 = v := by simp [sI]
theorem st_Y (M : Mem) (v : Int32) : (sI M 0 4 v).1 0 4 = v := by simp [sI]
theorem st_Y5 (M : Mem) (v : Int32) : (sI M 0 5 v).1 0 4 = M.1 0 4 := by simp [sI]
/-- refused, both -/
theorem Rel_no {M1 M2 : Mem} (H : Rel M1 M2) (v : Int32) : Rel (sI M1 0 11 v) (sI (sI M2 0 5 0) 0 4 v) := Rel_keep H (keepX_st _ _) ((keepY_f M2 0 (by omega)).trans (keepY_f _ _ (by omega))) (by rw [st_X, st_Y])
theorem Rel_5 {M1 M2 : Mem} (H : Rel M1 M2) : Rel M1 (sI M2 0 5 0) := by
  have hs : M1.1 0 11 = M2.1 0 4 := by obtain ⟨_, _, _, _, _, h⟩ := H; exact h
  exact Rel_keep H (KeepX.refl _) (keepY_f _ _ (by omega)) (by rw [st_Y5, hs])
/-! steps that change nothing -/
theorem step_status : St_status Rel := by
  intro M1 M2 H
  have hs : M1.1 0 11 = M2.1 0 4 := by obtain ⟨_, _, _, _, _, h⟩ := H; exact h
  exact ⟨_, _, rfl, rfl, hs, Rel_5 H⟩
theorem step_size : St_size Rel := by
  intro a M1 M2 H
  have H5 := Rel_5 H
  obtain ⟨z, h, ⟨h1, h2, h3, h4, ⟨fr, f1, f2, f3, f4⟩, h6, h7⟩, ⟨n, ts, l1, l2, l3, l4⟩, ⟨n2, s1, s2, s3, s4⟩, hs⟩ := H
  unfold f_X10_size f_X11_size
  rw [h1.1.1, h1.2.1.1, l2, f3, s2, h2.1.1, h2.2.1.1, l3, h6, s3]
  by_cases a0 : a = 0
  · rw [if_pos a0, if_pos a0]; exact ⟨_, _, rfl, rfl, rfl, H5⟩
  by_cases a1 : a = 1
  · rw [if_neg a0, if_pos a1, if_neg a0, if_pos a1]; exact ⟨_, _, rfl, rfl, rfl, H5⟩
  by_cases a2 : a = 2
  · rw [if_neg a0, if_neg a1, if_pos a2, if_neg a0, if_neg a1, if_pos a2]; exact ⟨_, _, rfl, rfl, rfl, H5⟩
  by_cases a3 : a = 3
  · rw [if_neg a0, if_neg a1, if_neg a2, if_pos a3, if_neg a0, if_neg a1, if_neg a2, if_pos a3]; exact ⟨_, _, rfl, rfl, rfl, H5⟩
  by_cases a4 : a = 4
  · rw [if_neg a0, if_neg a1, if_neg a2, if_neg a3, if_pos a4, if_neg a0, if_neg a1, if_neg a2, if_neg a3, if_pos a4]; exact ⟨_, _, rfl, rfl, rfl, H5⟩
  · rw [if_neg a0, if_neg a1, if_neg a2, if_neg a3, if_neg a4, if_neg a0, if_neg a1, if_neg a2, if_neg a3, if_neg a4]; exact ⟨_, _, rfl, rfl, rfl, H5⟩
theorem step_keeperOf : St_keeperOf Rel := by
  intro a b M1 M2 H
  have H5 := Rel_5 H
  obtain ⟨z, h, ⟨h1, h2, h3, h4, -⟩, -⟩ := H
  have hk := h4.inv.1.1
  unfold f_X10_keeperOf f_X11_keeperOf
  rw [h2.1.1]
  rcases pk_ix a (n := zKn z) (by omega) with ha | ha | ⟨j, hj, rfl⟩
  · rw [isThere_no h1.1.1 (Or.inl ha), in_no (by omega) (Or.inl ha)]; exact ⟨_, _, rfl, rfl, rfl, H5⟩
  · rw [isThere_no h1.1.1 (Or.inr ha), in_no (by omega) (Or.inr ha)]; exact ⟨_, _, rfl, rfl, rfl, H5⟩
  · rw [isThere_yes h1.1.1 hk hj, in_yes hj (by omega)]
    simp only [Option.bind_some, inB_nI (show j < 16 by omega) (by decide), nI_clamp (show j < 2 ^ 31 by omega), if_neg one_ne, if_true]
    obtain ⟨e1, e2, e3⟩ := h1.1.2 j hj
    obtain ⟨d1, d2, d3⟩ := h2.1.2 j hj
    rw [e1, e2, e3, d1, d2, d3]
    by_cases a0 : b = 0
    · rw [if_pos a0, if_pos a0]; exact ⟨_, _, rfl, rfl, rfl, H5⟩
    by_cases a1 : b = 1
    · rw [if_neg a0, if_pos a1, if_neg a0, if_pos a1]; exact ⟨_, _, rfl, rfl, rfl, H5⟩
    by_cases a2 : b = 2
    · rw [if_neg a0, if_neg a1, if_pos a2, if_neg a0, if_neg a1, if_pos a2]; exact ⟨_, _, rfl, rfl, rfl, H5⟩
    · rw [if_neg a0, if_neg a1, if_neg a2, if_neg a0, if_neg a1, if_neg a2]; exact ⟨_, _, rfl, rfl, rfl, H5⟩
