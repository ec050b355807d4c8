theorem and_not (x m : Int32) : x &&& (m ^^^ (-1)) = 0 ↔ x &&& m = x := by
  constructor
  · intro h
    refine b_ext fun i hi => ?_
    have h1 : bt (x &&& (m ^^^ (-1))) i = bt 0 i := by rw [h]
    rw [b_and, b_xor, b_m1 i hi, b_0] at h1
    rw [b_and]
    cases hx : bt x i <;> cases hm : bt m i <;> simp_all
  · intro h
    refine b_ext fun i hi => ?_
    have h1 : bt (x &&& m) i = bt x i := by rw [h]
    rw [b_and] at h1
    rw [b_and, b_xor, b_m1 i hi, b_0]
    cases hx : bt x i <;> cases hm : bt m i <;> simp_all
theorem shl1 : ∀ k, k ≤ 16 → (1 : Int32) <<< (nI k &&& 31) = nI (2 ^ k) := by decide
theorem pow16 {k : Nat} (h : k ≤ 16) : 2 ^ k ≤ 65536 := Nat.pow_le_pow_right (by decide) h
/-- a set as in list(): both sides say so -/
theorem set_cases (a : Int32) {k : Nat} (hk : k ≤ 16) {M1 M2 : Mem} (h1 : M1.1 1 0 = nI k) (h2 : M2.1 0 3 = nI k) : (f_X5_areASet a M1 = some 0 ∧ f_X11_isSet a M2 = some 0) ∨ (f_X5_areASet a M1 = some 1 ∧ f_X11_isSet a M2 = some 1 ∧ ∃ s, 1 ≤ s ∧ s < 2 ^ k ∧ a = nI s) := by
  have hp := pow16 hk
  have hp0 : 0 < 2 ^ k := Nat.pow_pos (by decide)
  have em : nI (2 ^ k) - 1 = nI (2 ^ k - 1) := pk_sub (a := 2 ^ k) (b := 1) (by omega)
  have hm : (nI (2 ^ k - 1)).toBitVec.toNat = 2 ^ k - 1 := pk_tn (by omega)
  unfold f_X5_areASet f_X11_isSet
  rw [h1, h2, shl1 k hk, em]
  simp only [and_not, pk_and a k hm]
  by_cases ha0 : a = 0
  · left
    subst ha0
    simp
  · rw [if_neg ha0]
    by_cases hlt : nI (a.toBitVec.toNat % 2 ^ k) = a
    · right
      obtain ⟨s, hs, rfl⟩ : ∃ s, s < 2 ^ k ∧ a = nI s := ⟨_, Nat.mod_lt _ hp0, hlt.symm⟩
      have h0 : s ≠ 0 := fun e => ha0 (by rw [e]; rfl)
      rw [if_pos hlt, if_neg (nI_nle (by omega) (by omega)), if_neg (nI_ge hs (by omega))]
      exact ⟨rfl, rfl, s, by omega, hs, rfl⟩
    · left
      rw [if_neg hlt]
      refine ⟨rfl, ?_⟩
      by_cases hle : a ≤ 0
      · rw [if_pos hle]
      · rw [if_neg hle, if_pos]
        have hn : ¬ a < 0 := fun q => hle (Int32.le_of_lt q)
        obtain ⟨j, hj, rfl⟩ := nI_of hn
        refine nI_le ?_ hj
        refine Nat.not_lt.mp fun q => hlt ?_
        rw [pk_tn (by omega), Nat.mod_eq_of_lt q]
theorem hasPair_no {x : Int32} {M : Mem} {n : Nat} (h0 : M.1 252 0 = nI n) (h : x < 0 ∨ nI n ≤ x) : f_X8_hasPair x M = some 0 := by
  unfold f_X8_hasPair
  rw [h0]
  rcases h with h | h
  · rw [if_pos h]
  · by_cases h2 : x < 0
    · rw [if_pos h2]
    · rw [if_neg h2, if_pos h]
theorem hasPair_yes {j : Nat} {M : Mem} {n : Nat} (h0 : M.1 252 0 = nI n) (hn : n ≤ 7140) (h : j < n) : f_X8_hasPair (nI j) M = some 1 := by
  unfold f_X8_hasPair
  rw [h0, if_neg (nI_pos (by omega)), if_neg (nI_ge h (by omega))]
theorem step_names : St_names Rel := by
  intro a M1 M2 H
  have H5 := Rel_5 H
  obtain ⟨z, h, hC, hL, ⟨n, s1, s2, s3, s4⟩, hs⟩ := H
  unfold f_X10_names f_X11_names
  rw [s3]
  rcases pk_ix a (n := n) (by omega) with ha | ha | ⟨j, hj, rfl⟩
  · rw [hasPair_no s2 (Or.inl ha), in_no (by omega) (Or.inl ha)]; exact ⟨_, _, rfl, rfl, rfl, H5⟩
  · rw [hasPair_no s2 (Or.inr ha), in_no (by omega) (Or.inr ha)]; exact ⟨_, _, rfl, rfl, rfl, H5⟩
  · rw [hasPair_yes s2 s1 hj, in_yes hj (by omega)]
    simp only [Option.bind_some, inB_nI (show j < 7140 by omega) (by decide), nI_clamp (show j < 2 ^ 31 by omega), if_neg one_ne, if_true]
    exact ⟨_, _, rfl, rfl, s4 j hj, H5⟩
theorem step_forge : St_forge Rel := by
  intro a b M1 M2 H
  have Hn := Rel_no H 1
  obtain ⟨z, h, hC, hL, ⟨n, s1, s2, s3, s4⟩, hs⟩ := id H
  unfold f_X10_forge f_X11_forge
  rw [s3]
  rcases pk_ix a (n := n) (by omega) with ha | ha | ⟨j, hj, rfl⟩
  · rw [hasPair_no s2 (Or.inl ha), in_no (by omega) (Or.inl ha)]; exact ⟨_, _, rfl, rfl, rfl, Hn⟩
  · rw [hasPair_no s2 (Or.inr ha), in_no (by omega) (Or.inr ha)]; exact ⟨_, _, rfl, rfl, rfl, Hn⟩
  · rw [hasPair_yes s2 s1 hj, in_yes hj (by omega)]
    simp only [Option.bind_some, inB_nI (show j < 7140 by omega) (by decide), nI_clamp (show j < 2 ^ 31 by omega), if_neg one_ne, if_true, f_X10_acceptTrue, or_true]
    refine ⟨_, _, rfl, rfl, rfl, ?_⟩
    obtain ⟨m, ts, l1, l2, l3, l4⟩ := hL
    refine ⟨z, h, Core_ag hC ⟨?_, fun c hc => ?_⟩ ⟨⟨?_, ?_, ?_, ?_⟩, fun c hc => ?_⟩, ⟨m, ts, l1, ?_, ?_, fun i hi => ?_⟩, ⟨n, s1, ?_, ?_, fun i hi => ?_⟩, ?_⟩
    · simp [sI]
    · rw [sI_off _ _ _ _ (by omega), sI_off _ _ _ _ (by omega)]
    · simp [sI]
    · simp [sI]
    · simp [sI]
    · simp [sI]
    · rw [sI_off _ _ _ _ (by omega), sI_off _ _ _ _ (by omega), sI_off _ _ _ _ (by omega)]
    · simp [sI]; exact l2
    · simp [sI]; exact l3
    · simp [sI]; exact l4 i hi
    · simp [sI]; exact s2
    · simp [sI]; exact s3
    · simp only [sI, s4 j hj]
      by_cases e : i = j
      · simp [e]
      · simp [e, s4 i hi]
    · simp [sI]
theorem step_lies : St_lies Rel := by
  intro a M1 M2 H
  have Hn := Rel_no H 1
  have Hy := Rel_no H 0
  obtain ⟨z, h, ⟨h1, h2, -⟩, hL, hS, hs⟩ := id H
  unfold f_X10_lies f_X11_lies
  rcases pk_ix a (n := 16) (by decide) with ha | ha | ⟨j, hj, rfl⟩
  · rw [placeAt_no (Or.inl ha), isPlace_no (Or.inl ha)]; exact ⟨_, _, rfl, rfl, rfl, Hn⟩
  · rw [placeAt_no (Or.inr ha), isPlace_no (Or.inr ha)]; exact ⟨_, _, rfl, rfl, rfl, Hn⟩
  · rw [placeAt_yes hj, isPlace_yes hj]
    simp only [Option.bind_some, oel, inB_nI hj (by decide), nI_clamp (show j < 2 ^ 31 by omega), if_neg one_ne, if_true, kX_place hj, f_X10_accept]
    refine ⟨_, _, rfl, rfl, ?_, Hy⟩
    show M1.1 (312 + 3 * j) 0 = M2.1 9 j
    rw [(h1.2.2.2 j hj).1, (h2.2.2.2 j hj).1]
theorem quOf {f i : Nat} {M : Mem} (hf : f < 24) (hi : i < 120) : f_X11_quorumOf (nI f) (nI i) M = some (M.1 7 (120 * f + i)) := by
  unfold f_X11_quorumOf
  rw [show (120 : Int32) = nI 120 from rfl, pk_mul, nI_add, if_pos (inB_nI (by omega) (by decide)), nI_clamp (by omega)]
theorem step_quorum : St_quorum Rel := by
  intro a b M1 M2 H
  have H5 := Rel_5 H
  obtain ⟨z, h, ⟨h1, h2, h3, h4, -⟩, hL, hS, hs⟩ := id H
  have hf := h4.inv.2.1
  unfold f_X10_quorum f_X11_quorum
  rcases pk_ix a (n := zFn z) (by omega) with ha | ha | ⟨j, hj, rfl⟩
  · rw [famAt_no h1.2.1.1 (Or.inl ha), isFam_no (by rw [show (sI M2 0 5 0).1 0 11 = M2.1 0 11 by simp [sI]]; exact h2.2.1.1) hf.1 (Or.inl ha)]; exact ⟨_, _, rfl, rfl, rfl, H5⟩
  · rw [famAt_no h1.2.1.1 (Or.inr ha), isFam_no (by rw [show (sI M2 0 5 0).1 0 11 = M2.1 0 11 by simp [sI]]; exact h2.2.1.1) hf.1 (Or.inr ha)]; exact ⟨_, _, rfl, rfl, rfl, H5⟩
  · have hj24 : j < 24 := by omega
    rw [famAt_yes h1.2.1.1 hf.1 hj, isFam_yes (by rw [show (sI M2 0 5 0).1 0 11 = M2.1 0 11 by simp [sI]]; exact h2.2.1.1) hf.1 hj]
    obtain ⟨x1, x2, x3⟩ := h1.2.1.2 j hj
    obtain ⟨y1, y2, y3⟩ := h2.2.1.2 j hj
    obtain ⟨-, hc1, hc2, -⟩ := hf.2 j hj
    simp only [Option.bind_some, oel, inB_nI hj24 (by decide), nI_clamp (show j < 2 ^ 31 by omega), if_neg one_ne, if_true, kX_fam hj24, x2, y2]
    rcases pk_ix b (n := zCnt (zFm z) j) (by omega) with hb | hb | ⟨i, hi, rfl⟩
    · rw [if_pos hb, in_no (by omega) (Or.inl hb)]; exact ⟨_, _, rfl, rfl, rfl, H5⟩
    · rw [in_no (by omega) (Or.inr hb)]
      by_cases hb0 : b < 0
      · rw [if_pos hb0]; exact ⟨_, _, rfl, rfl, rfl, H5⟩
      · rw [if_neg hb0, if_neg (fun q => by rw [Int32.lt_iff_toInt_lt] at q; rw [Int32.le_iff_toInt_le] at hb; omega)]; exact ⟨_, _, rfl, rfl, rfl, H5⟩
    · rw [in_yes hi (by omega), if_neg (nI_pos (by omega)), if_pos (nI_lt hi (by omega))]
      simp only [Option.bind_some, inB_nI (show i < 120 by omega) (by decide), nI_clamp (show i < 2 ^ 31 by omega), if_neg one_ne, if_true, quOf hj24 (show i < 120 by omega)]
      refine ⟨_, _, rfl, rfl, ?_, H5⟩
      show M1.1 (264 + 2 * j + 1) i = (sI M2 0 5 0).1 7 (120 * j + i)
      rw [x3 i hi, sI_off _ _ _ _ (by decide), y3 i hi]
