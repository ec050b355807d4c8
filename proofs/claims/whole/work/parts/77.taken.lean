theorem in1n_cases (x : Int32) (n : Nat) (hn : n < 2 ^ 29) : (f_X11_in x 1 (nI n) = some 0 ∧ (x < 1 ∨ nI n < x)) ∨ (f_X11_in x 1 (nI n) = some 1 ∧ ∃ j, 1 ≤ j ∧ j ≤ n ∧ x = nI j) := by
  unfold f_X11_in
  by_cases h1 : x < 1
  · left; rw [if_pos h1]; exact ⟨rfl, Or.inl h1⟩
  · rw [if_neg h1]
    by_cases h2 : nI n < x
    · left; rw [if_pos h2]; exact ⟨rfl, Or.inr h2⟩
    · right
      rw [if_neg h2]
      have h1' : ¬ x.toInt < 1 := fun q => h1 (Int32.lt_iff_toInt_lt.mpr q)
      have h0 : ¬ x < 0 := fun q => by
        have q : x.toInt < 0 := Int32.lt_iff_toInt_lt.mp q
        omega
      obtain ⟨j, hj, rfl⟩ := nI_of h0
      rw [nI_toInt hj] at h1'
      refine ⟨rfl, j, by omega, ?_, rfl⟩
      refine Nat.not_lt.mp fun q => h2 (nI_lt q hj)
set_option maxRecDepth 10000 in
theorem step_taken : St_taken Rel := by
  intro a b c M1 M2 H
  have Hn1 := Rel_no H 1
  have Hn2 := Rel_no H 2
  have Hn6 := Rel_no H 6
  have Hy := Rel_no H 0
  obtain ⟨z, h, hC, hL, hS, hs⟩ := id H
  obtain ⟨h1, h2, h3, h4, -⟩ := id hC
  have hf := h4.inv.2.1
  unfold f_X10_taken f_X11_taken
  rcases pk_ix a (n := 16) (by decide) with ha | ha | ⟨k, hk, rfl⟩
  · rw [placeAt_no (Or.inl ha), isPlace_no (Or.inl ha)]; exact ⟨_, _, rfl, rfl, rfl, Hn1⟩
  · rw [placeAt_no (Or.inr ha), isPlace_no (Or.inr ha)]; exact ⟨_, _, rfl, rfl, rfl, Hn1⟩
  rw [placeAt_yes hk, isPlace_yes hk]
  have tx := h1.2.2.2 k hk
  have ty := h2.2.2.2 k hk
  have hin := h4.inv.2.2.2.1 k hk
  simp only [Option.bind_some, oel, if_neg one_ne, if_pos (kX_place hk)]
  rcases in1n_cases b 3 (by decide) with ⟨e1, hb⟩ | ⟨e1, s, hs1, hs3, rfl⟩
  · rw [show f_X11_in b 1 3 = some 0 from e1]
    by_cases hb0 : b < 1
    · rw [if_pos hb0]; exact ⟨_, _, rfl, rfl, rfl, Hn2⟩
    · rw [if_neg hb0, if_neg (show ¬ b ≤ (3 : Int32) from fun q => by
        rcases hb with hb | hb
        · exact hb0 hb
        · have q : b ≤ nI 3 := q
          rw [Int32.lt_iff_toInt_lt] at hb
          rw [Int32.le_iff_toInt_le] at q
          omega)]
      exact ⟨_, _, rfl, rfl, rfl, Hn2⟩
  rw [show f_X11_in (nI s) 1 3 = some 1 from e1, if_neg (show ¬ nI s < (1 : Int32) from nI_nlt (a := s) (b := 1) hs1 (by omega)), if_pos (show nI s ≤ (3 : Int32) from nI_le (b := 3) hs3 (by decide))]
  simp only [Option.bind_some, if_neg one_ne, if_pos (inB_nI hk (show 16 < 2 ^ 31 by decide)), nI_clamp (show k < 2 ^ 31 by omega), tx.1, ty.1]
  by_cases hst : ¬ (zPc z k).1 = s
  · have hne : ¬ nI (zPc z k).1 = nI s := fun q => hst ((nI_eq (by omega) (by omega)).mp q)
    rw [if_neg hne, if_neg hne]; exact ⟨_, _, rfl, rfl, rfl, Hn6⟩
  have hst := Decidable.not_not.mp hst
  rw [hst, if_pos rfl, if_pos rfl]
  by_cases e3 : s = 3
  · subst e3
    have px := tx.2.2 hst
    have py := ty.2.2 hst
    have hok := hin.2 hst
    generalize hp : (zPc z k).2.2 = p at px py hok
    have hc := (hf.2 p.1 hok.1).2.2.1
    have hf24 : p.1 < 24 := by have := hf.1; have := hok.1; omega
    have kp : kX (312 + 3 * k + 1) = 6 := kX_s9 (kX_place hk)
    have y6 : (sI M2 0 5 0).1 6 p.1 = nI (zCnt (zFm z) p.1) := by rw [sI_off _ _ _ _ (by decide)]; exact (h2.2.1.2 p.1 hok.1).2.1
    rw [if_pos (show nI 3 = (3 : Int32) from rfl), if_pos (show nI 3 = (3 : Int32) from rfl), partsIn_ hk hf24 (show (sI M2 0 5 0).1 11 (121 * k) = nI p.1 by rw [sI_off _ _ _ _ (by decide)]; exact py.1) y6]
    simp only [Option.bind_some, if_pos (show nI 3 = (3 : Int32) from rfl)]
    rcases pk_ix c (n := zCnt (zFm z) p.1) (by omega) with hc1 | hc1 | ⟨i, hi, rfl⟩
    · rw [hasPart_no kp px.2.1 (Or.inl hc1), in_no (by omega) (Or.inl hc1)]; exact ⟨_, _, rfl, rfl, rfl, Hn1⟩
    · rw [hasPart_no kp px.2.1 (Or.inr hc1), in_no (by omega) (Or.inr hc1)]; exact ⟨_, _, rfl, rfl, rfl, Hn1⟩
    · rw [hasPart_yes kp px.2.1 hc hi, in_yes hi (by omega)]
      simp only [Option.bind_some, if_neg one_ne, m121, nI_1, nI_add, if_pos (inB_nI (show i < 120 by omega) (show 120 < 2 ^ 31 by decide)), if_pos (inB_nI (show 121 * k + 1 + i < 1936 by omega) (show 1936 < 2 ^ 31 by decide)), nI_clamp (show i < 2 ^ 31 by omega), nI_clamp (show 121 * k + 1 + i < 2 ^ 31 by omega), f_X10_accept]
      refine ⟨_, _, rfl, rfl, ?_, Hy⟩
      show M1.1 (312 + 3 * k + 1 + 1) i = M2.1 11 (121 * k + 1 + i)
      rw [py.2 i hi]; exact px.2.2 i hi
  · have hne : ¬ nI s = (3 : Int32) := fun q => e3 ((nI_eq (a := s) (b := 3) (by omega) (by decide)).mp q)
    rw [if_neg hne, if_neg hne, if_neg hne]
    simp only [Option.bind_some, f_X10_accept]
    refine ⟨_, _, rfl, rfl, ?_, Hy⟩
    show M1.1 (312 + 3 * k) 1 = M2.1 10 k
    rw [tx.2.1 (by omega), ty.2.1 (by omega)]
