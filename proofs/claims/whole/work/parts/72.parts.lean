def psum (p : Nat → Nat) : Nat → Nat
  | 0 => 0
  | n + 1 => psum p n + p n
theorem psum_le {p : Nat → Nat} {b : Nat} : ∀ c, (∀ i, i < c → p i ≤ b) → psum p c ≤ b * c := by
  intro c
  induction c with
  | zero => intro _; exact Nat.le_refl _
  | succ c ih =>
    intro h
    have h1 := ih (fun i hi => h i (by omega))
    have h2 := h c (by omega)
    show psum p c + p c ≤ b * (c + 1)
    rw [Nat.mul_succ]
    omega
theorem psum_pos {p : Nat → Nat} : ∀ c, psum p c ≠ 0 → ∃ i, i < c ∧ p i ≠ 0 := by
  intro c
  induction c with
  | zero => intro h; exact absurd rfl h
  | succ c ih =>
    intro h
    by_cases h0 : p c = 0
    · have h : psum p c + p c ≠ 0 := h
      obtain ⟨i, hi, h1⟩ := ih (by omega)
      exact ⟨i, by omega, h1⟩
    · exact ⟨c, by omega, h0⟩
theorem psum_ge {p : Nat → Nat} : ∀ c i, i < c → p i ≤ psum p c := by
  intro c
  induction c with
  | zero => intro i h; omega
  | succ c ih =>
    intro i h
    show p i ≤ psum p c + p c
    by_cases e : i = c
    · rw [e]; omega
    · have := ih i (by omega); omega
theorem psum_up {p : Nat → Nat} {i v : Nat} : ∀ c, i < c → psum (nUp p i v) c + p i = psum p c + v := by
  have lo : ∀ c, c ≤ i → psum (nUp p i v) c = psum p c := by
    intro c
    induction c with
    | zero => intro _; rfl
    | succ c ih =>
      intro h
      show psum (nUp p i v) c + nUp p i v c = psum p c + p c
      rw [ih (by omega), nup_n _ _ (by omega)]
  intro c
  induction c with
  | zero => intro h; omega
  | succ c ih =>
    intro h
    show psum (nUp p i v) c + nUp p i v c + p i = psum p c + p c + v
    by_cases e : i = c
    · subst e
      rw [lo i (Nat.le_refl _), nup_s]; omega
    · have := ih (by omega)
      rw [nup_n _ _ (fun q => e q.symm)]; omega
theorem allX {M : Mem} {t c : Nat} {p : Nat → Nat} (kt : kX t = 6) (hc : c ≤ 120) (h1 : M.1 t 1 = nI c) (h2 : ∀ i, i < c → M.1 (t + 1) i = nI (p i)) : f_X6_allParts t M = some (nI (psum p c)) := by
  have HH := loop_go (F := fun n v s => f_X6_allParts_l1 t M n s v) c (by omega) (fun i s => s = nI (psum p i)) (fun r => r = nI (psum p c)) ?_ ?_ 0 0 (by omega) rfl
  · obtain ⟨r, e, rfl⟩ := HH
    have e : f_X6_allParts_l1 t M fuelN 0 0 = _ := e
    unfold f_X6_allParts
    rw [if_pos kt, e]
    rfl
  · intro n s hs
    refine ⟨s, ?_, hs⟩
    show f_X6_allParts_l1 t M (n + 1) s (nI c) = _
    rw [f_X6_allParts_l1, h1, if_pos (Int32.le_refl _)]
  · intro n i s hi hs
    left
    refine ⟨nI (psum p (i + 1)), rfl, ?_⟩
    show f_X6_allParts_l1 t M (n + 1) s (nI i) = _
    rw [f_X6_allParts_l1, h1, if_neg (ifle_no hi (by omega)), if_pos (inB_nI (show i < 120 by omega) (by decide)), nI_clamp (show i < 2 ^ 31 by omega), h2 i hi, hs, nI_add, nI_1]
    rfl
theorem allY {M : Mem} {f c : Nat} {p : Nat → Nat} (hf : f < 24) (hc : c ≤ 120) (h0 : M.1 8 0 = nI f) (h1 : M.1 6 f = nI c) (h2 : ∀ i, i < c → M.1 8 (1 + i) = nI (p i)) : f_X11_allParts M = some (nI (psum p c)) := by
  have HH := loop_go (F := fun n v s => f_X11_allParts_l1 M n s v) c (by omega) (fun i s => s = nI (psum p i)) (fun r => r = nI (psum p c)) ?_ ?_ 0 0 (by omega) rfl
  · obtain ⟨r, e, rfl⟩ := HH
    have e : f_X11_allParts_l1 M fuelN 0 0 = _ := e
    unfold f_X11_allParts
    rw [e]
    rfl
  · intro n s hs
    refine ⟨s, ?_, hs⟩
    show f_X11_allParts_l1 M (n + 1) s (nI c) = _
    rw [f_X11_allParts_l1, h0, if_pos (inB_nI hf (by decide)), nI_clamp (show f < 2 ^ 31 by omega), h1, if_pos (Int32.le_refl _)]
  · intro n i s hi hs
    left
    refine ⟨nI (psum p (i + 1)), rfl, ?_⟩
    show f_X11_allParts_l1 M (n + 1) s (nI i) = _
    rw [f_X11_allParts_l1, h0, if_pos (inB_nI hf (by decide)), nI_clamp (show f < 2 ^ 31 by omega), h1, if_neg (ifle_no hi (by omega)), show (1 : Int32) + nI i = nI (1 + i) from nI_add 1 i, if_pos (inB_nI (by omega) (by decide)), nI_clamp (show 1 + i < 2 ^ 31 by omega), h2 i hi, hs, nI_add, nI_1]
    rfl
theorem hasPart_no {x : Int32} {M : Mem} {t c : Nat} (kt : kX t = 6) (h0 : M.1 t 1 = nI c) (h : x < 0 ∨ nI c ≤ x) : f_X6_hasPart t x M = some 0 := by
  unfold f_X6_hasPart
  rw [if_pos kt, h0]
  rcases h with h | h
  · rw [if_pos h]
  · by_cases h2 : x < 0
    · rw [if_pos h2]
    · rw [if_neg h2, if_pos h]
theorem hasPart_yes {j : Nat} {M : Mem} {t c : Nat} (kt : kX t = 6) (h0 : M.1 t 1 = nI c) (hc : c ≤ 120) (h : j < c) : f_X6_hasPart t (nI j) M = some 1 := by
  unfold f_X6_hasPart
  rw [if_pos kt, h0, if_neg (nI_pos (by omega)), if_neg (ifle_no h (by omega))]
theorem isPart_none {x : Int32} {M : Mem} (h : M.1 0 13 = 0) : f_X11_isPart x M = some 0 := by
  unfold f_X11_isPart
  rw [if_pos h]
theorem isPart_no {x : Int32} {M : Mem} {f c : Nat} (h : M.1 0 13 = 1) (hf : f < 24) (hc : c ≤ 120) (h0 : M.1 8 0 = nI f) (h1 : M.1 6 f = nI c) (hx : x < 0 ∨ nI c ≤ x) : f_X11_isPart x M = some 0 := by
  unfold f_X11_isPart
  rw [h, if_neg one_ne, h0, if_pos (inB_nI hf (by decide)), nI_clamp (show f < 2 ^ 31 by omega), h1, in_no (by omega) hx]
  rfl
theorem isPart_yes {j : Nat} {M : Mem} {f c : Nat} (h : M.1 0 13 = 1) (hf : f < 24) (hc : c ≤ 120) (h0 : M.1 8 0 = nI f) (h1 : M.1 6 f = nI c) (hj : j < c) : f_X11_isPart (nI j) M = some 1 := by
  unfold f_X11_isPart
  rw [h, if_neg one_ne, h0, if_pos (inB_nI hf (by decide)), nI_clamp (show f < 2 ^ 31 by omega), h1, in_yes hj (by omega)]
  rfl
theorem step_partOf : St_partOf Rel := by
  intro a M1 M2 H
  have H5 := Rel_5 H
  obtain ⟨z, h, hC, hL, hS, hs⟩ := id H
  obtain ⟨h1, h2, h3, h4, -⟩ := id hC
  unfold f_X10_partOf f_X11_partOf
  have x7 := h1.2.2.1
  have y7 := PoY_ag (N := sI M2 0 5 0) h2.2.2.1 (by simp [sI]) (by rw [sI_off _ _ _ _ (by decide)])
  cases hz : zPl z with
  | none =>
    rw [hz] at x7 y7
    have c0 : f_X6_hasPart 7 a M1 = some 0 := hasPart_no rfl (show M1.1 7 1 = nI 0 from x7.2) (by rcases pk_ix a (n := 0) (by decide) with q | q | ⟨j, q, -⟩; exact Or.inl q; exact Or.inr q; omega)
    rw [c0, isPart_none y7]
    exact ⟨_, _, rfl, rfl, rfl, H5⟩
  | some p =>
    rw [hz] at x7 y7
    have x7 : PlX (zFm z) M1 7 p := x7
    have hok := (h4.inv.2.2.1 p hz).1
    have hf := hok.1
    have hf24 : p.1 < 24 := by have := h4.inv.2.1.1; omega
    have hc := zcnt_le h4.inv hz
    have y6 : (sI M2 0 5 0).1 6 p.1 = nI (zCnt (zFm z) p.1) := by rw [sI_off _ _ _ _ (by decide)]; exact (h2.2.1.2 p.1 hf).2.1
    rcases pk_ix a (n := zCnt (zFm z) p.1) (by omega) with ha | ha | ⟨i, hi, rfl⟩
    · rw [hasPart_no rfl x7.2.1 (Or.inl ha), isPart_no y7.1 hf24 hc y7.2.1 y6 (Or.inl ha)]; exact ⟨_, _, rfl, rfl, rfl, H5⟩
    · rw [hasPart_no rfl x7.2.1 (Or.inr ha), isPart_no y7.1 hf24 hc y7.2.1 y6 (Or.inr ha)]; exact ⟨_, _, rfl, rfl, rfl, H5⟩
    · rw [hasPart_yes rfl x7.2.1 hc hi, isPart_yes y7.1 hf24 hc y7.2.1 y6 hi]
      simp only [Option.bind_some, if_neg one_ne, inB_nI (show i < 120 by omega) (show 120 < 2 ^ 31 by decide), show (1 : Int32) + nI i = nI (1 + i) from nI_add 1 i, inB_nI (show 1 + i < 121 by omega) (show 121 < 2 ^ 31 by decide), nI_clamp (show i < 2 ^ 31 by omega), nI_clamp (show 1 + i < 2 ^ 31 by omega), if_true]
      refine ⟨_, _, rfl, rfl, ?_, H5⟩
      have e1 := x7.2.2 i hi
      have e2 := y7.2.2 i hi
      rw [sI_off _ _ _ _ (by decide), Nat.zero_add] at e2
      show M1.1 8 i = M2.1 8 (1 + i)
      rw [e2]; exact e1
