def QX (M : Mem) (f c : Nat) (q : Nat → Nat) : Prop := f < 24 ∧ c ≤ 120 ∧ M.1 (264 + 2 * f) 1 = nI c ∧ ∀ i, i < c → M.1 (264 + 2 * f + 1) i = nI (q i)
def QY (M : Mem) (f c : Nat) (q : Nat → Nat) : Prop := f < 24 ∧ c ≤ 120 ∧ M.1 6 f = nI c ∧ ∀ i, i < c → M.1 7 (120 * f + i) = nI (q i)
theorem QY_ag {M N : Mem} {f c : Nat} {q : Nat → Nat} (h : QY M f c q) (e6 : N.1 6 = M.1 6) (e7 : N.1 7 = M.1 7) : QY N f c q := by
  unfold QY at *
  rw [e6, e7]
  exact h
theorem QY_k {M N : Mem} {f c : Nat} {q : Nat → Nat} (h : QY M f c q) (k : KeepY M N) : QY N f c q := QY_ag h (k.1.2 6 (by omega)) (k.1.2 7 (by omega))
theorem QX_k {M N : Mem} {f c : Nat} {q : Nat → Nat} (h : QX M f c q) (k : KeepX M N) : QX N f c q := by
  unfold QX at *
  rw [k.1.2 (264 + 2 * f) (by omega), k.1.2 (264 + 2 * f + 1) (by omega)]
  exact h
theorem QX_of {M : Mem} {z : Sg} (hI : Inv z) (h : FaX M z) {f : Nat} (hf : f < zFn z) : QX M f (zCnt (zFm z) f) (zSet (zFm z) f) := ⟨by have := hI.2.1.1; omega, (hI.2.1.2 f hf).2.2.1, (h.2 f hf).2.1, (h.2 f hf).2.2⟩
theorem QY_of {M : Mem} {z : Sg} (hI : Inv z) (h : FaY M z) {f : Nat} (hf : f < zFn z) : QY M f (zCnt (zFm z) f) (zSet (zFm z) f) := ⟨by have := hI.2.1.1; omega, (hI.2.1.2 f hf).2.2.1, (h.2 f hf).2.1, (h.2 f hf).2.2⟩
theorem QY.at {M : Mem} {f c : Nat} {q : Nat → Nat} (h : QY M f c q) {i : Nat} (hi : i < c) : f_X11_quorumOf (nI f) (nI i) M = some (nI (q i)) := by
  rw [quOf h.1 (by have := h.2.1; omega), h.2.2.2 i hi]
theorem k5 (M : Mem) : KeepY M (sI M 0 5 0) := keepY_f M 0 (by omega)
theorem k54 (M : Mem) (v : Int32) : KeepY M (sI (sI M 0 5 0) 0 4 v) := (k5 M).trans (keepY_f _ _ (by omega))
theorem fn5 (M : Mem) : (sI M 0 5 0).1 0 11 = M.1 0 11 := by simp [sI]
theorem ifle_no {i c : Nat} (h : i < c) (hc : c < 2 ^ 31) : ¬ nI c ≤ nI i := nI_ge h hc
set_option maxRecDepth 10000 in
theorem step_list : St_list Rel := by
  intro a M1 M2 H
  have Hn2 := Rel_no H 2
  have Hn4 := Rel_no H 4
  obtain ⟨z, h, hC, ⟨n, ts, l1, l2, l3, l4⟩, hS, hs⟩ := id H
  obtain ⟨h1, h2, h3, h4, -⟩ := id hC
  unfold f_X10_list f_X11_list
  rw [l2, l3]
  rcases set_cases a h4.inv.1.1 h1.1.1 (show (sI M2 0 5 0).1 0 3 = nI (zKn z) by rw [show (sI M2 0 5 0).1 0 3 = M2.1 0 3 by simp [sI]]; exact h2.1.1) with ⟨e1, e2⟩ | ⟨e1, e2, s, hs1, hs2, rfl⟩
  · rw [e1, e2]; exact ⟨_, _, rfl, rfl, rfl, Hn2⟩
  rw [e1, e2]
  simp only [Option.bind_some, if_neg one_ne, if_neg (nI_pos (show n < 2 ^ 31 by omega))]
  by_cases hn : n = 120
  · rw [hn, if_neg (show ¬ nI 120 < (120 : Int32) by decide), if_pos (show nI 120 = (120 : Int32) by decide)]; exact ⟨_, _, rfl, rfl, rfl, Hn4⟩
  rw [if_pos (show nI n < (120 : Int32) from nI_lt (b := 120) (by omega) (by decide)), if_neg (show ¬ nI n = (120 : Int32) from fun q => by have := (nI_eq (a := n) (b := 120) (by omega) (by decide)).mp q; omega)]
  simp only [inB_nI (show n < 120 by omega) (show 120 < 2 ^ 31 by decide), nI_clamp (show n < 2 ^ 31 by omega), if_true, nI_1, f_X10_accept, Option.bind_some]
  refine ⟨_, _, rfl, rfl, rfl, ?_⟩
  refine ⟨z, h, Core_ag hC ⟨?_, fun c hc => ?_⟩ ⟨⟨?_, ?_, ?_, ?_⟩, fun c hc => ?_⟩, ⟨n + 1, nUp ts n s, by omega, ?_, ?_, fun i hi => ?_⟩, SheetR_ag hS ?_ ?_ ?_ ?_, ?_⟩
  · simp [sI]
  · rw [sI_off _ _ _ _ (by omega), sI_off _ _ _ _ (by omega), sI_off _ _ _ _ (by omega)]
  · simp [sI]
  · simp [sI]
  · simp [sI]
  · simp [sI]
  · rw [sI_off _ _ _ _ (by omega), sI_off _ _ _ _ (by omega), sI_off _ _ _ _ (by omega), sI_off _ _ _ _ (by omega)]
  · simp [sI]
  · simp [sI]
  · by_cases e : i = n
    · rw [e, nup_s]
      exact ⟨hs1, hs2, by simp [sI], by simp [sI]⟩
    · obtain ⟨q1, q2, q3, q4⟩ := l4 i (by omega)
      rw [nup_n _ _ e, ← q3]
      exact ⟨q1, q2, by simp [sI, e], by rw [q3, ← q4]; simp [sI, e]⟩
  · simp [sI]
  · rw [sI_off _ _ _ _ (by decide), sI_off _ _ _ _ (by decide), sI_off _ _ _ _ (by decide)]
  · simp [sI]
  · rw [sI_off _ _ _ _ (by decide), sI_off _ _ _ _ (by decide), sI_off _ _ _ _ (by decide), sI_off _ _ _ _ (by decide)]
  · simp [sI]
/-! has -/
theorem has_l {M1 M2 : Mem} {f c : Nat} {q : Nat → Nat} (hx : QX M1 f c q) (hy : QY M2 f c q) (a : Int32) : ∀ n i, i ≤ c → f_X1_isHeldBy_l1 (264 + 2 * f) a M1 n (nI i) = f_X11_hasOne_l1 (nI f) a M2 n (nI i) := by
  have hc := hx.2.1
  intro n
  induction n with
  | zero => intro i _; rfl
  | succ n ih =>
    intro i hi
    rw [f_X1_isHeldBy_l1, f_X11_hasOne_l1, if_pos (inB_nI hx.1 (by decide)), nI_clamp (show f < 2 ^ 31 by have := hx.1; omega), hx.2.2.1, hy.2.2.1]
    by_cases e : i = c
    · rw [e, if_pos (Int32.le_refl _), if_pos (Int32.le_refl _)]
    · have hlt : i < c := by omega
      rw [if_neg (ifle_no hlt (by omega)), if_neg (ifle_no hlt (by omega)), if_pos (inB_nI (show i < 120 by omega) (by decide)), nI_clamp (show i < 2 ^ 31 by omega), hx.2.2.2 i hlt, hy.at hlt, Option.bind_some, nI_1]
      by_cases h0 : (nI (q i) &&& (a ^^^ (-1 : Int32))) = 0
      · rw [if_pos h0, if_pos h0]
      · rw [if_neg h0, if_neg h0]
        exact ih (i + 1) (by omega)
theorem has_some {M2 : Mem} {f c : Nat} {q : Nat → Nat} (hy : QY M2 f c q) (a : Int32) : ∃ r, f_X11_hasOne (nI f) a M2 = some r ∧ ((r = 1 ∧ ∃ i, i < c ∧ nI (q i) &&& (a ^^^ (-1 : Int32)) = 0) ∨ (r = 0 ∧ ∀ i, i < c → ¬ nI (q i) &&& (a ^^^ (-1 : Int32)) = 0)) := by
  have hc := hy.2.1
  have HH := loop_go (F := fun n v (_ : Unit) => f_X11_hasOne_l1 (nI f) a M2 n v) c (by omega) (fun i _ => ∀ j, j < i → ¬ nI (q j) &&& (a ^^^ (-1 : Int32)) = 0) (fun r => (r = .inr 1 ∧ ∃ i, i < c ∧ nI (q i) &&& (a ^^^ (-1 : Int32)) = 0) ∨ (r = .inl () ∧ ∀ i, i < c → ¬ nI (q i) &&& (a ^^^ (-1 : Int32)) = 0)) ?_ ?_ 0 () (by omega) (fun j hj => by omega)
  · obtain ⟨r, e, hr⟩ := HH
    unfold f_X11_hasOne
    have e : f_X11_hasOne_l1 (nI f) a M2 fuelN 0 = some r := e
    rw [e]
    rcases hr with ⟨rfl, h⟩ | ⟨rfl, h⟩
    · exact ⟨1, rfl, Or.inl ⟨rfl, h⟩⟩
    · exact ⟨0, rfl, Or.inr ⟨rfl, h⟩⟩
  · intro n _ hI
    refine ⟨.inl (), ?_, Or.inr ⟨rfl, hI⟩⟩
    show f_X11_hasOne_l1 (nI f) a M2 (n + 1) (nI c) = _
    rw [f_X11_hasOne_l1, if_pos (inB_nI hy.1 (by decide)), nI_clamp (show f < 2 ^ 31 by have := hy.1; omega), hy.2.2.1, if_pos (Int32.le_refl _)]
  · intro n i _ hi hI
    show (∃ s', _ ∧ f_X11_hasOne_l1 (nI f) a M2 (n + 1) (nI i) = f_X11_hasOne_l1 (nI f) a M2 n (nI (i + 1))) ∨ _
    rw [f_X11_hasOne_l1, if_pos (inB_nI hy.1 (by decide)), nI_clamp (show f < 2 ^ 31 by have := hy.1; omega), hy.2.2.1, if_neg (ifle_no hi (by omega)), hy.at hi, Option.bind_some, nI_1]
    by_cases h0 : (nI (q i) &&& (a ^^^ (-1 : Int32))) = 0
    · right
      rw [if_pos h0]
      exact ⟨_, rfl, Or.inl ⟨rfl, i, hi, h0⟩⟩
    · left
      rw [if_neg h0]
      refine ⟨(), fun j hj => ?_, rfl⟩
      by_cases e : j = i
      · rw [e]; exact h0
      · exact hI j (by omega)
theorem held_eq {M1 M2 : Mem} {f c : Nat} {q : Nat → Nat} (hx : QX M1 f c q) (hy : QY M2 f c q) (a : Int32) : f_X1_isHeldBy (264 + 2 * f) a M1 = f_X11_hasOne (nI f) a M2 := by
  unfold f_X1_isHeldBy f_X11_hasOne
  rw [if_pos (kX_fam hx.1)]
  have e := has_l hx hy a fuelN 0 (Nat.zero_le _)
  rw [show (0 : Int32) = nI 0 from rfl, e]
theorem step_has : St_has Rel := by
  intro a b M1 M2 H
  have Hn := Rel_no H 1
  have Hy := Rel_no H 0
  obtain ⟨z, h, ⟨h1, h2, h3, h4, -⟩, hL, hS, hs⟩ := id H
  have hf := h4.inv.2.1
  unfold f_X10_has f_X11_has
  rcases pk_ix a (n := zFn z) (by omega) with ha | ha | ⟨f, hfz, rfl⟩
  · rw [famAt_no h1.2.1.1 (Or.inl ha), isFam_no (by rw [fn5]; exact h2.2.1.1) hf.1 (Or.inl ha)]; exact ⟨_, _, rfl, rfl, rfl, Hn⟩
  · rw [famAt_no h1.2.1.1 (Or.inr ha), isFam_no (by rw [fn5]; exact h2.2.1.1) hf.1 (Or.inr ha)]; exact ⟨_, _, rfl, rfl, rfl, Hn⟩
  · rw [famAt_yes h1.2.1.1 hf.1 hfz, isFam_yes (by rw [fn5]; exact h2.2.1.1) hf.1 hfz]
    have qx := QX_of h4.inv h1.2.1 hfz
    have qy := QY_k (QY_of h4.inv h2.2.1 hfz) (k54 M2 0)
    obtain ⟨r, e, hr⟩ := has_some qy b
    simp only [Option.bind_some, oel, if_pos (kX_fam qx.1), if_neg one_ne, held_eq qx qy, e, f_X10_accept]
    rcases hr with ⟨rfl, -⟩ | ⟨rfl, -⟩
    · simp only [if_neg one_ne, Option.bind_some]; exact ⟨_, _, rfl, rfl, rfl, Hy⟩
    · simp only [if_true, Option.bind_some]; exact ⟨_, _, rfl, rfl, rfl, Hy⟩
