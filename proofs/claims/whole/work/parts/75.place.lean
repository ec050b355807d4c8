/-! places -/
def pcUp (g : Nat → Th) (k : Nat) (t : Th) : Nat → Th := fun j => if j = k then t else g j
theorem pcUp_s (g : Nat → Th) (k : Nat) (t : Th) : pcUp g k t k = t := by simp [pcUp]
theorem pcUp_n (g : Nat → Th) {k j : Nat} (t : Th) (h : j ≠ k) : pcUp g k t j = g j := by simp [pcUp, h]
theorem pcUp_back (g : Nat → Th) (k : Nat) (t : Th) : (fun j => if j = k then g k else pcUp g k t j) = g := by
  funext j
  by_cases h : j = k
  · rw [if_pos h, h]
  · rw [if_neg h, pcUp_n _ _ h]
def SpY (fm : Nat → Fm) (N : Mem) (u k : Nat) (t : Th) : Prop := N.1 13 u = 5 ∧ N.1 13 (u + 1) = nI k ∧ N.1 13 (u + 2) = nI t.1 ∧ (t.1 = 1 ∨ t.1 = 2 → N.1 13 (u + 3) = t.2.1) ∧ (t.1 = 3 → PlY fm N 13 (u + 4) t.2.2)
theorem SpY_ag {fm : Nat → Fm} {M N : Mem} {u k : Nat} {t : Th} (h : SpY fm M u k t) (e : N.1 13 = M.1 13) : SpY fm N u k t := by
  unfold SpY PlY at *
  rw [e]
  exact h
theorem caseActs_spec {M : Mem} {n k : Nat} {fm : Nat → Fm} {t : Th} (h2 : M.1 0 20 = nI n) (hn : n ≤ 60) (hk : k < 16) (ht : ThY fm M k t) (hc : t.1 = 3 → zCnt fm t.2.2.1 ≤ 120) :
    ∃ (u : Nat) (N : Mem), f_X11_caseActs (nI k) M = some N ∧ u = 126 * min n 59 ∧ SpY fm N u k t ∧ N.1 0 4 = 0 ∧ N.1 0 20 = nI (min n 59 + 1) ∧ (∀ i, i ≠ 4 → i ≠ 20 → N.1 0 i = M.1 0 i) ∧ (∀ d, d ≠ 0 → d ≠ 13 → N.1 d = M.1 d) ∧
    ∀ N' : Mem, (∀ j, j < u → N'.1 13 j = N.1 13 j) → ∀ (h : List Ac) (z z' : Sg) (e : Ac), h.length = n → InvH h z → HY M h z → undoA e z' = z → AcY N' u e z' → HY N' (e :: hp h) z' := by
  obtain ⟨u, P, p1, p2, p3, p4, p5, p6, p7, p8, p9, p10, p11⟩ := act_spec h2 hn 5 (nI k) (M.1 9 k)
  have hm : min n 59 ≤ 59 := by omega
  have HH := cp_loop (fun n v N => f_X11_caseActs_l1 (nI k) (nI u) n v N) 121 (by decide) 13 (u + 4) (fun i => P.1 11 (121 * k + i)) (sI P 13 (u + 3) (P.1 10 k)) ?_ ?_
  · obtain ⟨N, e, q1, q2, q3⟩ := HH
    have e : f_X11_caseActs_l1 (nI k) (nI u) fuelN 0 (sI P 13 (u + 3) (P.1 10 k)) = some N := e
    have q13 : ∀ j, j < u + 3 → N.1 13 j = P.1 13 j := fun j hj => by rw [q2 j (by omega), sI_1, if_neg (by omega)]
    refine ⟨u, N, ?_, p3, ⟨?_, ?_, ?_, ?_, ?_⟩, ?_, ?_, ?_, ?_, ?_⟩
    · unfold f_X11_caseActs
      rw [if_pos (inB_nI hk (by decide)), nI_clamp (show k < 2 ^ 31 by omega), p1, Option.bind_some, if_pos (inB_nI hk (by decide)), p8, nI_pred, show (126 : Int32) = nI 126 from rfl, pk_mul, ← p3, show (3 : Int32) = nI 3 from rfl, nI_add, if_pos (inB_nI (by omega) (by decide)), nI_clamp (show u + 3 < 2 ^ 31 by omega), e]
      rfl
    · rw [q13 u (by omega)]; exact p4
    · rw [q13 (u + 1) (by omega)]; exact p5
    · rw [q13 (u + 2) (by omega), p6]; exact ht.1
    · intro hh
      rw [q2 (u + 3) (by omega), sI_1, if_pos ⟨rfl, rfl⟩, p10 10 (by decide) (by decide)]
      exact ht.2.1 hh
    · intro hh
      have hp := ht.2.2 hh
      refine ⟨?_, fun i hi => ?_⟩
      · have := q3 0 (by decide)
        rw [Nat.add_zero, Nat.add_zero] at this
        rw [this, p10 11 (by decide) (by decide)]; exact hp.1
      · have := hc hh
        have := q3 (1 + i) (by omega)
        rw [← Nat.add_assoc, ← Nat.add_assoc] at this
        rw [this, p10 11 (by decide) (by decide)]; exact hp.2 i hi
    · rw [q1 0 (by decide), sI_off _ _ _ _ (by decide)]; exact p7
    · rw [q1 0 (by decide), sI_off _ _ _ _ (by decide)]; exact p8
    · intro i g1 g2
      rw [q1 0 (by decide), sI_off _ _ _ _ (by decide)]; exact p9 i g1 g2
    · intro d g1 g2
      rw [q1 d g2, sI_off _ _ _ _ g2]; exact p10 d g1 g2
    · intro N' e1 h z z' ee hl hI H hu hA
      refine p11 N' (fun j hj => ?_) h z z' ee hl hI H hu hA
      rw [e1 j hj, q13 j (by omega)]
  · intro n N
    show f_X11_caseActs_l1 (nI k) (nI u) (n + 1) (nI 121) N = _
    rw [f_X11_caseActs_l1, if_pos (by decide)]
  · intro n i N hi h
    show f_X11_caseActs_l1 (nI k) (nI u) (n + 1) (nI i) N = _
    rw [f_X11_caseActs_l1, if_neg (show ¬ (121 : Int32) ≤ nI i from ifle_no hi (by decide)), m121, show (4 : Int32) = nI 4 from rfl, nI_add, nI_add, nI_add, if_pos (inB_nI (by omega) (by decide)), if_pos (inB_nI (by omega) (by decide)), nI_clamp (by omega), nI_clamp (by omega), h 11 (by decide), sI_off _ _ _ _ (by decide), nI_1]
abbrev zPu (z : Sg) (k : Nat) (t : Th) : Sg := (zKn z, zSt z, zTe z, zWe z, zFn z, zFm z, zPl z, pcUp (zPc z) k t)
theorem pc_push {M1 M2 N1 N2 : Mem} {z : Sg} {h : List Ac} {k t u : Nat} {th : Th} (H : Core M1 M2 z h) (hL : ListR M1 M2 (zKn z)) (hS : SheetR M1 M2) (hk : k < 16) (hth : th.1 ≤ 3 ∧ (th.1 = 3 → PlOk z th.2.2)) (ht : 12 ≤ t ∧ t + 3 < 252) (hu : u = 126 * min h.length 59)
    (x0 : N1.1 0 2 = M1.1 0 2) (x4 : N1.1 0 4 = M1.1 0 4) (xo : ∀ d, d ≠ 0 → d ≠ 10 → ¬ (t ≤ d ∧ d ≤ t + 3) → ¬ (312 + 3 * k ≤ d ∧ d ≤ 312 + 3 * k + 2) → N1.1 d = M1.1 d) (xp : ThX (zFm z) N1 (312 + 3 * k) th) (xt : N1.1 t 0 = 6) (xk : N1.1 t 1 = nI k) (xs : ThX (zFm z) N1 (t + 1) (zPc z k))
    (xh : ∀ (e : Ac) (z' : Sg), undoA e z' = z → AcX N1 t e z' → ∃ fr', fr' < 60 ∧ N1.1 10 1 = nI fr' ∧ N1.1 10 2 = nI (e :: hp h).length ∧ HX N1 fr' (e :: hp h) z')
    (y3 : ∀ i, i ≠ 4 → i ≠ 5 → i ≠ 20 → N2.1 0 i = M2.1 0 i) (yo : ∀ d, d < 13 → d ≠ 0 → d ≠ 9 → d ≠ 10 → d ≠ 11 → N2.1 d = M2.1 d) (y9 : ∀ j, j ≠ k → N2.1 9 j = M2.1 9 j) (y10 : ∀ j, j ≠ k → N2.1 10 j = M2.1 10 j) (y11 : ∀ j, ¬ (121 * k ≤ j ∧ j < 121 * k + 121) → N2.1 11 j = M2.1 11 j) (yp : ThY (zFm z) N2 k th) (y20 : N2.1 0 20 = nI (min h.length 59 + 1)) (ys : SpY (zFm z) N2 u k (zPc z k))
    (yh : ∀ (e : Ac) (z' : Sg), undoA e z' = z → AcY N2 u e z' → HY N2 (e :: hp h) z') (hst : N1.1 0 11 = N2.1 0 4) : Rel N1 N2 := by
  obtain ⟨h1, h2, h3, h4, -⟩ := H
  have hI := h4.inv
  have hun : undoA (5, k, 0, none, zPc z k) (zPu z k th) = z := by
    show (zKn z, zSt z, zTe z, zWe z, zFn z, zFm z, zPl z, fun j => if j = k then zPc z k else pcUp (zPc z) k th j) = z
    rw [pcUp_back]
  have hz : Inv (zPu z k th) := by
    refine ⟨hI.1, hI.2.1, hI.2.2.1, fun j hj => ?_, hI.2.2.2.2⟩
    show (pcUp (zPc z) k th j).1 ≤ 3 ∧ ((pcUp (zPc z) k th j).1 = 3 → PlOk (zPu z k th) (pcUp (zPc z) k th j).2.2)
    by_cases e : j = k
    · rw [e, pcUp_s]; exact hth
    · rw [pcUp_n _ _ e]; exact hI.2.2.2.1 j hj
  refine ⟨zPu z k th, _, Core_push h4 h3 hun hz ?_ ?_ (xh _ _ hun ⟨xt, xk, hk, xs⟩) y20 (yh _ _ hun ⟨ys.1, ys.2.1, hk, ys.2.2⟩), ListR_ag hL x4 (xo 6 (by omega) (by omega) (by omega) (by omega)) (y3 7 (by decide) (by decide) (by decide)) (yo 4 (by omega) (by omega) (by omega) (by omega) (by omega)), SheetR_ag hS (by rw [xo 252 (by omega) (by omega) (by omega) (by omega)]) (xo 253 (by omega) (by omega) (by omega) (by omega)) (y3 18 (by decide) (by decide) (by decide)) (yo 12 (by omega) (by omega) (by omega) (by omega) (by omega)), hst⟩
  · refine ⟨?_, ?_, PoX_ag h1.2.2.1 (xo 7 (by omega) (by omega) (by omega) (by omega)) (xo 8 (by omega) (by omega) (by omega) (by omega)), fun j hj => ?_⟩
    · have h1 := h1.1
      unfold KeX at *
      rw [xo 1 (by omega) (by omega) (by omega) (by omega), xo 2 (by omega) (by omega) (by omega) (by omega), xo 3 (by omega) (by omega) (by omega) (by omega), xo 4 (by omega) (by omega) (by omega) (by omega)]
      exact h1
    · have h5 := h1.2.1
      have := hI.2.1.1
      unfold FaX at *
      rw [x0]
      refine ⟨h5.1, fun f hf => ?_⟩
      have hf : f < zFn z := hf
      rw [xo (264 + 2 * f) (by omega) (by omega) (by omega) (by omega), xo (264 + 2 * f + 1) (by omega) (by omega) (by omega) (by omega)]
      exact h5.2 f hf
    · show ThX (zFm z) N1 (312 + 3 * j) (pcUp (zPc z) k th j)
      by_cases e : j = k
      · rw [e, pcUp_s]; exact xp
      · rw [pcUp_n _ _ e]
        exact ThX_ag (h1.2.2.2 j hj) (xo _ (by omega) (by omega) (by omega) (by omega)) (xo _ (by omega) (by omega) (by omega) (by omega)) (xo _ (by omega) (by omega) (by omega) (by omega))
  · refine ⟨?_, FaY_ag h2.2.1 rfl rfl (y3 11 (by decide) (by decide) (by decide)) (yo 5 (by omega) (by omega) (by omega) (by omega) (by omega)) (yo 6 (by omega) (by omega) (by omega) (by omega) (by omega)) (yo 7 (by omega) (by omega) (by omega) (by omega) (by omega)), PoY_ag h2.2.2.1 (y3 13 (by decide) (by decide) (by decide)) (yo 8 (by omega) (by omega) (by omega) (by omega) (by omega)), fun j hj => ?_⟩
    · have h1 := h2.1
      unfold KeY at *
      rw [y3 3 (by decide) (by decide) (by decide), yo 1 (by omega) (by omega) (by omega) (by omega) (by omega), yo 2 (by omega) (by omega) (by omega) (by omega) (by omega), yo 3 (by omega) (by omega) (by omega) (by omega) (by omega)]
      exact h1
    · show ThY (zFm z) N2 j (pcUp (zPc z) k th j)
      by_cases e : j = k
      · rw [e, pcUp_s]; exact yp
      · rw [pcUp_n _ _ e]
        have h5 := h2.2.2.2 j hj
        refine ⟨by rw [y9 j e]; exact h5.1, fun q => by rw [y10 j e]; exact h5.2.1 q, fun q => ?_⟩
        have hp := h5.2.2 q
        have hcc := (hI.2.1.2 _ ((hI.2.2.2.1 j hj).2 q).1).2.2.1
        refine ⟨by rw [y11 _ (by omega)]; exact hp.1, fun i hi => ?_⟩
        rw [y11 _ (by omega)]; exact hp.2 i hi
