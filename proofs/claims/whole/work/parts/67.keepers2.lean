theorem ListR_ag {M1 M2 N1 N2 : Mem} {k : Nat} (h : ListR M1 M2 k) (a : N1.1 0 4 = M1.1 0 4) (b : N1.1 6 = M1.1 6) (c : N2.1 0 7 = M2.1 0 7) (d : N2.1 4 = M2.1 4) : ListR N1 N2 k := by
  obtain ⟨n, ts, l1, l2, l3, l4⟩ := h
  refine ⟨n, ts, l1, by rw [a]; exact l2, by rw [c]; exact l3, fun i hi => ?_⟩
  rw [b, d]; exact l4 i hi
theorem SheetR_ag {M1 M2 N1 N2 : Mem} (h : SheetR M1 M2) (a : N1.1 252 0 = M1.1 252 0) (b : N1.1 253 = M1.1 253) (c : N2.1 0 18 = M2.1 0 18) (d : N2.1 12 = M2.1 12) : SheetR N1 N2 := by
  obtain ⟨n, s1, s2, s3, s4⟩ := h
  refine ⟨n, s1, by rw [a]; exact s2, by rw [c]; exact s3, fun i hi => ?_⟩
  rw [b, d]; exact s4 i hi
theorem ListR_more {M1 M2 : Mem} {k : Nat} (h : ListR M1 M2 k) : ListR M1 M2 (k + 1) := by
  obtain ⟨n, ts, l1, l2, l3, l4⟩ := h
  refine ⟨n, ts, l1, l2, l3, fun i hi => ?_⟩
  obtain ⟨q1, q2, q3⟩ := l4 i hi
  exact ⟨q1, by rw [Nat.pow_succ]; omega, q3⟩
set_option maxRecDepth 10000 in
theorem step_weight : St_weight Rel := by
  intro a b M1 M2 H
  have Hn1 := Rel_no H 1
  have Hn2 := Rel_no H 2
  obtain ⟨z, h, ⟨h1, h2, h3, h4, ⟨fr, f1, f2, f3, f4⟩, h6, h7⟩, ⟨n, ts, l1, l2, l3, l4⟩, ⟨n2, s1, s2, s3, s4⟩, hs⟩ := id H
  have hk := h4.inv.1.1
  unfold f_X10_weight f_X11_weight
  rw [h2.1.1]
  rcases pk_ix a (n := zKn z) (by omega) with ha | ha | ⟨k, hkz, rfl⟩
  · rw [isThere_no h1.1.1 (Or.inl ha), in_no (by omega) (Or.inl ha)]; exact ⟨_, _, rfl, rfl, rfl, Hn1⟩
  · rw [isThere_no h1.1.1 (Or.inr ha), in_no (by omega) (Or.inr ha)]; exact ⟨_, _, rfl, rfl, rfl, Hn1⟩
  rw [isThere_yes h1.1.1 hk hkz, in_yes hkz (by omega)]
  simp only [Option.bind_some, if_neg one_ne]
  rcases in_cases b 1000 (by decide) with ⟨e1, hb⟩ | ⟨e1, v, hv, rfl⟩
  · rw [show f_X11_in b 0 1000 = some 0 from e1]
    by_cases hb0 : b < 0
    · rw [if_pos hb0]; exact ⟨_, _, rfl, rfl, rfl, Hn2⟩
    · rw [if_neg hb0, if_neg (show ¬ b ≤ (1000 : Int32) from fun q => by
        rcases hb with hb | hb
        · exact hb0 hb
        · have hb : nI 1000 < b := hb
          have q : b ≤ nI 1000 := q
          rw [Int32.lt_iff_toInt_lt] at hb
          rw [Int32.le_iff_toInt_le] at q
          omega)]
      exact ⟨_, _, rfl, rfl, rfl, Hn2⟩
  rw [show f_X11_in (nI v) 0 1000 = some 1 from e1, if_neg (nI_pos (show v < 2 ^ 31 by omega)), if_pos (show nI v ≤ (1000 : Int32) from nI_le (b := 1000) hv (by decide))]
  simp only [Option.bind_some, if_neg one_ne, inB_nI (show k < 16 by omega) (by decide), nI_clamp (show k < 2 ^ 31 by omega), if_true]
  obtain ⟨t, N, o1, o2, o3, o4, o5, o6, o7, o8, o9⟩ := open_spec f2 f1 f3 h3 3 (nI k) (M1.1 4 k)
  obtain ⟨o, P, p1, p2, p3, p4, p5, p6, p7, p8, p9, p10, p11⟩ := act_spec (M := sI M2 0 5 0) (n := h.length) (by rw [sI_1, if_neg (by decide)]; exact h6) h3 3 (nI k) (M2.1 3 k)
  rw [o1, p1]
  simp only [Option.bind_some, f_X10_acceptTrue, or_true, if_true]
  refine ⟨_, _, rfl, rfl, rfl, ?_⟩
  dsimp only
  have hz : Inv (zKn z, zSt z, zTe z, nUp (zWe z) k v, zFn z, zFm z, zPl z, zPc z) := by
    refine ⟨⟨hk, fun j hj => ?_⟩, h4.inv.2.1, h4.inv.2.2.1, h4.inv.2.2.2.1, fun j hj => ?_, h4.inv.2.2.2.2.2⟩
    · obtain ⟨i1, i2, i3, i4⟩ := h4.inv.1.2 j hj
      refine ⟨i1, i2, i3, ?_⟩
      show nUp (zWe z) k v j ≤ 1000
      by_cases e : j = k
      · rw [e, nup_s]; exact hv
      · rw [nup_n _ _ e]; exact i4
    · obtain ⟨i1, i2, i3⟩ := h4.inv.2.2.2.2.1 j hj
      have hj : zKn z ≤ j := hj
      refine ⟨i1, i2, ?_⟩
      show nUp (zWe z) k v j = 0
      rw [nup_n _ _ (by omega)]; exact i3
  have hu : undoA (3, k, zWe z k, none, th0) (zKn z, zSt z, zTe z, nUp (zWe z) k v, zFn z, zFm z, zPl z, zPc z) = z := by
    show (zKn z, zSt z, zTe z, nUp (nUp (zWe z) k v) k (zWe z k), zFn z, zFm z, zPl z, zPc z) = z
    rw [nUp_back]
  have hN : ∀ d, d ≠ 10 → d ≠ t → d ≠ 4 → d ≠ 0 → (sI (sI N 4 k (nI v)) 0 11 0).1 d = M1.1 d := fun d q1 q2 q3 q4 => by
    rw [sI_off _ _ _ _ q4, sI_off _ _ _ _ q3, o8 d q1 q2]
  have hN0 : ∀ i, i ≠ 11 → (sI (sI N 4 k (nI v)) 0 11 0).1 0 i = M1.1 0 i := fun i q => by
    rw [sI_1, if_neg (by omega), sI_off _ _ _ _ (by decide), o8 0 (by decide) (by omega)]
  have hP : ∀ d, d ≠ 0 → d ≠ 13 → d ≠ 3 → (sI P 3 k (nI v)).1 d = M2.1 d := fun d q1 q2 q3 => by
    rw [sI_off _ _ _ _ q3, p10 d q1 q2, sI_off _ _ _ _ q1]
  have hP0 : ∀ i, i ≠ 4 → i ≠ 20 → i ≠ 5 → (sI P 3 k (nI v)).1 0 i = M2.1 0 i := fun i q1 q2 q3 => by
    rw [sI_off _ _ _ _ (by decide), p9 i q1 q2, sI_1, if_neg (by omega)]
  refine ⟨_, _, Core_push h4 h3 hu hz ?_ ?_ (o9 (sI (sI N 4 k (nI v)) 0 11 0) ?_ ?_ h z _ _ rfl f4 hu ?_) ?_ (p11 (sI P 3 k (nI v)) ?_ h z _ _ rfl h4 (HY_ag (by rw [sI_off _ _ _ _ (by decide)]) h7) hu ?_), ⟨n, ts, l1, ?_, ?_, fun i hi => ?_⟩, ⟨n2, s1, ?_, ?_, fun i hi => ?_⟩, ?_⟩
  · refine RX_ke h1 ⟨?_, fun j hj => ?_⟩ rfl rfl rfl rfl (hN0 2 (by decide)) (hN 7 (by omega) (by omega) (by omega) (by omega)) (hN 8 (by omega) (by omega) (by omega) (by omega)) (fun c hc => hN c (by omega) (by omega) (by omega) (by omega))
    · rw [hN 1 (by omega) (by omega) (by omega) (by omega)]; exact h1.1.1
    · obtain ⟨x1, x2, x3⟩ := h1.1.2 j hj
      rw [hN 2 (by omega) (by omega) (by omega) (by omega), hN 3 (by omega) (by omega) (by omega) (by omega)]
      refine ⟨x1, x2, ?_⟩
      rw [sI_off _ _ _ _ (by decide), sI_1]
      by_cases e : j = k
      · rw [if_pos ⟨rfl, e⟩, e]; show nI v = nI (nUp (zWe z) k v k); rw [nup_s]
      · rw [if_neg (by omega), o8 4 (by decide) (by omega), x3]; show nI _ = nI (nUp (zWe z) k v j); rw [nup_n _ _ e]
  · refine RY_ke h2 ⟨?_, fun j hj => ?_⟩ rfl rfl rfl rfl (hP0 11 (by decide) (by decide) (by decide)) (hP0 13 (by decide) (by decide) (by decide)) (fun c hc hc2 => hP c (by omega) (by omega) (by omega))
    · rw [hP0 3 (by decide) (by decide) (by decide)]; exact h2.1.1
    · obtain ⟨x1, x2, x3⟩ := h2.1.2 j hj
      rw [hP 1 (by omega) (by omega) (by omega), hP 2 (by omega) (by omega) (by omega)]
      refine ⟨x1, x2, ?_⟩
      rw [sI_1]
      by_cases e : j = k
      · rw [if_pos ⟨rfl, e⟩, e]; show nI v = nI (nUp (zWe z) k v k); rw [nup_s]
      · rw [if_neg (by omega), p10 3 (by decide) (by decide), sI_off _ _ _ _ (by decide), x3]; show nI _ = nI (nUp (zWe z) k v j); rw [nup_n _ _ e]
  · rw [sI_off _ _ _ _ (by decide), sI_off _ _ _ _ (by decide)]
  · intro d q1 q2 q3
    rw [sI_off _ _ _ _ (by omega), sI_off _ _ _ _ (by omega)]
  · show _ ∧ _ ∧ _ ∧ _
    rw [sI_off _ _ _ _ (by omega), sI_off _ _ _ _ (by omega), o5, o6, o7, (h1.1.2 k hkz).2.2]
    exact ⟨rfl, rfl, rfl, hkz⟩
  · rw [sI_off _ _ _ _ (by decide)]; exact p8
  · intro j hj
    rw [sI_off _ _ _ _ (by decide)]
  · show _ ∧ _ ∧ _ ∧ _
    rw [sI_off _ _ _ _ (by decide), p4, p5, p6, (h2.1.2 k hkz).2.2]
    exact ⟨rfl, rfl, rfl, hkz⟩
  · rw [hN0 4 (by decide)]; exact l2
  · rw [hP0 7 (by decide) (by decide) (by decide)]; exact l3
  · rw [hN 6 (by omega) (by omega) (by omega) (by omega), hP 4 (by omega) (by omega) (by omega)]; exact l4 i hi
  · rw [hN 252 (by omega) (by omega) (by omega) (by omega)]; exact s2
  · rw [hP0 18 (by decide) (by decide) (by decide)]; exact s3
  · rw [hN 253 (by omega) (by omega) (by omega) (by omega), hP 12 (by omega) (by omega) (by omega)]; exact s4 i hi
  · rw [st_X, sI_off _ _ _ _ (by decide), p7]
theorem in1_cases (x : Int32) : (f_X11_in x 1 100 = some 0 ∧ (x < 1 ∨ (¬ x < 1 ∧ (100 : Int32) < x))) ∨ (f_X11_in x 1 100 = some 1 ∧ ¬ x < 1 ∧ ¬ (100 : Int32) < x ∧ ∃ j, 1 ≤ j ∧ j ≤ 100 ∧ x = nI j) := by
  unfold f_X11_in
  by_cases h1 : x < 1
  · left; rw [if_pos h1]; exact ⟨rfl, Or.inl h1⟩
  · rw [if_neg h1]
    by_cases h2 : (100 : Int32) < x
    · left; rw [if_pos h2]; exact ⟨rfl, Or.inr ⟨h1, h2⟩⟩
    · right
      rw [if_neg h2]
      refine ⟨rfl, h1, h2, ?_⟩
      have h0 : ¬ x < 0 := fun q => h1 (by rw [Int32.lt_iff_toInt_lt] at *; have : (1 : Int32).toInt = 1 := rfl; have : (0 : Int32).toInt = 0 := rfl; omega)
      obtain ⟨j, hj, rfl⟩ := nI_of h0
      refine ⟨j, ?_, ?_, rfl⟩
      · exact Nat.not_lt.mp fun q => h1 (nI_lt (b := 1) q (by decide))
      · exact Nat.not_lt.mp fun q => h2 (nI_lt (a := 100) q hj)
set_option maxRecDepth 10000 in
theorem step_keeper : St_keeper Rel := by
  intro a b M1 M2 H
  have Hn2 := Rel_no H 2
  have Hn4 := Rel_no H 4
  obtain ⟨z, h, ⟨h1, h2, h3, h4, ⟨fr, f1, f2, f3, f4⟩, h6, h7⟩, hL, hS, hs⟩ := id H
  have hk := h4.inv.1.1
  unfold f_X10_keeper f_X11_keeper
  rcases in1_cases a with ⟨e1, ha | ha⟩ | ⟨e1, ha1, ha2, s, hs1, hs2, rfl⟩
  · rw [if_pos ha, e1]; exact ⟨_, _, rfl, rfl, rfl, Hn2⟩
  · rw [if_neg ha.1, if_pos ha.2, e1]; exact ⟨_, _, rfl, rfl, rfl, Hn2⟩
  rw [if_neg ha1, if_neg ha2, e1]
  simp only [Option.bind_some, if_neg one_ne]
  rcases in_cases b 10 (by decide) with ⟨e2, hb⟩ | ⟨e2, v, hv, rfl⟩
  · rw [areTenths_no hb, show f_X11_in b 0 10 = some 0 from e2]; exact ⟨_, _, rfl, rfl, rfl, Hn2⟩
  rw [areTenths_yes hv, show f_X11_in (nI v) 0 10 = some 1 from e2]
  simp only [Option.bind_some, if_neg one_ne]
  rw [h1.1.1, h2.1.1, if_neg (nI_pos (show zKn z < 2 ^ 31 by omega))]
  by_cases h16 : zKn z = 16
  · rw [h16, if_neg (show ¬ nI 16 < (16 : Int32) by decide), if_pos (show nI 16 = (16 : Int32) by decide)]; exact ⟨_, _, rfl, rfl, rfl, Hn4⟩
  have hlt : zKn z < 16 := by omega
  generalize hkz : zKn z = k at *
  rw [if_pos (show nI k < (16 : Int32) from nI_lt (b := 16) hlt (by decide)), if_neg (show ¬ nI k = (16 : Int32) from fun q => by have := (nI_eq (a := k) (b := 16) (by omega) (by decide)).mp q; omega)]
  simp only [inB_nI hlt (show 16 < 2 ^ 31 by decide), nI_clamp (show k < 2 ^ 31 by omega), if_true, nI_1]
  obtain ⟨t, N, o1, o2, o3, o4, o5, o6, o7, o8, o9⟩ := open_spec (M := sI (sI (sI (sI M1 2 k (nI s)) 3 k (nI v)) 4 k 0) 1 0 (nI (k + 1))) (fr := fr) (n := h.length) (by rw [sI_off _ _ _ _ (by decide), sI_off _ _ _ _ (by decide), sI_off _ _ _ _ (by decide), sI_off _ _ _ _ (by decide)]; exact f2) f1 (by rw [sI_off _ _ _ _ (by decide), sI_off _ _ _ _ (by decide), sI_off _ _ _ _ (by decide), sI_off _ _ _ _ (by decide)]; exact f3) h3 0 (nI k) 0
  obtain ⟨o, P, p1, p2, p3, p4, p5, p6, p7, p8, p9, p10, p11⟩ := act_spec (M := sI (sI (sI (sI (sI M2 0 5 0) 1 k (nI s)) 2 k (nI v)) 3 k 0) 0 3 (nI (k + 1))) (n := h.length) (by rw [sI_1, if_neg (by decide), sI_off _ _ _ _ (by decide), sI_off _ _ _ _ (by decide), sI_off _ _ _ _ (by decide), sI_1, if_neg (by decide)]; exact h6) h3 0 0 0
  rw [o1, p1]
  simp only [Option.bind_some, f_X10_accept]
  have q3 : P.1 0 3 = nI (k + 1) := by rw [p9 3 (by decide) (by decide), sI_1, if_pos ⟨rfl, rfl⟩]
  refine ⟨_, _, rfl, rfl, ?_, ?_⟩
  · show nI k = P.1 0 3 - 1
    rw [q3, nI_pred]
  dsimp only
  have hnf := h4.inv.2.2.2.2.1 k (by omega)
  have hz : Inv (k + 1, nUp (zSt z) k s, nUp (zTe z) k v, nUp (zWe z) k 0, zFn z, zFm z, zPl z, zPc z) := by
    refine ⟨⟨show k + 1 ≤ 16 by omega, fun j hj => ?_⟩, ⟨h4.inv.2.1.1, fun f hf => ?_⟩, h4.inv.2.2.1, h4.inv.2.2.2.1, fun j hj => ?_, h4.inv.2.2.2.2.2⟩
    · have hj : j < k + 1 := hj
      show 1 ≤ nUp (zSt z) k s j ∧ nUp (zSt z) k s j ≤ 100 ∧ nUp (zTe z) k v j ≤ 10 ∧ nUp (zWe z) k 0 j ≤ 1000
      by_cases e : j = k
      · rw [e, nup_s, nup_s, nup_s]; exact ⟨hs1, hs2, hv, by omega⟩
      · rw [nup_n _ _ e, nup_n _ _ e, nup_n _ _ e]; exact h4.inv.1.2 j (by omega)
    · obtain ⟨g1, g2, g3, g4⟩ := h4.inv.2.1.2 f hf
      refine ⟨g1, g2, g3, fun i hi => ?_⟩
      obtain ⟨g5, g6⟩ := g4 i hi
      refine ⟨g5, ?_⟩
      show zSet (zFm z) f i < 2 ^ (k + 1)
      rw [Nat.pow_succ, ← hkz]; omega
    · have hj : k + 1 ≤ j := hj
      show nUp (zSt z) k s j = 0 ∧ nUp (zTe z) k v j = 0 ∧ nUp (zWe z) k 0 j = 0
      rw [nup_n _ _ (by omega), nup_n _ _ (by omega), nup_n _ _ (by omega)]
      exact h4.inv.2.2.2.2.1 j (by omega)
  have hu : undoA (0, 0, 0, none, th0) (k + 1, nUp (zSt z) k s, nUp (zTe z) k v, nUp (zWe z) k 0, zFn z, zFm z, zPl z, zPc z) = z := by
    show (k, nUp (nUp (zSt z) k s) k 0, nUp (nUp (zTe z) k v) k 0, nUp (nUp (zWe z) k 0) k 0, zFn z, zFm z, zPl z, zPc z) = z
    have a1 := nUp_back (zSt z) k s
    have a2 := nUp_back (zTe z) k v
    have a3 := nUp_back (zWe z) k 0
    rw [hnf.1] at a1
    rw [hnf.2.1] at a2
    rw [hnf.2.2] at a3
    rw [a1, a2, a3, ← hkz]
  have hN : ∀ d, d ≠ 10 → d ≠ t → d ≠ 1 → d ≠ 2 → d ≠ 3 → d ≠ 4 → d ≠ 0 → (sI N 0 11 0).1 d = M1.1 d := fun d q1 q2 q3 q4 q5 q6 q7 => by
    rw [sI_off _ _ _ _ q7, o8 d q1 q2, sI_off _ _ _ _ q3, sI_off _ _ _ _ q6, sI_off _ _ _ _ q5, sI_off _ _ _ _ q4]
  have hN0 : ∀ i, i ≠ 11 → (sI N 0 11 0).1 0 i = M1.1 0 i := fun i q => by
    rw [sI_1, if_neg (by omega), o8 0 (by decide) (by omega), sI_off _ _ _ _ (by decide), sI_off _ _ _ _ (by decide), sI_off _ _ _ _ (by decide), sI_off _ _ _ _ (by decide)]
  have hP : ∀ d, d ≠ 0 → d ≠ 13 → d ≠ 1 → d ≠ 2 → d ≠ 3 → P.1 d = M2.1 d := fun d q1 q2 q3 q4 q5 => by
    rw [p10 d q1 q2, sI_off _ _ _ _ q1, sI_off _ _ _ _ q5, sI_off _ _ _ _ q4, sI_off _ _ _ _ q3, sI_off _ _ _ _ q1]
  have hP0 : ∀ i, i ≠ 4 → i ≠ 20 → i ≠ 5 → i ≠ 3 → P.1 0 i = M2.1 0 i := fun i q1 q2 q3 q4 => by
    rw [p9 i q1 q2, sI_1, if_neg (by omega), sI_off _ _ _ _ (by decide), sI_off _ _ _ _ (by decide), sI_off _ _ _ _ (by decide), sI_1, if_neg (by omega)]
  refine ⟨_, _, Core_push h4 h3 hu hz ?_ ?_ (o9 (sI N 0 11 0) ?_ ?_ h z _ _ rfl (HX_ag (fun c hc hc2 => by rw [sI_off _ _ _ _ (by omega), sI_off _ _ _ _ (by omega), sI_off _ _ _ _ (by omega), sI_off _ _ _ _ (by omega)]) f4) hu ?_) p8 (p11 P (fun _ _ => rfl) h z _ _ rfl h4 (HY_ag (by rw [sI_off _ _ _ _ (by decide), sI_off _ _ _ _ (by decide), sI_off _ _ _ _ (by decide), sI_off _ _ _ _ (by decide), sI_off _ _ _ _ (by decide)]) h7) hu ?_), ListR_ag (ListR_more hL) (hN0 4 (by decide)) (hN 6 (by omega) (by omega) (by omega) (by omega) (by omega) (by omega) (by omega)) (hP0 7 (by decide) (by decide) (by decide) (by decide)) (hP 4 (by omega) (by omega) (by omega) (by omega) (by omega)), SheetR_ag hS (by rw [hN 252 (by omega) (by omega) (by omega) (by omega) (by omega) (by omega) (by omega)]) (hN 253 (by omega) (by omega) (by omega) (by omega) (by omega) (by omega) (by omega)) (hP0 18 (by decide) (by decide) (by decide) (by decide)) (hP 12 (by omega) (by omega) (by omega) (by omega) (by omega)), ?_⟩
  · refine RX_ke h1 ⟨?_, fun j hj => ?_⟩ rfl rfl rfl rfl (hN0 2 (by decide)) (hN 7 (by omega) (by omega) (by omega) (by omega) (by omega) (by omega) (by omega)) (hN 8 (by omega) (by omega) (by omega) (by omega) (by omega) (by omega) (by omega)) (fun c hc => hN c (by omega) (by omega) (by omega) (by omega) (by omega) (by omega) (by omega))
    · rw [sI_off _ _ _ _ (by decide), o8 1 (by decide) (by omega), sI_1, if_pos ⟨rfl, rfl⟩]
    · have hj : j < k + 1 := hj
      rw [sI_off _ _ _ _ (by decide), sI_off _ _ _ _ (by decide), sI_off _ _ _ _ (by decide), o8 2 (by decide) (by omega), o8 3 (by decide) (by omega), o8 4 (by decide) (by omega)]
      show _ = nI (nUp (zSt z) k s j) ∧ _ = nI (nUp (zTe z) k v j) ∧ _ = nI (nUp (zWe z) k 0 j)
      by_cases e : j = k
      · rw [e, nup_s, nup_s, nup_s]
        refine ⟨by simp [sI], by simp [sI], by simp [sI]; rfl⟩
      · obtain ⟨x1, x2, x3⟩ := h1.1.2 j (by omega)
        rw [nup_n _ _ e, nup_n _ _ e, nup_n _ _ e, ← x1, ← x2, ← x3]
        refine ⟨by simp [sI, e], by simp [sI, e], by simp [sI, e]⟩
  · refine RY_ke h2 ⟨?_, fun j hj => ?_⟩ rfl rfl rfl rfl (hP0 11 (by decide) (by decide) (by decide) (by decide)) (hP0 13 (by decide) (by decide) (by decide) (by decide)) (fun c hc hc2 => hP c (by omega) (by omega) (by omega) (by omega) (by omega))
    · exact q3
    · have hj : j < k + 1 := hj
      rw [p10 1 (by decide) (by decide), p10 2 (by decide) (by decide), p10 3 (by decide) (by decide)]
      show _ = nI (nUp (zSt z) k s j) ∧ _ = nI (nUp (zTe z) k v j) ∧ _ = nI (nUp (zWe z) k 0 j)
      by_cases e : j = k
      · rw [e, nup_s, nup_s, nup_s]
        refine ⟨by simp [sI], by simp [sI], by simp [sI]; rfl⟩
      · obtain ⟨x1, x2, x3⟩ := h2.1.2 j (by omega)
        rw [nup_n _ _ e, nup_n _ _ e, nup_n _ _ e, ← x1, ← x2, ← x3]
        refine ⟨by simp [sI, e], by simp [sI, e], by simp [sI, e]⟩
  · rw [sI_off _ _ _ _ (by decide)]
  · intro d q1 q2 q3
    rw [sI_off _ _ _ _ (by omega)]
  · show _ ∧ _ ∧ _
    rw [sI_off _ _ _ _ (by omega), o5, o6]
    exact ⟨rfl, rfl, Nat.succ_pos _⟩
  · show _ = _
    exact p4
  · rw [st_X, p7]
