def th0 : Th := (0, 0, (0, fun _ => 0))
theorem Core_push {N1 N2 : Mem} {z z' : Sg} {h : List Ac} {e : Ac} (hI : InvH h z) (hl : h.length ≤ 60) (hu : undoA e z' = z) (hz : Inv z') (r1 : RX N1 z') (r2 : RY N2 z')
    (hx : ∃ fr', fr' < 60 ∧ N1.1 10 1 = nI fr' ∧ N1.1 10 2 = nI (e :: hp h).length ∧ HX N1 fr' (e :: hp h) z') (hy0 : N2.1 0 20 = nI (min h.length 59 + 1)) (hy : HY N2 (e :: hp h) z') : Core N1 N2 z' (e :: hp h) := by
  have hlen := hp_len hl
  refine ⟨r1, r2, ?_, ⟨hz, ?_⟩, hx, ?_, hy⟩
  · rw [List.length_cons, hlen]; omega
  · rw [hu]; exact InvH_hp hI
  · rw [List.length_cons, hlen]; exact hy0
theorem FaX_ag {M N : Mem} {z z' : Sg} (h : FaX M z) (h1 : zFn z' = zFn z) (h2 : zFm z' = zFm z) (e0 : N.1 0 2 = M.1 0 2) (e : ∀ c, 264 ≤ c → N.1 c = M.1 c) : FaX N z' := by
  unfold FaX at *
  rw [e0, h1, h2]
  refine ⟨h.1, fun f hf => ?_⟩
  rw [e (264 + 2 * f) (by omega), e (264 + 2 * f + 1) (by omega)]
  exact h.2 f hf
theorem PcX_ag {M N : Mem} {z z' : Sg} (h : ∀ k, k < 16 → ThX (zFm z) M (312 + 3 * k) (zPc z k)) (h2 : zFm z' = zFm z) (h3 : zPc z' = zPc z) (e : ∀ c, 264 ≤ c → N.1 c = M.1 c) : ∀ k, k < 16 → ThX (zFm z') N (312 + 3 * k) (zPc z' k) := by
  intro k hk
  rw [h2, h3]
  exact ThX_ag (h k hk) (e _ (by omega)) (e _ (by omega)) (e _ (by omega))
theorem RX_ke {M N : Mem} {z z' : Sg} (h : RX M z) (hk : KeX N z') (h1 : zFn z' = zFn z) (h2 : zFm z' = zFm z) (h3 : zPl z' = zPl z) (h4 : zPc z' = zPc z) (e0 : N.1 0 2 = M.1 0 2) (e7 : N.1 7 = M.1 7) (e8 : N.1 8 = M.1 8) (e : ∀ c, 264 ≤ c → N.1 c = M.1 c) : RX N z' :=
  ⟨hk, FaX_ag h.2.1 h1 h2 e0 e, by rw [h2, h3]; exact PoX_ag h.2.2.1 e7 e8, PcX_ag h.2.2.2 h2 h4 e⟩
theorem FaY_ag {M N : Mem} {z z' : Sg} (h : FaY M z) (h1 : zFn z' = zFn z) (h2 : zFm z' = zFm z) (e0 : N.1 0 11 = M.1 0 11) (e5 : N.1 5 = M.1 5) (e6 : N.1 6 = M.1 6) (e7 : N.1 7 = M.1 7) : FaY N z' := by
  unfold FaY at *
  rw [e0, e5, e6, e7, h1, h2]
  exact h
theorem PcY_ag {M N : Mem} {z z' : Sg} (h : ∀ k, k < 16 → ThY (zFm z) M k (zPc z k)) (h2 : zFm z' = zFm z) (h3 : zPc z' = zPc z) (e9 : N.1 9 = M.1 9) (e10 : N.1 10 = M.1 10) (e11 : N.1 11 = M.1 11) : ∀ k, k < 16 → ThY (zFm z') N k (zPc z' k) := by
  intro k hk
  have := h k hk
  unfold ThY PlY at *
  rw [h2, h3, e9, e10, e11]
  exact this
theorem PoY_ag {M N : Mem} {fm : Nat → Fm} {o : Option Pl} (h : PoY fm M o) (e13 : N.1 0 13 = M.1 0 13) (e8 : N.1 8 = M.1 8) : PoY fm N o := by
  unfold PoY PlY at *
  rw [e13, e8]
  exact h
theorem RY_ke {M N : Mem} {z z' : Sg} (h : RY M z) (hk : KeY N z') (h1 : zFn z' = zFn z) (h2 : zFm z' = zFm z) (h3 : zPl z' = zPl z) (h4 : zPc z' = zPc z) (e0 : N.1 0 11 = M.1 0 11) (e13 : N.1 0 13 = M.1 0 13) (e : ∀ c, 5 ≤ c → c ≤ 11 → N.1 c = M.1 c) : RY N z' :=
  ⟨hk, FaY_ag h.2.1 h1 h2 e0 (e 5 (by omega) (by omega)) (e 6 (by omega) (by omega)) (e 7 (by omega) (by omega)), by rw [h2, h3]; exact PoY_ag h.2.2.1 e13 (e 8 (by omega) (by omega)), PcY_ag h.2.2.2 h2 h4 (e 9 (by omega) (by omega)) (e 10 (by omega) (by omega)) (e 11 (by omega) (by omega))⟩
theorem nUp_back (f : Nat → Nat) (k v : Nat) : nUp (nUp f k v) k (f k) = f := by
  funext j
  unfold nUp
  by_cases h : j = k
  · rw [if_pos h, h]
  · rw [if_neg h, if_neg h]
/-- 0 .. n, or not -/
theorem in_cases (x : Int32) (n : Nat) (hn : n < 2 ^ 29) : (f_X11_in x 0 (nI n) = some 0 ∧ (x < 0 ∨ nI n < x)) ∨ (f_X11_in x 0 (nI n) = some 1 ∧ ∃ j, j ≤ n ∧ x = nI j) := by
  rcases pk_ix x (n := n + 1) (by omega) with h | h | ⟨j, hj, rfl⟩
  · left; exact ⟨in_no2 hn (Or.inl h), Or.inl h⟩
  · left
    refine ⟨in_no2 hn (Or.inr h), Or.inr ?_⟩
    rw [Int32.le_iff_toInt_le, nI_toInt (by omega)] at h
    rw [Int32.lt_iff_toInt_lt, nI_toInt (by omega)]
    omega
  · right; exact ⟨in_yes2 hj hn, j, by omega, rfl⟩
theorem areTenths_no {x : Int32} (h : x < 0 ∨ nI 10 < x) : f_X10_areTenths x = some 0 := by
  unfold f_X10_areTenths
  by_cases h2 : x < 0
  · rw [if_pos h2]
  · rw [if_neg h2, if_pos]
    rcases h with h | h
    · exact absurd h h2
    · exact h
theorem areTenths_yes {j : Nat} (h : j ≤ 10) : f_X10_areTenths (nI j) = some 1 := by
  unfold f_X10_areTenths
  rw [if_neg (nI_pos (by omega)), if_neg (show ¬ (10 : Int32) < nI j from nI_nlt (a := 10) (b := j) h (by decide))]
theorem nup_s (f : Nat → Nat) (k v : Nat) : nUp f k v k = v := by simp [nUp]
theorem nup_n (f : Nat → Nat) {k j : Nat} (v : Nat) (h : j ≠ k) : nUp f k v j = f j := by simp [nUp, h]
set_option maxRecDepth 10000 in
theorem step_tenths : St_tenths Rel := by
  intro a b M1 M2 H
  have Hn1 := Rel_no H 1
  have Hn2 := Rel_no H 2
  obtain ⟨z, h, ⟨h1, h2, h3, h4, ⟨fr, f1, f2, f3, f4⟩, h6, h7⟩, ⟨n, ts, l1, l2, l3, l4⟩, ⟨n2, s1, s2, s3, s4⟩, hs⟩ := id H
  have hk := h4.inv.1.1
  unfold f_X10_tenths f_X11_tenths
  rw [h2.1.1]
  rcases pk_ix a (n := zKn z) (by omega) with ha | ha | ⟨k, hkz, rfl⟩
  · rw [isThere_no h1.1.1 (Or.inl ha), in_no (by omega) (Or.inl ha)]; exact ⟨_, _, rfl, rfl, rfl, Hn1⟩
  · rw [isThere_no h1.1.1 (Or.inr ha), in_no (by omega) (Or.inr ha)]; exact ⟨_, _, rfl, rfl, rfl, Hn1⟩
  rw [isThere_yes h1.1.1 hk hkz, in_yes hkz (by omega)]
  simp only [Option.bind_some, if_neg one_ne]
  rcases in_cases b 10 (by decide) with ⟨e1, hb⟩ | ⟨e1, v, hv, rfl⟩
  · rw [areTenths_no hb, show f_X11_in b 0 10 = some 0 from e1]; exact ⟨_, _, rfl, rfl, rfl, Hn2⟩
  rw [areTenths_yes hv, show f_X11_in (nI v) 0 10 = some 1 from e1]
  simp only [Option.bind_some, if_neg one_ne, inB_nI (show k < 16 by omega) (by decide), nI_clamp (show k < 2 ^ 31 by omega), if_true]
  obtain ⟨t, N, o1, o2, o3, o4, o5, o6, o7, o8, o9⟩ := open_spec f2 f1 f3 h3 1 (nI k) (M1.1 3 k)
  obtain ⟨o, P, p1, p2, p3, p4, p5, p6, p7, p8, p9, p10, p11⟩ := act_spec (M := sI M2 0 5 0) (n := h.length) (by rw [sI_1, if_neg (by decide)]; exact h6) h3 1 (nI k) (M2.1 2 k)
  rw [o1, p1]
  simp only [Option.bind_some, f_X10_acceptTrue, or_true, if_true]
  refine ⟨_, _, rfl, rfl, rfl, ?_⟩
  dsimp only
  have hz : Inv (zKn z, zSt z, nUp (zTe z) k v, zWe z, zFn z, zFm z, zPl z, zPc z) := by
    refine ⟨⟨hk, fun j hj => ?_⟩, h4.inv.2.1, h4.inv.2.2.1, h4.inv.2.2.2.1, fun j hj => ?_, h4.inv.2.2.2.2.2⟩
    · obtain ⟨i1, i2, i3, i4⟩ := h4.inv.1.2 j hj
      refine ⟨i1, i2, ?_, i4⟩
      show nUp (zTe z) k v j ≤ 10
      by_cases e : j = k
      · rw [e, nup_s]; exact hv
      · rw [nup_n _ _ e]; exact i3
    · obtain ⟨i1, i2, i3⟩ := h4.inv.2.2.2.2.1 j hj
      have hj : zKn z ≤ j := hj
      refine ⟨i1, ?_, i3⟩
      show nUp (zTe z) k v j = 0
      rw [nup_n _ _ (by omega)]; exact i2
  have hu : undoA (1, k, zTe z k, none, th0) (zKn z, zSt z, nUp (zTe z) k v, zWe z, zFn z, zFm z, zPl z, zPc z) = z := by
    show (zKn z, zSt z, nUp (nUp (zTe z) k v) k (zTe z k), zWe z, zFn z, zFm z, zPl z, zPc z) = z
    rw [nUp_back]
  have hN : ∀ d, d ≠ 10 → d ≠ t → d ≠ 3 → d ≠ 0 → (sI (sI N 3 k (nI v)) 0 11 0).1 d = M1.1 d := fun d q1 q2 q3 q4 => by
    rw [sI_off _ _ _ _ q4, sI_off _ _ _ _ q3, o8 d q1 q2]
  have hN0 : ∀ i, i ≠ 11 → (sI (sI N 3 k (nI v)) 0 11 0).1 0 i = M1.1 0 i := fun i q => by
    rw [sI_1, if_neg (by omega), sI_off _ _ _ _ (by decide), o8 0 (by decide) (by omega)]
  have hP : ∀ d, d ≠ 0 → d ≠ 13 → d ≠ 2 → (sI P 2 k (nI v)).1 d = M2.1 d := fun d q1 q2 q3 => by
    rw [sI_off _ _ _ _ q3, p10 d q1 q2, sI_off _ _ _ _ q1]
  have hP0 : ∀ i, i ≠ 4 → i ≠ 20 → i ≠ 5 → (sI P 2 k (nI v)).1 0 i = M2.1 0 i := fun i q1 q2 q3 => by
    rw [sI_off _ _ _ _ (by decide), p9 i q1 q2, sI_1, if_neg (by omega)]
  refine ⟨_, _, Core_push h4 h3 hu hz ?_ ?_ (o9 (sI (sI N 3 k (nI v)) 0 11 0) ?_ ?_ h z _ _ rfl f4 hu ?_) ?_ (p11 (sI P 2 k (nI v)) ?_ h z _ _ rfl h4 (HY_ag (by rw [sI_off _ _ _ _ (by decide)]) h7) hu ?_), ⟨n, ts, l1, ?_, ?_, fun i hi => ?_⟩, ⟨n2, s1, ?_, ?_, fun i hi => ?_⟩, ?_⟩
  · refine RX_ke h1 ⟨?_, fun j hj => ?_⟩ rfl rfl rfl rfl (hN0 2 (by decide)) (hN 7 (by omega) (by omega) (by omega) (by omega)) (hN 8 (by omega) (by omega) (by omega) (by omega)) (fun c hc => hN c (by omega) (by omega) (by omega) (by omega))
    · rw [hN 1 (by omega) (by omega) (by omega) (by omega)]; exact h1.1.1
    · obtain ⟨x1, x2, x3⟩ := h1.1.2 j hj
      rw [hN 2 (by omega) (by omega) (by omega) (by omega), hN 4 (by omega) (by omega) (by omega) (by omega)]
      refine ⟨x1, ?_, x3⟩
      rw [sI_off _ _ _ _ (by decide), sI_1]
      by_cases e : j = k
      · rw [if_pos ⟨rfl, e⟩, e]; show nI v = nI (nUp (zTe z) k v k); rw [nup_s]
      · rw [if_neg (by omega), o8 3 (by decide) (by omega), x2]; show nI _ = nI (nUp (zTe z) k v j); rw [nup_n _ _ e]
  · refine RY_ke h2 ⟨?_, fun j hj => ?_⟩ rfl rfl rfl rfl (hP0 11 (by decide) (by decide) (by decide)) (hP0 13 (by decide) (by decide) (by decide)) (fun c hc hc2 => hP c (by omega) (by omega) (by omega))
    · rw [hP0 3 (by decide) (by decide) (by decide)]; exact h2.1.1
    · obtain ⟨x1, x2, x3⟩ := h2.1.2 j hj
      rw [hP 1 (by omega) (by omega) (by omega), hP 3 (by omega) (by omega) (by omega)]
      refine ⟨x1, ?_, x3⟩
      rw [sI_1]
      by_cases e : j = k
      · rw [if_pos ⟨rfl, e⟩, e]; show nI v = nI (nUp (zTe z) k v k); rw [nup_s]
      · rw [if_neg (by omega), p10 2 (by decide) (by decide), sI_off _ _ _ _ (by decide), x2]; show nI _ = nI (nUp (zTe z) k v j); rw [nup_n _ _ e]
  · rw [sI_off _ _ _ _ (by decide), sI_off _ _ _ _ (by decide)]
  · intro d q1 q2 q3
    rw [sI_off _ _ _ _ (by omega), sI_off _ _ _ _ (by omega)]
  · show _ ∧ _ ∧ _ ∧ _
    rw [sI_off _ _ _ _ (by omega), sI_off _ _ _ _ (by omega), o5, o6, o7, (h1.1.2 k hkz).2.1]
    exact ⟨rfl, rfl, rfl, hkz⟩
  · rw [sI_off _ _ _ _ (by decide)]; exact p8
  · intro j hj
    rw [sI_off _ _ _ _ (by decide)]
  · show _ ∧ _ ∧ _ ∧ _
    rw [sI_off _ _ _ _ (by decide), p4, p5, p6, (h2.1.2 k hkz).2.1]
    exact ⟨rfl, rfl, rfl, hkz⟩
  · rw [hN0 4 (by decide)]; exact l2
  · rw [hP0 7 (by decide) (by decide) (by decide)]; exact l3
  · rw [hN 6 (by omega) (by omega) (by omega) (by omega), hP 4 (by omega) (by omega) (by omega)]; exact l4 i hi
  · rw [hN 252 (by omega) (by omega) (by omega) (by omega)]; exact s2
  · rw [hP0 18 (by decide) (by decide) (by decide)]; exact s3
  · rw [hN 253 (by omega) (by omega) (by omega) (by omega), hP 12 (by omega) (by omega) (by omega)]; exact s4 i hi
  · rw [st_X, sI_off _ _ _ _ (by decide), p7]
