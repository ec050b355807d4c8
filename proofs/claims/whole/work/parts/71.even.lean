theorem RX_pl {M N : Mem} {z : Sg} {o : Option Pl} (h : RX M z) (e0 : N.1 0 2 = M.1 0 2) (e1 : ∀ c, 1 ≤ c → c ≤ 4 → N.1 c = M.1 c) (e : ∀ c, 264 ≤ c → N.1 c = M.1 c) (hpo : PoX (zFm z) N 7 o) : RX N (zKn z, zSt z, zTe z, zWe z, zFn z, zFm z, o, zPc z) := by
  refine ⟨?_, FaX_ag h.2.1 rfl rfl e0 e, hpo, PcX_ag h.2.2.2 rfl rfl e⟩
  have h1 := h.1
  unfold KeX at *
  rw [e1 1 (by omega) (by omega), e1 2 (by omega) (by omega), e1 3 (by omega) (by omega), e1 4 (by omega) (by omega)]
  exact h1
theorem RY_pl {M N : Mem} {z : Sg} {o : Option Pl} (h : RY M z) (e0 : N.1 0 11 = M.1 0 11) (e3 : N.1 0 3 = M.1 0 3) (e : ∀ c, (1 ≤ c ∧ c ≤ 3) ∨ (5 ≤ c ∧ c ≤ 7) ∨ (9 ≤ c ∧ c ≤ 11) → N.1 c = M.1 c) (hpo : PoY (zFm z) N o) : RY N (zKn z, zSt z, zTe z, zWe z, zFn z, zFm z, o, zPc z) := by
  refine ⟨?_, FaY_ag h.2.1 rfl rfl e0 (e 5 (by omega)) (e 6 (by omega)) (e 7 (by omega)), hpo, PcY_ag h.2.2.2 rfl rfl (e 9 (by omega)) (e 10 (by omega)) (e 11 (by omega))⟩
  have h1 := h.1
  unfold KeY at *
  rw [e3, e 1 (by omega), e 2 (by omega), e 3 (by omega)]
  exact h1
theorem beEven_spec {M : Mem} {c : Nat} (a : Int32) (hc : c ≤ 120) : ∃ N, f_X6_beEven 7 a (nI c) M = some N ∧ N.1 7 0 = a ∧ N.1 7 1 = nI c ∧ (∀ i, i < c → N.1 8 i = 1) ∧ ∀ d, d ≠ 7 → d ≠ 8 → N.1 d = M.1 d := by
  have hmin : imin (nI c) 120 = nI c := by
    unfold imin
    rw [if_neg (show ¬ (120 : Int32) < nI c from nI_nlt (a := 120) hc (by decide))]
  have HH := loop_go (F := fun n v N => f_X6_beEven_l1 7 n v N) c (by omega) (fun i N => N.1 7 0 = a ∧ N.1 7 1 = nI c ∧ (∀ j, j < i → N.1 8 j = 1) ∧ ∀ d, d ≠ 7 → d ≠ 8 → N.1 d = M.1 d)
    (fun N => N.1 7 0 = a ∧ N.1 7 1 = nI c ∧ (∀ i, i < c → N.1 8 i = 1) ∧ ∀ d, d ≠ 7 → d ≠ 8 → N.1 d = M.1 d) ?_ ?_ 0 (sI (sI M 7 0 a) 7 1 (nI c)) (by omega) ⟨by simp [sI], by simp [sI], fun j hj => by omega, fun d h1 h2 => by rw [sI_off _ _ _ _ h1, sI_off _ _ _ _ h1]⟩
  · obtain ⟨N, e, h⟩ := HH
    have e : f_X6_beEven_l1 7 fuelN 0 (sI (sI M 7 0 a) 7 1 (nI c)) = some N := e
    refine ⟨N, ?_, h⟩
    unfold f_X6_beEven
    rw [if_pos (show kX 7 = 6 from rfl), hmin, e]
    rfl
  · intro n N h
    refine ⟨N, ?_, h⟩
    show f_X6_beEven_l1 7 (n + 1) (nI c) N = _
    rw [f_X6_beEven_l1, h.2.1, if_pos (Int32.le_refl _)]
  · intro n i N hi h
    left
    refine ⟨sI N 8 i 1, ⟨?_, ?_, fun j hj => ?_, fun d h1 h2 => ?_⟩, ?_⟩
    · rw [sI_off _ _ _ _ (by decide)]; exact h.1
    · rw [sI_off _ _ _ _ (by decide)]; exact h.2.1
    · rw [sI_1]
      by_cases e : j = i
      · rw [if_pos ⟨rfl, e⟩]
      · rw [if_neg (fun q => e q.2)]; exact h.2.2.1 j (by omega)
    · rw [sI_off _ _ _ _ h2]; exact h.2.2.2 d h1 h2
    · show f_X6_beEven_l1 7 (n + 1) (nI i) N = _
      rw [f_X6_beEven_l1, h.2.1, if_neg (ifle_no hi (by omega)), if_pos (inB_nI (show i < 120 by omega) (by decide)), nI_clamp (show i < 2 ^ 31 by omega), nI_1]
theorem evenY_spec {M : Mem} {f c : Nat} (hf : f < 24) (hc : c ≤ 120) (h6 : M.1 6 f = nI c) : ∃ N, f_X11_even_l1 (nI f) fuelN 0 M = some N ∧ (∀ d, d ≠ 8 → N.1 d = M.1 d) ∧ N.1 8 0 = M.1 8 0 ∧ ∀ i, i < c → N.1 8 (1 + i) = 1 := by
  have HH := loop_go (F := fun n v N => f_X11_even_l1 (nI f) n v N) 120 (by decide) (fun i N => (∀ d, d ≠ 8 → N.1 d = M.1 d) ∧ N.1 8 0 = M.1 8 0 ∧ ∀ j, j < i → j < c → N.1 8 (1 + j) = 1)
    (fun N => (∀ d, d ≠ 8 → N.1 d = M.1 d) ∧ N.1 8 0 = M.1 8 0 ∧ ∀ i, i < c → N.1 8 (1 + i) = 1) ?_ ?_ 0 M (by omega) ⟨fun _ _ => rfl, rfl, fun j hj => by omega⟩
  · exact HH
  · intro n N h
    refine ⟨N, ?_, h.1, h.2.1, fun i hi => h.2.2 i (by omega) hi⟩
    show f_X11_even_l1 (nI f) (n + 1) (nI 120) N = _
    rw [f_X11_even_l1, if_pos (by decide)]
  · intro n i N hi h
    left
    have hv : ∃ v : Int32, (if nI c ≤ nI i then some (0 : Int32) else some (1 : Int32)) = some v ∧ (i < c → v = 1) := by
      by_cases e : i < c
      · exact ⟨1, by rw [if_neg (ifle_no e (by omega))], fun _ => rfl⟩
      · exact ⟨0, by rw [if_pos (nI_le (by omega) (by omega))], fun q => absurd q e⟩
    obtain ⟨v, e1, e2⟩ := hv
    refine ⟨sI N 8 (1 + i) v, ⟨fun d hd => ?_, ?_, fun j hj hjc => ?_⟩, ?_⟩
    · rw [sI_off _ _ _ _ hd]; exact h.1 d hd
    · rw [sI_1, if_neg (by omega)]; exact h.2.1
    · rw [sI_1]
      by_cases e : j = i
      · rw [if_pos ⟨rfl, by rw [e]⟩]; exact e2 (by omega)
      · rw [if_neg (by omega)]; exact h.2.2 j (by omega) hjc
    · show f_X11_even_l1 (nI f) (n + 1) (nI i) N = _
      rw [f_X11_even_l1, if_neg (show ¬ (120 : Int32) ≤ nI i from ifle_no hi (by decide)), if_pos (inB_nI hf (by decide)), nI_clamp (show f < 2 ^ 31 by omega), h.1 6 (by decide), h6, e1, Option.bind_some, show (1 : Int32) + nI i = nI (1 + i) from nI_add 1 i, if_pos (inB_nI (by omega) (by decide)), nI_clamp (by omega), nI_1]
theorem zcnt_le {z : Sg} (hI : Inv z) {p : Pl} (h : zPl z = some p) : zCnt (zFm z) p.1 ≤ 120 := (hI.2.1.2 p.1 (hI.2.2.1 p h).1.1).2.2.1
/-- a change of the plan, as an act: all that is the same for even and use -/
theorem plan_push {M1 M2 N1 N2 : Mem} {z : Sg} {h : List Ac} {o : Option Pl} {t u : Nat} (H : Core M1 M2 z h) (hL : ListR M1 M2 (zKn z)) (hS : SheetR M1 M2)
    (hz : Inv (zKn z, zSt z, zTe z, zWe z, zFn z, zFm z, o, zPc z)) (ht : 12 ≤ t ∧ t + 3 < 252) (hu : u = 126 * min h.length 59)
    (x0 : N1.1 0 2 = M1.1 0 2) (x4 : N1.1 0 4 = M1.1 0 4) (xo : ∀ d, d ≠ 0 → d ≠ 7 → d ≠ 8 → d ≠ 10 → ¬ (t ≤ d ∧ d ≤ t + 3) → N1.1 d = M1.1 d) (xp : PoX (zFm z) N1 7 o) (xt : N1.1 t 0 = 5) (xs : PoX (zFm z) N1 (t + 2) (zPl z))
    (xh : ∀ (e : Ac) (z' : Sg), undoA e z' = z → AcX N1 t e z' → ∃ fr', fr' < 60 ∧ N1.1 10 1 = nI fr' ∧ N1.1 10 2 = nI (e :: hp h).length ∧ HX N1 fr' (e :: hp h) z')
    (y3 : ∀ i, i ≠ 4 → i ≠ 5 → i ≠ 13 → i ≠ 20 → N2.1 0 i = M2.1 0 i) (yo : ∀ d, d ≠ 0 → d ≠ 8 → d ≠ 13 → N2.1 d = M2.1 d) (yp : PoY (zFm z) N2 o) (y20 : N2.1 0 20 = nI (min h.length 59 + 1)) (yt : N2.1 13 u = 4) (ys : SvY (zFm z) N2 u (zPl z))
    (yh : ∀ (e : Ac) (z' : Sg), undoA e z' = z → AcY N2 u e z' → HY N2 (e :: hp h) z') (hst : N1.1 0 11 = N2.1 0 4) : Rel N1 N2 := by
  obtain ⟨h1, h2, h3, h4, -⟩ := H
  have hun : undoA (4, 0, 0, zPl z, th0) (zKn z, zSt z, zTe z, zWe z, zFn z, zFm z, o, zPc z) = z := rfl
  refine ⟨_, _, Core_push h4 h3 hun hz (RX_pl h1 x0 (fun c hc hc2 => xo c (by omega) (by omega) (by omega) (by omega) (by omega)) (fun c hc => xo c (by omega) (by omega) (by omega) (by omega) (by omega)) xp) (RY_pl h2 (y3 11 (by decide) (by decide) (by decide) (by decide)) (y3 3 (by decide) (by decide) (by decide) (by decide)) (fun c hc => yo c (by omega) (by omega) (by omega)) yp) (xh _ _ hun (Or.inl ⟨xt, xs⟩)) y20 (yh _ _ hun ⟨yt, ys⟩), ListR_ag hL x4 (xo 6 (by omega) (by omega) (by omega) (by omega) (by omega)) (y3 7 (by decide) (by decide) (by decide) (by decide)) (yo 4 (by omega) (by omega) (by omega)), SheetR_ag hS (by rw [xo 252 (by omega) (by omega) (by omega) (by omega) (by omega)]) (xo 253 (by omega) (by omega) (by omega) (by omega) (by omega)) (y3 18 (by decide) (by decide) (by decide) (by decide)) (yo 12 (by omega) (by omega) (by omega)), hst⟩
set_option maxRecDepth 10000 in
theorem step_even : St_even Rel := by
  intro a M1 M2 H
  have Hn := Rel_no H 1
  obtain ⟨z, h, hC, hL, hS, hs⟩ := id H
  obtain ⟨h1, h2, h3, h4, ⟨fr, f1, f2, f3, f4⟩, h6, h7⟩ := id hC
  have hf := h4.inv.2.1
  unfold f_X10_even f_X11_even
  rcases pk_ix a (n := zFn z) (by omega) with ha | ha | ⟨f, hfz, rfl⟩
  · rw [famAt_no h1.2.1.1 (Or.inl ha), isFam_no (by rw [fn5]; exact h2.2.1.1) hf.1 (Or.inl ha)]; exact ⟨_, _, rfl, rfl, rfl, Hn⟩
  · rw [famAt_no h1.2.1.1 (Or.inr ha), isFam_no (by rw [fn5]; exact h2.2.1.1) hf.1 (Or.inr ha)]; exact ⟨_, _, rfl, rfl, rfl, Hn⟩
  rw [famAt_yes h1.2.1.1 hf.1 hfz, isFam_yes (by rw [fn5]; exact h2.2.1.1) hf.1 hfz]
  obtain ⟨-, hc1, hc2, -⟩ := hf.2 f hfz
  have hf24 : f < 24 := by omega
  obtain ⟨t, N, o1, o2, o3, o4, o5, o6, o7, o8, o9⟩ := open_spec f2 f1 f3 h3 5 0 0
  have kt : kX (t + 1 + 1) = 6 := kX_s9 (kX_s0 o2)
  obtain ⟨A, a1, a2, a3⟩ := become_po (M := N) (t0 := t + 1 + 1) (t1 := 7) (fm := zFm z) (o := zPl z) kt rfl (by omega) (PoX_ag h1.2.2.1 (o8 7 (by omega) (by omega)) (o8 8 (by omega) (by omega))) (fun p hp => zcnt_le h4.inv hp)
  have aM : ∀ d, d ≠ 10 → ¬ (t ≤ d ∧ d ≤ t + 3) → A.1 d = M1.1 d := fun d q1 q2 => by rw [a3 d (by omega) (by omega), o8 d q1 (by omega)]
  obtain ⟨E, e1, e2, e3, e4, e5⟩ := beEven_spec (M := A) (nI f) hc2
  have p5 : PoY (zFm z) (sI M2 0 5 0) (zPl z) := PoY_ag h2.2.2.1 (by simp [sI]) (by rw [sI_off _ _ _ _ (by decide)])
  obtain ⟨u, P, p1, p2, p3, p4, p7, p8, p9, p10, p11⟩ := planActs_spec (M := sI M2 0 5 0) (n := h.length) (fm := zFm z) (o := zPl z) (by rw [show (sI M2 0 5 0).1 0 20 = M2.1 0 20 by simp [sI]]; exact h6) h3 p5 (fun p hp => zcnt_le h4.inv hp)
  obtain ⟨F, g1, g2, g3, g4⟩ := evenY_spec (M := sI (sI P 0 13 1) 8 0 (nI f)) hf24 hc2 (by rw [sI_off _ _ _ _ (by decide), sI_off _ _ _ _ (by decide), p10 6 (by decide) (by decide), sI_off _ _ _ _ (by decide)]; exact (h2.2.1.2 f hfz).2.1)
  have ac : A.1 (264 + 2 * f) 1 = nI (zCnt (zFm z) f) := by rw [aM _ (by omega) (by omega)]; exact (h1.2.1.2 f hfz).2.1
  simp only [Option.bind_some, oel, if_pos (kX_fam hf24), if_neg one_ne, o1, if_pos o2, a1, ac, e1, f_X10_acceptTrue, or_true, if_true, p1, g1]
  refine ⟨_, _, rfl, rfl, rfl, ?_⟩
  have eM : ∀ d, d ≠ 7 → d ≠ 8 → d ≠ 10 → ¬ (t ≤ d ∧ d ≤ t + 3) → E.1 d = M1.1 d := fun d q1 q2 q3 q4 => by rw [e5 d q1 q2, aM d q3 q4]
  have F13 : F.1 13 = P.1 13 := by rw [g2 13 (by decide), sI_off _ _ _ _ (by decide), sI_off _ _ _ _ (by decide)]
  have F0 : ∀ i, i ≠ 13 → F.1 0 i = P.1 0 i := fun i q => by rw [g2 0 (by decide), sI_off _ _ _ _ (by decide), sI_1, if_neg (by omega)]
  refine plan_push (o := some (f, fun _ => 1)) (t := t) (u := u) hC hL hS ?_ ⟨o3, o4⟩ p2 ?_ ?_ ?_ ?_ ?_ ?_ ?_ ?_ ?_ ?_ ?_ ?_ ?_ ?_ ?_
  · refine ⟨h4.inv.1, h4.inv.2.1, fun p hp => ?_, h4.inv.2.2.2⟩
    have hp : p = (f, fun _ => 1) := (Option.some.inj hp).symm
    subst hp
    exact ⟨⟨hfz, fun i hi => by show 1 ≤ 1000; omega⟩, 0, hc1, Nat.one_ne_zero⟩
  · rw [sI_1, if_neg (by decide), eM 0 (by omega) (by omega) (by omega) (by omega)]
  · rw [sI_1, if_neg (by decide), eM 0 (by omega) (by omega) (by omega) (by omega)]
  · intro d q1 q2 q3 q4 q5
    rw [sI_off _ _ _ _ q1]; exact eM d q2 q3 q4 q5
  · refine ⟨?_, ?_, fun i hi => ?_⟩
    · rw [sI_off _ _ _ _ (by decide)]; exact e2
    · rw [sI_off _ _ _ _ (by decide)]; exact e3
    · rw [sI_off _ _ _ _ (by decide), e4 i hi]; rfl
  · rw [sI_off _ _ _ _ (by omega), e5 t (by omega) (by omega), a3 t (by omega) (by omega)]; exact o5
  · exact PoX_ag a2 (by rw [sI_off _ _ _ _ (by omega), e5 _ (by omega) (by omega)]) (by rw [sI_off _ _ _ _ (by omega), e5 _ (by omega) (by omega)])
  · intro e z' hun hA
    refine o9 _ ?_ ?_ h z z' e rfl f4 hun hA
    · rw [sI_off _ _ _ _ (by decide), e5 10 (by decide) (by decide), a3 10 (by omega) (by omega)]
    · intro d q1 q2 q3
      rw [sI_off _ _ _ _ (by omega), e5 d (by omega) (by omega), a3 d (by omega) (by omega)]
  · intro i q1 q2 q3 q4
    rw [F0 i q3, p9 i q1 q4, sI_1, if_neg (by omega)]
  · intro d q1 q2 q3
    rw [g2 d q2, sI_off _ _ _ _ q2, sI_off _ _ _ _ q1, p10 d q1 q3, sI_off _ _ _ _ q1]
  · refine ⟨?_, ?_, fun i hi => ?_⟩
    · rw [g2 0 (by decide), sI_off _ _ _ _ (by decide), sI_1, if_pos ⟨rfl, rfl⟩]
    · rw [g3, sI_1, if_pos ⟨rfl, rfl⟩]
    · rw [Nat.zero_add, g4 i hi]; rfl
  · rw [F0 20 (by decide)]; exact p8
  · rw [F13]; exact p3
  · exact SvY_ag p4 F13
  · intro e z' hun hA
    exact p11 F (fun j hj => by rw [F13]) h z z' e rfl h4 (HY_ag (by rw [sI_off _ _ _ _ (by decide)]) h7) hun hA
  · rw [st_X, F0 4 (by decide), p7]
