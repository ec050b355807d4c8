theorem lay_l1 {M : Mem} {k : Nat} (hk : k < 16) (a2 : Int32) : ∃ N, f_X11_lay_l1 (nI k) a2 fuelN 0 M = some N ∧ (∀ c, c ≠ 11 → N.1 c = M.1 c) ∧ (∀ j, ¬ (121 * k ≤ j ∧ j < 121 * k + 121) → N.1 11 j = M.1 11 j) ∧ ∀ i, i < 121 → N.1 11 (121 * k + i) = if a2 = 3 then M.1 8 i else 0 := by
  refine cp_loop (fun n v N => f_X11_lay_l1 (nI k) a2 n v N) 121 (by decide) 11 (121 * k) (fun i => if a2 = 3 then M.1 8 i else 0) M (fun n N => ?_) (fun n i N hi h => ?_)
  · show f_X11_lay_l1 (nI k) a2 (n + 1) (nI 121) N = _
    rw [f_X11_lay_l1, if_pos (by decide)]
  · show f_X11_lay_l1 (nI k) a2 (n + 1) (nI i) N = _
    rw [f_X11_lay_l1, if_neg (show ¬ (121 : Int32) ≤ nI i from ifle_no hi (by decide)), m121, nI_add, if_pos (inB_nI hi (by decide)), nI_clamp (show i < 2 ^ 31 by omega), h 8 (by decide), nI_1]
    by_cases e : a2 = 3
    · rw [if_pos e, if_pos e, Option.bind_some, if_pos (inB_nI (show 121 * k + i < 1936 by omega) (by decide)), nI_clamp (show 121 * k + i < 2 ^ 31 by omega)]
    · rw [if_neg e, if_neg e, Option.bind_some, if_pos (inB_nI (show 121 * k + i < 1936 by omega) (by decide)), nI_clamp (show 121 * k + i < 2 ^ 31 by omega)]
theorem ThX_w {fm : Nat → Fm} {N : Mem} {t c : Nat} {th : Th} (h : ThX fm N t th) (v w : Int32) (h1 : t ≠ c) (h2 : t + 1 ≠ c) (h3 : t + 2 ≠ c) : ThX fm (sI (sI N c 0 v) c 1 w) t th :=
  ThX_ag h (by rw [sI_off _ _ _ _ h1, sI_off _ _ _ _ h1]) (by rw [sI_off _ _ _ _ h2, sI_off _ _ _ _ h2]) (by rw [sI_off _ _ _ _ h3, sI_off _ _ _ _ h3])
set_option maxRecDepth 10000 in
theorem lay_fin {M1 M2 : Mem} {z : Sg} {h : List Ac} (hC : Core M1 M2 z h) (hL : ListR M1 M2 (zKn z)) (hS : SheetR M1 M2) {k s : Nat} (hk : k < 16) (hs3 : s ≤ 3) (a3 : Int32) (p : Pl) (hp : s = 3 → zPl z = some p) :
    ∃ q1 q2, (Option.bind (f_X4_open (6 : Int32) (nI k) (0 : Int32) M1) (fun q14 => (fun (o16 : Option Nat) (M17 : Mem) => (oel o16 none (fun c18 => if kX c18 = 0 then (Option.bind (f_X9_become (c18 + 1) (312 + 3 * k) M17) (fun q20 => (Option.bind (if nI s = (3 : Int32) then (Option.bind (f_X6_become ((312 + 3 * k) + 1) 7 (sI (sI q20 (312 + 3 * k) 0 (nI s)) (312 + 3 * k) 1 a3)) (fun q28 => some q28)) else some (sI (sI q20 (312 + 3 * k) 0 (nI s)) (312 + 3 * k) 1 a3)) (fun q22 => (Option.bind (f_X10_accept (1 : Int32) q22) (fun q25 => some (q25.1, q25.2))))))) else none))) q14.1 q14.2)) = some q1 ∧
      (Option.bind (f_X11_caseActs (nI k) (sI M2 0 5 (0 : Int32))) (fun q10 => (if inB (nI k) 16 = true then (Option.bind (if nI s = (1 : Int32) then some a3 else (if nI s = (2 : Int32) then some a3 else some (0 : Int32))) (fun q13 => (if inB (nI k) 16 = true then (Option.bind (f_X11_lay_l1 (nI k) (nI s) fuelN (0 : Int32) (sI (sI q10 9 (nI k).toNatClampNeg (nI s)) 10 (nI k).toNatClampNeg q13)) (fun q17 => some ((1 : Int32), q17))) else none))) else none))) = some q2 ∧ q1.1 = q2.1 ∧ Rel q1.2 q2.2 := by
  obtain ⟨h1, h2, h3, h4, ⟨fr, f1, f2, f3, f4⟩, h6, h7⟩ := id hC
  have hI := h4.inv
  have hcz : (zPc z k).1 = 3 → zCnt (zFm z) (zPc z k).2.2.1 ≤ 120 := fun q => (hI.2.1.2 _ ((hI.2.2.2.1 k hk).2 q).1).2.2.1
  obtain ⟨t, N, o1, o2, o3, o4, o5, o6, o7, o8, o9⟩ := open_spec f2 f1 f3 h3 6 (nI k) 0
  have k9 : kX (312 + 3 * k) = 9 := kX_place hk
  have kt : kX (t + 1) = 9 := kX_s0 o2
  obtain ⟨A, a1, a2, a3'⟩ := thing_become (M := N) (t0 := t + 1) (t1 := 312 + 3 * k) (fm := zFm z) (t := zPc z k) kt k9 (by omega) (ThX_ag (h1.2.2.2 k hk) (o8 _ (by omega) (by omega)) (o8 _ (by omega) (by omega)) (o8 _ (by omega) (by omega))) (hI.2.2.2.1 k hk).1 hcz
  have aM : ∀ d, d ≠ 10 → ¬ (t ≤ d ∧ d ≤ t + 3) → A.1 d = M1.1 d := fun d q1 q2 => by rw [a3' d (by omega) (by omega) (by omega), o8 d q1 (by omega)]
  have hth : ThY (zFm z) (sI M2 0 5 0) k (zPc z k) := by
    have := h2.2.2.2 k hk
    unfold ThY PlY at *
    rw [sI_off _ _ _ _ (show 9 ≠ 0 by decide), sI_off _ _ _ _ (show 10 ≠ 0 by decide), sI_off _ _ _ _ (show 11 ≠ 0 by decide)]
    exact this
  obtain ⟨u, P, p1, p2, p3, p7, p8, p9, p10, p11⟩ := caseActs_spec (M := sI M2 0 5 0) (n := h.length) (by rw [show (sI M2 0 5 0).1 0 20 = M2.1 0 20 by simp [sI]]; exact h6) h3 hk hth hcz
  have hqY : ∃ v : Int32, (if nI s = (1 : Int32) then some a3 else (if nI s = (2 : Int32) then some a3 else some (0 : Int32))) = some v ∧ (s = 1 ∨ s = 2 → v = a3) := by
    by_cases e1 : s = 1
    · exact ⟨a3, by rw [e1, if_pos (show nI 1 = (1 : Int32) from rfl)], fun _ => rfl⟩
    · by_cases e2 : s = 2
      · exact ⟨a3, by rw [e2, if_neg (show ¬ nI 2 = (1 : Int32) by decide), if_pos (show nI 2 = (2 : Int32) from rfl)], fun _ => rfl⟩
      · exact ⟨0, by rw [if_neg (show ¬ nI s = (1 : Int32) from fun q => e1 ((nI_eq (a := s) (b := 1) (by omega) (by decide)).mp q)), if_neg (show ¬ nI s = (2 : Int32) from fun q => e2 ((nI_eq (a := s) (b := 2) (by omega) (by decide)).mp q))], fun q => by omega⟩
  obtain ⟨v, ev, hv⟩ := hqY
  obtain ⟨F, g1, g2, g3, g4⟩ := lay_l1 (M := sI (sI P 9 k (nI s)) 10 k v) hk (nI s)
  simp only [o1, oel, if_pos o2, a1, Option.bind_some, p1, if_pos (inB_nI hk (show 16 < 2 ^ 31 by decide)), nI_clamp (show k < 2 ^ 31 by omega), ev, g1, f_X10_accept]
  -- the class's memory behind
  have hE : ∃ E : Mem, (if nI s = (3 : Int32) then (Option.bind (f_X6_become (312 + 3 * k + 1) 7 (sI (sI A (312 + 3 * k) 0 (nI s)) (312 + 3 * k) 1 a3)) (fun q28 => some q28)) else some (sI (sI A (312 + 3 * k) 0 (nI s)) (312 + 3 * k) 1 a3)) = some E ∧ ThX (zFm z) E (312 + 3 * k) (s, a3, p) ∧ ∀ d, ¬ (312 + 3 * k ≤ d ∧ d ≤ 312 + 3 * k + 2) → E.1 d = A.1 d := by
    have w0 : (sI (sI A (312 + 3 * k) 0 (nI s)) (312 + 3 * k) 1 a3).1 (312 + 3 * k) 0 = nI s := by rw [sI_1, if_neg (by omega), sI_1, if_pos ⟨rfl, rfl⟩]
    have w1 : (sI (sI A (312 + 3 * k) 0 (nI s)) (312 + 3 * k) 1 a3).1 (312 + 3 * k) 1 = a3 := by rw [sI_1, if_pos ⟨rfl, rfl⟩]
    have wo : ∀ d, d ≠ 312 + 3 * k → (sI (sI A (312 + 3 * k) 0 (nI s)) (312 + 3 * k) 1 a3).1 d = A.1 d := fun d q => by rw [sI_off _ _ _ _ q, sI_off _ _ _ _ q]
    by_cases e : s = 3
    · have hz := hp e
      have x7 := h1.2.2.1
      rw [hz] at x7
      have x7 : PoX (zFm z) (sI (sI A (312 + 3 * k) 0 (nI s)) (312 + 3 * k) 1 a3) 7 (some p) := PoX_ag x7 (by rw [wo 7 (by omega), aM 7 (by omega) (by omega)]) (by rw [wo 8 (by omega), aM 8 (by omega) (by omega)])
      obtain ⟨E, e1, e2, e3⟩ := become_po (t0 := 312 + 3 * k + 1) (t1 := 7) (kX_s9 k9) rfl (by omega) x7 (fun q hq => by cases hq; exact zcnt_le hI hz)
      rw [if_pos (show nI s = (3 : Int32) by rw [e]; rfl), e1, Option.bind_some]
      refine ⟨E, rfl, ⟨?_, fun _ => ?_, fun _ => e2⟩, fun d hd => ?_⟩
      · rw [e3 _ (by omega) (by omega)]; exact w0
      · rw [e3 _ (by omega) (by omega)]; exact w1
      · rw [e3 d (by omega) (by omega), wo d (by omega)]
    · rw [if_neg (show ¬ nI s = (3 : Int32) from fun q => e ((nI_eq (a := s) (b := 3) (by omega) (by decide)).mp q))]
      exact ⟨_, rfl, ⟨w0, fun _ => w1, fun q => absurd q e⟩, fun d hd => wo d (by omega)⟩
  obtain ⟨E, e1, e2, e3⟩ := hE
  rw [e1]
  simp only [Option.bind_some]
  refine ⟨_, _, rfl, rfl, rfl, ?_⟩
  have F13 : F.1 13 = P.1 13 := by rw [g2 13 (by decide), sI_off _ _ _ _ (by decide), sI_off _ _ _ _ (by decide)]
  have F0 : F.1 0 = P.1 0 := by rw [g2 0 (by decide), sI_off _ _ _ _ (by decide), sI_off _ _ _ _ (by decide)]
  refine pc_push (k := k) (th := (s, a3, p)) (t := t) (u := u) hC hL hS hk ⟨hs3, fun q => (hI.2.2.1 p (hp q)).1⟩ ⟨o3, o4⟩ p2 ?_ ?_ ?_ ?_ ?_ ?_ ?_ ?_ ?_ ?_ ?_ ?_ ?_ ?_ ?_ ?_ ?_ ?_
  · rw [sI_1, if_neg (by decide), e3 0 (by omega), aM 0 (by omega) (by omega)]
  · rw [sI_1, if_neg (by decide), e3 0 (by omega), aM 0 (by omega) (by omega)]
  · intro d q1 q2 q3 q4
    rw [sI_off _ _ _ _ q1, e3 d q4, aM d q2 q3]
  · exact ThX_ag e2 (sI_off _ _ _ _ (by omega)) (sI_off _ _ _ _ (by omega)) (sI_off _ _ _ _ (by omega))
  · rw [sI_off _ _ _ _ (by omega), e3 t (by omega), a3' t (by omega) (by omega) (by omega)]; exact o5
  · rw [sI_off _ _ _ _ (by omega), e3 t (by omega), a3' t (by omega) (by omega) (by omega)]; exact o6
  · exact ThX_ag a2 (by rw [sI_off _ _ _ _ (by omega), e3 _ (by omega)]) (by rw [sI_off _ _ _ _ (by omega), e3 _ (by omega)]) (by rw [sI_off _ _ _ _ (by omega), e3 _ (by omega)])
  · intro e z' hun hA
    refine o9 _ ?_ ?_ h z z' e rfl f4 hun hA
    · rw [sI_off _ _ _ _ (by decide), e3 10 (by omega), a3' 10 (by omega) (by omega) (by omega)]
    · intro d q1 q2 q3
      rw [sI_off _ _ _ _ (by omega), e3 d (by omega), a3' d (by omega) (by omega) (by omega)]
  · intro i q1 q2 q3
    rw [F0, p9 i q1 q3, sI_1, if_neg (by omega)]
  · intro d q0 q1 q2 q3 q4
    rw [g2 d q4, sI_off _ _ _ _ q3, sI_off _ _ _ _ q2, p10 d q1 (by omega), sI_off _ _ _ _ q1]
  · intro j hj
    rw [g2 9 (by decide), sI_off _ _ _ _ (by decide), sI_1, if_neg (by omega), p10 9 (by decide) (by decide), sI_off _ _ _ _ (by decide)]
  · intro j hj
    rw [g2 10 (by decide), sI_1, if_neg (by omega), sI_off _ _ _ _ (by decide), p10 10 (by decide) (by decide), sI_off _ _ _ _ (by decide)]
  · intro j hj
    rw [g3 j hj, sI_off _ _ _ _ (by decide), sI_off _ _ _ _ (by decide), p10 11 (by decide) (by decide), sI_off _ _ _ _ (by decide)]
  · refine ⟨?_, fun q => ?_, fun q => ?_⟩
    · rw [g2 9 (by decide), sI_off _ _ _ _ (by decide), sI_1, if_pos ⟨rfl, rfl⟩]
    · rw [g2 10 (by decide), sI_1, if_pos ⟨rfl, rfl⟩]; exact hv q
    · have q : s = 3 := q
      have y7 := h2.2.2.1
      rw [hp q] at y7
      have hcp := zcnt_le hI (hp q)
      have e8 : (sI (sI P 9 k (nI s)) 10 k v).1 8 = M2.1 8 := by rw [sI_off _ _ _ _ (by decide), sI_off _ _ _ _ (by decide), p10 8 (by decide) (by decide), sI_off _ _ _ _ (by decide)]
      have es : nI s = (3 : Int32) := by rw [q]; rfl
      refine ⟨?_, fun i hi => ?_⟩
      · have := g4 0 (by decide)
        rw [Nat.add_zero, if_pos es, e8] at this
        rw [this]; exact y7.2.1
      · have hi : i < zCnt (zFm z) p.1 := hi
        have := g4 (1 + i) (by omega)
        rw [← Nat.add_assoc, if_pos es, e8] at this
        rw [this]
        have := y7.2.2 i hi
        rwa [Nat.zero_add] at this
  · rw [F0]; exact p8
  · exact SpY_ag p3 F13
  · intro e z' hun hA
    exact p11 F (fun j hj => by rw [F13]) h z z' e rfl h4 (HY_ag (by rw [sI_off _ _ _ _ (by decide)]) h7) hun hA
  · rw [st_X, F0, p7]
set_option maxRecDepth 10000 in
theorem step_lay : St_lay Rel := by
  intro a b c M1 M2 H
  have Hn1 := Rel_no H 1
  have Hn2 := Rel_no H 2
  obtain ⟨z, h, hC, hL, hS, hs⟩ := id H
  obtain ⟨h1, h2, h3, h4, -⟩ := id hC
  have hf := h4.inv.2.1
  have e3 : (sI M2 0 5 0).1 0 3 = nI (zKn z) := by rw [show (sI M2 0 5 0).1 0 3 = M2.1 0 3 by simp [sI]]; exact h2.1.1
  unfold f_X10_lay f_X11_lay
  rcases pk_ix a (n := 16) (by decide) with ha | ha | ⟨k, hk, rfl⟩
  · rw [placeAt_no (Or.inl ha), isPlace_no (Or.inl ha)]; exact ⟨_, _, rfl, rfl, rfl, Hn1⟩
  · rw [placeAt_no (Or.inr ha), isPlace_no (Or.inr ha)]; exact ⟨_, _, rfl, rfl, rfl, Hn1⟩
  rw [placeAt_yes hk, isPlace_yes hk]
  simp only [Option.bind_some, oel, if_neg one_ne, if_pos (kX_place hk)]
  rcases in_cases b 3 (by decide) with ⟨e1, hb⟩ | ⟨e1, s, hs3, rfl⟩
  · rw [show f_X11_in b 0 3 = some 0 from e1]
    by_cases hb0 : b < 0
    · rw [if_pos hb0]; exact ⟨_, _, rfl, rfl, rfl, Hn2⟩
    · rw [if_neg hb0, if_neg (show ¬ b ≤ (3 : Int32) from fun q => by
        rcases hb with hb | hb
        · exact hb0 hb
        · have q : b ≤ nI 3 := q
          rw [Int32.lt_iff_toInt_lt] at hb
          rw [Int32.le_iff_toInt_le] at q
          omega)]
      exact ⟨_, _, rfl, rfl, rfl, Hn2⟩
  rw [show f_X11_in (nI s) 0 3 = some 1 from e1, if_neg (nI_pos (show s < 2 ^ 31 by omega)), if_pos (show nI s ≤ (3 : Int32) from nI_le (b := 3) hs3 (by decide))]
  simp only [Option.bind_some, if_neg one_ne]
  have hs4 : s = 0 ∨ s = 1 ∨ s = 2 ∨ s = 3 := by omega
  rcases hs4 with rfl | rfl | rfl | rfl
  · rw [if_neg (show ¬ nI 0 = (1 : Int32) by decide), if_neg (show ¬ nI 0 = (3 : Int32) by decide), if_neg (show ¬ nI 0 = (2 : Int32) by decide), if_neg (show ¬ nI 0 = (1 : Int32) by decide), if_neg (show ¬ nI 0 = (3 : Int32) by decide), if_neg (show ¬ nI 0 = (2 : Int32) by decide)]
    exact lay_fin hC hL hS hk (s := 0) (by decide) c (0, fun _ => 0) (fun q => by omega)
  · rw [if_pos (show nI 1 = (1 : Int32) by decide), if_pos (show nI 1 = (1 : Int32) by decide)]
    rcases pk_ix c (n := zFn z) (by omega) with hc | hc | ⟨g, hgz, rfl⟩
    · rw [famAt_no h1.2.1.1 (Or.inl hc), isFam_no (by rw [fn5]; exact h2.2.1.1) hf.1 (Or.inl hc)]; exact ⟨_, _, rfl, rfl, rfl, Hn1⟩
    · rw [famAt_no h1.2.1.1 (Or.inr hc), isFam_no (by rw [fn5]; exact h2.2.1.1) hf.1 (Or.inr hc)]; exact ⟨_, _, rfl, rfl, rfl, Hn1⟩
    · rw [famAt_yes h1.2.1.1 hf.1 hgz, isFam_yes (by rw [fn5]; exact h2.2.1.1) hf.1 hgz]
      simp only [Option.bind_some, if_neg one_ne, if_pos (kX_fam (show g < 24 by omega)), if_neg (show ¬ nI 1 = (3 : Int32) by decide), if_neg (show ¬ nI 1 = (2 : Int32) by decide)]
      have := lay_fin hC hL hS hk (s := 1) (by decide) (nI g) (0, fun _ => 0) (fun q => by omega)
      simp only [oel, if_neg (show ¬ nI 1 = (3 : Int32) by decide), if_neg (show ¬ nI 1 = (2 : Int32) by decide), Option.bind_some] at this
      exact this
  · rw [if_neg (show ¬ nI 2 = (1 : Int32) by decide), if_neg (show ¬ nI 2 = (3 : Int32) by decide), if_pos (show nI 2 = (2 : Int32) by decide), if_neg (show ¬ nI 2 = (1 : Int32) by decide), if_neg (show ¬ nI 2 = (3 : Int32) by decide), if_pos (show nI 2 = (2 : Int32) by decide)]
    rcases set_cases c h4.inv.1.1 h1.1.1 e3 with ⟨e1, e2⟩ | ⟨e1, e2, t, -, -, -⟩
    · rw [e1, e2]; exact ⟨_, _, rfl, rfl, rfl, Hn2⟩
    · rw [e1, e2]
      simp only [Option.bind_some, if_neg one_ne]
      have := lay_fin hC hL hS hk (s := 2) (by decide) c (0, fun _ => 0) (fun q => by omega)
      simp only [oel] at this
      exact this
  · rw [if_neg (show ¬ nI 3 = (1 : Int32) by decide), if_pos (show nI 3 = (3 : Int32) by decide), if_neg (show ¬ nI 3 = (1 : Int32) by decide), if_pos (show nI 3 = (3 : Int32) by decide)]
    have x7 := h1.2.2.1
    have y7 := h2.2.2.1
    cases hz : zPl z with
    | none =>
      rw [hz] at x7 y7
      have c0 : f_X6_isThere 7 M1 = some 0 := by
        unfold f_X6_isThere
        rw [if_pos (show kX 7 = 6 from rfl), x7.1, if_pos rfl]
      rw [c0, if_pos (show M2.1 0 13 = 0 from y7)]
      exact ⟨_, _, rfl, rfl, rfl, Hn1⟩
    | some p =>
      rw [hz] at x7 y7
      have x7 : PlX (zFm z) M1 7 p := x7
      have hok := (h4.inv.2.2.1 p hz).1.1
      have c1 : f_X6_isThere 7 M1 = some 1 := by
        unfold f_X6_isThere
        rw [if_pos (show kX 7 = 6 from rfl), x7.1, if_neg]
        intro q
        have := congrArg Int32.toInt q
        rw [nI_toInt (by omega)] at this
        rw [show (-1 : Int32).toInt = -1 from rfl] at this
        omega
      rw [c1, y7.1, if_neg one_ne, if_neg (show ¬ nI 3 = (2 : Int32) by decide)]
      simp only [Option.bind_some, if_neg one_ne, if_neg (show ¬ nI 3 = (2 : Int32) by decide)]
      have := lay_fin hC hL hS hk (s := 3) (by decide) c p (fun _ => hz)
      simp only [oel, if_neg (show ¬ nI 3 = (1 : Int32) by decide), if_neg (show ¬ nI 3 = (2 : Int32) by decide), Option.bind_some] at this
      exact this
