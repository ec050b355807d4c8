theorem undo_l1 {M : Mem} {o : Nat} (ho : o + 126 ≤ 7560) : ∃ N, f_X11_undo_l1 (nI o) fuelN 0 M = some N ∧ (∀ c, c ≠ 8 → N.1 c = M.1 c) ∧ (∀ j, ¬ (0 ≤ j ∧ j < 0 + 121) → N.1 8 j = M.1 8 j) ∧ ∀ i, i < 121 → N.1 8 (0 + i) = M.1 13 (o + 3 + i) := by
  refine cp_loop (fun n v N => f_X11_undo_l1 (nI o) n v N) 121 (by decide) 8 0 (fun i => M.1 13 (o + 3 + i)) M (fun n N => ?_) (fun n i N hi h => ?_)
  · show f_X11_undo_l1 (nI o) (n + 1) (nI 121) N = _
    rw [f_X11_undo_l1, if_pos (by decide)]
  · show f_X11_undo_l1 (nI o) (n + 1) (nI i) N = _
    rw [f_X11_undo_l1, if_neg (show ¬ (121 : Int32) ≤ nI i from ifle_no hi (by decide)), show (3 : Int32) = nI 3 from rfl, nI_add, nI_add, if_pos (inB_nI (by omega) (by decide)), if_pos (inB_nI hi (by decide)), nI_clamp (by omega), nI_clamp (by omega), h 13 (by decide), nI_1, Nat.zero_add]
theorem undo_l2 {M : Mem} {o k : Nat} (ho : o + 126 ≤ 7560) (hk : k < 16) : ∃ N, f_X11_undo_l2 (nI o) (nI k) fuelN 0 M = some N ∧ (∀ c, c ≠ 11 → N.1 c = M.1 c) ∧ (∀ j, ¬ (121 * k ≤ j ∧ j < 121 * k + 121) → N.1 11 j = M.1 11 j) ∧ ∀ i, i < 121 → N.1 11 (121 * k + i) = M.1 13 (o + 4 + i) := by
  refine cp_loop (fun n v N => f_X11_undo_l2 (nI o) (nI k) n v N) 121 (by decide) 11 (121 * k) (fun i => M.1 13 (o + 4 + i)) M (fun n N => ?_) (fun n i N hi h => ?_)
  · show f_X11_undo_l2 (nI o) (nI k) (n + 1) (nI 121) N = _
    rw [f_X11_undo_l2, if_pos (by decide)]
  · show f_X11_undo_l2 (nI o) (nI k) (n + 1) (nI i) N = _
    rw [f_X11_undo_l2, if_neg (show ¬ (121 : Int32) ≤ nI i from ifle_no hi (by decide)), show (4 : Int32) = nI 4 from rfl, nI_add, nI_add, m121, nI_add, if_pos (inB_nI (by omega) (by decide)), if_pos (inB_nI (by omega) (by decide)), nI_clamp (by omega), nI_clamp (by omega), h 13 (by decide), nI_1]
theorem Rel_back {M1 M2 N1 N2 : Mem} {z0 : Sg} {r : List Ac} {fr : Nat} (hr : r.length ≤ 60) (hI : InvH r z0) (f1 : fr < 60) (f2 : M1.1 10 1 = nI fr) (hx : HX M1 fr r z0) (hy : HY M2 r z0)
    (r1 : RX N1 z0) (r2 : RY N2 z0) (x1 : N1.1 10 1 = M1.1 10 1) (x2 : N1.1 10 2 = nI r.length) (x3 : ∀ c, 12 ≤ c → c < 252 → N1.1 c = M1.1 c) (y1 : N2.1 0 20 = nI r.length) (y2 : N2.1 13 = M2.1 13)
    (hL : ListR N1 N2 (zKn z0)) (hS : SheetR N1 N2) (hs : N1.1 0 11 = N2.1 0 4) : Rel N1 N2 :=
  ⟨z0, r, ⟨r1, r2, hr, hI, ⟨fr, f1, by rw [x1]; exact f2, x2, HX_ag x3 hx⟩, y1, HY_ag y2 hy⟩, hL, hS, hs⟩
theorem cnt_up {fm : Nat → Fm} {k p : Nat} (h : p ≠ k) : zCnt (fUp fm k fam0) p = zCnt fm p := by
  unfold zCnt fUp
  rw [if_neg h]
theorem PlX_fm {fm fm' : Nat → Fm} {M : Mem} {c : Nat} {p : Pl} (h : PlX fm M c p) (e : zCnt fm' p.1 = zCnt fm p.1) : PlX fm' M c p := by
  unfold PlX at *
  rw [e]
  exact h
theorem PlY_fm {fm fm' : Nat → Fm} {M : Mem} {a o : Nat} {p : Pl} (h : PlY fm M a o p) (e : zCnt fm' p.1 = zCnt fm p.1) : PlY fm' M a o p := by
  unfold PlY at *
  rw [e]
  exact h
set_option maxRecDepth 10000 in
set_option maxHeartbeats 1000000 in
theorem step_undo : St_undo Rel := by
  intro M1 M2 H
  have H5 := Rel_5 H
  obtain ⟨z, h, hC, hL, hS, hs⟩ := id H
  obtain ⟨h1, h2, h3, h4, ⟨fr, f1, f2, f3, f4⟩, h6, h7⟩ := id hC
  have hI := h4.inv
  unfold f_X10_undo f_X4_closeLatest f_X11_undo
  rw [f3, h6]
  cases h with
  | nil =>
    rw [if_neg (show ¬ (0 : Int32) < nI ([] : List Ac).length by decide), if_pos (show nI ([] : List Ac).length = 0 by decide)]
    exact ⟨_, _, rfl, rfl, rfl, H5⟩
  | cons a r =>
    obtain ⟨kd, w, v, pl, th⟩ := a
    have h4' := h4.2
    have hI0 := h4'.inv
    have f4a := f4.1
    have h7a := h7.1
    rw [List.length_cons] at h3
    have hs60 : (fr + r.length) % 60 < 60 := Nat.mod_lt _ (by decide)
    have eo : (126 : Int32) * (nI ((kd, w, v, pl, th) :: r).length - 1) = nI (126 * r.length) := by
      rw [List.length_cons, nI_pred]; exact pk_mul 126 _
    have e1 : nI (126 * r.length) + (1 : Int32) = nI (126 * r.length + 1) := nI_1 _
    have e2 : nI (126 * r.length) + (2 : Int32) = nI (126 * r.length + 2) := nI_add _ 2
    have e3 : nI (126 * r.length) + (3 : Int32) = nI (126 * r.length + 3) := nI_add _ 3
    have eh : nI ((kd, w, v, pl, th) :: r).length - 1 = nI r.length := by rw [List.length_cons, nI_pred]
    have efr : M1.1 10 1 + (nI ((kd, w, v, pl, th) :: r).length - 1) - (M1.1 10 1 + (nI ((kd, w, v, pl, th) :: r).length - 1)) / (60 : Int32) * (60 : Int32) = nI ((fr + r.length) % 60) := by
      rw [eh, f2, nI_add, rem60 (by omega)]
    rw [if_pos (show (0 : Int32) < nI ((kd, w, v, pl, th) :: r).length from nI_lt (a := 0) (by simp) (by rw [List.length_cons]; omega)), efr, if_pos (inB_nI hs60 (by decide)), nI_clamp (by omega), if_neg (show ¬ nI ((kd, w, v, pl, th) :: r).length = 0 from fun q => by have := (nI_eq (a := ((kd, w, v, pl, th) :: r).length) (b := 0) (by rw [List.length_cons]; omega) (by decide)).mp q; simp at this), eo, e1, e2, e3, eh]
    generalize ht : 12 + 4 * ((fr + r.length) % 60) = t at f4a
    have ht2 : 12 ≤ t ∧ t + 3 < 252 := by omega
    have kt : kX t = 0 := by rw [← ht]; exact kX_act hs60
    generalize hu : 126 * r.length = u at h7a
    have hub : u + 126 ≤ 7560 := by omega
    simp only [Option.bind_some, oel, if_pos kt, inB_nI (show u < 7560 by omega) (show 7560 < 2 ^ 31 by decide), inB_nI (show u + 1 < 7560 by omega) (show 7560 < 2 ^ 31 by decide), inB_nI (show u + 2 < 7560 by omega) (show 7560 < 2 ^ 31 by decide), inB_nI (show u + 3 < 7560 by omega) (show 7560 < 2 ^ 31 by decide), if_true, nI_clamp (show u < 2 ^ 31 by omega), nI_clamp (show u + 1 < 2 ^ 31 by omega), nI_clamp (show u + 2 < 2 ^ 31 by omega), nI_clamp (show u + 3 < 2 ^ 31 by omega)]
    have xb : ∀ d, d ≠ 10 → (sI M1 10 2 (nI r.length)).1 d = M1.1 d := fun d q => sI_off _ _ _ _ q
    have xb1 : (sI M1 10 2 (nI r.length)).1 10 1 = M1.1 10 1 := by rw [sI_1, if_neg (by decide)]
    have xb2 : (sI M1 10 2 (nI r.length)).1 10 2 = nI r.length := by rw [sI_1, if_pos ⟨rfl, rfl⟩]
    have yb : ∀ d, d ≠ 0 → (sI (sI M2 0 5 0) 0 20 (nI r.length)).1 d = M2.1 d := fun d q => by rw [sI_off _ _ _ _ q, sI_off _ _ _ _ q]
    have yb0 : ∀ i, i ≠ 5 → i ≠ 20 → (sI (sI M2 0 5 0) 0 20 (nI r.length)).1 0 i = M2.1 0 i := fun i q1 q2 => by rw [sI_1, if_neg (by omega), sI_1, if_neg (by omega)]
    have yb20 : (sI (sI M2 0 5 0) 0 20 (nI r.length)).1 0 20 = nI r.length := by rw [sI_1, if_pos ⟨rfl, rfl⟩]
    generalize (sI M1 10 2 (nI r.length)) = A at xb xb1 xb2 ⊢
    generalize (sI (sI M2 0 5 0) 0 20 (nI r.length)) = B at yb yb0 yb20 ⊢
    have LB : ∀ N1 N2 : Mem, N1.1 0 4 = A.1 0 4 → N1.1 6 = A.1 6 → N2.1 0 7 = B.1 0 7 → N2.1 4 = B.1 4 → ListR N1 N2 (zKn z) := fun N1 N2 a b c d => ListR_ag hL (by rw [a, xb 0 (by decide)]) (by rw [b, xb 6 (by decide)]) (by rw [c, yb0 7 (by decide) (by decide)]) (by rw [d, yb 4 (by decide)])
    have SB : ∀ N1 N2 : Mem, N1.1 252 0 = A.1 252 0 → N1.1 253 = A.1 253 → N2.1 0 18 = B.1 0 18 → N2.1 12 = B.1 12 → SheetR N1 N2 := fun N1 N2 a b c d => SheetR_ag hS (by rw [a, xb 252 (by decide)]) (by rw [b, xb 253 (by decide)]) (by rw [c, yb0 18 (by decide) (by decide)]) (by rw [d, yb 12 (by decide)])
    have TB : ∀ N1 N2 : Mem, N1.1 0 11 = A.1 0 11 → N2.1 0 4 = B.1 0 4 → N1.1 0 11 = N2.1 0 4 := fun N1 N2 a b => by rw [a, b, xb 0 (by decide), yb0 4 (by decide) (by decide)]; exact hs
    have f5 := f4.2
    have h8 := h7.2
    have KA : KeX A z := by
      have := h1.1
      unfold KeX at *
      rw [xb 1 (by decide), xb 2 (by decide), xb 3 (by decide), xb 4 (by decide)]
      exact this
    have RA : RX A z := RX_ke h1 KA rfl rfl rfl rfl (by rw [xb 0 (by decide)]) (xb 7 (by decide)) (xb 8 (by decide)) (fun c hc => xb c (by omega))
    have KB : KeY B z := by
      have := h2.1
      unfold KeY at *
      rw [yb0 3 (by decide) (by decide), yb 1 (by decide), yb 2 (by decide), yb 3 (by decide)]
      exact this
    have RB : RY B z := RY_ke h2 KB rfl rfl rfl rfl (yb0 11 (by decide) (by decide)) (yb0 13 (by decide) (by decide)) (fun c hc hc2 => yb c (by omega))
    have B13 : B.1 13 = M2.1 13 := yb 13 (by decide)
    rcases kd with _ | _ | _ | _ | _ | kd
    · -- a keeper came
      have fa : M1.1 t 0 = 0 ∧ M1.1 t 1 = nI (zKn z - 1) ∧ 0 < zKn z := f4a
      have ya : M2.1 13 u = 0 := h7a
      have tb : f_X10_takeBack t A = some (sI (sI A 1 0 (nI (zKn z - 1))) 0 4 0) := by
        unfold f_X10_takeBack
        rw [if_pos kt, xb t (by omega), fa.1, if_pos rfl, fa.2.1]
      rw [tb, ya, if_pos rfl, h2.1.1, show nI (zKn z) - (1 : Int32) = nI (zKn z - 1) from pk_sub (a := zKn z) (b := 1) (by omega)]
      simp only [Option.bind_some]
      refine ⟨_, _, rfl, rfl, rfl, ?_⟩
      have X0 : ∀ i, i ≠ 4 → (sI (sI A 1 0 (nI (zKn z - 1))) 0 4 0).1 0 i = A.1 0 i := fun i q => by rw [sI_1, if_neg (by omega), sI_off _ _ _ _ (by decide)]
      have XO : ∀ d, d ≠ 0 → d ≠ 1 → (sI (sI A 1 0 (nI (zKn z - 1))) 0 4 0).1 d = A.1 d := fun d q1 q2 => by rw [sI_off _ _ _ _ q1, sI_off _ _ _ _ q2]
      have Y0 : ∀ i, i ≠ 3 → i ≠ 7 → (sI (sI B 0 3 (nI (zKn z - 1))) 0 7 0).1 0 i = B.1 0 i := fun i q1 q2 => by rw [sI_1, if_neg (by omega), sI_1, if_neg (by omega)]
      have YO : ∀ d, d ≠ 0 → (sI (sI B 0 3 (nI (zKn z - 1))) 0 7 0).1 d = B.1 d := fun d q1 => by rw [sI_off _ _ _ _ q1, sI_off _ _ _ _ q1]
      refine Rel_back (by omega) h4' f1 f2 f5 h8 ?_ ?_ ?_ ?_ ?_ ?_ ?_ ⟨0, fun _ => 0, by decide, ?_, ?_, fun i hi => by omega⟩ (SB _ _ (by rw [XO 252 (by decide) (by decide)]) (XO 253 (by decide) (by decide)) (Y0 18 (by decide) (by decide)) (YO 12 (by decide))) (TB _ _ (X0 11 (by decide)) (Y0 4 (by decide) (by decide)))
      · refine RX_ke RA ⟨?_, fun j hj => ?_⟩ rfl rfl rfl rfl (X0 2 (by decide)) (XO 7 (by decide) (by decide)) (XO 8 (by decide) (by decide)) (fun c hc => XO c (by omega) (by omega))
        · rw [sI_off _ _ _ _ (by decide), sI_1, if_pos ⟨rfl, rfl⟩]; rfl
        · have hj : j < zKn z - 1 := hj
          rw [XO 2 (by decide) (by decide), XO 3 (by decide) (by decide), XO 4 (by decide) (by decide)]
          show _ = nI (nUp (zSt z) (zKn z - 1) 0 j) ∧ _ = nI (nUp (zTe z) (zKn z - 1) 0 j) ∧ _ = nI (nUp (zWe z) (zKn z - 1) 0 j)
          rw [nup_n _ _ (by omega), nup_n _ _ (by omega), nup_n _ _ (by omega)]
          exact RA.1.2 j (by omega)
      · refine RY_ke RB ⟨?_, fun j hj => ?_⟩ rfl rfl rfl rfl (Y0 11 (by decide) (by decide)) (Y0 13 (by decide) (by decide)) (fun c hc hc2 => YO c (by omega))
        · rw [sI_1, if_neg (by decide), sI_1, if_pos ⟨rfl, rfl⟩]; rfl
        · have hj : j < zKn z - 1 := hj
          rw [YO 1 (by decide), YO 2 (by decide), YO 3 (by decide)]
          show _ = nI (nUp (zSt z) (zKn z - 1) 0 j) ∧ _ = nI (nUp (zTe z) (zKn z - 1) 0 j) ∧ _ = nI (nUp (zWe z) (zKn z - 1) 0 j)
          rw [nup_n _ _ (by omega), nup_n _ _ (by omega), nup_n _ _ (by omega)]
          exact RB.1.2 j (by omega)
      · rw [XO 10 (by decide) (by decide)]; exact xb1
      · rw [XO 10 (by decide) (by decide)]; exact xb2
      · intro c q1 q2
        rw [XO c (by omega) (by omega), xb c (by omega)]
      · rw [Y0 20 (by decide) (by decide)]; exact yb20
      · rw [YO 13 (by decide)]; exact B13
      · rw [sI_1, if_pos ⟨rfl, rfl⟩]; rfl
      · rw [sI_1, if_pos ⟨rfl, rfl⟩]; rfl
    · -- tenths
      have fa : M1.1 t 0 = 1 ∧ M1.1 t 1 = nI w ∧ M1.1 t 2 = nI v ∧ w < zKn z := f4a
      have ya : M2.1 13 u = 1 ∧ M2.1 13 (u + 1) = nI w ∧ M2.1 13 (u + 2) = nI v ∧ w < zKn z := h7a
      have hw16 : w < 16 := by have := hI.1.1; omega
      have tb : f_X10_takeBack t A = some (sI A 3 w (nI v)) := by
        unfold f_X10_takeBack
        rw [if_pos kt, xb t (by omega), fa.1, if_neg one_ne, if_pos rfl, fa.2.1, fa.2.2.1, isThere_yes RA.1.1 hI.1.1 fa.2.2.2, Option.bind_some, if_neg one_ne, if_pos (inB_nI hw16 (by decide)), nI_clamp (by omega)]
      rw [tb, ya.1, if_neg one_ne, if_pos rfl, ya.2.1, ya.2.2.1, if_pos (inB_nI hw16 (by decide)), nI_clamp (show w < 2 ^ 31 by omega)]
      simp only [Option.bind_some]
      refine ⟨_, _, rfl, rfl, rfl, ?_⟩
      have XO : ∀ d, d ≠ 3 → (sI A 3 w (nI v)).1 d = A.1 d := fun d q1 => sI_off _ _ _ _ q1
      have YO : ∀ d, d ≠ 2 → (sI B 2 w (nI v)).1 d = B.1 d := fun d q1 => sI_off _ _ _ _ q1
      refine Rel_back (by omega) h4' f1 f2 f5 h8 ?_ ?_ ?_ ?_ ?_ ?_ ?_ (LB _ _ (by rw [XO 0 (by decide)]) (XO 6 (by decide)) (by rw [YO 0 (by decide)]) (YO 4 (by decide))) (SB _ _ (by rw [XO 252 (by decide)]) (XO 253 (by decide)) (by rw [YO 0 (by decide)]) (YO 12 (by decide))) (TB _ _ (by rw [XO 0 (by decide)]) (by rw [YO 0 (by decide)]))
      · refine RX_ke RA ⟨?_, fun j hj => ?_⟩ rfl rfl rfl rfl (by rw [XO 0 (by decide)]) (XO 7 (by decide)) (XO 8 (by decide)) (fun c hc => XO c (by omega))
        · rw [XO 1 (by decide)]; exact RA.1.1
        · obtain ⟨x1, x2, x3⟩ := RA.1.2 j hj
          rw [XO 2 (by decide), XO 4 (by decide)]
          refine ⟨x1, ?_, x3⟩
          show _ = nI (nUp (zTe z) w v j)
          rw [sI_1]
          by_cases e : j = w
          · rw [if_pos ⟨rfl, e⟩, e, nup_s]
          · rw [if_neg (by omega), nup_n _ _ e, x2]
      · refine RY_ke RB ⟨?_, fun j hj => ?_⟩ rfl rfl rfl rfl (by rw [YO 0 (by decide)]) (by rw [YO 0 (by decide)]) (fun c hc hc2 => YO c (by omega))
        · rw [YO 0 (by decide)]; exact RB.1.1
        · obtain ⟨x1, x2, x3⟩ := RB.1.2 j hj
          rw [YO 1 (by decide), YO 3 (by decide)]
          refine ⟨x1, ?_, x3⟩
          show _ = nI (nUp (zTe z) w v j)
          rw [sI_1]
          by_cases e : j = w
          · rw [if_pos ⟨rfl, e⟩, e, nup_s]
          · rw [if_neg (by omega), nup_n _ _ e, x2]
      · rw [XO 10 (by decide)]; exact xb1
      · rw [XO 10 (by decide)]; exact xb2
      · intro c q1 q2
        rw [XO c (by omega), xb c (by omega)]
      · rw [YO 0 (by decide)]; exact yb20
      · rw [YO 13 (by decide)]; exact B13
    · -- a family came
      have fa : M1.1 t 0 = 2 ∧ M1.1 t 1 = nI (zFn z - 1) ∧ 0 < zFn z := f4a
      have ya : M2.1 13 u = 2 := h7a
      have tb : f_X10_takeBack t A = some (sI A 0 2 (nI (zFn z - 1))) := by
        unfold f_X10_takeBack
        rw [if_pos kt, xb t (by omega), fa.1, if_neg (by decide), if_neg (by decide), if_pos rfl, fa.2.1]
      rw [tb, ya, if_neg (by decide), if_neg (by decide), if_pos rfl, h2.2.1.1, show nI (zFn z) - (1 : Int32) = nI (zFn z - 1) from pk_sub (a := zFn z) (b := 1) (by omega)]
      simp only [Option.bind_some]
      refine ⟨_, _, rfl, rfl, rfl, ?_⟩
      have X0 : ∀ i, i ≠ 2 → (sI A 0 2 (nI (zFn z - 1))).1 0 i = A.1 0 i := fun i q => by rw [sI_1, if_neg (by omega)]
      have XO : ∀ d, d ≠ 0 → (sI A 0 2 (nI (zFn z - 1))).1 d = A.1 d := fun d q1 => sI_off _ _ _ _ q1
      have Y0 : ∀ i, i ≠ 11 → (sI B 0 11 (nI (zFn z - 1))).1 0 i = B.1 0 i := fun i q1 => by rw [sI_1, if_neg (by omega)]
      have YO : ∀ d, d ≠ 0 → (sI B 0 11 (nI (zFn z - 1))).1 d = B.1 d := fun d q1 => sI_off _ _ _ _ q1
      have hPl : ∀ p, zPl z = some p → p.1 ≠ zFn z - 1 := fun p hp => by
        have := (hI0.2.2.1 p hp).1.1
        have : p.1 < zFn z - 1 := this
        omega
      have hPc : ∀ k, k < 16 → (zPc z k).1 = 3 → (zPc z k).2.2.1 ≠ zFn z - 1 := fun k hk hp => by
        have := ((hI0.2.2.2.1 k hk).2 hp).1
        have : (zPc z k).2.2.1 < zFn z - 1 := this
        omega
      refine Rel_back (by omega) h4' f1 f2 f5 h8 ⟨?_, ⟨?_, fun f hf => ?_⟩, ?_, fun k hk => ?_⟩ ⟨?_, ⟨?_, fun f hf => ?_⟩, ?_, fun k hk => ?_⟩ ?_ ?_ ?_ ?_ ?_ (LB _ _ (X0 4 (by decide)) (XO 6 (by decide)) (Y0 7 (by decide)) (YO 4 (by decide))) (SB _ _ (by rw [XO 252 (by decide)]) (XO 253 (by decide)) (Y0 18 (by decide)) (YO 12 (by decide))) (TB _ _ (X0 11 (by decide)) (Y0 4 (by decide)))
      · have := RA.1
        unfold KeX at *
        rw [XO 1 (by decide), XO 2 (by decide), XO 3 (by decide), XO 4 (by decide)]
        exact this
      · rw [sI_1, if_pos ⟨rfl, rfl⟩]; rfl
      · have hf : f < zFn z - 1 := hf
        show _ = nI (fUp (zFm z) (zFn z - 1) fam0 f).1 ∧ _ = nI (fUp (zFm z) (zFn z - 1) fam0 f).2.1 ∧ ∀ i, i < (fUp (zFm z) (zFn z - 1) fam0 f).2.1 → _ = nI ((fUp (zFm z) (zFn z - 1) fam0 f).2.2 i)
        rw [show fUp (zFm z) (zFn z - 1) fam0 f = zFm z f from if_neg (by omega), XO _ (by omega), XO _ (by omega)]
        exact RA.2.1.2 f (by omega)
      · have := RA.2.2.1
        show PoX (fUp (zFm z) (zFn z - 1) fam0) _ 7 (zPl z)
        cases hzp : zPl z with
        | none =>
          rw [hzp] at this
          exact PoX_ag this (XO 7 (by decide)) (XO 8 (by decide))
        | some p =>
          rw [hzp] at this
          exact PlX_fm (PlX_ag this (XO 7 (by decide)) (XO 8 (by decide))) (cnt_up (hPl p hzp))
      · have := RA.2.2.2 k hk
        refine ⟨by rw [XO _ (by omega)]; exact this.1, fun q => by rw [XO _ (by omega)]; exact this.2.1 q, fun q => PlX_fm (PlX_ag (this.2.2 q) (XO _ (by omega)) (XO _ (by omega))) (cnt_up (hPc k hk q))⟩
      · have := RB.1
        unfold KeY at *
        rw [Y0 3 (by decide), YO 1 (by decide), YO 2 (by decide), YO 3 (by decide)]
        exact this
      · rw [sI_1, if_pos ⟨rfl, rfl⟩]; rfl
      · have hf : f < zFn z - 1 := hf
        show _ = nI (fUp (zFm z) (zFn z - 1) fam0 f).1 ∧ _ = nI (fUp (zFm z) (zFn z - 1) fam0 f).2.1 ∧ ∀ i, i < (fUp (zFm z) (zFn z - 1) fam0 f).2.1 → _ = nI ((fUp (zFm z) (zFn z - 1) fam0 f).2.2 i)
        rw [show fUp (zFm z) (zFn z - 1) fam0 f = zFm z f from if_neg (by omega), YO 5 (by decide), YO 6 (by decide), YO 7 (by decide)]
        exact RB.2.1.2 f (by omega)
      · have := RB.2.2.1
        show PoY (fUp (zFm z) (zFn z - 1) fam0) _ (zPl z)
        cases hzp : zPl z with
        | none =>
          rw [hzp] at this
          exact PoY_ag this (Y0 13 (by decide)) (YO 8 (by decide))
        | some p =>
          rw [hzp] at this
          exact ⟨by rw [Y0 13 (by decide)]; exact this.1, PlY_fm (PlY_ag this.2 (YO 8 (by decide))) (cnt_up (hPl p hzp))⟩
      · have := RB.2.2.2 k hk
        refine ⟨by rw [YO 9 (by decide)]; exact this.1, fun q => by rw [YO 10 (by decide)]; exact this.2.1 q, fun q => PlY_fm (PlY_ag (this.2.2 q) (YO 11 (by decide))) (cnt_up (hPc k hk q))⟩
      · rw [XO 10 (by decide)]; exact xb1
      · rw [XO 10 (by decide)]; exact xb2
      · intro c q1 q2
        rw [XO c (by omega), xb c (by omega)]
      · rw [Y0 20 (by decide)]; exact yb20
      · rw [YO 13 (by decide)]; exact B13
    · -- a weight
      have fa : M1.1 t 0 = 3 ∧ M1.1 t 1 = nI w ∧ M1.1 t 2 = nI v ∧ w < zKn z := f4a
      have ya : M2.1 13 u = 3 ∧ M2.1 13 (u + 1) = nI w ∧ M2.1 13 (u + 2) = nI v ∧ w < zKn z := h7a
      have hw16 : w < 16 := by have := hI.1.1; omega
      have tb : f_X10_takeBack t A = some (sI A 4 w (nI v)) := by
        unfold f_X10_takeBack
        rw [if_pos kt, xb t (by omega), fa.1, if_neg (by decide), if_neg (by decide), if_neg (by decide), if_pos rfl, fa.2.1, fa.2.2.1, isThere_yes RA.1.1 hI.1.1 fa.2.2.2, Option.bind_some, if_neg one_ne, if_pos (inB_nI hw16 (by decide)), nI_clamp (by omega)]
      rw [tb, ya.1, if_neg (by decide), if_neg (by decide), if_neg (by decide), if_pos rfl, ya.2.1, ya.2.2.1, if_pos (inB_nI hw16 (by decide)), nI_clamp (show w < 2 ^ 31 by omega)]
      simp only [Option.bind_some]
      refine ⟨_, _, rfl, rfl, rfl, ?_⟩
      have XO : ∀ d, d ≠ 4 → (sI A 4 w (nI v)).1 d = A.1 d := fun d q1 => sI_off _ _ _ _ q1
      have YO : ∀ d, d ≠ 3 → (sI B 3 w (nI v)).1 d = B.1 d := fun d q1 => sI_off _ _ _ _ q1
      refine Rel_back (by omega) h4' f1 f2 f5 h8 ?_ ?_ ?_ ?_ ?_ ?_ ?_ (LB _ _ (by rw [XO 0 (by decide)]) (XO 6 (by decide)) (by rw [YO 0 (by decide)]) (YO 4 (by decide))) (SB _ _ (by rw [XO 252 (by decide)]) (XO 253 (by decide)) (by rw [YO 0 (by decide)]) (YO 12 (by decide))) (TB _ _ (by rw [XO 0 (by decide)]) (by rw [YO 0 (by decide)]))
      · refine RX_ke RA ⟨?_, fun j hj => ?_⟩ rfl rfl rfl rfl (by rw [XO 0 (by decide)]) (XO 7 (by decide)) (XO 8 (by decide)) (fun c hc => XO c (by omega))
        · rw [XO 1 (by decide)]; exact RA.1.1
        · obtain ⟨x1, x2, x3⟩ := RA.1.2 j hj
          rw [XO 2 (by decide), XO 3 (by decide)]
          refine ⟨x1, x2, ?_⟩
          show _ = nI (nUp (zWe z) w v j)
          rw [sI_1]
          by_cases e : j = w
          · rw [if_pos ⟨rfl, e⟩, e, nup_s]
          · rw [if_neg (by omega), nup_n _ _ e, x3]
      · refine RY_ke RB ⟨?_, fun j hj => ?_⟩ rfl rfl rfl rfl (by rw [YO 0 (by decide)]) (by rw [YO 0 (by decide)]) (fun c hc hc2 => YO c (by omega))
        · rw [YO 0 (by decide)]; exact RB.1.1
        · obtain ⟨x1, x2, x3⟩ := RB.1.2 j hj
          rw [YO 1 (by decide), YO 2 (by decide)]
          refine ⟨x1, x2, ?_⟩
          show _ = nI (nUp (zWe z) w v j)
          rw [sI_1]
          by_cases e : j = w
          · rw [if_pos ⟨rfl, e⟩, e, nup_s]
          · rw [if_neg (by omega), nup_n _ _ e, x3]
      · rw [XO 10 (by decide)]; exact xb1
      · rw [XO 10 (by decide)]; exact xb2
      · intro c q1 q2
        rw [XO c (by omega), xb c (by omega)]
      · rw [YO 0 (by decide)]; exact yb20
      · rw [YO 13 (by decide)]; exact B13
    · -- the plan
      have fa : (M1.1 t 0 = 5 ∧ PoX (zFm z) M1 (t + 2) pl) ∨ (M1.1 t 0 = 4 ∧ ∃ (p : Pl) (i v : Nat), zPl z = some p ∧ pl = some (p.1, nUp p.2 i v) ∧ i < zCnt (zFm z) p.1 ∧ M1.1 t 1 = nI i ∧ M1.1 t 2 = nI v) := f4a
      have ya : M2.1 13 u = 4 ∧ SvY (zFm z) M2 u pl := h7a
      have hcp : ∀ p, pl = some p → zCnt (zFm z) p.1 ≤ 120 := fun p hp => (hI0.2.1.2 p.1 (hI0.2.2.1 p hp).1.1).2.2.1
      -- the class
      have hX : ∃ N, f_X10_takeBack t A = some N ∧ PoX (zFm z) N 7 pl ∧ ∀ d, d ≠ 7 → d ≠ 8 → N.1 d = A.1 d := by
        unfold f_X10_takeBack
        rw [if_pos kt]
        rcases fa with ⟨q1, q2⟩ | ⟨q1, p, i, v, q2, q3, q4, q5, q6⟩
        · rw [xb t (by omega), q1, if_neg (by decide), if_neg (by decide), if_neg (by decide), if_neg (by decide), if_neg (by decide), if_pos rfl]
          obtain ⟨N, e, g1, g2⟩ := become_po (M := A) (t0 := 7) (t1 := t + 1 + 1) (fm := zFm z) (o := pl) rfl (kX_s9 (kX_s0 kt)) (by omega) (PoX_ag q2 (xb _ (by omega)) (xb _ (by omega))) hcp
          rw [e]
          exact ⟨N, rfl, g1, g2⟩
        · have x7 := RA.2.2.1
          rw [q2] at x7
          have x7 : PlX (zFm z) A 7 p := x7
          have hc := zcnt_le hI q2
          rw [xb t (by omega), q1, if_neg (by decide), if_neg (by decide), if_neg (by decide), if_neg (by decide), if_pos rfl, q5, q6, hasPart_yes rfl x7.2.1 hc q4, Option.bind_some, if_neg one_ne, if_pos (inB_nI (show i < 120 by omega) (by decide)), nI_clamp (show i < 2 ^ 31 by omega)]
          refine ⟨_, rfl, ?_, fun d g1 g2 => sI_off _ _ _ _ g2⟩
          rw [q3]
          refine ⟨by rw [sI_off _ _ _ _ (by decide)]; exact x7.1, by rw [sI_off _ _ _ _ (by decide)]; exact x7.2.1, fun j hj => ?_⟩
          show _ = nI (nUp p.2 i v j)
          rw [sI_1]
          by_cases e : j = i
          · rw [if_pos ⟨rfl, e⟩, e, nup_s]
          · rw [if_neg (by omega), nup_n _ _ e]; exact x7.2.2 j hj
      obtain ⟨N, n1, n2, n3⟩ := hX
      -- the reference
      have hY : ∃ q N, (if M2.1 13 (u + 2) = (1 : Int32) then some (1 : Int32) else some (0 : Int32)) = some q ∧ (q = 0 ∨ q = 1) ∧ f_X11_undo_l1 (nI u) fuelN 0 (sI B 0 13 q) = some N ∧ PoY (zFm z) N pl ∧ (∀ i, i ≠ 13 → N.1 0 i = B.1 0 i) ∧ ∀ d, d ≠ 0 → d ≠ 8 → N.1 d = B.1 d := by
        cases pl with
        | none =>
          have y2 : M2.1 13 (u + 2) = 0 := ya.2
          obtain ⟨N, g1, g2, g3, g4⟩ := undo_l1 (M := sI B 0 13 0) hub
          refine ⟨0, N, by rw [y2, if_neg (by decide)], Or.inl rfl, g1, ?_, fun i hi => ?_, fun d q1 q2 => ?_⟩
          · show N.1 0 13 = 0
            rw [g2 0 (by decide), sI_1, if_pos ⟨rfl, rfl⟩]
          · rw [g2 0 (by decide), sI_1, if_neg (by omega)]
          · rw [g2 d q2, sI_off _ _ _ _ q1]
        | some p =>
          have y2 : M2.1 13 (u + 2) = 1 ∧ PlY (zFm z) M2 13 (u + 3) p := ya.2
          obtain ⟨N, g1, g2, g3, g4⟩ := undo_l1 (M := sI B 0 13 1) hub
          have e13 : (sI B 0 13 1).1 13 = M2.1 13 := by rw [sI_off _ _ _ _ (by decide)]; exact B13
          refine ⟨1, N, by rw [y2.1, if_pos rfl], Or.inr rfl, g1, ⟨?_, ?_, fun i hi => ?_⟩, fun i hi => ?_, fun d q1 q2 => ?_⟩
          · rw [g2 0 (by decide), sI_1, if_pos ⟨rfl, rfl⟩]
          · have := g4 0 (by decide)
            rw [Nat.add_zero, Nat.add_zero, e13] at this
            rw [this]; exact y2.2.1
          · have hc := hcp p rfl
            have := g4 (1 + i) (by omega)
            rw [← Nat.add_assoc, ← Nat.add_assoc, e13] at this
            rw [this]; exact y2.2.2 i hi
          · rw [g2 0 (by decide), sI_1, if_neg (by omega)]
          · rw [g2 d q2, sI_off _ _ _ _ q1]
      obtain ⟨q, P, p1, p2, p3, p4, p5, p6⟩ := hY
      rw [n1, ya.1, if_neg (by decide), if_neg (by decide), if_neg (by decide), if_neg (by decide), if_pos rfl, p1]
      simp only [Option.bind_some, if_pos p2, p3]
      refine ⟨_, _, rfl, rfl, rfl, ?_⟩
      refine Rel_back (by omega) h4' f1 f2 f5 h8 (RX_pl RA (by rw [n3 0 (by decide) (by decide)]) (fun c q1 q2 => n3 c (by omega) (by omega)) (fun c q1 => n3 c (by omega) (by omega)) n2) (RY_pl RB (p5 11 (by decide)) (p5 3 (by decide)) (fun c hc => p6 c (by omega) (by omega)) p4) ?_ ?_ ?_ ?_ ?_ (LB _ _ (by rw [n3 0 (by decide) (by decide)]) (n3 6 (by decide) (by decide)) (p5 7 (by decide)) (p6 4 (by decide) (by decide))) (SB _ _ (by rw [n3 252 (by decide) (by decide)]) (n3 253 (by decide) (by decide)) (p5 18 (by decide)) (p6 12 (by decide) (by decide))) (TB _ _ (by rw [n3 0 (by decide) (by decide)]) (p5 4 (by decide)))
      · rw [n3 10 (by decide) (by decide)]; exact xb1
      · rw [n3 10 (by decide) (by decide)]; exact xb2
      · intro c q1 q2
        rw [n3 c (by omega) (by omega), xb c (by omega)]
      · rw [p5 20 (by decide)]; exact yb20
      · rw [p6 13 (by decide) (by decide)]; exact B13
    · -- a place
      have fa : M1.1 t 0 = 6 ∧ M1.1 t 1 = nI w ∧ w < 16 ∧ ThX (zFm z) M1 (t + 1) th := f4a
      have ya : M2.1 13 u = 5 ∧ M2.1 13 (u + 1) = nI w ∧ w < 16 ∧ M2.1 13 (u + 2) = nI th.1 ∧ (th.1 = 1 ∨ th.1 = 2 → M2.1 13 (u + 3) = th.2.1) ∧ (th.1 = 3 → PlY (zFm z) M2 13 (u + 4) th.2.2) := h7a
      have hw : w < 16 := fa.2.2.1
      have hz0 : zPc (undoA (kd + 5, w, v, pl, th) z) = pcUp (zPc z) w th := rfl
      have hi4 := hI0.2.2.2.1 w hw
      have hi4 : th.1 ≤ 3 ∧ (th.1 = 3 → PlOk (undoA (kd + 5, w, v, pl, th) z) th.2.2) := by
        have e : zPc (undoA (kd + 5, w, v, pl, th) z) w = th := pcUp_s _ _ _
        have := hi4
        rw [show zPc (undoA (kd + 1 + 1 + 1 + 1 + 1, w, v, pl, th) z) w = th from e] at this
        exact this
      have hcp : th.1 = 3 → zCnt (zFm z) th.2.2.1 ≤ 120 := fun q => (hI.2.1.2 _ (hi4.2 q).1).2.2.1
      have tb : ∃ N, f_X10_takeBack t A = some N ∧ ThX (zFm z) N (312 + 3 * w) th ∧ ∀ d, d ≠ 312 + 3 * w → d ≠ 312 + 3 * w + 1 → d ≠ 312 + 3 * w + 2 → N.1 d = A.1 d := by
        unfold f_X10_takeBack f_X10_takeBackPlace
        rw [if_pos kt, xb t (by omega), fa.1, if_neg (by decide), if_neg (by decide), if_neg (by decide), if_neg (by decide), if_neg (by decide), if_neg (by decide), if_pos kt, fa.2.1, placeAt_yes hw, Option.bind_some]
        obtain ⟨N, e, g1, g2⟩ := thing_become (M := A) (t0 := 312 + 3 * w) (t1 := t + 1) (fm := zFm z) (t := th) (kX_place hw) (kX_s0 kt) (by omega) (ThX_ag fa.2.2.2 (xb _ (by omega)) (xb _ (by omega)) (xb _ (by omega))) hi4.1 hcp
        refine ⟨N, ?_, g1, g2⟩
        simp only [oel, if_pos (kX_place hw), e, Option.bind_some]
      obtain ⟨N, n1, n2, n3⟩ := tb
      obtain ⟨P, p1, p2, p3, p4⟩ := undo_l2 (M := sI (sI B 9 w (nI th.1)) 10 w (M2.1 13 (u + 3))) (o := u) (k := w) hub hw
      rw [n1, ya.1, if_neg (by decide), if_neg (by decide), if_neg (by decide), if_neg (by decide), if_neg (by decide), ya.2.1, ya.2.2.2.1, if_pos (inB_nI hw (by decide)), if_pos (inB_nI hw (by decide)), nI_clamp (show w < 2 ^ 31 by omega), p1]
      simp only [Option.bind_some]
      refine ⟨_, _, rfl, rfl, rfl, ?_⟩
      have P0 : P.1 0 = B.1 0 := by rw [p2 0 (by decide), sI_off _ _ _ _ (by decide), sI_off _ _ _ _ (by decide)]
      have PO : ∀ d, d ≠ 9 → d ≠ 10 → d ≠ 11 → P.1 d = B.1 d := fun d q1 q2 q3 => by rw [p2 d q3, sI_off _ _ _ _ q2, sI_off _ _ _ _ q1]
      have e13 : (sI (sI B 9 w (nI th.1)) 10 w (M2.1 13 (u + 3))).1 13 = M2.1 13 := by rw [sI_off _ _ _ _ (by decide), sI_off _ _ _ _ (by decide)]; exact B13
      refine Rel_back (by omega) h4' f1 f2 f5 h8 ⟨?_, ⟨?_, fun f hf => ?_⟩, PoX_ag RA.2.2.1 (n3 7 (by omega) (by omega) (by omega)) (n3 8 (by omega) (by omega) (by omega)), fun j hj => ?_⟩ ⟨?_, FaY_ag RB.2.1 rfl rfl (by rw [P0]) (PO 5 (by decide) (by decide) (by decide)) (PO 6 (by decide) (by decide) (by decide)) (PO 7 (by decide) (by decide) (by decide)), PoY_ag RB.2.2.1 (by rw [P0]) (PO 8 (by decide) (by decide) (by decide)), fun j hj => ?_⟩ ?_ ?_ ?_ ?_ ?_ (LB _ _ (by rw [n3 0 (by omega) (by omega) (by omega)]) (n3 6 (by omega) (by omega) (by omega)) (by rw [P0]) (PO 4 (by decide) (by decide) (by decide))) (SB _ _ (by rw [n3 252 (by omega) (by omega) (by omega)]) (n3 253 (by omega) (by omega) (by omega)) (by rw [P0]) (PO 12 (by decide) (by decide) (by decide))) (TB _ _ (by rw [n3 0 (by omega) (by omega) (by omega)]) (by rw [P0]))
      · have := RA.1
        unfold KeX at *
        rw [n3 1 (by omega) (by omega) (by omega), n3 2 (by omega) (by omega) (by omega), n3 3 (by omega) (by omega) (by omega), n3 4 (by omega) (by omega) (by omega)]
        exact this
      · rw [n3 0 (by omega) (by omega) (by omega)]; exact RA.2.1.1
      · have hf : f < zFn z := hf
        have := hI.2.1.1
        rw [n3 (264 + 2 * f) (by omega) (by omega) (by omega), n3 (264 + 2 * f + 1) (by omega) (by omega) (by omega)]
        exact RA.2.1.2 f hf
      · show ThX (zFm z) N (312 + 3 * j) (pcUp (zPc z) w th j)
        by_cases e : j = w
        · rw [e, pcUp_s]; exact n2
        · rw [pcUp_n _ _ e]
          exact ThX_ag (RA.2.2.2 j hj) (n3 _ (by omega) (by omega) (by omega)) (n3 _ (by omega) (by omega) (by omega)) (n3 _ (by omega) (by omega) (by omega))
      · have := RB.1
        unfold KeY at *
        rw [P0, PO 1 (by decide) (by decide) (by decide), PO 2 (by decide) (by decide) (by decide), PO 3 (by decide) (by decide) (by decide)]
        exact this
      · show ThY (zFm z) P j (pcUp (zPc z) w th j)
        by_cases e : j = w
        · rw [e, pcUp_s]
          refine ⟨?_, fun q => ?_, fun q => ⟨?_, fun i hi => ?_⟩⟩
          · rw [p2 9 (by decide), sI_off _ _ _ _ (by decide), sI_1, if_pos ⟨rfl, rfl⟩]
          · rw [p2 10 (by decide), sI_1, if_pos ⟨rfl, rfl⟩]; exact ya.2.2.2.2.1 q
          · have := p4 0 (by decide)
            rw [Nat.add_zero, Nat.add_zero, e13] at this
            rw [this]; exact (ya.2.2.2.2.2 q).1
          · have := hcp q
            have := p4 (1 + i) (by omega)
            rw [← Nat.add_assoc, ← Nat.add_assoc, e13] at this
            rw [this]; exact (ya.2.2.2.2.2 q).2 i hi
        · rw [pcUp_n _ _ e]
          have h5 := RB.2.2.2 j hj
          have s9 : P.1 9 j = B.1 9 j := by rw [p2 9 (by decide), sI_off _ _ _ _ (by decide), sI_1, if_neg (by omega)]
          have s10 : P.1 10 j = B.1 10 j := by rw [p2 10 (by decide), sI_1, if_neg (by omega), sI_off _ _ _ _ (by decide)]
          have s11 : ∀ x, ¬ (121 * w ≤ x ∧ x < 121 * w + 121) → P.1 11 x = B.1 11 x := fun x hx => by rw [p3 x hx, sI_off _ _ _ _ (by decide), sI_off _ _ _ _ (by decide)]
          refine ⟨by rw [s9]; exact h5.1, fun q => by rw [s10]; exact h5.2.1 q, fun q => ?_⟩
          have hp := h5.2.2 q
          have hcc := (hI.2.1.2 _ ((hI.2.2.2.1 j hj).2 q).1).2.2.1
          refine ⟨by rw [s11 _ (by omega)]; exact hp.1, fun i hi => ?_⟩
          rw [s11 _ (by omega)]; exact hp.2 i hi
      · rw [n3 10 (by omega) (by omega) (by omega)]; exact xb1
      · rw [n3 10 (by omega) (by omega) (by omega)]; exact xb2
      · intro c q1 q2
        rw [n3 c (by omega) (by omega) (by omega), xb c (by omega)]
      · rw [P0]; exact yb20
      · rw [PO 13 (by decide) (by decide) (by decide)]; exact B13
