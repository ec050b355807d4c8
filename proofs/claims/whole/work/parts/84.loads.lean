theorem Rel_k {M1 M2 N1 N2 : Mem} (H : Rel M1 M2) (k1 : KeepX M1 N1) (k2 : KeepY M2 N2) (e1 : N1.1 0 11 = M1.1 0 11) (e2 : N2.1 0 4 = M2.1 0 4) : Rel N1 N2 := by
  have hs : M1.1 0 11 = M2.1 0 4 := by obtain ⟨_, _, _, _, _, h⟩ := H; exact h
  exact Rel_keep H k1 k2 (by rw [e1, e2, hs])
theorem kn_pos {z : Sg} (hI : Inv z) {f : Nat} (hf : f < zFn z) : 1 ≤ zKn z := by
  obtain ⟨-, h1, h2, h3⟩ := hI.2.1.2 f hf
  obtain ⟨a, b⟩ := h3 0 (by omega)
  refine Nat.pos_of_ne_zero fun q => ?_
  rw [q] at b
  simp at b
  omega
theorem pln {M1 M2 : Mem} {z : Sg} {h : List Ac} (hC : Core M1 M2 z h) {p : Pl} (hz : zPl z = some p) :
    PlnX M1 p.1 (zCnt (zFm z) p.1) (zSet (zFm z) p.1) p.2 (zKn z) (zSt z) ∧ PlnY M2 p.1 (zCnt (zFm z) p.1) (zSet (zFm z) p.1) p.2 (zKn z) (zSt z) ∧ NumOk (zCnt (zFm z) p.1) (zSet (zFm z) p.1) p.2 (zKn z) (zSt z) ∧ p.1 < zFn z ∧ M1.1 7 0 = nI p.1 ∧ M2.1 0 13 = 1 := by
  obtain ⟨h1, h2, h3, h4, -⟩ := hC
  have hI := h4.inv
  obtain ⟨hok, i, hi, hne⟩ := hI.2.2.1 p hz
  have x7 := h1.2.2.1
  have y7 := h2.2.2.1
  rw [hz] at x7 y7
  have x7 : PlX (zFm z) M1 7 p := x7
  obtain ⟨-, c1, c2, c3⟩ := hI.2.1.2 p.1 hok.1
  refine ⟨⟨QX_of hI h1.2.1 hok.1, x7.2.1, x7.2.2, h1.1.1, fun k hk => (h1.1.2 k hk).1⟩, ⟨QY_of hI h2.2.1 hok.1, y7.2.1, fun i hi => by have := y7.2.2 i hi; rwa [Nat.zero_add] at this, h2.1.1, fun k hk => (h2.1.2 k hk).1⟩, ⟨c2, ⟨kn_pos hI hok.1, hI.1.1⟩, fun i hi => ⟨(c3 i hi).2, hok.2 i hi⟩, fun k hk => ⟨(hI.1.2 k hk).1, (hI.1.2 k hk).2.1⟩, ?_⟩, hok.1, x7.1, y7.1⟩
  have := psum_ge (p := p.2) _ i hi
  omega
theorem no_plan {M1 M2 : Mem} {z : Sg} {h : List Ac} (hC : Core M1 M2 z h) (hz : zPl z = none) : f_X10_familyAt (M1.1 7 0) M1 = some none ∧ M2.1 0 13 = 0 := by
  obtain ⟨h1, h2, h3, h4, -⟩ := hC
  have x7 := h1.2.2.1
  have y7 := h2.2.2.1
  rw [hz] at x7 y7
  refine ⟨?_, y7⟩
  rw [x7.1]
  exact famAt_no h1.2.1.1 (Or.inl (by decide))
theorem step_load : St_load Rel := by
  intro a M1 M2 H
  have H5 := Rel_5 H
  obtain ⟨z, h, hC, hL, hS, hs⟩ := id H
  have hfn := hC.2.2.2.1.inv.2.1.1
  unfold f_X10_load f_X11_load
  cases hz : zPl z with
  | none =>
    obtain ⟨e1, e2⟩ := no_plan hC hz
    rw [e1, if_pos e2]
    exact ⟨_, _, rfl, rfl, rfl, H5⟩
  | some p =>
    obtain ⟨px, py, hn, hf, e7, e13⟩ := pln hC hz
    have hf24 : p.1 < 24 := by omega
    have py5 := PlnY_k py (k5 M2)
    obtain ⟨N, n1, n2, n3, n4, n5⟩ := loadedY py5 hn
    have hb := bk_lt (fun k => psum (ldw (zSet (zFm z) p.1) p.2 k) (zCnt (zFm z) p.1)) (zSt z) (zKn z) hn.2.1.1
    obtain ⟨P, p1, p2, p3, p4, p5⟩ := reckonX px hn hb
    have RN : Rel M1 N := Rel_k H5 (KeepX.refl _) n2 rfl n3
    have RP : Rel P N := Rel_k RN p2 (KeepY.refl _) p3 rfl
    rw [e7, famAt_yes hC.1.2.1.1 hfn hf, e13, if_neg one_ne]
    simp only [Option.bind_some, oel, if_pos (kX_fam hf24), mostX px hn, p1]
    rcases in_cases a 3 (by decide) with ⟨e1, hb⟩ | ⟨e1, s, hs3, rfl⟩
    · have hne : ∀ j, j ≤ 3 → ¬ a = nI j := fun j hj q => by
        rw [q] at hb
        rcases hb with hb | hb
        · exact nI_pos (by omega) hb
        · exact nI_nlt hj (by decide) hb
      rw [show f_X11_in a 0 3 = some 0 from e1, if_neg (show ¬ a = (0 : Int32) from hne 0 (by omega)), if_neg (show ¬ a = (1 : Int32) from hne 1 (by omega)), if_neg (show ¬ a = (2 : Int32) from hne 2 (by omega)), if_neg (show ¬ a = (3 : Int32) from hne 3 (by omega))]
      exact ⟨_, _, rfl, rfl, rfl, H5⟩
    · rw [show f_X11_in (nI s) 0 3 = some 1 from e1]
      simp only [Option.bind_some, if_neg one_ne, n1]
      have hs4 : s = 0 ∨ s = 1 ∨ s = 2 ∨ s = 3 := by omega
      rcases hs4 with rfl | rfl | rfl | rfl
      · rw [if_pos (show nI 0 = (0 : Int32) from rfl), if_pos (show nI 0 = (0 : Int32) from rfl)]
        refine ⟨_, _, rfl, rfl, ?_, RN⟩
        show nI p.1 = N.1 8 0
        rw [n2.1.2 8 (by omega)]; exact py5.2.1.symm
      · rw [if_neg (show ¬ nI 1 = (0 : Int32) by decide), if_pos (show nI 1 = (1 : Int32) from rfl), if_neg (show ¬ nI 1 = (0 : Int32) by decide), if_pos (show nI 1 = (1 : Int32) from rfl)]
        refine ⟨_, _, rfl, rfl, ?_, RP⟩
        show P.1 263 0 = N.1 0 33
        rw [p4, n4]
      · rw [if_neg (show ¬ nI 2 = (0 : Int32) by decide), if_neg (show ¬ nI 2 = (1 : Int32) by decide), if_pos (show nI 2 = (2 : Int32) from rfl), if_neg (show ¬ nI 2 = (0 : Int32) by decide), if_neg (show ¬ nI 2 = (1 : Int32) by decide), if_pos (show nI 2 = (2 : Int32) from rfl)]
        refine ⟨_, _, rfl, rfl, ?_, RP⟩
        show P.1 263 1 = N.1 0 34
        rw [p5, n5]
      · rw [if_neg (show ¬ nI 3 = (0 : Int32) by decide), if_neg (show ¬ nI 3 = (1 : Int32) by decide), if_neg (show ¬ nI 3 = (2 : Int32) by decide), if_pos (show nI 3 = (3 : Int32) from rfl), if_neg (show ¬ nI 3 = (0 : Int32) by decide), if_neg (show ¬ nI 3 = (1 : Int32) by decide), if_neg (show ¬ nI 3 = (2 : Int32) by decide)]
        exact ⟨_, _, rfl, rfl, rfl, RN⟩
theorem step_loadOf : St_loadOf Rel := by
  intro a b M1 M2 hb01 H
  have H5 := Rel_5 H
  obtain ⟨z, h, hC, hL, hS, hs⟩ := id H
  have hfn := hC.2.2.2.1.inv.2.1.1
  have hkn := hC.2.2.2.1.inv.1.1
  unfold f_X10_loadOf f_X11_loadOf
  cases hz : zPl z with
  | none =>
    obtain ⟨e1, e2⟩ := no_plan hC hz
    rw [e1, if_pos e2]
    exact ⟨_, _, rfl, rfl, rfl, H5⟩
  | some p =>
    obtain ⟨px, py, hn, hf, e7, e13⟩ := pln hC hz
    have hf24 : p.1 < 24 := by omega
    have py5 := PlnY_k py (k5 M2)
    rw [e7, famAt_yes hC.1.2.1.1 hfn hf, e13, if_neg one_ne, hC.2.1.1.1]
    simp only [Option.bind_some, oel, if_pos (kX_fam hf24)]
    rcases pk_ix a (n := zKn z) (by omega) with ha | ha | ⟨k, hk, rfl⟩
    · rw [isThere_no hC.1.1.1 (Or.inl ha), in_no (by omega) (Or.inl ha)]; exact ⟨_, _, rfl, rfl, rfl, H5⟩
    · rw [isThere_no hC.1.1.1 (Or.inr ha), in_no (by omega) (Or.inr ha)]; exact ⟨_, _, rfl, rfl, rfl, H5⟩
    rw [isThere_yes hC.1.1.1 hkn hk, in_yes hk (by omega)]
    obtain ⟨N, n1, n2, n3, n4, n5⟩ := loadsOfY py5 hn hk
    obtain ⟨P, p1, p2, p3, p4, p5⟩ := reckonX px hn hk
    have RP : Rel P N := Rel_k H5 p2 n2 p3 n3
    simp only [Option.bind_some, if_neg one_ne, n1, p1, f_X2_side]
    by_cases b0 : b = 0
    · rw [if_pos b0, if_pos b0]
      refine ⟨_, _, rfl, rfl, ?_, RP⟩
      show P.1 263 0 = N.1 0 33
      rw [p4, n4]
    · rw [if_neg b0, if_neg b0]
      refine ⟨_, _, rfl, rfl, ?_, RP⟩
      show P.1 263 1 = N.1 0 34
      rw [p5, n5]
theorem step_bound : St_bound Rel := by
  intro a b M1 M2 hb01 H
  have Hn := Rel_no H 1
  have Hy := Rel_no H 0
  obtain ⟨z, h, ⟨h1, h2, h3, h4, -⟩, hL, hS, hs⟩ := id H
  have hI := h4.inv
  have hf := hI.2.1
  unfold f_X10_bound f_X11_bound
  rcases pk_ix a (n := zFn z) (by omega) with ha | ha | ⟨f, hfz, rfl⟩
  · rw [famAt_no h1.2.1.1 (Or.inl ha), isFam_no (by rw [fn5]; exact h2.2.1.1) hf.1 (Or.inl ha)]; exact ⟨_, _, rfl, rfl, rfl, Hn⟩
  · rw [famAt_no h1.2.1.1 (Or.inr ha), isFam_no (by rw [fn5]; exact h2.2.1.1) hf.1 (Or.inr ha)]; exact ⟨_, _, rfl, rfl, rfl, Hn⟩
  rw [famAt_yes h1.2.1.1 hf.1 hfz, isFam_yes (by rw [fn5]; exact h2.2.1.1) hf.1 hfz]
  have qx := QX_of hI h1.2.1 hfz
  have k4 := k54 M2 0
  have qy := QY_k (QY_of hI h2.2.1 hfz) k4
  obtain ⟨-, c1, c2, c3⟩ := hf.2 f hfz
  have e3 : (sI (sI M2 0 5 0) 0 4 0).1 0 3 = nI (zKn z) := by rw [k4.1.1.1]; exact h2.1.1
  obtain ⟨N, n1, n2, n3, n4, n5⟩ := boundsX (M := M1) (w := zWe z) (s := zSt z) qx c1 hI.1.1 h1.1.1 (fun k hk => ⟨(h1.1.2 k hk).2.2, (hI.1.2 k hk).2.2.2⟩) (fun k hk => ⟨(h1.1.2 k hk).1, (hI.1.2 k hk).2.1⟩) (fun i hi => (c3 i hi).2)
  obtain ⟨P, p1, p2, p3, p4, p5⟩ := boundsY (M := sI (sI M2 0 5 0) 0 4 0) (w := zWe z) (s := zSt z) qy hI.1.1 e3 (fun k hk => ⟨by rw [k4.1.2 3 (by omega)]; exact (h2.1.2 k hk).2.2, (hI.1.2 k hk).2.2.2⟩) (fun k hk => ⟨by rw [k4.1.2 1 (by omega)]; exact (h2.1.2 k hk).1, (hI.1.2 k hk).2.1⟩) (fun i hi => (c3 i hi).2)
  have heq : N.1 263 0 = P.1 0 33 ∧ N.1 263 1 = P.1 0 34 := by
    by_cases t0 : psum (fun k => zWe z k * zSt z k) (zKn z) = 0
    · rw [(n5 t0).1, (n5 t0).2, (p5 t0).1, (p5 t0).2]; exact ⟨rfl, rfl⟩
    · rw [(n4 (by omega)).1, (n4 (by omega)).2, (p4 (by omega)).1, (p4 (by omega)).2]; exact ⟨rfl, rfl⟩
  have RP : Rel (sI N 0 11 0) P := Rel_keep H (n2.trans (keepX_st _ _)) (k4.trans p2) (by rw [st_X, p3, st_Y])
  simp only [Option.bind_some, oel, if_pos (kX_fam qx.1), if_neg one_ne, n1, p1, f_X2_side, f_X10_accept]
  by_cases b0 : b = 0
  · rw [if_pos b0, if_pos b0]
    exact ⟨_, _, rfl, rfl, heq.1, RP⟩
  · rw [if_neg b0, if_neg b0]
    exact ⟨_, _, rfl, rfl, heq.2, RP⟩
theorem step_proved : St_proved Rel := by
  intro M1 M2 H
  have Hn := Rel_no H 1
  obtain ⟨z, h, hC, hL, hS, hs⟩ := id H
  obtain ⟨h1, h2, h3, h4, -⟩ := id hC
  have hI := h4.inv
  have hfn := hI.2.1.1
  unfold f_X10_proved f_X11_proved
  cases hz : zPl z with
  | none =>
    obtain ⟨e1, e2⟩ := no_plan hC hz
    rw [e1, if_pos e2]
    exact ⟨_, _, rfl, rfl, rfl, Hn⟩
  | some p =>
    obtain ⟨px, py, hn, hf, e7, e13⟩ := pln hC hz
    have hf24 : p.1 < 24 := by omega
    have k4 := k54 M2 0
    have py5 := PlnY_k py k4
    obtain ⟨-, c1, c2, c3⟩ := hI.2.1.2 p.1 hf
    obtain ⟨A, a1, a2, a3, a4, a5⟩ := loadedY py5 hn
    have pyA := PlnY_k py5 a2
    have hb := bk_lt (fun k => psum (ldw (zSet (zFm z) p.1) p.2 k) (zCnt (zFm z) p.1)) (zSt z) (zKn z) hn.2.1.1
    have kA := k4.trans a2
    have e80 : A.1 8 0 = nI p.1 := pyA.2.1
    obtain ⟨N, n1, n2, n3, n4, n5⟩ := boundsX (M := M1) (w := zWe z) (s := zSt z) px.1 c1 hI.1.1 h1.1.1 (fun k hk => ⟨(h1.1.2 k hk).2.2, (hI.1.2 k hk).2.2.2⟩) (fun k hk => ⟨(h1.1.2 k hk).1, (hI.1.2 k hk).2.1⟩) (fun i hi => (c3 i hi).2)
    obtain ⟨P, p1, p2, p3, p4, p5⟩ := boundsY (M := A) (w := zWe z) (s := zSt z) pyA.1 hI.1.1 pyA.2.2.2.1 (fun k hk => ⟨by rw [kA.1.2 3 (by omega)]; exact (h2.1.2 k hk).2.2, (hI.1.2 k hk).2.2.2⟩) (fun k hk => ⟨by rw [kA.1.2 1 (by omega)]; exact (h2.1.2 k hk).1, (hI.1.2 k hk).2.1⟩) (fun i hi => (c3 i hi).2)
    have pxN := PlnX_k px n2
    obtain ⟨R, r1, r2, r3, r4, r5⟩ := reckonX pxN hn hb
    have heq : N.1 263 0 = P.1 0 33 ∧ N.1 263 1 = P.1 0 34 := by
      by_cases t0 : psum (fun k => zWe z k * zSt z k) (zKn z) = 0
      · rw [(n5 t0).1, (n5 t0).2, (p5 t0).1, (p5 t0).2]; exact ⟨rfl, rfl⟩
      · rw [(n4 (by omega)).1, (n4 (by omega)).2, (p4 (by omega)).1, (p4 (by omega)).2]; exact ⟨rfl, rfl⟩
    have RP : Rel (sI R 0 11 0) P := Rel_keep H ((n2.trans r2).trans (keepX_st _ _)) (kA.trans p2) (by rw [st_X, p3, a3, st_Y])
    rw [e7, famAt_yes h1.2.1.1 hfn hf, e13, if_neg one_ne]
    simp only [Option.bind_some, oel, if_pos (kX_fam hf24), n1, mostX pxN hn, r1, a1, e80, p1, f_X10_accept]
    rw [r4, r5, a4, a5, heq.1, heq.2]
    by_cases q1 : nI (frN (psum (ldw (zSet (zFm z) p.1) p.2 (bk (fun k => psum (ldw (zSet (zFm z) p.1) p.2 k) (zCnt (zFm z) p.1)) (zSt z) (zKn z))) (zCnt (zFm z) p.1)) (psum p.2 (zCnt (zFm z) p.1) * zSt z (bk (fun k => psum (ldw (zSet (zFm z) p.1) p.2 k) (zCnt (zFm z) p.1)) (zSt z) (zKn z)))) = P.1 0 33
    · rw [if_pos q1, if_pos q1]
      by_cases q2 : nI (frD (psum (ldw (zSet (zFm z) p.1) p.2 (bk (fun k => psum (ldw (zSet (zFm z) p.1) p.2 k) (zCnt (zFm z) p.1)) (zSt z) (zKn z))) (zCnt (zFm z) p.1)) (psum p.2 (zCnt (zFm z) p.1) * zSt z (bk (fun k => psum (ldw (zSet (zFm z) p.1) p.2 k) (zCnt (zFm z) p.1)) (zSt z) (zKn z)))) = P.1 0 34
      · rw [if_pos q2, if_pos q2, Option.bind_some, if_neg one_ne, Option.bind_some]
        exact ⟨_, _, rfl, rfl, rfl, RP⟩
      · rw [if_neg q2, if_neg q2, Option.bind_some, if_pos rfl, Option.bind_some]
        exact ⟨_, _, rfl, rfl, rfl, RP⟩
    · rw [if_neg q1, if_neg q1, Option.bind_some, if_pos rfl, Option.bind_some]
      exact ⟨_, _, rfl, rfl, rfl, RP⟩
