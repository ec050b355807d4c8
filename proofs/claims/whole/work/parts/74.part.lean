theorem plan_push2 {M1 M2 N1 N2 : Mem} {z : Sg} {h : List Ac} {o : Option Pl} {t u : Nat} (H : Core M1 M2 z h) (hL : ListR M1 M2 (zKn z)) (hS : SheetR M1 M2)
    (hz : Inv (zKn z, zSt z, zTe z, zWe z, zFn z, zFm z, o, zPc z)) (ht : 12 ≤ t ∧ t + 3 < 252) (hu : u = 126 * min h.length 59)
    (x0 : N1.1 0 2 = M1.1 0 2) (x4 : N1.1 0 4 = M1.1 0 4) (xo : ∀ d, d ≠ 0 → d ≠ 7 → d ≠ 8 → d ≠ 10 → ¬ (t ≤ d ∧ d ≤ t + 3) → N1.1 d = M1.1 d) (xp : PoX (zFm z) N1 7 o) (xa : AcX N1 t (4, 0, 0, zPl z, th0) (zKn z, zSt z, zTe z, zWe z, zFn z, zFm z, o, zPc z))
    (xh : ∀ (e : Ac) (z' : Sg), undoA e z' = z → AcX N1 t e z' → ∃ fr', fr' < 60 ∧ N1.1 10 1 = nI fr' ∧ N1.1 10 2 = nI (e :: hp h).length ∧ HX N1 fr' (e :: hp h) z')
    (y3 : ∀ i, i ≠ 4 → i ≠ 5 → i ≠ 13 → i ≠ 20 → N2.1 0 i = M2.1 0 i) (yo : ∀ d, d ≠ 0 → d ≠ 8 → d ≠ 13 → N2.1 d = M2.1 d) (yp : PoY (zFm z) N2 o) (y20 : N2.1 0 20 = nI (min h.length 59 + 1)) (yt : N2.1 13 u = 4) (ys : SvY (zFm z) N2 u (zPl z))
    (yh : ∀ (e : Ac) (z' : Sg), undoA e z' = z → AcY N2 u e z' → HY N2 (e :: hp h) z') (hst : N1.1 0 11 = N2.1 0 4) : Rel N1 N2 := by
  obtain ⟨h1, h2, h3, h4, -⟩ := H
  have hun : undoA (4, 0, 0, zPl z, th0) (zKn z, zSt z, zTe z, zWe z, zFn z, zFm z, o, zPc z) = z := rfl
  refine ⟨_, _, Core_push h4 h3 hun hz (RX_pl h1 x0 (fun c hc hc2 => xo c (by omega) (by omega) (by omega) (by omega) (by omega)) (fun c hc => xo c (by omega) (by omega) (by omega) (by omega) (by omega)) xp) (RY_pl h2 (y3 11 (by decide) (by decide) (by decide) (by decide)) (y3 3 (by decide) (by decide) (by decide) (by decide)) (fun c hc => yo c (by omega) (by omega) (by omega)) yp) (xh _ _ hun xa) y20 (yh _ _ hun ⟨yt, ys⟩), ListR_ag hL x4 (xo 6 (by omega) (by omega) (by omega) (by omega) (by omega)) (y3 7 (by decide) (by decide) (by decide) (by decide)) (yo 4 (by omega) (by omega) (by omega)), SheetR_ag hS (by rw [xo 252 (by omega) (by omega) (by omega) (by omega) (by omega)]) (xo 253 (by omega) (by omega) (by omega) (by omega) (by omega)) (y3 18 (by decide) (by decide) (by decide) (by decide)) (yo 12 (by omega) (by omega) (by omega)), hst⟩
set_option maxRecDepth 10000 in
theorem step_part : St_part Rel := by
  intro a b M1 M2 H
  have Hn1 := Rel_no H 1
  have Hn2 := Rel_no H 2
  obtain ⟨z, h, hC, hL, hS, hs⟩ := id H
  obtain ⟨h1, h2, h3, h4, ⟨fr, f1, f2, f3, f4⟩, h6, h7⟩ := id hC
  unfold f_X10_part f_X11_part
  have x7 := h1.2.2.1
  have y7 := PoY_ag (N := sI M2 0 5 0) h2.2.2.1 (by simp [sI]) (by rw [sI_off _ _ _ _ (by decide)])
  have y70 := y7
  cases hz : zPl z with
  | none =>
    rw [hz] at x7 y7
    have c0 : f_X6_hasPart 7 a M1 = some 0 := hasPart_no rfl (show M1.1 7 1 = nI 0 from x7.2) (by rcases pk_ix a (n := 0) (by decide) with q | q | ⟨j, q, -⟩; exact Or.inl q; exact Or.inr q; omega)
    rw [c0, isPart_none y7]
    exact ⟨_, _, rfl, rfl, rfl, Hn1⟩
  | some p =>
    rw [hz] at x7 y7
    have x7 : PlX (zFm z) M1 7 p := x7
    have hok := (h4.inv.2.2.1 p hz).1
    have hf := hok.1
    have hf24 : p.1 < 24 := by have := h4.inv.2.1.1; omega
    have hc := zcnt_le h4.inv hz
    have y6 : (sI M2 0 5 0).1 6 p.1 = nI (zCnt (zFm z) p.1) := by rw [sI_off _ _ _ _ (by decide)]; exact (h2.2.1.2 p.1 hf).2.1
    rcases pk_ix a (n := zCnt (zFm z) p.1) (by omega) with ha | ha | ⟨i, hi, rfl⟩
    · rw [hasPart_no rfl x7.2.1 (Or.inl ha), isPart_no y7.1 hf24 hc y7.2.1 y6 (Or.inl ha)]; exact ⟨_, _, rfl, rfl, rfl, Hn1⟩
    · rw [hasPart_no rfl x7.2.1 (Or.inr ha), isPart_no y7.1 hf24 hc y7.2.1 y6 (Or.inr ha)]; exact ⟨_, _, rfl, rfl, rfl, Hn1⟩
    rw [hasPart_yes rfl x7.2.1 hc hi, isPart_yes y7.1 hf24 hc y7.2.1 y6 hi]
    simp only [Option.bind_some, if_neg one_ne]
    rcases in_cases b 1000 (by decide) with ⟨e1, hb⟩ | ⟨e1, v, hv, rfl⟩
    · rw [show f_X11_in b 0 1000 = some 0 from e1]
      by_cases hb0 : b < 0
      · rw [if_pos hb0]; exact ⟨_, _, rfl, rfl, rfl, Hn2⟩
      · rw [if_neg hb0, if_pos (show (1000 : Int32) < b from by
          rcases hb with hb | hb
          · exact absurd hb hb0
          · exact hb)]
        exact ⟨_, _, rfl, rfl, rfl, Hn2⟩
    rw [show f_X11_in (nI v) 0 1000 = some 1 from e1, if_neg (nI_pos (show v < 2 ^ 31 by omega)), if_neg (show ¬ (1000 : Int32) < nI v from nI_nlt (a := 1000) hv (by decide))]
    have e8 := y7.2.2 i hi
    rw [Nat.zero_add, sI_off _ _ _ _ (by decide)] at e8
    have x8 := x7.2.2 i hi
    have hb1 := psum_le (p := p.2) (b := 1000) _ hok.2
    have hge := psum_ge (p := p.2) _ i hi
    have hup := psum_up (p := p.2) (i := i) (v := v) _ hi
    rw [allX rfl hc x7.2.1 x7.2.2, allY hf24 hc y7.2.1 y6 (p := p.2) (fun i hi => by have := y7.2.2 i hi; rwa [Nat.zero_add] at this)]
    simp only [Option.bind_some, if_neg one_ne, inB_nI (show i < 120 by omega) (show 120 < 2 ^ 31 by decide), show (1 : Int32) + nI i = nI (1 + i) from nI_add 1 i, inB_nI (show 1 + i < 121 by omega) (show 121 < 2 ^ 31 by decide), nI_clamp (show i < 2 ^ 31 by omega), nI_clamp (show 1 + i < 2 ^ 31 by omega), if_true]
    rw [e8, x8]
    have esum : nI (psum p.2 (zCnt (zFm z) p.1)) - nI (p.2 i) + nI v = nI (psum (nUp p.2 i v) (zCnt (zFm z) p.1)) := by
      rw [pk_sub (by omega), nI_add]
      congr 1
      omega
    rw [esum]
    by_cases hs0 : nI (psum (nUp p.2 i v) (zCnt (zFm z) p.1)) = 0
    · rw [if_pos hs0, if_pos hs0]; exact ⟨_, _, rfl, rfl, rfl, Hn2⟩
    rw [if_neg hs0, if_neg hs0]
    obtain ⟨t, N, o1, o2, o3, o4, o5, o6, o7, o8, o9⟩ := open_spec f2 f1 f3 h3 4 (nI i) (nI (p.2 i))
    obtain ⟨u, P, p1, p2, p3, p4, p7, p8, p9, p10, p11⟩ := planActs_spec (M := sI M2 0 5 0) (n := h.length) (fm := zFm z) (o := zPl z) (by rw [show (sI M2 0 5 0).1 0 20 = M2.1 0 20 by simp [sI]]; exact h6) h3 y70 (fun p hp => zcnt_le h4.inv hp)
    rw [o1, p1]
    simp only [Option.bind_some, f_X10_acceptTrue, or_true, if_true]
    refine ⟨_, _, rfl, rfl, rfl, ?_⟩
    dsimp only
    have hN : ∀ d, d ≠ 10 → d ≠ t → d ≠ 8 → d ≠ 0 → (sI (sI N 8 i (nI v)) 0 11 0).1 d = M1.1 d := fun d q1 q2 q3 q4 => by
      rw [sI_off _ _ _ _ q4, sI_off _ _ _ _ q3, o8 d q1 q2]
    have hN0 : ∀ j, j ≠ 11 → (sI (sI N 8 i (nI v)) 0 11 0).1 0 j = M1.1 0 j := fun j q => by
      rw [sI_1, if_neg (by omega), sI_off _ _ _ _ (by decide), o8 0 (by decide) (by omega)]
    refine plan_push2 (o := some (p.1, nUp p.2 i v)) (t := t) (u := u) hC hL hS ?_ ⟨o3, o4⟩ p2 (hN0 2 (by decide)) (hN0 4 (by decide)) (fun d q1 q2 q3 q4 q5 => hN d q4 (by omega) q3 q1) ?_ ?_ ?_ ?_ ?_ ?_ ?_ ?_ ?_ ?_ ?_
    · refine ⟨h4.inv.1, h4.inv.2.1, fun q hq => ?_, h4.inv.2.2.2⟩
      have hq : q = (p.1, nUp p.2 i v) := (Option.some.inj hq).symm
      subst hq
      refine ⟨⟨hf, fun j hj => ?_⟩, psum_pos _ (fun q => hs0 (by rw [q]; rfl))⟩
      show nUp p.2 i v j ≤ 1000
      by_cases e : j = i
      · rw [e, nup_s]; exact hv
      · rw [nup_n _ _ e]; exact hok.2 j hj
    · refine ⟨?_, ?_, fun j hj => ?_⟩
      · rw [hN 7 (by omega) (by omega) (by omega) (by omega)]; exact x7.1
      · rw [hN 7 (by omega) (by omega) (by omega) (by omega)]; exact x7.2.1
      · show _ = nI (nUp p.2 i v j)
        rw [sI_off _ _ _ _ (by decide), sI_1]
        by_cases e : j = i
        · rw [if_pos ⟨rfl, e⟩, e, nup_s]
        · rw [if_neg (by omega), nup_n _ _ e, o8 8 (by decide) (by omega)]; exact x7.2.2 j hj
    · right
      refine ⟨?_, (p.1, nUp p.2 i v), i, p.2 i, rfl, ?_, hi, ?_, ?_⟩
      · rw [sI_off _ _ _ _ (by omega), sI_off _ _ _ _ (by omega)]; exact o5
      · show zPl z = some (p.1, nUp (nUp p.2 i v) i (p.2 i))
        rw [nUp_back]; exact hz
      · rw [sI_off _ _ _ _ (by omega), sI_off _ _ _ _ (by omega)]; exact o6
      · rw [sI_off _ _ _ _ (by omega), sI_off _ _ _ _ (by omega)]; exact o7
    · intro e z' hun hA
      refine o9 _ ?_ ?_ h z z' e rfl f4 hun hA
      · rw [sI_off _ _ _ _ (by decide), sI_off _ _ _ _ (by decide)]
      · intro d q1 q2 q3
        rw [sI_off _ _ _ _ (by omega), sI_off _ _ _ _ (by omega)]
    · intro j q1 q2 q3 q4
      rw [sI_off _ _ _ _ (by decide), p9 j q1 q4, sI_1, if_neg (by omega)]
    · intro d q1 q2 q3
      rw [sI_off _ _ _ _ q2, p10 d q1 q3, sI_off _ _ _ _ q1]
    · refine ⟨?_, ?_, fun j hj => ?_⟩
      · rw [sI_off _ _ _ _ (by decide), p9 13 (by decide) (by decide)]; exact y7.1
      · rw [sI_1, if_neg (by omega), p10 8 (by decide) (by decide)]; exact y7.2.1
      · show _ = nI (nUp p.2 i v j)
        rw [sI_1]
        by_cases e : j = i
        · rw [if_pos ⟨rfl, by omega⟩, e, nup_s]
        · rw [if_neg (by omega), nup_n _ _ e, p10 8 (by decide) (by decide)]; exact y7.2.2 j hj
    · rw [sI_off _ _ _ _ (by decide)]; exact p8
    · rw [sI_off _ _ _ _ (by decide)]; exact p3
    · exact SvY_ag p4 (sI_off _ _ _ _ (by decide))
    · intro e z' hun hA
      exact p11 _ (fun j hj => by rw [sI_off _ _ _ _ (by decide)]) h z z' e rfl h4 (HY_ag (by rw [sI_off _ _ _ _ (by decide)]) h7) hun hA
    · rw [st_X, sI_off _ _ _ _ (by decide), p7]
