/-! wall -/
def aw (a2 a3 a4 a5 a6 : Int32) (i : Nat) : Int32 := if i = 0 then a2 else if i = 1 then a3 else if i = 2 then a4 else if i = 3 then a5 else a6
def wOk (a2 a3 a4 a5 a6 : Int32) (l : Nat → Nat) (i : Nat) : Prop := aw a2 a3 a4 a5 a6 i = nI (l i) ∧ l i ≤ 16 ∧ (i = 0 → 1 ≤ l i)
theorem len_cases (x : Int32) : (f_X10_isLength x = some 0 ∧ ¬ ∃ l, l ≤ 16 ∧ x = nI l) ∨ (f_X10_isLength x = some 1 ∧ ∃ l, l ≤ 16 ∧ x = nI l) := by
  unfold f_X10_isLength
  rcases pk_ix x (n := 17) (by decide) with h | h | ⟨j, hj, rfl⟩
  · left
    rw [if_pos h]
    refine ⟨rfl, fun ⟨l, hl, e⟩ => ?_⟩
    rw [e] at h
    exact nI_pos (by omega) h
  · left
    refine ⟨?_, fun ⟨l, hl, e⟩ => ?_⟩
    · have h2 : (16 : Int32) < x := by
        show nI 16 < x
        rw [Int32.le_iff_toInt_le] at h
        rw [Int32.lt_iff_toInt_lt]
        have e1 : (nI 17).toInt = 17 := rfl
        have e2 : (nI 16).toInt = 16 := rfl
        omega
      by_cases h0 : x < 0
      · rw [if_pos h0]
      · rw [if_neg h0, if_pos h2]
    · rw [e] at h
      exact ifle_no (show l < 17 by omega) (by decide) h
  · right
    rw [if_neg (nI_pos (by omega)), if_neg (show ¬ (16 : Int32) < nI j from nI_nlt (a := 16) (b := j) (by omega) (by decide))]
    exact ⟨rfl, j, by omega, rfl⟩
theorem ifaw (a2 a3 a4 a5 a6 : Int32) : ∀ i, i < 5 → (if nI i = 0 then some a2 else (if nI i = (1 : Int32) then some a3 else (if nI i = (2 : Int32) then some a4 else (if nI i = (3 : Int32) then some a5 else some a6)))) = some (aw a2 a3 a4 a5 a6 i) := by
  intro i hi
  unfold aw
  have e : ∀ k, k < 5 → (nI i = nI k ↔ i = k) := fun k hk => nI_eq (by omega) (by omega)
  have e0 : (nI i = (0 : Int32)) = (i = 0) := propext (e 0 (by decide))
  have e1 : (nI i = (1 : Int32)) = (i = 1) := propext (e 1 (by decide))
  have e2 : (nI i = (2 : Int32)) = (i = 2) := propext (e 2 (by decide))
  have e3 : (nI i = (3 : Int32)) = (i = 3) := propext (e 3 (by decide))
  simp only [e0, e1, e2, e3]
  split
  · rfl
  · split
    · rfl
    · split
      · rfl
      · split <;> rfl
/-- the rows of the reference while they are added -/
def RwY (M N : Mem) (l : Nat → Nat) (R i : Nat) : Prop := KeepY M N ∧ R ≤ i ∧ N.1 0 27 = nI R ∧ (R < i → l R = 0) ∧ ∀ j, j < R → N.1 17 j = nI (psum l j) ∧ N.1 18 j = nI (l j) ∧ 1 ≤ l j
theorem in_lo {x : Int32} {lo : Nat} (hlo : lo ≤ 1) : (f_X11_in x (nI lo) 16 = some 0 ∧ ¬ ∃ l, lo ≤ l ∧ l ≤ 16 ∧ x = nI l) ∨ (f_X11_in x (nI lo) 16 = some 1 ∧ ∃ l, lo ≤ l ∧ l ≤ 16 ∧ x = nI l) := by
  unfold f_X11_in
  by_cases h1 : x < nI lo
  · left
    rw [if_pos h1]
    refine ⟨rfl, fun ⟨l, h2, h3, e⟩ => ?_⟩
    rw [e] at h1
    exact nI_nlt h2 (by omega) h1
  · by_cases h2 : (16 : Int32) < x
    · left
      rw [if_neg h1, if_pos h2]
      refine ⟨rfl, fun ⟨l, h3, h4, e⟩ => ?_⟩
      rw [e] at h2
      exact nI_nlt (a := 16) (b := l) h4 (by decide) h2
    · right
      rw [if_neg h1, if_neg h2]
      refine ⟨rfl, ?_⟩
      have h0 : ¬ x < 0 := fun q => h1 (by
        rw [Int32.lt_iff_toInt_lt] at q ⊢
        have : (0 : Int32).toInt = 0 := rfl
        rw [nI_toInt (by omega)]
        omega)
      obtain ⟨j, hj, rfl⟩ := nI_of h0
      refine ⟨j, ?_, ?_, rfl⟩
      · apply Classical.byContradiction
        intro q
        exact h1 (nI_lt (by omega) (by omega))
      · apply Classical.byContradiction
        intro q
        exact h2 (nI_lt (a := 16) (by omega) hj)
theorem wallY_l1 (M : Mem) (a1 a2 a3 a4 a5 a6 : Int32) (l : Nat → Nat) (hl : ∀ i, l i = (aw a2 a3 a4 a5 a6 i).toNatClampNeg) (h27 : M.1 0 27 = 0) :
    ∃ r, f_X11_wall_l1 a1 a2 a3 a4 a5 a6 fuelN 0 1 0 M = some r ∧ ((∃ N R, r = .inl (nI (psum l R), N) ∧ (∀ i, i < 5 → wOk a2 a3 a4 a5 a6 l i) ∧ RwY M N l R 5) ∨ ∃ N, r = .inr (-1, sI N 0 4 2) ∧ KeepY M N ∧ ∃ i, i < 5 ∧ ¬ wOk a2 a3 a4 a5 a6 l i) := by
  refine loop_go (F := fun n v (s : Int32 × Int32 × Mem) => f_X11_wall_l1 a1 a2 a3 a4 a5 a6 n s.1 s.2.1 v s.2.2) 5 (by decide)
    (fun i s => (∀ j, j < i → wOk a2 a3 a4 a5 a6 l j) ∧ ∃ R, s.1 = nI (psum l R) ∧ (s.2.1 = if R = i then 1 else 0) ∧ RwY M s.2.2 l R i) _ ?_ ?_ 0 (0, 1, M) (by omega) ⟨fun j hj => by omega, 0, rfl, rfl, KeepY.refl M, Nat.le_refl _, h27, fun q => by omega, fun j hj => by omega⟩
  · rintro n ⟨v7, v8, N⟩ ⟨g1, R, e7, e8, g2⟩
    dsimp only at e7 e8 g2
    subst e7
    refine ⟨_, ?_, Or.inl ⟨N, R, rfl, g1, g2⟩⟩
    show f_X11_wall_l1 a1 a2 a3 a4 a5 a6 (n + 1) _ _ (nI 5) N = _
    rw [f_X11_wall_l1, if_pos (by decide)]
  · rintro n i ⟨v7, v8, N⟩ hi ⟨g1, R, e7, e8, g2⟩
    dsimp only at e7 e8 g2
    subst e7 e8
    have hlo : (if nI i = 0 then some (1 : Int32) else some (0 : Int32)) = some (nI (if i = 0 then 1 else 0)) := by
      by_cases e : i = 0
      · rw [if_pos (by rw [e]; rfl), if_pos e]; rfl
      · rw [if_neg (nI_ne0 (by omega) (by omega)), if_neg e]; rfl
    have hun : f_X11_wall_l1 a1 a2 a3 a4 a5 a6 (n + 1) (nI (psum l R)) (if R = i then 1 else 0) (nI i) N = (Option.bind (f_X11_in (aw a2 a3 a4 a5 a6 i) (nI (if i = 0 then 1 else 0)) (16 : Int32)) (fun q8 => (if q8 = 0 then (Option.bind (f_X11_no (2 : Int32) N) (fun q22 => some (.inr (q22.1, q22.2)))) else (Option.bind (if (if R = i then (1 : Int32) else 0) = 0 then some (0 : Int32) else (if (aw a2 a3 a4 a5 a6 i) ≤ 0 then some (0 : Int32) else some (1 : Int32))) (fun q11 => (Option.bind (if q11 = 0 then some (nI (psum l R), N) else (if inB (N.1 0 27) 17 = true then (if inB (N.1 0 27) 17 = true then some ((nI (psum l R) + (aw a2 a3 a4 a5 a6 i)), (sI (sI (sI N 17 (N.1 0 27).toNatClampNeg (nI (psum l R))) 18 (N.1 0 27).toNatClampNeg (aw a2 a3 a4 a5 a6 i)) 0 27 ((N.1 0 27) + (1 : Int32)))) else none) else none)) (fun q14 => f_X11_wall_l1 a1 a2 a3 a4 a5 a6 n q14.1 q11 (nI (i + 1)) q14.2))))))) := by
      rw [f_X11_wall_l1, if_neg (show ¬ (5 : Int32) ≤ nI i from ifle_no (c := 5) hi (by decide)), ifaw a2 a3 a4 a5 a6 i hi, Option.bind_some, hlo, Option.bind_some, nI_1]
    show (∃ s' : Int32 × Int32 × Mem, _ ∧ f_X11_wall_l1 a1 a2 a3 a4 a5 a6 (n + 1) (nI (psum l R)) (if R = i then 1 else 0) (nI i) N = f_X11_wall_l1 a1 a2 a3 a4 a5 a6 n s'.1 s'.2.1 (nI (i + 1)) s'.2.2) ∨ ∃ r, f_X11_wall_l1 a1 a2 a3 a4 a5 a6 (n + 1) (nI (psum l R)) (if R = i then 1 else 0) (nI i) N = some r ∧ _
    rw [hun]
    rcases in_lo (x := aw a2 a3 a4 a5 a6 i) (lo := if i = 0 then 1 else 0) (by split <;> omega) with ⟨e, hno⟩ | ⟨e, l', hl1, hl2, hl3⟩
    · right
      rw [e, Option.bind_some, if_pos rfl]
      refine ⟨_, rfl, Or.inr ⟨N, rfl, g2.1, i, hi, fun hw => hno ⟨l i, ?_, hw.2.1, hw.1⟩⟩⟩
      by_cases e : i = 0
      · rw [if_pos e]; exact hw.2.2 e
      · rw [if_neg e]; exact Nat.zero_le _
    · left
      have hli : l i = l' := by rw [hl i, hl3, nI_clamp (by omega)]
      have hw : wOk a2 a3 a4 a5 a6 l i := ⟨by rw [hli, hl3], by omega, fun e => by rw [if_pos e] at hl1; omega⟩
      have hg1 : ∀ j, j < i + 1 → wOk a2 a3 a4 a5 a6 l j := fun j hj => by
        by_cases e : j = i
        · rw [e]; exact hw
        · exact g1 j (by omega)
      obtain ⟨k1, k2, k3, k4, k5⟩ := g2
      rw [e, Option.bind_some, if_neg one_ne]
      have stay : (R < i ∨ l i = 0) → ∃ s' : Int32 × Int32 × Mem, ((∀ j, j < i + 1 → wOk a2 a3 a4 a5 a6 l j) ∧ ∃ R, s'.1 = nI (psum l R) ∧ (s'.2.1 = if R = i + 1 then 1 else 0) ∧ RwY M s'.2.2 l R (i + 1)) ∧ (Option.bind (if (0 : Int32) = 0 then some (nI (psum l R), N) else (if inB (N.1 0 27) 17 = true then (if inB (N.1 0 27) 17 = true then some ((nI (psum l R) + (aw a2 a3 a4 a5 a6 i)), (sI (sI (sI N 17 (N.1 0 27).toNatClampNeg (nI (psum l R))) 18 (N.1 0 27).toNatClampNeg (aw a2 a3 a4 a5 a6 i)) 0 27 ((N.1 0 27) + (1 : Int32)))) else none) else none)) (fun q14 => f_X11_wall_l1 a1 a2 a3 a4 a5 a6 n q14.1 0 (nI (i + 1)) q14.2)) = f_X11_wall_l1 a1 a2 a3 a4 a5 a6 n s'.1 s'.2.1 (nI (i + 1)) s'.2.2 := by
        intro hr
        refine ⟨(nI (psum l R), 0, N), ⟨hg1, R, rfl, by rw [if_neg (by omega)], k1, by omega, k3, fun _ => ?_, k5⟩, by rw [if_pos rfl, Option.bind_some]⟩
        rcases hr with hr | hr
        · exact k4 hr
        · by_cases e : R < i
          · exact k4 e
          · rw [show R = i by omega]; exact hr
      by_cases eR : R = i
      · rw [if_pos eR, if_neg one_ne, hl3]
        by_cases l0 : l' = 0
        · rw [if_pos (by rw [l0]; decide), Option.bind_some, ← hl3]
          exact stay (Or.inr (by omega))
        · have h27' : N.1 0 27 = nI R := k3
          refine ⟨(nI (psum l (R + 1)), 1, sI (sI (sI N 17 R (nI (psum l R))) 18 R (nI l')) 0 27 (nI (R + 1))), ⟨hg1, R + 1, rfl, by rw [if_pos (by omega)], ((k1.trans (keepY_scr _ _ _ (by omega))).trans (keepY_scr _ _ _ (by omega))).trans (keepY_f _ _ (by omega)), by omega, by rw [sI_1, if_pos ⟨rfl, rfl⟩], fun q => by omega, fun j hj => ?_⟩, ?_⟩
          · show (sI (sI (sI N 17 R (nI (psum l R))) 18 R (nI l')) 0 27 (nI (R + 1))).1 17 j = _ ∧ (sI (sI (sI N 17 R (nI (psum l R))) 18 R (nI l')) 0 27 (nI (R + 1))).1 18 j = _ ∧ _
            rw [sI_off _ _ _ _ (show 17 ≠ 0 by decide), sI_off _ _ _ _ (show 17 ≠ 18 by decide), sI_off _ _ _ _ (show 18 ≠ 0 by decide), sI_1, sI_1]
            by_cases e : j = R
            · rw [if_pos ⟨rfl, e⟩, if_pos ⟨rfl, e⟩, e, eR, hli]; exact ⟨rfl, rfl, by omega⟩
            · rw [if_neg (by omega), if_neg (by omega), sI_off _ _ _ _ (show 18 ≠ 17 by decide)]; exact k5 j (by omega)
          · rw [if_neg (nI_nle (by omega) (by omega)), Option.bind_some, if_neg one_ne, h27', if_pos (inB_nI (show R < 17 by omega) (by decide)), if_pos (inB_nI (show R < 17 by omega) (by decide)), nI_clamp (by omega), nI_add, nI_1, Option.bind_some]
            show f_X11_wall_l1 a1 a2 a3 a4 a5 a6 n (nI (psum l R + l')) 1 (nI (i + 1)) _ = f_X11_wall_l1 a1 a2 a3 a4 a5 a6 n (nI (psum l R + l R)) 1 (nI (i + 1)) _
            rw [eR, hli]
      · rw [if_neg eR, if_pos rfl, Option.bind_some]
        exact stay (Or.inl (by omega))
theorem wallY_l2 {M : Mem} {l : Nat → Nat} {R base : Nat} (hR : R ≤ 5) (h27 : M.1 0 27 = nI R) (h17 : ∀ j, j < R → M.1 17 j = nI (psum l j)) : ∃ N, f_X11_wall_l2 (nI base) fuelN 0 M = some N ∧ (∀ d, d ≠ 17 → N.1 d = M.1 d) ∧ ∀ j, j < R → N.1 17 j = nI (base + psum l j) := by
  refine loop_go (F := fun n v N => f_X11_wall_l2 (nI base) n v N) R (by omega) (fun i N => (∀ d, d ≠ 17 → N.1 d = M.1 d) ∧ (∀ j, j < i → N.1 17 j = nI (base + psum l j)) ∧ ∀ j, i ≤ j → N.1 17 j = M.1 17 j) _ (fun n N hN => ⟨N, ?_, hN.1, hN.2.1⟩) (fun n i N hi hN => Or.inl ⟨sI N 17 i (nI (base + psum l i)), ⟨fun d hd => ?_, fun j hj => ?_, fun j hj => ?_⟩, ?_⟩) 0 M (by omega) ⟨fun _ _ => rfl, fun j hj => by omega, fun _ _ => rfl⟩
  · show f_X11_wall_l2 (nI base) (n + 1) (nI R) N = _
    rw [f_X11_wall_l2, hN.1 0 (by decide), h27, if_pos (Int32.le_refl _)]
  · rw [sI_off _ _ _ _ hd]; exact hN.1 d hd
  · rw [sI_1]
    by_cases e : j = i
    · rw [if_pos ⟨rfl, e⟩, e]
    · rw [if_neg (by omega)]; exact hN.2.1 j (by omega)
  · rw [sI_1, if_neg (by omega)]; exact hN.2.2 j (by omega)
  · show f_X11_wall_l2 (nI base) (n + 1) (nI i) N = f_X11_wall_l2 (nI base) n (nI (i + 1)) _
    rw [f_X11_wall_l2, hN.1 0 (by decide), h27, if_neg (ifle_no hi (by omega)), if_pos (inB_nI (show i < 17 by omega) (by decide)), if_pos (inB_nI (show i < 17 by omega) (by decide)), nI_clamp (by omega), hN.2.2 i (Nat.le_refl _), h17 i hi, nI_add, Nat.add_comm (psum l i), nI_1]
set_option maxRecDepth 10000 in
theorem step_wall : St_wall Rel := by
  intro a1 a2 a3 a4 a5 a6 M1 M2 H
  have Hn2 := Rel_no H 2
  obtain ⟨z, h, hC, hL, hS, hs⟩ := id H
  obtain ⟨h1, h2, h3, h4, -⟩ := id hC
  have hI := h4.inv
  have hk := hI.1.1
  have kM : KeepY M2 (sI (sI M2 0 5 0) 0 27 0) := (k5 M2).trans (keepY_f _ _ (by omega))
  let l : Nat → Nat := fun i => (aw a2 a3 a4 a5 a6 i).toNatClampNeg
  obtain ⟨r, er, hr⟩ := wallY_l1 (sI (sI M2 0 5 0) 0 27 0) a1 a2 a3 a4 a5 a6 l (fun _ => rfl) (by rw [sI_1, if_pos ⟨rfl, rfl⟩])
  unfold f_X10_wall f_X11_wall
  rw [er, Option.bind_some]
  -- refused, both
  have bad : (∃ i, i < 5 ∧ ¬ wOk a2 a3 a4 a5 a6 l i) → ∃ q2 : Int32 × Mem, sel r (fun e3 => (Option.bind (f_X11_areKeepers a1 e3.1 e3.2) (fun q6 => (if q6 = 0 then (Option.bind (f_X11_no (1 : Int32) e3.2) (fun q15 => some (q15.1, q15.2))) else (Option.bind (f_X11_wall_l2 a1 fuelN (0 : Int32) e3.2) (fun q9 => (Option.bind (f_X11_comeRows q9) (fun q11 => (Option.bind (f_X11_made (3 : Int32) q11) (fun q13 => some (q13.1, q13.2))))))))))) (fun v4 => some v4) = some q2 ∧ (-1 : Int32) = q2.1 ∧ Rel (sI M1 0 11 2) q2.2 := by
    rintro ⟨i, hi, hno⟩
    rcases hr with ⟨N, R, rfl, hall, -⟩ | ⟨N, rfl, kN, -⟩
    · exact absurd (hall i hi) hno
    · exact ⟨_, rfl, rfl, Rel_keep H (keepX_st _ _) ((kM.trans kN).trans (keepY_f _ _ (by omega))) (by rw [st_X, st_Y])⟩
  have badX : (∃ i, i < 5 ∧ ¬ wOk a2 a3 a4 a5 a6 l i) → ∃ (q1 : Int32 × Mem) (q2 : Int32 × Mem), some ((-1 : Int32), sI M1 0 11 2) = some q1 ∧ sel r (fun e3 => (Option.bind (f_X11_areKeepers a1 e3.1 e3.2) (fun q6 => (if q6 = 0 then (Option.bind (f_X11_no (1 : Int32) e3.2) (fun q15 => some (q15.1, q15.2))) else (Option.bind (f_X11_wall_l2 a1 fuelN (0 : Int32) e3.2) (fun q9 => (Option.bind (f_X11_comeRows q9) (fun q11 => (Option.bind (f_X11_made (3 : Int32) q11) (fun q13 => some (q13.1, q13.2))))))))))) (fun v4 => some v4) = some q2 ∧ q1.1 = q2.1 ∧ Rel q1.2 q2.2 := by
    intro hb
    obtain ⟨q2, b1, b2, b3⟩ := bad hb
    exact ⟨_, q2, rfl, b1, b2, b3⟩
  rcases len_cases a2 with ⟨e, hno⟩ | ⟨e, l0, hl0, rfl⟩
  · rw [e, Option.bind_some, if_pos rfl, Option.bind_some, if_pos rfl]
    exact badX ⟨0, by omega, fun hw => hno ⟨l 0, hw.2.1, hw.1⟩⟩
  rw [e, Option.bind_some, if_neg one_ne]
  rcases len_cases a3 with ⟨e, hno⟩ | ⟨e, l1, hl1, rfl⟩
  · rw [e, Option.bind_some, if_pos rfl, Option.bind_some, if_pos rfl]
    exact badX ⟨1, by omega, fun hw => hno ⟨l 1, hw.2.1, hw.1⟩⟩
  rw [e, Option.bind_some, if_neg one_ne]
  rcases len_cases a4 with ⟨e, hno⟩ | ⟨e, l2, hl2, rfl⟩
  · rw [e, Option.bind_some, if_pos rfl, Option.bind_some, if_pos rfl]
    exact badX ⟨2, by omega, fun hw => hno ⟨l 2, hw.2.1, hw.1⟩⟩
  rw [e, Option.bind_some, if_neg one_ne]
  rcases len_cases a5 with ⟨e, hno⟩ | ⟨e, l3, hl3, rfl⟩
  · rw [e, Option.bind_some, if_pos rfl, Option.bind_some, if_pos rfl]
    exact badX ⟨3, by omega, fun hw => hno ⟨l 3, hw.2.1, hw.1⟩⟩
  rw [e, Option.bind_some, if_neg one_ne]
  rcases len_cases a6 with ⟨e, hno⟩ | ⟨e, l4, hl4, rfl⟩
  · rw [e, Option.bind_some, if_pos rfl, Option.bind_some, if_pos rfl]
    exact badX ⟨4, by omega, fun hw => hno ⟨l 4, hw.2.1, hw.1⟩⟩
  rw [e, Option.bind_some, if_neg one_ne, Option.bind_some, if_neg one_ne]
  by_cases h0 : l0 = 0
  · rw [if_pos (show nI l0 = 0 by rw [h0]; rfl)]
    refine badX ⟨0, by omega, fun hw => ?_⟩
    have := hw.2.2 rfl
    have e : l 0 = l0 := nI_clamp (by omega)
    omega
  rw [if_neg (nI_ne0 (by omega) (by omega))]
  rcases hr with ⟨N, R, rfl, hall, hN⟩ | ⟨N, rfl, kN, i, hi, hno⟩
  · obtain ⟨D, d1, d2⟩ := dropX M1 l
    have ea : ∀ i, i < 5 → aw (nI l0) (nI l1) (nI l2) (nI l3) (nI l4) i = nI (l i) := fun i hi => (hall i hi).1
    obtain ⟨A1, R1, x1, y1⟩ := addRow_ d2 (by omega) (hall 0 (by omega)).2.1
    obtain ⟨A2, R2, x2, y2⟩ := addRow_ y1 (by omega) (hall 1 (by omega)).2.1
    obtain ⟨A3, R3, x3, y3⟩ := addRow_ y2 (by omega) (hall 2 (by omega)).2.1
    obtain ⟨A4, R4, x4, y4⟩ := addRow_ y3 (by omega) (hall 3 (by omega)).2.1
    obtain ⟨A5, R5, x5, y5⟩ := addRow_ y4 (by omega) (hall 4 (by omega)).2.1
    rw [← ea 0 (by omega)] at x1
    rw [← ea 1 (by omega)] at x2
    rw [← ea 2 (by omega)] at x3
    rw [← ea 3 (by omega)] at x4
    rw [← ea 4 (by omega)] at x5
    have x1 : f_X3_addRow (nI l0) D = some A1 := x1
    have x2 : f_X3_addRow (nI l1) A1 = some A2 := x2
    have x3 : f_X3_addRow (nI l2) A2 = some A3 := x3
    have x4 : f_X3_addRow (nI l3) A3 = some A4 := x4
    have x5 : f_X3_addRow (nI l4) A4 = some A5 := x5
    rw [d1, Option.bind_some, x1, Option.bind_some, x2, Option.bind_some, x3, Option.bind_some, x4, Option.bind_some, x5, Option.bind_some]
    obtain ⟨kA, c1, c2, c3, c4, c5⟩ := y5
    obtain ⟨kN, n1, n2, n3, n4⟩ := hN
    have hRR : R5 = R := by
      rcases Nat.lt_trichotomy R5 R with q | q | q
      · have := (c4 (by omega)).2
        have := (n4 R5 q).2.2
        omega
      · exact q
      · have := n3 (by omega)
        have := (c5 R q).2
        omega
    subst hRR
    have hb : ∀ i, i ≤ R5 → psum l i ≤ 80 := fun i hi => by
      have := psum_le (p := l) (b := 16) i (fun j hj => (hall j (by omega)).2.1)
      omega
    have A10 : A5.1 1 0 = nI (zKn z) := by rw [kA.1.2 1 (by omega)]; exact h1.1.1
    have kMN := kM.trans kN
    have N03 : N.1 0 3 = nI (zKn z) := by rw [kMN.1.1.1]; exact h2.1.1
    have hsum := rowsX_sum (len := l) (by omega) c2 (fun j hj => (c5 j hj).1)
    show ∃ (q1 : Int32 × Mem) (q2 : Int32 × Mem), _ ∧ (Option.bind (f_X11_areKeepers a1 (nI (psum l R5)) N) (fun q6 => (if q6 = 0 then (Option.bind (f_X11_no (1 : Int32) N) (fun q15 => some (q15.1, q15.2))) else (Option.bind (f_X11_wall_l2 a1 fuelN (0 : Int32) N) (fun q9 => (Option.bind (f_X11_comeRows q9) (fun q11 => (Option.bind (f_X11_made (3 : Int32) q11) (fun q13 => some (q13.1, q13.2)))))))))) = some q2 ∧ q1.1 = q2.1 ∧ Rel q1.2 q2.2
    rcases there_ (M1 := A5) (M2 := N) (w := psum l R5) hk (by have := hb R5 (Nat.le_refl _); omega) A10 N03 a1 with ⟨t1, t2⟩ | ⟨t1, t2, j, rfl, hj, hj2⟩
    · unfold f_X10_settleRows
      rw [hsum, Option.bind_some, t1, t2]
      refine ⟨_, _, rfl, rfl, rfl, ?_⟩
      exact Rel_keep H (kA.trans (keepX_st _ _)) (kMN.trans (keepY_f _ _ (by omega))) (by rw [st_X, st_Y])
    · obtain ⟨B, b1, b2, b3⟩ := wallY_l2 (M := N) (l := l) (base := j) c1 n2 (fun i hi => (n4 i hi).1)
      have kB : KeepY M2 B := kMN.trans ⟨⟨⟨by rw [b2 0 (by decide)], by rw [b2 0 (by decide)], by rw [b2 0 (by decide)], by rw [b2 0 (by decide)]⟩, fun c hc => b2 c (by omega)⟩, by rw [b2 0 (by decide)], b2 4 (by decide), by rw [b2 0 (by decide)], b2 12 (by decide)⟩
      have hR1 : 1 ≤ R5 := by
        apply Classical.byContradiction
        intro q
        have := (c4 (by omega)).2
        rw [show R5 = 0 by omega] at this
        have e : l 0 = l0 := nI_clamp (by omega)
        omega
      have ok : RowOk l j R5 (zKn z) := ⟨hR1, by omega, fun i hi => (c5 i hi).2, hj, hk⟩
      obtain ⟨r, N1, N2, C, f1, f2, f3, hRel⟩ := rowsFin (kd := 3) (len := l) H hC hL hS (by omega) ok kA c2 (fun i hi => (c5 i hi).1) hj2 kB ⟨by rw [b2 0 (by decide)]; exact n2, fun i hi => ⟨b3 i hi, by rw [b2 18 (by decide)]; exact (n4 i hi).2.1⟩⟩
      have f1 : f_X10_settleRows (nI j) 3 A5 = some (r, N1) := f1
      have f3 : f_X11_made 3 C = some (r, N2) := f3
      rw [f1, t2, Option.bind_some, Option.bind_some, if_neg one_ne, b1, Option.bind_some, f2, Option.bind_some, f3]
      exact ⟨_, _, rfl, rfl, rfl, hRel⟩
  · exfalso
    apply hno
    have ee : ∀ x, x < 2 ^ 31 → (nI x).toNatClampNeg = x := fun x hx => nI_clamp hx
    rcases (show i = 0 ∨ i = 1 ∨ i = 2 ∨ i = 3 ∨ i = 4 by omega) with rfl | rfl | rfl | rfl | rfl
    · exact ⟨by show nI l0 = nI (nI l0).toNatClampNeg; rw [ee _ (by omega)], by show (nI l0).toNatClampNeg ≤ 16; rw [ee _ (by omega)]; exact hl0, fun _ => by show 1 ≤ (nI l0).toNatClampNeg; rw [ee _ (by omega)]; omega⟩
    · exact ⟨by show nI l1 = nI (nI l1).toNatClampNeg; rw [ee _ (by omega)], by show (nI l1).toNatClampNeg ≤ 16; rw [ee _ (by omega)]; exact hl1, fun q => by omega⟩
    · exact ⟨by show nI l2 = nI (nI l2).toNatClampNeg; rw [ee _ (by omega)], by show (nI l2).toNatClampNeg ≤ 16; rw [ee _ (by omega)]; exact hl2, fun q => by omega⟩
    · exact ⟨by show nI l3 = nI (nI l3).toNatClampNeg; rw [ee _ (by omega)], by show (nI l3).toNatClampNeg ≤ 16; rw [ee _ (by omega)]; exact hl3, fun q => by omega⟩
    · exact ⟨by show nI l4 = nI (nI l4).toNatClampNeg; rw [ee _ (by omega)], by show (nI l4).toNatClampNeg ≤ 16; rw [ee _ (by omega)]; exact hl4, fun q => by omega⟩
