/-- a loop that writes e numbers in a row -/
theorem cp_loop (F : Nat → Int32 → Mem → Option Mem) (e : Nat) (he : e < 66000) (d o : Nat) (g : Nat → Int32) (M : Mem)
    (hx : ∀ n N, F (n + 1) (nI e) N = some N) (hs : ∀ n i N, i < e → (∀ c, c ≠ d → N.1 c = M.1 c) → F (n + 1) (nI i) N = F n (nI (i + 1)) (sI N d (o + i) (g i))) :
    ∃ N, F fuelN 0 M = some N ∧ (∀ c, c ≠ d → N.1 c = M.1 c) ∧ (∀ j, ¬ (o ≤ j ∧ j < o + e) → N.1 d j = M.1 d j) ∧ ∀ i, i < e → N.1 d (o + i) = g i := by
  have HH := loop_go (F := F) e he (fun i N => (∀ c, c ≠ d → N.1 c = M.1 c) ∧ (∀ j, ¬ (o ≤ j ∧ j < o + e) → N.1 d j = M.1 d j) ∧ ∀ j, j < i → N.1 d (o + j) = g j)
    (fun N => (∀ c, c ≠ d → N.1 c = M.1 c) ∧ (∀ j, ¬ (o ≤ j ∧ j < o + e) → N.1 d j = M.1 d j) ∧ ∀ i, i < e → N.1 d (o + i) = g i) ?_ ?_ 0 M (by omega) ⟨fun _ _ => rfl, fun _ _ => rfl, fun j hj => by omega⟩
  · exact HH
  · intro n N h
    exact ⟨N, hx n N, h⟩
  · intro n i N hi h
    left
    refine ⟨sI N d (o + i) (g i), ⟨fun c hc => ?_, fun j hj => ?_, fun j hj => ?_⟩, hs n i N hi h.1⟩
    · rw [sI_off _ _ _ _ hc]; exact h.1 c hc
    · rw [sI_1, if_neg (by omega)]; exact h.2.1 j hj
    · rw [sI_1]
      by_cases q : j = i
      · rw [if_pos ⟨rfl, by rw [q]⟩, q]
      · rw [if_neg (by omega)]; exact h.2.2 j (by omega)
theorem m121 (k : Nat) : (121 : Int32) * nI k = nI (121 * k) := pk_mul 121 k
theorem partsIn_ {M : Mem} {k f c : Nat} (hk : k < 16) (hf : f < 24) (h1 : M.1 11 (121 * k) = nI f) (h2 : M.1 6 f = nI c) : f_X11_partsIn (nI k) M = some (nI c) := by
  unfold f_X11_partsIn
  rw [m121, if_pos (inB_nI (by omega) (by decide)), nI_clamp (show 121 * k < 2 ^ 31 by omega), h1, if_pos (inB_nI hf (by decide)), nI_clamp (show f < 2 ^ 31 by omega), h2]
theorem useY_sum {M : Mem} {k f c : Nat} {p : Nat → Nat} (hk : k < 16) (hf : f < 24) (hc : c ≤ 120) (h1 : M.1 11 (121 * k) = nI f) (h2 : M.1 6 f = nI c) (h3 : ∀ i, i < c → M.1 11 (121 * k + 1 + i) = nI (p i)) : f_X11_use_l1 (nI k) M fuelN 0 0 = some (nI (psum p c)) := by
  have HH := loop_go (F := fun n v s => f_X11_use_l1 (nI k) M n s v) c (by omega) (fun i s => s = nI (psum p i)) (fun r => r = nI (psum p c)) ?_ ?_ 0 0 (by omega) rfl
  · obtain ⟨r, e, rfl⟩ := HH
    exact e
  · intro n s hs
    refine ⟨s, ?_, hs⟩
    show f_X11_use_l1 (nI k) M (n + 1) s (nI c) = _
    rw [f_X11_use_l1, partsIn_ hk hf h1 h2, Option.bind_some, if_pos (Int32.le_refl _)]
  · intro n i s hi hs
    left
    refine ⟨nI (psum p (i + 1)), rfl, ?_⟩
    show f_X11_use_l1 (nI k) M (n + 1) s (nI i) = _
    rw [f_X11_use_l1, partsIn_ hk hf h1 h2, Option.bind_some, if_neg (ifle_no hi (by omega)), m121, nI_1, nI_add, if_pos (inB_nI (by omega) (by decide)), nI_clamp (by omega), h3 i hi, hs, nI_add, nI_1]
    rfl
theorem use_l2 {M : Mem} {k : Nat} (hk : k < 16) : ∃ N, f_X11_use_l2 (nI k) fuelN 0 M = some N ∧ (∀ c, c ≠ 8 → N.1 c = M.1 c) ∧ (∀ j, ¬ (0 ≤ j ∧ j < 0 + 121) → N.1 8 j = M.1 8 j) ∧ ∀ i, i < 121 → N.1 8 (0 + i) = M.1 11 (121 * k + i) := by
  refine cp_loop (fun n v N => f_X11_use_l2 (nI k) n v N) 121 (by decide) 8 0 (fun i => M.1 11 (121 * k + i)) M (fun n N => ?_) (fun n i N hi h => ?_)
  · show f_X11_use_l2 (nI k) (n + 1) (nI 121) N = _
    rw [f_X11_use_l2, if_pos (by decide)]
  · show f_X11_use_l2 (nI k) (n + 1) (nI i) N = _
    rw [f_X11_use_l2, if_neg (show ¬ (121 : Int32) ≤ nI i from ifle_no hi (by decide)), m121, nI_add, if_pos (inB_nI (by omega) (by decide)), if_pos (inB_nI hi (by decide)), nI_clamp (by omega), nI_clamp (by omega), h 11 (by decide), nI_1, Nat.zero_add]
theorem psum_zero {p : Nat → Nat} {c b : Nat} (h : ∀ i, i < c → p i ≤ 1000) (hc : c ≤ 120) (e : nI (psum p c) = 0) : psum p c = 0 := by
  have := psum_le c h
  exact (nI_eq (a := psum p c) (b := 0) (by omega) (by decide)).mp e
set_option maxRecDepth 10000 in
theorem step_use : St_use Rel := by
  intro a M1 M2 H
  have Hn := Rel_no H 1
  have Hn5 := Rel_no H 5
  have Hn6 := Rel_no H 6
  obtain ⟨z, h, hC, hL, hS, hs⟩ := id H
  obtain ⟨h1, h2, h3, h4, ⟨fr, f1, f2, f3, f4⟩, h6, h7⟩ := id hC
  have hf := h4.inv.2.1
  unfold f_X10_use f_X11_use
  rcases pk_ix a (n := 16) (by decide) with ha | ha | ⟨k, hk, rfl⟩
  · rw [placeAt_no (Or.inl ha), isPlace_no (Or.inl ha)]; exact ⟨_, _, rfl, rfl, rfl, Hn⟩
  · rw [placeAt_no (Or.inr ha), isPlace_no (Or.inr ha)]; exact ⟨_, _, rfl, rfl, rfl, Hn⟩
  rw [placeAt_yes hk, isPlace_yes hk]
  have tx := h1.2.2.2 k hk
  have ty := h2.2.2.2 k hk
  have hin := h4.inv.2.2.2.1 k hk
  simp only [Option.bind_some, oel, if_neg one_ne, if_pos (kX_place hk), if_pos (inB_nI hk (show 16 < 2 ^ 31 by decide)), nI_clamp (show k < 2 ^ 31 by omega), tx.1, ty.1]
  by_cases h3t : ¬ (zPc z k).1 = 3
  · have hne : ¬ nI (zPc z k).1 = (3 : Int32) := fun q => h3t ((nI_eq (a := (zPc z k).1) (b := 3) (by omega) (by decide)).mp q)
    rw [if_neg hne, if_neg hne]; exact ⟨_, _, rfl, rfl, rfl, Hn6⟩
  have h3t := Decidable.not_not.mp h3t
  rw [h3t, if_pos (show nI 3 = (3 : Int32) from rfl), if_pos (show nI 3 = (3 : Int32) from rfl)]
  have px := tx.2.2 h3t
  have py := ty.2.2 h3t
  have hok := hin.2 h3t
  generalize hp : (zPc z k).2.2 = p at px py hok
  have hc := (hf.2 p.1 hok.1).2.2.1
  have hf24 : p.1 < 24 := by have := hf.1; have := hok.1; omega
  have kp : kX (312 + 3 * k + 1) = 6 := kX_s9 (kX_place hk)
  have y6 : (sI M2 0 5 0).1 6 p.1 = nI (zCnt (zFm z) p.1) := by rw [sI_off _ _ _ _ (by decide)]; exact (h2.2.1.2 p.1 hok.1).2.1
  rw [allX kp hc px.2.1 px.2.2, useY_sum hk hf24 hc (show (sI M2 0 5 0).1 11 (121 * k) = nI p.1 by rw [sI_off _ _ _ _ (by decide)]; exact py.1) y6 (p := p.2) (fun i hi => by rw [sI_off _ _ _ _ (by decide)]; exact py.2 i hi)]
  simp only [Option.bind_some]
  by_cases hs0 : nI (psum p.2 (zCnt (zFm z) p.1)) = 0
  · rw [if_pos hs0, if_pos hs0]; exact ⟨_, _, rfl, rfl, rfl, Hn5⟩
  rw [if_neg hs0, if_neg hs0]
  obtain ⟨t, N, o1, o2, o3, o4, o5, o6, o7, o8, o9⟩ := open_spec f2 f1 f3 h3 5 0 0
  have kt : kX (t + 1 + 1) = 6 := kX_s9 (kX_s0 o2)
  obtain ⟨A, a1, a2, a3⟩ := become_po (M := N) (t0 := t + 1 + 1) (t1 := 7) (fm := zFm z) (o := zPl z) kt rfl (by omega) (PoX_ag h1.2.2.1 (o8 7 (by omega) (by omega)) (o8 8 (by omega) (by omega))) (fun p hp => zcnt_le h4.inv hp)
  have aM : ∀ d, d ≠ 10 → ¬ (t ≤ d ∧ d ≤ t + 3) → A.1 d = M1.1 d := fun d q1 q2 => by rw [a3 d (by omega) (by omega), o8 d q1 (by omega)]
  obtain ⟨E, e1, e2, e5⟩ := become_po (M := A) (t0 := 7) (t1 := 312 + 3 * k + 1) (fm := zFm z) (o := some p) rfl kp (by omega) (PoX_ag (M := M1) (show PoX (zFm z) M1 (312 + 3 * k + 1) (some p) from px) (aM _ (by omega) (by omega)) (aM _ (by omega) (by omega))) (fun q hq => by cases hq; exact hc)
  have p5 : PoY (zFm z) (sI M2 0 5 0) (zPl z) := PoY_ag h2.2.2.1 (by simp [sI]) (by rw [sI_off _ _ _ _ (by decide)])
  obtain ⟨u, P, p1, p2, p3, p4, p7, p8, p9, p10, p11⟩ := planActs_spec (M := sI M2 0 5 0) (n := h.length) (fm := zFm z) (o := zPl z) (by rw [show (sI M2 0 5 0).1 0 20 = M2.1 0 20 by simp [sI]]; exact h6) h3 p5 (fun p hp => zcnt_le h4.inv hp)
  obtain ⟨F, g1, g2, g3, g4⟩ := use_l2 (M := sI P 0 13 1) hk
  simp only [o1, oel, if_pos o2, a1, e1, Option.bind_some, f_X10_accept, p1, g1]
  refine ⟨_, _, rfl, rfl, rfl, ?_⟩
  have eM : ∀ d, d ≠ 7 → d ≠ 8 → d ≠ 10 → ¬ (t ≤ d ∧ d ≤ t + 3) → E.1 d = M1.1 d := fun d q1 q2 q3 q4 => by rw [e5 d q1 q2, aM d q3 q4]
  have F13 : F.1 13 = P.1 13 := by rw [g2 13 (by decide), sI_off _ _ _ _ (by decide)]
  have F0 : ∀ i, i ≠ 13 → F.1 0 i = P.1 0 i := fun i q => by rw [g2 0 (by decide), sI_1, if_neg (by omega)]
  refine plan_push (o := some p) (t := t) (u := u) hC hL hS ?_ ⟨o3, o4⟩ p2 ?_ ?_ ?_ ?_ ?_ ?_ ?_ ?_ ?_ ?_ ?_ ?_ ?_ ?_ ?_
  · refine ⟨h4.inv.1, h4.inv.2.1, fun q hq => ?_, h4.inv.2.2.2⟩
    have hq : q = p := (Option.some.inj hq).symm
    subst hq
    exact ⟨hok, psum_pos _ (fun q => hs0 (by rw [q]; rfl))⟩
  · rw [sI_1, if_neg (by decide), eM 0 (by omega) (by omega) (by omega) (by omega)]
  · rw [sI_1, if_neg (by decide), eM 0 (by omega) (by omega) (by omega) (by omega)]
  · intro d q1 q2 q3 q4 q5
    rw [sI_off _ _ _ _ q1]; exact eM d q2 q3 q4 q5
  · exact PoX_ag e2 (by rw [sI_off _ _ _ _ (by decide)]) (by rw [sI_off _ _ _ _ (by decide)])
  · rw [sI_off _ _ _ _ (by omega), e5 t (by omega) (by omega), a3 t (by omega) (by omega)]; exact o5
  · exact PoX_ag a2 (by rw [sI_off _ _ _ _ (by omega), e5 _ (by omega) (by omega)]) (by rw [sI_off _ _ _ _ (by omega), e5 _ (by omega) (by omega)])
  · intro e z' hun hA
    refine o9 _ ?_ ?_ h z z' e rfl f4 hun hA
    · rw [sI_off _ _ _ _ (by decide), e5 10 (by decide) (by decide), a3 10 (by omega) (by omega)]
    · intro d q1 q2 q3
      rw [sI_off _ _ _ _ (by omega), e5 d (by omega) (by omega), a3 d (by omega) (by omega)]
  · intro i q1 q2 q3 q4
    rw [F0 i q3, p9 i q1 q4, sI_1, if_neg (by omega)]
  · intro d q1 q2 q3
    rw [g2 d q2, sI_off _ _ _ _ q1, p10 d q1 q3, sI_off _ _ _ _ q1]
  · have e11 : (sI P 0 13 1).1 11 = M2.1 11 := by rw [sI_off _ _ _ _ (by decide), p10 11 (by decide) (by decide), sI_off _ _ _ _ (by decide)]
    refine ⟨?_, ?_, fun i hi => ?_⟩
    · rw [g2 0 (by decide), sI_1, if_pos ⟨rfl, rfl⟩]
    · have := g4 0 (by decide)
      rw [Nat.add_zero, e11] at this
      rw [this]; exact py.1
    · have := g4 (1 + i) (by omega)
      rw [e11, ← Nat.add_assoc, ← Nat.add_assoc] at this
      rw [this]; exact py.2 i hi
  · rw [F0 20 (by decide)]; exact p8
  · rw [F13]; exact p3
  · exact SvY_ag p4 F13
  · intro e z' hun hA
    exact p11 F (fun j hj => by rw [F13]) h z z' e rfl h4 (HY_ag (by rw [sI_off _ _ _ _ (by decide)]) h7) hun hA
  · rw [st_X, F0 4 (by decide), p7]
