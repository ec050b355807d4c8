/-! thin, both, join -/
theorem oel_some {γ : Type} (a : Nat) (x : γ) (f : Nat → γ) : oel (some a) x f = f a := rfl
theorem oel_none {γ : Type} (x : γ) (f : Nat → γ) : oel none x f = x := rfl
theorem QX_1 {M N : Mem} {f c : Nat} {q : Nat → Nat} (h : QX M f c q) (e : N.1 = M.1) : QX N f c q := by unfold QX at *; rw [e]; exact h
theorem QY_14 {M N : Mem} {f c : Nat} {q : Nat → Nat} (h : QY M f c q) (e : ∀ d, d ≠ 14 → N.1 d = M.1 d) : QY N f c q := QY_ag h (e 6 (by decide)) (e 7 (by decide))
theorem withinX {M : Mem} {m f c : Nat} {q : Nat → Nat} (hp : PS M m) (hx : QX M f c q) (hq : ∀ i, i < c → q i < 2 ^ m) (a : Int32) : ∃ N, f_X3_gatherWithin (264 + 2 * f) a M = some N ∧ GX M N (fun s => ∃ i, i < c ∧ (nI (q i) &&& (a ^^^ (-1 : Int32))) = 0 ∧ s = q i) := by
  have hc := hx.2.1
  have hm : 2 ^ m ≤ 65536 := p16 hp.2.1
  obtain ⟨N, e, g⟩ := loopGX (fun n v N => f_X3_gatherWithin_l1 (264 + 2 * f) a n v N) c (by omega) (fun i s => (nI (q i) &&& (a ^^^ (-1 : Int32))) = 0 ∧ s = q i) M (fun k N hN => by
      show f_X3_gatherWithin_l1 (264 + 2 * f) a (k + 1) (nI c) N = _
      rw [f_X3_gatherWithin_l1, hN, hx.2.2.1, if_pos (Int32.le_refl _)]) (fun k i N hi hN => by
      have hxN := QX_1 hx hN
      show ∃ N', _ ∧ f_X3_gatherWithin_l1 (264 + 2 * f) a (k + 1) (nI i) N = f_X3_gatherWithin_l1 (264 + 2 * f) a k (nI (i + 1)) N'
      rw [f_X3_gatherWithin_l1, hxN.2.2.1, if_neg (ifle_no hi (by omega)), if_pos (inB_nI (show i < 120 by omega) (by decide)), nI_clamp (by omega), hxN.2.2.2 i hi, nI_1]
      by_cases h0 : (nI (q i) &&& (a ^^^ (-1 : Int32))) = 0
      · obtain ⟨N', e, g⟩ := putG (PS.keep hp hN) (hq i hi)
        refine ⟨N', g.congr (fun s => ⟨fun q => ⟨h0, q⟩, fun q => q.2⟩), ?_⟩
        rw [if_pos h0, if_pos (inB_nI (show i < 120 by omega) (by decide)), e, Option.bind_some, Option.bind_some]
      · refine ⟨N, (GX.none N).congr (fun s => ⟨fun q => q.elim, fun q => h0 q.1⟩), ?_⟩
        rw [if_neg h0, Option.bind_some])
  refine ⟨N, ?_, g⟩
  have e : f_X3_gatherWithin_l1 (264 + 2 * f) a fuelN 0 M = some N := e
  unfold f_X3_gatherWithin
  rw [if_pos (kX_fam hx.1), e, Option.bind_some]
set_option maxRecDepth 10000 in
theorem step_thin : St_thin Rel := by
  intro a b M1 M2 H
  have Hn1 := Rel_no H 1
  have Hn4 := Rel_no H 4
  obtain ⟨z, h, hC, hL, hS, hs⟩ := id H
  obtain ⟨h1, h2, h3, h4, -⟩ := id hC
  have hI := h4.inv
  have hf := hI.2.1
  unfold f_X10_thin f_X11_thin
  rcases pk_ix a (n := zFn z) (by omega) with ha | ha | ⟨f, hfz, rfl⟩
  · rw [famAt_no h1.2.1.1 (Or.inl ha), isFam_no (by rw [fn5]; exact h2.2.1.1) hf.1 (Or.inl ha)]; exact ⟨_, _, rfl, rfl, rfl, Hn1⟩
  · rw [famAt_no h1.2.1.1 (Or.inr ha), isFam_no (by rw [fn5]; exact h2.2.1.1) hf.1 (Or.inr ha)]; exact ⟨_, _, rfl, rfl, rfl, Hn1⟩
  rw [famAt_yes h1.2.1.1 hf.1 hfz, isFam_yes (by rw [fn5]; exact h2.2.1.1) hf.1 hfz]
  obtain ⟨-, c1, c2, c3⟩ := hf.2 f hfz
  have hq16 : ∀ i, i < zCnt (zFm z) f → zSet (zFm z) f i < 65536 := fun i hi => by
    have := (c3 i hi).2
    have := p16 hI.1.1
    omega
  have qx := QX_of hI h1.2.1 hfz
  have qy := QY_of hI h2.2.1 hfz
  simp only [Option.bind_some, oel, if_pos (kX_fam qx.1), if_neg one_ne, h2.2.1.1]
  by_cases hfn : zFn z < 24
  · rw [room_yes h1.2.1.1 hfn, Option.bind_some, if_neg one_ne, if_neg (fn_ne hfn)]
    obtain ⟨B0, b1, b2, b3⟩ := noSetsY (sI M2 0 5 0)
    have kB0 : KeepY M2 B0 := (k5 M2).trans (keepY_14 b2)
    have qyB := QY_k qy kB0
    have HH := loop_go (F := fun n v (s : Int32 × Mem) => f_X11_thin_l1 (nI f) b n s.1 v s.2) (zCnt (zFm z) f) (by omega)
      (fun i s => GY B0 s.2 (fun t => ∃ j, j < i ∧ (nI (zSet (zFm z) f j) &&& (b ^^^ (-1 : Int32))) = 0 ∧ t = zSet (zFm z) f j) ∧ ((s.1 = 1 ∧ ∃ j, j < i ∧ (nI (zSet (zFm z) f j) &&& (b ^^^ (-1 : Int32))) = 0) ∨ (s.1 = 0 ∧ ∀ j, j < i → ¬ (nI (zSet (zFm z) f j) &&& (b ^^^ (-1 : Int32))) = 0)))
      (fun s => GY B0 s.2 (fun t => ∃ j, j < zCnt (zFm z) f ∧ (nI (zSet (zFm z) f j) &&& (b ^^^ (-1 : Int32))) = 0 ∧ t = zSet (zFm z) f j) ∧ ((s.1 = 1 ∧ ∃ j, j < zCnt (zFm z) f ∧ (nI (zSet (zFm z) f j) &&& (b ^^^ (-1 : Int32))) = 0) ∨ (s.1 = 0 ∧ ∀ j, j < zCnt (zFm z) f → ¬ (nI (zSet (zFm z) f j) &&& (b ^^^ (-1 : Int32))) = 0)))
      (fun n s hs => ⟨s, by
        show f_X11_thin_l1 (nI f) b (n + 1) s.1 (nI (zCnt (zFm z) f)) s.2 = _
        rw [f_X11_thin_l1, if_pos (inB_nI qy.1 (by decide)), nI_clamp (show f < 2 ^ 31 by omega), (QY_14 qyB hs.1.1).2.2.1, if_pos (Int32.le_refl _)], hs⟩)
      (fun n i s hi hs => by
        left
        have qyN := QY_14 qyB hs.1.1
        show ∃ s' : Int32 × Mem, _ ∧ f_X11_thin_l1 (nI f) b (n + 1) s.1 (nI i) s.2 = f_X11_thin_l1 (nI f) b n s'.1 (nI (i + 1)) s'.2
        rw [f_X11_thin_l1, if_pos (inB_nI qy.1 (by decide)), nI_clamp (show f < 2 ^ 31 by omega), qyN.2.2.1, if_neg (ifle_no hi (by omega)), qyN.at hi, Option.bind_some, Option.bind_some, nI_1]
        by_cases h0 : (nI (zSet (zFm z) f i) &&& (b ^^^ (-1 : Int32))) = 0
        · refine ⟨(1, sI s.2 14 (zSet (zFm z) f i) 1), ⟨(hs.1.trans (markG s.2 (zSet (zFm z) f i))).congr (fun t => ?_), Or.inl ⟨rfl, i, by omega, h0⟩⟩, ?_⟩
          · constructor
            · rintro (⟨j, j1, j2⟩ | q)
              · exact ⟨j, by omega, j2⟩
              · exact ⟨i, by omega, h0, q⟩
            · rintro ⟨j, j1, j2, j3⟩
              by_cases e : j = i
              · rw [e] at j3; exact Or.inr j3
              · exact Or.inl ⟨j, by omega, j2, j3⟩
          · rw [if_pos h0, if_pos (inB_nI (hq16 i hi) (by decide)), nI_clamp (by have := hq16 i hi; omega), Option.bind_some]
        · refine ⟨s, ⟨hs.1.congr (fun t => ?_), ?_⟩, ?_⟩
          · constructor
            · rintro ⟨j, j1, j2⟩; exact ⟨j, by omega, j2⟩
            · rintro ⟨j, j1, j2, j3⟩
              by_cases e : j = i
              · rw [e] at j2; exact absurd j2 h0
              · exact ⟨j, by omega, j2, j3⟩
          · rcases hs.2 with ⟨q1, j, j1, j2⟩ | ⟨q1, q2⟩
            · exact Or.inl ⟨q1, j, by omega, j2⟩
            · refine Or.inr ⟨q1, fun j hj => ?_⟩
              by_cases e : j = i
              · rw [e]; exact h0
              · exact q2 j (by omega)
          · rw [if_neg h0, Option.bind_some]) 0 (0, B0) (by omega) ⟨(GY.none B0).congr (fun s => ⟨fun q => q.elim, fun ⟨j, hj, _⟩ => by omega⟩), Or.inr ⟨rfl, fun j hj => by omega⟩⟩
    obtain ⟨⟨fl, B⟩, b4, b5, b6⟩ := HH
    have b4 : f_X11_thin_l1 (nI f) b fuelN 0 0 B0 = some (fl, B) := b4
    dsimp only at b5 b6
    have kB : KeepY M2 B := kB0.trans (keepY_14 b5.1)
    obtain ⟨r, e, hr⟩ := has_some qy b
    rw [b1, Option.bind_some, b4, Option.bind_some, held_eq qx qy, e, Option.bind_some]
    rcases hr with ⟨rfl, i, hi, h0⟩ | ⟨rfl, hno⟩
    · have hfl : fl = 1 := by
        rcases b6 with ⟨q, -⟩ | ⟨-, q⟩
        · exact q
        · exact absurd h0 (q i hi)
      subst hfl
      obtain ⟨A0, a1, a2, a3, a4, a5⟩ := begun hI.1.1 h1.1.1
      obtain ⟨A, a6, a7⟩ := withinX a2 (QX_k qx a4) (fun i hi => k2m (c3 i hi).2) b
      obtain ⟨r, N1, N2, e1, e2, hR⟩ := fin (kd := 8) hC hL hS hfn (by omega) (a4.trans a7.keep) (PS.keep a2 a7.1) (gotX a5 a7) kB (gotY b3 b5) (fun s ⟨i, hi, _, e⟩ => by rw [e]; exact c3 i hi) ⟨_, i, hi, h0, rfl⟩
      rw [if_neg one_ne, if_neg one_ne, a1, Option.bind_some, a6, Option.bind_some, show (8 : Int32) = nI 8 from rfl, e1, e2]
      exact ⟨_, _, rfl, rfl, rfl, hR⟩
    · have hfl : fl = 0 := by
        rcases b6 with ⟨-, j, j1, j2⟩ | ⟨q, -⟩
        · exact absurd j2 (hno j j1)
        · exact q
      subst hfl
      rw [if_pos rfl, if_pos rfl]
      refine ⟨_, _, rfl, rfl, rfl, ?_⟩
      exact Rel_keep H (keepX_st _ _) (kB.trans (keepY_f _ _ (by omega))) (by rw [st_X, st_Y])
  · have h24 : zFn z = 24 := by omega
    rw [room_no (by rw [h1.2.1.1, h24]), h24]
    rw [if_pos (show nI 24 = (24 : Int32) from rfl)]
    exact ⟨_, _, rfl, rfl, rfl, Hn4⟩
theorem eachX {M : Mem} {m g d a : Nat} {q : Nat → Nat} (hp : PS M m) (hx : QX M g d q) (hq : ∀ j, j < d → a ||| q j < 2 ^ m) : ∃ N, f_X3_putWithEach (nI a) (264 + 2 * g) M = some N ∧ GX M N (fun s => ∃ j, j < d ∧ s = a ||| q j) := by
  have hc := hx.2.1
  obtain ⟨N, e, g'⟩ := loopGX (fun n v N => f_X3_putWithEach_l1 (nI a) (264 + 2 * g) n v N) d (by omega) (fun j s => s = a ||| q j) M (fun k N hN => by
      show f_X3_putWithEach_l1 (nI a) (264 + 2 * g) (k + 1) (nI d) N = _
      rw [f_X3_putWithEach_l1, hN, hx.2.2.1, if_pos (Int32.le_refl _)]) (fun k i N hi hN => by
      have hxN := QX_1 hx hN
      obtain ⟨N', e, g'⟩ := putG (PS.keep hp hN) (hq i hi)
      refine ⟨N', g', ?_⟩
      show f_X3_putWithEach_l1 (nI a) (264 + 2 * g) (k + 1) (nI i) N = f_X3_putWithEach_l1 (nI a) (264 + 2 * g) k (nI (i + 1)) N'
      rw [f_X3_putWithEach_l1, hxN.2.2.1, if_neg (ifle_no hi (by omega)), if_pos (inB_nI (show i < 120 by omega) (by decide)), nI_clamp (by omega), hxN.2.2.2 i hi, nx_or, e, Option.bind_some, nI_1])
  refine ⟨N, ?_, g'⟩
  have e : f_X3_putWithEach_l1 (nI a) (264 + 2 * g) fuelN 0 M = some N := e
  unfold f_X3_putWithEach
  rw [if_pos (kX_fam hx.1), e, Option.bind_some]
theorem bothX {M : Mem} {m f g c d : Nat} {p q : Nat → Nat} (hp : PS M m) (fx : QX M f c p) (gx : QX M g d q) (h1 : ∀ i, i < c → p i < 2 ^ m) (h2 : ∀ j, j < d → q j < 2 ^ m) : ∃ N, f_X3_gatherBoth (264 + 2 * f) (264 + 2 * g) M = some N ∧ GX M N (fun s => ∃ i, i < c ∧ ∃ j, j < d ∧ s = p i ||| q j) := by
  have hc := fx.2.1
  obtain ⟨N, e, g'⟩ := loopGX (fun n v N => f_X3_gatherBoth_l1 (264 + 2 * f) (264 + 2 * g) n v N) c (by omega) (fun i s => ∃ j, j < d ∧ s = p i ||| q j) M (fun k N hN => by
      show f_X3_gatherBoth_l1 (264 + 2 * f) (264 + 2 * g) (k + 1) (nI c) N = _
      rw [f_X3_gatherBoth_l1, hN, fx.2.2.1, if_pos (Int32.le_refl _)]) (fun k i N hi hN => by
      have fN := QX_1 fx hN
      obtain ⟨N', e, g'⟩ := eachX (PS.keep hp hN) (QX_1 gx hN) (a := p i) (fun j hj => Nat.or_lt_two_pow (h1 i hi) (h2 j hj))
      refine ⟨N', g', ?_⟩
      show f_X3_gatherBoth_l1 (264 + 2 * f) (264 + 2 * g) (k + 1) (nI i) N = f_X3_gatherBoth_l1 (264 + 2 * f) (264 + 2 * g) k (nI (i + 1)) N'
      rw [f_X3_gatherBoth_l1, fN.2.2.1, if_neg (ifle_no hi (by omega)), if_pos (inB_nI (show i < 120 by omega) (by decide)), nI_clamp (by omega), fN.2.2.2 i hi, e, Option.bind_some, nI_1])
  refine ⟨N, ?_, g'⟩
  have e : f_X3_gatherBoth_l1 (264 + 2 * f) (264 + 2 * g) fuelN 0 M = some N := e
  unfold f_X3_gatherBoth
  rw [if_pos (kX_fam fx.1), if_pos (kX_fam gx.1), e, Option.bind_some]
theorem bothY2 {M : Mem} {f g c d i : Nat} {p q : Nat → Nat} (fy : QY M f c p) (gy : QY M g d q) (hi : i < c) (h : ∀ j, j < d → p i ||| q j < 65536) : ∃ N, f_X11_both_l2 (nI f) (nI g) (nI i) fuelN 0 M = some N ∧ GY M N (fun s => ∃ j, j < d ∧ s = p i ||| q j) := by
  have hd := gy.2.1
  have hg := gy.1
  exact loopGY (fun n v N => f_X11_both_l2 (nI f) (nI g) (nI i) n v N) d (by omega) (fun j s => s = p i ||| q j) M (fun k N hN => by
      show f_X11_both_l2 (nI f) (nI g) (nI i) (k + 1) (nI d) N = _
      rw [f_X11_both_l2, if_pos (inB_nI hg (by decide)), nI_clamp (by omega), (QY_14 gy hN).2.2.1, if_pos (Int32.le_refl _)]) (fun k j N hj hN => by
      refine ⟨_, markG N (p i ||| q j), ?_⟩
      show f_X11_both_l2 (nI f) (nI g) (nI i) (k + 1) (nI j) N = f_X11_both_l2 (nI f) (nI g) (nI i) k (nI (j + 1)) _
      rw [f_X11_both_l2, if_pos (inB_nI hg (by decide)), nI_clamp (by omega), (QY_14 gy hN).2.2.1, if_neg (ifle_no hj (by omega)), (QY_14 fy hN).at hi, (QY_14 gy hN).at hj, Option.bind_some, Option.bind_some, nx_or, if_pos (inB_nI (h j hj) (by decide)), nI_clamp (by have := h j hj; omega), nI_1])
theorem bothY {M : Mem} {f g c d : Nat} {p q : Nat → Nat} (fy : QY M f c p) (gy : QY M g d q) (h : ∀ i j, i < c → j < d → p i ||| q j < 65536) : ∃ N, f_X11_both_l1 (nI f) (nI g) fuelN 0 M = some N ∧ GY M N (fun s => ∃ i, i < c ∧ ∃ j, j < d ∧ s = p i ||| q j) := by
  have hc := fy.2.1
  have hf := fy.1
  exact loopGY (fun n v N => f_X11_both_l1 (nI f) (nI g) n v N) c (by omega) (fun i s => ∃ j, j < d ∧ s = p i ||| q j) M (fun k N hN => by
      show f_X11_both_l1 (nI f) (nI g) (k + 1) (nI c) N = _
      rw [f_X11_both_l1, if_pos (inB_nI hf (by decide)), nI_clamp (by omega), (QY_14 fy hN).2.2.1, if_pos (Int32.le_refl _)]) (fun k i N hi hN => by
      obtain ⟨N', e, g'⟩ := bothY2 (QY_14 fy hN) (QY_14 gy hN) hi (fun j hj => h i j hi hj)
      refine ⟨N', g', ?_⟩
      show f_X11_both_l1 (nI f) (nI g) (k + 1) (nI i) N = f_X11_both_l1 (nI f) (nI g) k (nI (i + 1)) N'
      rw [f_X11_both_l1, if_pos (inB_nI hf (by decide)), nI_clamp (by omega), (QY_14 fy hN).2.2.1, if_neg (ifle_no hi (by omega)), e, Option.bind_some, nI_1])
set_option maxRecDepth 10000 in
theorem step_both : St_both Rel := by
  intro a b M1 M2 H
  have Hn := Rel_no H 1
  obtain ⟨z, h, hC, hL, hS, hs⟩ := id H
  obtain ⟨h1, h2, h3, h4, -⟩ := id hC
  have hI := h4.inv
  have hf := hI.2.1
  have h5 : (sI M2 0 5 0).1 0 11 = nI (zFn z) := by rw [fn5]; exact h2.2.1.1
  unfold f_X10_both f_X11_both
  have famb : ∃ o, f_X10_familyAt b M1 = some o := by
    rcases pk_ix b (n := zFn z) (by omega) with hb | hb | ⟨g, hgz, rfl⟩
    · exact ⟨_, famAt_no h1.2.1.1 (Or.inl hb)⟩
    · exact ⟨_, famAt_no h1.2.1.1 (Or.inr hb)⟩
    · exact ⟨_, famAt_yes h1.2.1.1 hf.1 hgz⟩
  rcases pk_ix a (n := zFn z) (by omega) with ha | ha | ⟨f, hfz, rfl⟩
  · obtain ⟨o, eo⟩ := famb
    rw [famAt_no h1.2.1.1 (Or.inl ha), isFam_no h5 hf.1 (Or.inl ha), eo]; exact ⟨_, _, rfl, rfl, rfl, Hn⟩
  · obtain ⟨o, eo⟩ := famb
    rw [famAt_no h1.2.1.1 (Or.inr ha), isFam_no h5 hf.1 (Or.inr ha), eo]; exact ⟨_, _, rfl, rfl, rfl, Hn⟩
  rw [famAt_yes h1.2.1.1 hf.1 hfz, isFam_yes h5 hf.1 hfz]
  have qx := QX_of hI h1.2.1 hfz
  have qy := QY_of hI h2.2.1 hfz
  rcases pk_ix b (n := zFn z) (by omega) with hb | hb | ⟨g, hgz, rfl⟩
  · rw [famAt_no h1.2.1.1 (Or.inl hb), isFam_no h5 hf.1 (Or.inl hb)]
    rw [Option.bind_some, Option.bind_some, oel_some, if_pos (kX_fam qx.1), oel_none, Option.bind_some, if_neg one_ne]
    exact ⟨_, _, rfl, rfl, rfl, Hn⟩
  · rw [famAt_no h1.2.1.1 (Or.inr hb), isFam_no h5 hf.1 (Or.inr hb)]
    rw [Option.bind_some, Option.bind_some, oel_some, if_pos (kX_fam qx.1), oel_none, Option.bind_some, if_neg one_ne]
    exact ⟨_, _, rfl, rfl, rfl, Hn⟩
  rw [famAt_yes h1.2.1.1 hf.1 hgz, isFam_yes h5 hf.1 hgz]
  have rx := QX_of hI h1.2.1 hgz
  have ry := QY_of hI h2.2.1 hgz
  obtain ⟨-, c1, c2, c3⟩ := hf.2 f hfz
  obtain ⟨-, d1, d2, d3⟩ := hf.2 g hgz
  have hpk := p16 hI.1.1
  have hor : ∀ i j, i < zCnt (zFm z) f → j < zCnt (zFm z) g → zSet (zFm z) f i ||| zSet (zFm z) g j < 2 ^ zKn z := fun i j hi hj => Nat.or_lt_two_pow (c3 i hi).2 (d3 j hj).2
  rw [Option.bind_some, Option.bind_some, oel_some, if_pos (kX_fam qx.1), oel_some, if_pos (kX_fam rx.1), Option.bind_some, if_neg one_ne, Option.bind_some, if_neg one_ne]
  obtain ⟨B0, b1, b2, b3⟩ := noSetsY (sI M2 0 5 0)
  have kB0 : KeepY M2 B0 := (k5 M2).trans (keepY_14 b2)
  obtain ⟨B, b4, b5⟩ := bothY (QY_k qy kB0) (QY_k ry kB0) (fun i j hi hj => by have := hor i j hi hj; omega)
  have kB : KeepY M2 B := kB0.trans (keepY_14 b5.1)
  rw [b1, Option.bind_some, b4, Option.bind_some]
  by_cases hfn : zFn z < 24
  · obtain ⟨A0, a1, a2, a3, a4, a5⟩ := begun hI.1.1 h1.1.1
    obtain ⟨A, a6, a7⟩ := bothX a2 (QX_k qx a4) (QX_k rx a4) (fun i hi => k2m (c3 i hi).2) (fun i hi => k2m (d3 i hi).2)
    obtain ⟨r, N1, N2, e1, e2, hR⟩ := fin (kd := 9) hC hL hS hfn (by omega) (a4.trans a7.keep) (PS.keep a2 a7.1) (gotX a5 a7) kB (gotY b3 b5) (fun s ⟨i, hi, j, hj, e⟩ => by
      rw [e]
      refine ⟨?_, hor i j hi hj⟩
      have := (c3 i hi).1
      exact Nat.le_trans this Nat.left_le_or) ⟨_, 0, c1, 0, d1, rfl⟩
    rw [room_yes h1.2.1.1 hfn, Option.bind_some, if_neg one_ne, a1, Option.bind_some, a6, Option.bind_some, show (9 : Int32) = nI 9 from rfl, e1, e2]
    exact ⟨_, _, rfl, rfl, rfl, hR⟩
  · have h24 : zFn z = 24 := by omega
    obtain ⟨e2, hR⟩ := full H kB (by rw [h2.2.1.1, h24]) 9
    rw [room_no (by rw [h1.2.1.1, h24]), e2]
    exact ⟨_, _, rfl, rfl, rfl, hR⟩
/-! join -/
theorem and_cut {q p : Nat} (hp : p < 31) (h : q.testBit p = true) : nI q &&& (nI (2 ^ p) ^^^ (-1 : Int32)) = nI (q - 2 ^ p) := by
  refine b_ext (fun i hi => ?_)
  rw [b_and, b_xor, b_m1 i hi, Bool.xor_true]
  unfold bt
  rw [tb32 hi, tb32 hi, tb32 hi, tb_sub h, Nat.testBit_two_pow]
  by_cases e : p = i
  · subst e; simp
  · simp [e, Ne.symm e]
/-- what one set gives when a keeper's place is taken by a family -/
def Jn (p d : Nat) (q : Nat → Nat) (x s : Nat) : Prop := (x.testBit p = false ∧ s = x) ∨ (x.testBit p = true ∧ ∃ j, j < d ∧ s = (x - 2 ^ p) ||| q j)
theorem joinX {M : Mem} {m f g c d k : Nat} {p q : Nat → Nat} (hp : PS M m) (hk : k < 16) (fx : QX M f c p) (gx : QX M g d q) (h1 : ∀ i, i < c → p i < 2 ^ m) (h2 : ∀ j, j < d → q j < 2 ^ m) : ∃ N, f_X3_gatherJoin (264 + 2 * f) (nI k) (264 + 2 * g) M = some N ∧ GX M N (fun s => ∃ i, i < c ∧ Jn k d q (p i) s) := by
  have hc := fx.2.1
  have hm : 2 ^ m ≤ 65536 := p16 hp.2.1
  obtain ⟨N, e, g'⟩ := loopGX (fun n v N => f_X3_gatherJoin_l1 (264 + 2 * f) (264 + 2 * g) (nI (2 ^ k)) n v N) c (by omega) (fun i s => Jn k d q (p i) s) M (fun x N hN => by
      show f_X3_gatherJoin_l1 (264 + 2 * f) (264 + 2 * g) (nI (2 ^ k)) (x + 1) (nI c) N = _
      rw [f_X3_gatherJoin_l1, hN, fx.2.2.1, if_pos (Int32.le_refl _)]) (fun x i N hi hN => by
      have fN := QX_1 fx hN
      have hpi := h1 i hi
      show ∃ N', _ ∧ f_X3_gatherJoin_l1 (264 + 2 * f) (264 + 2 * g) (nI (2 ^ k)) (x + 1) (nI i) N = f_X3_gatherJoin_l1 (264 + 2 * f) (264 + 2 * g) (nI (2 ^ k)) x (nI (i + 1)) N'
      rw [f_X3_gatherJoin_l1, fN.2.2.1, if_neg (ifle_no hi (by omega)), if_pos (inB_nI (show i < 120 by omega) (by decide)), nI_clamp (by omega), fN.2.2.2 i hi, nI_1]
      cases hb : (p i).testBit k with
      | false =>
        obtain ⟨N', e, g'⟩ := putG (PS.keep hp hN) hpi
        refine ⟨N', g'.congr (fun s => ⟨fun q => Or.inl ⟨hb, q⟩, fun q => ?_⟩), ?_⟩
        · rcases q with q | q
          · exact q.2
          · rw [hb] at q; cases q.1
        · rw [if_pos ((and_p2 (by omega)).mpr hb), if_pos (inB_nI (show i < 120 by omega) (by decide)), e, Option.bind_some, Option.bind_some]
      | true =>
        obtain ⟨N', e, g'⟩ := eachX (PS.keep hp hN) (QX_1 gx hN) (a := p i - 2 ^ k) (fun j hj => Nat.or_lt_two_pow (sub_lt' hpi) (h2 j hj))
        refine ⟨N', g'.congr (fun s => ⟨fun q => Or.inr ⟨hb, q⟩, fun q => ?_⟩), ?_⟩
        · rcases q with q | q
          · rw [hb] at q; cases q.1
          · exact q.2
        · rw [if_neg (fun q => by rw [(and_p2 (by omega)).mp q] at hb; cases hb), if_pos (inB_nI (show i < 120 by omega) (by decide)), and_cut (by omega) hb, e, Option.bind_some, Option.bind_some])
  refine ⟨N, ?_, g'⟩
  have e : f_X3_gatherJoin_l1 (264 + 2 * f) (264 + 2 * g) (nI (2 ^ k)) fuelN 0 M = some N := e
  unfold f_X3_gatherJoin
  rw [if_pos (kX_fam fx.1), if_pos (kX_fam gx.1), one_shl k (by omega), e, Option.bind_some]
theorem joinY2 {M : Mem} {f g d k i x : Nat} {q : Nat → Nat} (gy : QY M g d q) (hk : k < 16) (hb : x.testBit k = true) (h : ∀ j, j < d → (x - 2 ^ k) ||| q j < 65536) : ∃ N, f_X11_join_l2 (nI f) (nI g) (nI (2 ^ k)) (nI i) (nI x) fuelN 0 M = some N ∧ GY M N (fun s => ∃ j, j < d ∧ s = (x - 2 ^ k) ||| q j) := by
  have hd := gy.2.1
  have hg := gy.1
  exact loopGY (fun n v N => f_X11_join_l2 (nI f) (nI g) (nI (2 ^ k)) (nI i) (nI x) n v N) d (by omega) (fun j s => s = (x - 2 ^ k) ||| q j) M (fun y N hN => by
      show f_X11_join_l2 (nI f) (nI g) (nI (2 ^ k)) (nI i) (nI x) (y + 1) (nI d) N = _
      rw [f_X11_join_l2, if_pos (inB_nI hg (by decide)), nI_clamp (by omega), (QY_14 gy hN).2.2.1, if_pos (Int32.le_refl _)]) (fun y j N hj hN => by
      refine ⟨_, markG N ((x - 2 ^ k) ||| q j), ?_⟩
      show f_X11_join_l2 (nI f) (nI g) (nI (2 ^ k)) (nI i) (nI x) (y + 1) (nI j) N = f_X11_join_l2 (nI f) (nI g) (nI (2 ^ k)) (nI i) (nI x) y (nI (j + 1)) _
      rw [f_X11_join_l2, if_pos (inB_nI hg (by decide)), nI_clamp (by omega), (QY_14 gy hN).2.2.1, if_neg (ifle_no hj (by omega)), (QY_14 gy hN).at hj, Option.bind_some, and_cut (by omega) hb, nx_or, if_pos (inB_nI (h j hj) (by decide)), nI_clamp (by have := h j hj; omega), nI_1])
theorem joinY {M : Mem} {f g c d k : Nat} {p q : Nat → Nat} (fy : QY M f c p) (gy : QY M g d q) (hk : k < 16) (h1 : ∀ i, i < c → p i < 65536) (h2 : ∀ j, j < d → q j < 65536) : ∃ N, f_X11_join_l1 (nI f) (nI g) (nI (2 ^ k)) fuelN 0 M = some N ∧ GY M N (fun s => ∃ i, i < c ∧ Jn k d q (p i) s) := by
  have hc := fy.2.1
  have hf := fy.1
  exact loopGY (fun n v N => f_X11_join_l1 (nI f) (nI g) (nI (2 ^ k)) n v N) c (by omega) (fun i s => Jn k d q (p i) s) M (fun x N hN => by
      show f_X11_join_l1 (nI f) (nI g) (nI (2 ^ k)) (x + 1) (nI c) N = _
      rw [f_X11_join_l1, if_pos (inB_nI hf (by decide)), nI_clamp (by omega), (QY_14 fy hN).2.2.1, if_pos (Int32.le_refl _)]) (fun x i N hi hN => by
      have hpi := h1 i hi
      show ∃ N', _ ∧ f_X11_join_l1 (nI f) (nI g) (nI (2 ^ k)) (x + 1) (nI i) N = f_X11_join_l1 (nI f) (nI g) (nI (2 ^ k)) x (nI (i + 1)) N'
      rw [f_X11_join_l1, if_pos (inB_nI hf (by decide)), nI_clamp (show f < 2 ^ 31 by omega), (QY_14 fy hN).2.2.1, if_neg (ifle_no hi (by omega)), (QY_14 fy hN).at hi, Option.bind_some, nI_1]
      cases hb : (p i).testBit k with
      | false =>
        refine ⟨_, (markG N (p i)).congr (fun s => ⟨fun q => Or.inl ⟨hb, q⟩, fun q => ?_⟩), ?_⟩
        · rcases q with q | q
          · exact q.2
          · rw [hb] at q; cases q.1
        · rw [if_pos ((and_p2 (by omega)).mpr hb), if_pos (inB_nI hpi (by decide)), nI_clamp (by omega), Option.bind_some]
      | true =>
        obtain ⟨N', e, g'⟩ := joinY2 (f := f) (i := i) (QY_14 gy hN) hk hb (fun j hj => Nat.or_lt_two_pow (n := 16) (sub_lt' hpi) (h2 j hj))
        refine ⟨N', g'.congr (fun s => ⟨fun q => Or.inr ⟨hb, q⟩, fun q => ?_⟩), ?_⟩
        · rcases q with q | q
          · rw [hb] at q; cases q.1
          · exact q.2
        · rw [if_neg (fun q => by rw [(and_p2 (by omega)).mp q] at hb; cases hb), e, Option.bind_some, Option.bind_some])
theorem Jn_ex {k d x : Nat} {q : Nat → Nat} (hd : 1 ≤ d) : ∃ s, Jn k d q x s := by
  cases hb : x.testBit k with
  | false => exact ⟨x, Or.inl ⟨hb, rfl⟩⟩
  | true => exact ⟨_, Or.inr ⟨hb, 0, hd, rfl⟩⟩
theorem Jn_ok {k d x s m : Nat} {q : Nat → Nat} (h : Jn k d q x s) (hx : 1 ≤ x ∧ x < 2 ^ m) (hq : ∀ j, j < d → 1 ≤ q j ∧ q j < 2 ^ m) : 1 ≤ s ∧ s < 2 ^ m := by
  rcases h with ⟨-, rfl⟩ | ⟨-, j, hj, rfl⟩
  · exact hx
  · refine ⟨Nat.le_trans (hq j hj).1 Nat.right_le_or, Nat.or_lt_two_pow (sub_lt' hx.2) (hq j hj).2⟩
set_option maxRecDepth 10000 in
theorem step_join : St_join Rel := by
  intro a k0 b M1 M2 H
  have Hn := Rel_no H 1
  obtain ⟨z, h, hC, hL, hS, hs⟩ := id H
  obtain ⟨h1, h2, h3, h4, -⟩ := id hC
  have hI := h4.inv
  have hf := hI.2.1
  have h5 : (sI M2 0 5 0).1 0 11 = nI (zFn z) := by rw [fn5]; exact h2.2.1.1
  unfold f_X10_join f_X11_join
  have famb : ∃ o, f_X10_familyAt b M1 = some o := by
    rcases pk_ix b (n := zFn z) (by omega) with hb | hb | ⟨g, hgz, rfl⟩
    · exact ⟨_, famAt_no h1.2.1.1 (Or.inl hb)⟩
    · exact ⟨_, famAt_no h1.2.1.1 (Or.inr hb)⟩
    · exact ⟨_, famAt_yes h1.2.1.1 hf.1 hgz⟩
  rcases pk_ix a (n := zFn z) (by omega) with ha | ha | ⟨f, hfz, rfl⟩
  · obtain ⟨o, eo⟩ := famb
    rw [famAt_no h1.2.1.1 (Or.inl ha), isFam_no h5 hf.1 (Or.inl ha), eo]; exact ⟨_, _, rfl, rfl, rfl, Hn⟩
  · obtain ⟨o, eo⟩ := famb
    rw [famAt_no h1.2.1.1 (Or.inr ha), isFam_no h5 hf.1 (Or.inr ha), eo]; exact ⟨_, _, rfl, rfl, rfl, Hn⟩
  rw [famAt_yes h1.2.1.1 hf.1 hfz, isFam_yes h5 hf.1 hfz]
  have qx := QX_of hI h1.2.1 hfz
  have qy := QY_of hI h2.2.1 hfz
  rcases pk_ix b (n := zFn z) (by omega) with hb | hb | ⟨g, hgz, rfl⟩
  · rw [famAt_no h1.2.1.1 (Or.inl hb), isFam_no h5 hf.1 (Or.inl hb)]
    rw [Option.bind_some, Option.bind_some, oel_some, if_pos (kX_fam qx.1), oel_none, Option.bind_some, if_neg one_ne]
    exact ⟨_, _, rfl, rfl, rfl, Hn⟩
  · rw [famAt_no h1.2.1.1 (Or.inr hb), isFam_no h5 hf.1 (Or.inr hb)]
    rw [Option.bind_some, Option.bind_some, oel_some, if_pos (kX_fam qx.1), oel_none, Option.bind_some, if_neg one_ne]
    exact ⟨_, _, rfl, rfl, rfl, Hn⟩
  rw [famAt_yes h1.2.1.1 hf.1 hgz, isFam_yes h5 hf.1 hgz]
  have rx := QX_of hI h1.2.1 hgz
  have ry := QY_of hI h2.2.1 hgz
  obtain ⟨-, c1, c2, c3⟩ := hf.2 f hfz
  obtain ⟨-, d1, d2, d3⟩ := hf.2 g hgz
  have hpk := p16 hI.1.1
  rw [Option.bind_some, Option.bind_some, oel_some, if_pos (kX_fam qx.1), oel_some, if_pos (kX_fam rx.1), Option.bind_some, if_neg one_ne, Option.bind_some, if_neg one_ne, h2.1.1]
  rcases pk_ix k0 (n := zKn z) (by have := hI.1.1; omega) with hk | hk | ⟨k, hk, rfl⟩
  · rw [isThere_no h1.1.1 (Or.inl hk), in_no (by have := hI.1.1; omega) (Or.inl hk)]; exact ⟨_, _, rfl, rfl, rfl, Hn⟩
  · rw [isThere_no h1.1.1 (Or.inr hk), in_no (by have := hI.1.1; omega) (Or.inr hk)]; exact ⟨_, _, rfl, rfl, rfl, Hn⟩
  have hk16 : k < 16 := by have := hI.1.1; omega
  rw [isThere_yes h1.1.1 hI.1.1 hk, in_yes hk (by have := hI.1.1; omega), Option.bind_some, Option.bind_some, if_neg one_ne, if_neg one_ne]
  obtain ⟨B0, b1, b2, b3⟩ := noSetsY (sI M2 0 5 0)
  have kB0 : KeepY M2 B0 := (k5 M2).trans (keepY_14 b2)
  obtain ⟨B, b4, b5⟩ := joinY (k := k) (QY_k qy kB0) (QY_k ry kB0) hk16 (fun i hi => by have := (c3 i hi).2; omega) (fun i hi => by have := (d3 i hi).2; omega)
  have kB : KeepY M2 B := kB0.trans (keepY_14 b5.1)
  rw [b1, Option.bind_some, one_shl k (by omega), b4, Option.bind_some]
  by_cases hfn : zFn z < 24
  · obtain ⟨A0, a1, a2, a3, a4, a5⟩ := begun hI.1.1 h1.1.1
    obtain ⟨A, a6, a7⟩ := joinX (k := k) a2 hk16 (QX_k qx a4) (QX_k rx a4) (fun i hi => k2m (c3 i hi).2) (fun i hi => k2m (d3 i hi).2)
    obtain ⟨s0, hs0⟩ := Jn_ex (k := k) (x := zSet (zFm z) f 0) (q := zSet (zFm z) g) d1
    obtain ⟨r, N1, N2, e1, e2, hR⟩ := fin (kd := 6) hC hL hS hfn (by omega) (a4.trans a7.keep) (PS.keep a2 a7.1) (gotX a5 a7) kB (gotY b3 b5) (fun s ⟨i, hi, hj⟩ => Jn_ok hj (c3 i hi) d3) ⟨s0, 0, c1, hs0⟩
    rw [room_yes h1.2.1.1 hfn, Option.bind_some, if_neg one_ne, a1, Option.bind_some, a6, Option.bind_some, show (6 : Int32) = nI 6 from rfl, e1, e2]
    exact ⟨_, _, rfl, rfl, rfl, hR⟩
  · have h24 : zFn z = 24 := by omega
    obtain ⟨e2, hR⟩ := full H kB (by rw [h2.2.1.1, h24]) 6
    rw [room_no (by rw [h1.2.1.1, h24]), e2]
    exact ⟨_, _, rfl, rfl, rfl, hR⟩
