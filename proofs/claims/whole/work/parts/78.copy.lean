theorem sub_toInt2 {a b : Nat} (ha : a < 2 ^ 31) (hb : b < 2 ^ 31) : (nI a - nI b).toInt = (a : Int) - b := by
  rw [Int32.toInt_sub, nI_toInt ha, nI_toInt hb, Int.bmod_def]
  split <;> omega
theorem overlay_spec {M : Mem} {t0 t2 c0 c2 d s n : Nat} (k0 : kX t0 = 6) (k2 : kX t2 = 6) (h0 : M.1 t0 1 = nI c0) (h2 : M.1 t2 1 = nI c2) (hc0 : c0 ≤ 120) (hc2 : c2 ≤ 120) (hd : d + n ≤ c0) (hs : s + n ≤ c2) :
    ∃ N, f_X6_overlay t0 (nI d) t2 (nI s) (nI n) M = some N ∧ (∀ e, e ≠ t0 + 1 → N.1 e = M.1 e) ∧ (∀ x, x < n → N.1 (t0 + 1) (d + x) = M.1 (t2 + 1) (s + x)) ∧ ∀ x, ¬ (d ≤ x ∧ x < d + n) → N.1 (t0 + 1) x = M.1 (t0 + 1) x := by
  have j0 := kX_s6 k0
  have n1 : t0 + 1 ≠ t0 := by omega
  have n2 : t2 ≠ t0 + 1 := fun e => by rw [← e, k2] at j0; cases j0
  unfold f_X6_overlay
  rw [if_pos k0, if_pos k2]
  have step : ∀ (b : Int32) (m i q : Nat) (N : Mem), i < n → q < n → (∀ e, e ≠ t0 + 1 → N.1 e = M.1 e) → (if b = 0 then some (nI i) else some ((nI n - (1 : Int32)) - nI i)) = some (nI q) → N.1 (t2 + 1) (s + q) = M.1 (t2 + 1) (s + q) → f_X6_overlay_l1 t0 (nI d) t2 (nI s) (nI n) b (m + 1) (nI i) N = f_X6_overlay_l1 t0 (nI d) t2 (nI s) (nI n) b m (nI (i + 1)) (sI N (t0 + 1) (d + q) (M.1 (t2 + 1) (s + q))) := by
    intro b m i q N hi hq hN hb hr
    rw [f_X6_overlay_l1, if_neg (ifle_no hi (by omega)), hb, Option.bind_some, nI_add, nI_add, hasPart_yes k0 (by rw [hN t0 (by omega)]; exact h0) hc0 (by omega), Option.bind_some, if_neg one_ne, hasPart_yes k2 (by rw [hN t2 n2]; exact h2) hc2 (by omega), Option.bind_some, if_neg one_ne, if_pos (inB_nI (show s + q < 120 by omega) (by decide)), if_pos (inB_nI (show d + q < 120 by omega) (by decide)), Option.bind_some, nI_clamp (by omega), nI_clamp (by omega), hr, nI_1]
  by_cases hds : d ≤ s
  · rw [if_pos (nI_le hds (by omega)), Option.bind_some]
    have HH := loop_go (F := fun m v N => f_X6_overlay_l1 t0 (nI d) t2 (nI s) (nI n) 0 m v N) n (by omega) (fun i N => (∀ e, e ≠ t0 + 1 → N.1 e = M.1 e) ∧ (∀ x, x < i → N.1 (t0 + 1) (d + x) = M.1 (t2 + 1) (s + x)) ∧ ∀ x, ¬ (d ≤ x ∧ x < d + i) → N.1 (t0 + 1) x = M.1 (t0 + 1) x)
      (fun N => (∀ e, e ≠ t0 + 1 → N.1 e = M.1 e) ∧ (∀ x, x < n → N.1 (t0 + 1) (d + x) = M.1 (t2 + 1) (s + x)) ∧ ∀ x, ¬ (d ≤ x ∧ x < d + n) → N.1 (t0 + 1) x = M.1 (t0 + 1) x) ?_ ?_ 0 M (by omega) ⟨fun _ _ => rfl, fun x hx => by omega, fun _ _ => rfl⟩
    · obtain ⟨N, e, h⟩ := HH
      have e : f_X6_overlay_l1 t0 (nI d) t2 (nI s) (nI n) 0 fuelN 0 M = some N := e
      rw [e]
      exact ⟨N, rfl, h⟩
    · intro m N h
      refine ⟨N, ?_, h⟩
      show f_X6_overlay_l1 t0 (nI d) t2 (nI s) (nI n) 0 (m + 1) (nI n) N = _
      rw [f_X6_overlay_l1, if_pos (Int32.le_refl _)]
    · intro m i N hi h
      left
      refine ⟨sI N (t0 + 1) (d + i) (M.1 (t2 + 1) (s + i)), ⟨fun e he => ?_, fun x hx => ?_, fun x hx => ?_⟩, step 0 m i i N hi hi h.1 (if_pos rfl) ?_⟩
      · rw [sI_off _ _ _ _ he]; exact h.1 e he
      · rw [sI_1]
        by_cases q : x = i
        · rw [if_pos ⟨rfl, by rw [q]⟩, q]
        · rw [if_neg (by omega)]; exact h.2.1 x (by omega)
      · rw [sI_1, if_neg (by omega)]; exact h.2.2 x (by omega)
      · by_cases e : t2 + 1 = t0 + 1
        · rw [e]; exact h.2.2 _ (by omega)
        · rw [h.1 _ e]
  · rw [if_neg (show ¬ nI d ≤ nI s from nI_ge (by omega) (by omega)), Option.bind_some]
    have HH := loop_go (F := fun m v N => f_X6_overlay_l1 t0 (nI d) t2 (nI s) (nI n) 1 m v N) n (by omega) (fun i N => (∀ e, e ≠ t0 + 1 → N.1 e = M.1 e) ∧ (∀ x, n ≤ x + i → x < n → N.1 (t0 + 1) (d + x) = M.1 (t2 + 1) (s + x)) ∧ ∀ x, ¬ (d + n ≤ x + i ∧ x < d + n) → N.1 (t0 + 1) x = M.1 (t0 + 1) x)
      (fun N => (∀ e, e ≠ t0 + 1 → N.1 e = M.1 e) ∧ (∀ x, x < n → N.1 (t0 + 1) (d + x) = M.1 (t2 + 1) (s + x)) ∧ ∀ x, ¬ (d ≤ x ∧ x < d + n) → N.1 (t0 + 1) x = M.1 (t0 + 1) x) ?_ ?_ 0 M (by omega) ⟨fun _ _ => rfl, fun x hx => by omega, fun _ _ => rfl⟩
    · obtain ⟨N, e, h⟩ := HH
      have e : f_X6_overlay_l1 t0 (nI d) t2 (nI s) (nI n) 1 fuelN 0 M = some N := e
      rw [e]
      exact ⟨N, rfl, h⟩
    · intro m N h
      refine ⟨N, ?_, h.1, fun x hx => h.2.1 x (by omega) hx, fun x hx => h.2.2 x (by omega)⟩
      show f_X6_overlay_l1 t0 (nI d) t2 (nI s) (nI n) 1 (m + 1) (nI n) N = _
      rw [f_X6_overlay_l1, if_pos (Int32.le_refl _)]
    · intro m i N hi h
      left
      refine ⟨sI N (t0 + 1) (d + (n - 1 - i)) (M.1 (t2 + 1) (s + (n - 1 - i))), ⟨fun e he => ?_, fun x hx hxn => ?_, fun x hx => ?_⟩, step 1 m i (n - 1 - i) N hi (by omega) h.1 ?_ ?_⟩
      · rw [sI_off _ _ _ _ he]; exact h.1 e he
      · rw [sI_1]
        by_cases q : x = n - 1 - i
        · rw [if_pos ⟨rfl, by rw [q]⟩, q]
        · rw [if_neg (by omega)]; exact h.2.1 x (by omega) hxn
      · rw [sI_1, if_neg (by omega)]; exact h.2.2 x (by omega)
      · rw [if_neg one_ne, show nI n - (1 : Int32) = nI (n - 1) from pk_sub (a := n) (b := 1) (by omega), pk_sub (by omega)]
      · by_cases e : t2 + 1 = t0 + 1
        · rw [e]; exact h.2.2 _ (by omega)
        · rw [h.1 _ e]
theorem copyY {M : Mem} {k g s d n : Nat} (hk : k < 16) (hg : g < 16) (hs : s + n ≤ 120) (hd : d + n ≤ 120) :
    ∃ A B, f_X11_copy_l1 (nI k) (nI s) (nI g) (nI d) (nI n) fuelN 0 M = some A ∧ f_X11_copy_l2 (nI g) (nI d) (nI n) fuelN 0 A = some B ∧ (∀ c, c ≠ 11 → c ≠ 24 → B.1 c = M.1 c) ∧ (∀ x, x < n → B.1 11 (121 * g + 1 + d + x) = M.1 11 (121 * k + 1 + s + x)) ∧ ∀ x, ¬ (121 * g + 1 + d ≤ x ∧ x < 121 * g + 1 + d + n) → B.1 11 x = M.1 11 x := by
  have h1 := cp_loop (fun m v N => f_X11_copy_l1 (nI k) (nI s) (nI g) (nI d) (nI n) m v N) n (by omega) 24 0 (fun i => M.1 11 (121 * k + 1 + s + i)) M (fun m N => by
      show f_X11_copy_l1 (nI k) (nI s) (nI g) (nI d) (nI n) (m + 1) (nI n) N = _
      rw [f_X11_copy_l1, if_pos (Int32.le_refl _)]) (fun m i N hi h => by
      show f_X11_copy_l1 (nI k) (nI s) (nI g) (nI d) (nI n) (m + 1) (nI i) N = _
      rw [f_X11_copy_l1, if_neg (ifle_no hi (by omega)), m121, nI_1, nI_add, nI_add, if_pos (inB_nI (show 121 * k + 1 + s + i < 1936 by omega) (by decide)), if_pos (inB_nI (show i < 120 by omega) (by decide)), nI_clamp (show i < 2 ^ 31 by omega), nI_clamp (show 121 * k + 1 + s + i < 2 ^ 31 by omega), h 11 (by decide), nI_1, Nat.zero_add])
  obtain ⟨A, a1, a2, a3, a4⟩ := h1
  have h2 := cp_loop (fun m v N => f_X11_copy_l2 (nI g) (nI d) (nI n) m v N) n (by omega) 11 (121 * g + 1 + d) (fun i => A.1 24 i) A (fun m N => by
      show f_X11_copy_l2 (nI g) (nI d) (nI n) (m + 1) (nI n) N = _
      rw [f_X11_copy_l2, if_pos (Int32.le_refl _)]) (fun m i N hi h => by
      show f_X11_copy_l2 (nI g) (nI d) (nI n) (m + 1) (nI i) N = _
      rw [f_X11_copy_l2, if_neg (ifle_no hi (by omega)), m121, nI_1, nI_add, nI_add, if_pos (inB_nI (show i < 120 by omega) (by decide)), if_pos (inB_nI (show 121 * g + 1 + d + i < 1936 by omega) (by decide)), nI_clamp (show i < 2 ^ 31 by omega), nI_clamp (show 121 * g + 1 + d + i < 2 ^ 31 by omega), h 24 (by decide), nI_1])
  obtain ⟨B, b1, b2, b3, b4⟩ := h2
  refine ⟨A, B, a1, b1, fun c q1 q2 => by rw [b2 c q1, a2 c q2], fun x hx => ?_, fun x hx => ?_⟩
  · rw [b4 x hx]
    have := a4 x hx
    rwa [Nat.zero_add] at this
  · rw [b3 x hx, a2 11 (by decide)]
/-- a run within a plan, or not: the class's test and the reference's two -/
theorem run_cases {M : Mem} {t c : Nat} (kt : kX t = 6) (h0 : M.1 t 1 = nI c) (hc : c ≤ 120) (s n : Int32) : (f_X6_hasRun t s n M = some 0 ∧ (s < 0 ∨ n < 0 ∨ (¬ s < 0 ∧ ¬ n < 0 ∧ nI c - s < n))) ∨ (f_X6_hasRun t s n M = some 1 ∧ ∃ s' n', s = nI s' ∧ n = nI n' ∧ s' + n' ≤ c) := by
  unfold f_X6_hasRun
  rw [if_pos kt, h0]
  by_cases hs : s < 0
  · left; rw [if_pos hs]; exact ⟨rfl, Or.inl hs⟩
  rw [if_neg hs]
  by_cases hn : n < 0
  · left; rw [if_pos hn]; exact ⟨rfl, Or.inr (Or.inl hn)⟩
  rw [if_neg hn]
  obtain ⟨s', hs', rfl⟩ := nI_of hs
  obtain ⟨n', hn', rfl⟩ := nI_of hn
  have hlt : (nI c - nI s' < nI n') ↔ c < s' + n' := by
    rw [Int32.lt_iff_toInt_lt, sub_toInt2 (by omega) hs', nI_toInt hn']
    omega
  by_cases h1 : nI c < nI s'
  · left
    rw [if_pos h1]
    have : c < s' := (nI_ltI (by omega) (by omega)).mp h1
    exact ⟨rfl, Or.inr (Or.inr ⟨hs, hn, hlt.mpr (by omega)⟩)⟩
  · rw [if_neg h1]
    by_cases h2 : nI c - nI s' < nI n'
    · left; rw [if_pos h2]; exact ⟨rfl, Or.inr (Or.inr ⟨hs, hn, h2⟩)⟩
    · right
      rw [if_neg h2]
      exact ⟨rfl, s', n', rfl, rfl, Nat.not_lt.mp fun q => h2 (hlt.mpr q)⟩
set_option maxRecDepth 10000 in
theorem step_copy : St_copy Rel := by
  intro a b c d e M1 M2 H
  have Hn1 := Rel_no H 1
  have Hn2 := Rel_no H 2
  have Hn6 := Rel_no H 6
  obtain ⟨z, h, hC, hL, hS, hs⟩ := id H
  obtain ⟨h1, h2, h3, h4, ⟨fr, f1, f2, f3, f4⟩, h6, h7⟩ := id hC
  have hI := h4.inv
  have hf := hI.2.1
  unfold f_X10_copy f_X11_copy
  have placec : ∃ o, f_X10_placeAt c M1 = some o := by
    rcases pk_ix c (n := 16) (by decide) with hb | hb | ⟨g, hgz, rfl⟩
    · exact ⟨_, placeAt_no (Or.inl hb)⟩
    · exact ⟨_, placeAt_no (Or.inr hb)⟩
    · exact ⟨_, placeAt_yes hgz⟩
  rcases pk_ix a (n := 16) (by decide) with ha | ha | ⟨k, hk, rfl⟩
  · obtain ⟨o, eo⟩ := placec
    rw [placeAt_no (Or.inl ha), isPlace_no (Or.inl ha), eo]; exact ⟨_, _, rfl, rfl, rfl, Hn1⟩
  · obtain ⟨o, eo⟩ := placec
    rw [placeAt_no (Or.inr ha), isPlace_no (Or.inr ha), eo]; exact ⟨_, _, rfl, rfl, rfl, Hn1⟩
  rw [placeAt_yes hk, isPlace_yes hk]
  rcases pk_ix c (n := 16) (by decide) with hb | hb | ⟨g, hg, rfl⟩
  · rw [placeAt_no (Or.inl hb), isPlace_no (Or.inl hb)]
    simp only [Option.bind_some, oel, if_neg one_ne, if_pos (kX_place hk)]
    exact ⟨_, _, rfl, rfl, rfl, Hn1⟩
  · rw [placeAt_no (Or.inr hb), isPlace_no (Or.inr hb)]
    simp only [Option.bind_some, oel, if_neg one_ne, if_pos (kX_place hk)]
    exact ⟨_, _, rfl, rfl, rfl, Hn1⟩
  rw [placeAt_yes hg, isPlace_yes hg]
  have tx := h1.2.2.2 k hk
  have ty := h2.2.2.2 k hk
  have sx := h1.2.2.2 g hg
  have sy := h2.2.2.2 g hg
  have hin := hI.2.2.2.1 k hk
  have hig := hI.2.2.2.1 g hg
  simp only [Option.bind_some, oel, if_neg one_ne, if_pos (kX_place hk), if_pos (kX_place hg), if_pos (inB_nI hk (show 16 < 2 ^ 31 by decide)), if_pos (inB_nI hg (show 16 < 2 ^ 31 by decide)), nI_clamp (show k < 2 ^ 31 by omega), nI_clamp (show g < 2 ^ 31 by omega), tx.1, ty.1, sx.1, sy.1]
  by_cases hk3 : ¬ (zPc z k).1 = 3
  · have hne : ¬ nI (zPc z k).1 = (3 : Int32) := fun q => hk3 ((nI_eq (a := (zPc z k).1) (b := 3) (by omega) (by decide)).mp q)
    rw [if_neg hne, if_neg hne]; exact ⟨_, _, rfl, rfl, rfl, Hn6⟩
  have hk3 := Decidable.not_not.mp hk3
  rw [hk3, if_pos (show nI 3 = (3 : Int32) from rfl), if_pos (show nI 3 = (3 : Int32) from rfl)]
  by_cases hg3 : ¬ (zPc z g).1 = 3
  · have hne : ¬ nI (zPc z g).1 = (3 : Int32) := fun q => hg3 ((nI_eq (a := (zPc z g).1) (b := 3) (by omega) (by decide)).mp q)
    rw [if_neg hne, if_neg hne]; exact ⟨_, _, rfl, rfl, rfl, Hn6⟩
  have hg3 := Decidable.not_not.mp hg3
  rw [hg3, if_pos (show nI 3 = (3 : Int32) from rfl), if_pos (show nI 3 = (3 : Int32) from rfl)]
  have px := tx.2.2 hk3
  have py := ty.2.2 hk3
  have hok := hin.2 hk3
  have rx := sx.2.2 hg3
  have ry := sy.2.2 hg3
  have hor := hig.2 hg3
  have hcz : (zPc z g).1 = 3 → zCnt (zFm z) (zPc z g).2.2.1 ≤ 120 := fun q => (hI.2.1.2 _ (hor.1)).2.2.1
  generalize hp : (zPc z k).2.2 = p at px py hok
  generalize hr : (zPc z g).2.2 = r at rx ry hor hcz
  have hc := (hf.2 p.1 hok.1).2.2.1
  have hc2 := (hf.2 r.1 hor.1).2.2.1
  have hf24 : p.1 < 24 := by have := hf.1; have := hok.1; omega
  have hr24 : r.1 < 24 := by have := hf.1; have := hor.1; omega
  have kp : kX (312 + 3 * k + 1) = 6 := kX_s9 (kX_place hk)
  have kr : kX (312 + 3 * g + 1) = 6 := kX_s9 (kX_place hg)
  have pin : f_X11_partsIn (nI k) (sI M2 0 5 0) = some (nI (zCnt (zFm z) p.1)) := partsIn_ hk hf24 (by rw [sI_off _ _ _ _ (by decide)]; exact py.1) (by rw [sI_off _ _ _ _ (by decide)]; exact (h2.2.1.2 p.1 hok.1).2.1)
  have rin : f_X11_partsIn (nI g) (sI M2 0 5 0) = some (nI (zCnt (zFm z) r.1)) := partsIn_ hg hr24 (by rw [sI_off _ _ _ _ (by decide)]; exact ry.1) (by rw [sI_off _ _ _ _ (by decide)]; exact (h2.2.1.2 r.1 hor.1).2.1)
  rw [pin, rin]
  simp only [Option.bind_some]
  -- the reference's answer where a test fails
  have yno : ∀ X : Option (Int32 × Mem), ((b < 0 ∨ d < 0 ∨ e < 0) ∨ nI (zCnt (zFm z) p.1) - b < e ∨ ¬ e ≤ nI (zCnt (zFm z) r.1) - d) → (if b < 0 then (Option.bind (f_X11_no (2 : Int32) (sI M2 0 5 (0 : Int32))) (fun q16 => some (q16.1, q16.2))) else (if d < 0 then (Option.bind (f_X11_no (2 : Int32) (sI M2 0 5 (0 : Int32))) (fun q19 => some (q19.1, q19.2))) else (if e < 0 then (Option.bind (f_X11_no (2 : Int32) (sI M2 0 5 (0 : Int32))) (fun q22 => some (q22.1, q22.2))) else (if (nI (zCnt (zFm z) p.1) - b) < e then (Option.bind (f_X11_no (2 : Int32) (sI M2 0 5 (0 : Int32))) (fun q27 => some (q27.1, q27.2))) else (if e ≤ (nI (zCnt (zFm z) r.1) - d) then X else (Option.bind (f_X11_no (2 : Int32) (sI M2 0 5 (0 : Int32))) (fun q38 => some (q38.1, q38.2)))))))) = some ((-1 : Int32), sI (sI M2 0 5 0) 0 4 2) := by
    intro X hh
    by_cases q1 : b < 0
    · rw [if_pos q1]; rfl
    rw [if_neg q1]
    by_cases q2 : d < 0
    · rw [if_pos q2]; rfl
    rw [if_neg q2]
    by_cases q3 : e < 0
    · rw [if_pos q3]; rfl
    rw [if_neg q3]
    by_cases q4 : (nI (zCnt (zFm z) p.1) - b) < e
    · rw [if_pos q4]; rfl
    rw [if_neg q4, if_neg]
    · rfl
    · rcases hh with (q | q | q) | q | q
      · exact absurd q q1
      · exact absurd q q2
      · exact absurd q q3
      · exact absurd q q4
      · exact q
  rcases run_cases kp px.2.1 hc b e with ⟨e1, hno⟩ | ⟨e1, s', n', rfl, rfl, hsn⟩
  · rw [e1, Option.bind_some, if_pos rfl]
    refine ⟨_, _, rfl, yno _ ?_, rfl, Hn2⟩
    rcases hno with q | q | q
    · exact Or.inl (Or.inl q)
    · exact Or.inl (Or.inr (Or.inr q))
    · exact Or.inr (Or.inl q.2.2)
  rw [e1, Option.bind_some, if_neg one_ne]
  rcases run_cases kr rx.2.1 hc2 d (nI n') with ⟨e2, hno⟩ | ⟨e2, d', m', rfl, hmn, hdn⟩
  · rw [e2, Option.bind_some, if_pos rfl]
    refine ⟨_, _, rfl, yno _ ?_, rfl, Hn2⟩
    rcases hno with q | q | q
    · exact Or.inl (Or.inr (Or.inl q))
    · exact Or.inl (Or.inr (Or.inr q))
    · refine Or.inr (Or.inr fun q2 => ?_)
      have q3 := q.2.2
      rw [Int32.lt_iff_toInt_lt] at q3
      rw [Int32.le_iff_toInt_le] at q2
      omega
  rw [e2, Option.bind_some, if_neg one_ne]
  have hdb : d' < 2 ^ 31 := by omega
  by_cases hm31 : m' < 2 ^ 31
  · have hmn : n' = m' := (nI_eq (by omega) hm31).mp hmn
    subst hmn
    rw [if_neg (nI_pos (show s' < 2 ^ 31 by omega)), if_neg (nI_pos hdb), if_neg (nI_pos (show n' < 2 ^ 31 by omega)), if_neg (show ¬ nI (zCnt (zFm z) p.1) - nI s' < nI n' from fun q => by
      rw [pk_sub (by omega), nI_ltI (by omega) (by omega)] at q; omega), if_pos (show nI n' ≤ nI (zCnt (zFm z) r.1) - nI d' from by rw [pk_sub (by omega)]; exact nI_le (by omega) (by omega))]
    obtain ⟨t, N, o1, o2, o3, o4, o5, o6, o7, o8, o9⟩ := open_spec f2 f1 f3 h3 6 (nI g) 0
    have k9 : kX (312 + 3 * g) = 9 := kX_place hg
    have kt : kX (t + 1) = 9 := kX_s0 o2
    obtain ⟨A, a1, a2, a3'⟩ := thing_become (M := N) (t0 := t + 1) (t1 := 312 + 3 * g) (fm := zFm z) (t := zPc z g) kt k9 (by omega) (ThX_ag sx (o8 _ (by omega) (by omega)) (o8 _ (by omega) (by omega)) (o8 _ (by omega) (by omega))) hig.1 (fun q => by rw [hr]; exact hcz q)
    have aM : ∀ d, d ≠ 10 → ¬ (t ≤ d ∧ d ≤ t + 3) → A.1 d = M1.1 d := fun d q1 q2 => by rw [a3' d (by omega) (by omega) (by omega), o8 d q1 (by omega)]
    have hth : ThY (zFm z) (sI M2 0 5 0) g (zPc z g) := by
      have := sy
      unfold ThY PlY at *
      rw [sI_off _ _ _ _ (show 9 ≠ 0 by decide), sI_off _ _ _ _ (show 10 ≠ 0 by decide), sI_off _ _ _ _ (show 11 ≠ 0 by decide)]
      exact this
    obtain ⟨u, P, p1, p2, p3, p7, p8, p9, p10, p11⟩ := caseActs_spec (M := sI M2 0 5 0) (n := h.length) (by rw [show (sI M2 0 5 0).1 0 20 = M2.1 0 20 by simp [sI]]; exact h6) h3 hg hth (fun q => by rw [hr]; exact hcz q)
    obtain ⟨E, e1', e2', e3', e4'⟩ := overlay_spec (M := A) (t0 := 312 + 3 * g + 1) (t2 := 312 + 3 * k + 1) (c0 := zCnt (zFm z) r.1) (c2 := zCnt (zFm z) p.1) (d := d') (s := s') (n := n') kr kp (by rw [aM _ (by omega) (by omega)]; exact rx.2.1) (by rw [aM _ (by omega) (by omega)]; exact px.2.1) hc2 hc hdn hsn
    obtain ⟨B, F, g1, g2, g3, g4, g5⟩ := copyY (M := P) (k := k) (g := g) (s := s') (d := d') (n := n') hk hg (by omega) (by omega)
    simp only [o1, if_pos o2, a1, Option.bind_some, e1', p1, g1, g2, f_X10_accept]
    refine ⟨_, _, rfl, rfl, rfl, ?_⟩
    have F13 : F.1 13 = P.1 13 := g3 13 (by decide) (by decide)
    have F0 : F.1 0 = P.1 0 := g3 0 (by decide) (by decide)
    have P11 : P.1 11 = M2.1 11 := by rw [p10 11 (by decide) (by decide), sI_off _ _ _ _ (by decide)]
    refine pc_push (k := g) (th := (3, 0, (r.1, fun x => if d' ≤ x ∧ x < d' + n' then p.2 (s' + (x - d')) else r.2 x))) (t := t) (u := u) hC hL hS hg ⟨Nat.le_refl 3, fun _ => ⟨hor.1, fun i hi => ?_⟩⟩ ⟨o3, o4⟩ p2 ?_ ?_ ?_ ?_ ?_ ?_ ?_ ?_ ?_ ?_ ?_ ?_ ?_ ?_ ?_ ?_ ?_ ?_
    · show (if d' ≤ i ∧ i < d' + n' then p.2 (s' + (i - d')) else r.2 i) ≤ 1000
      by_cases q : d' ≤ i ∧ i < d' + n'
      · rw [if_pos q]; exact hok.2 _ (by omega)
      · rw [if_neg q]; exact hor.2 i hi
    · rw [sI_1, if_neg (by decide), e2' 0 (by omega), aM 0 (by omega) (by omega)]
    · rw [sI_1, if_neg (by decide), e2' 0 (by omega), aM 0 (by omega) (by omega)]
    · intro d q1 q2 q3 q4
      rw [sI_off _ _ _ _ q1, e2' d (by omega), aM d q2 q3]
    · refine ⟨?_, fun q => ?_, fun _ => ⟨?_, ?_, fun i hi => ?_⟩⟩
      · rw [sI_off _ _ _ _ (by omega), e2' _ (by omega), aM _ (by omega) (by omega), sx.1, hg3]
      · have q : (3 : Nat) = 1 ∨ (3 : Nat) = 2 := q
        omega
      · rw [sI_off _ _ _ _ (by omega), e2' _ (by omega), aM _ (by omega) (by omega)]; exact rx.1
      · rw [sI_off _ _ _ _ (by omega), e2' _ (by omega), aM _ (by omega) (by omega)]; exact rx.2.1
      · have hi : i < zCnt (zFm z) r.1 := hi
        show _ = nI (if d' ≤ i ∧ i < d' + n' then p.2 (s' + (i - d')) else r.2 i)
        rw [sI_off _ _ _ _ (by omega)]
        by_cases q : d' ≤ i ∧ i < d' + n'
        · rw [if_pos q]
          have := e3' (i - d') (by omega)
          rw [show d' + (i - d') = i by omega] at this
          rw [this, aM _ (by omega) (by omega)]
          exact px.2.2 _ (by omega)
        · rw [if_neg q, e4' i q, aM _ (by omega) (by omega)]; exact rx.2.2 i hi
    · rw [sI_off _ _ _ _ (by omega), e2' t (by omega), a3' t (by omega) (by omega) (by omega)]; exact o5
    · rw [sI_off _ _ _ _ (by omega), e2' t (by omega), a3' t (by omega) (by omega) (by omega)]; exact o6
    · exact ThX_ag a2 (by rw [sI_off _ _ _ _ (by omega), e2' _ (by omega)]) (by rw [sI_off _ _ _ _ (by omega), e2' _ (by omega)]) (by rw [sI_off _ _ _ _ (by omega), e2' _ (by omega)])
    · intro e z' hun hA
      refine o9 _ ?_ ?_ h z z' e rfl f4 hun hA
      · rw [sI_off _ _ _ _ (by decide), e2' 10 (by omega), a3' 10 (by omega) (by omega) (by omega)]
      · intro d q1 q2 q3
        rw [sI_off _ _ _ _ (by omega), e2' d (by omega), a3' d (by omega) (by omega) (by omega)]
    · intro i q1 q2 q3
      rw [F0, p9 i q1 q3, sI_1, if_neg (by omega)]
    · intro d q0 q1 q2 q3 q4
      rw [g3 d q4 (by omega), p10 d q1 (by omega), sI_off _ _ _ _ q1]
    · intro j hj
      rw [g3 9 (by decide) (by decide), p10 9 (by decide) (by decide), sI_off _ _ _ _ (by decide)]
    · intro j hj
      rw [g3 10 (by decide) (by decide), p10 10 (by decide) (by decide), sI_off _ _ _ _ (by decide)]
    · intro j hj
      rw [g5 j (by omega), P11]
    · refine ⟨?_, fun q => ?_, fun _ => ⟨?_, fun i hi => ?_⟩⟩
      · rw [g3 9 (by decide) (by decide), p10 9 (by decide) (by decide), sI_off _ _ _ _ (by decide), sy.1, hg3]
      · have q : (3 : Nat) = 1 ∨ (3 : Nat) = 2 := q
        omega
      · rw [g5 _ (by omega), P11]; exact ry.1
      · have hi : i < zCnt (zFm z) r.1 := hi
        show _ = nI (if d' ≤ i ∧ i < d' + n' then p.2 (s' + (i - d')) else r.2 i)
        by_cases q : d' ≤ i ∧ i < d' + n'
        · rw [if_pos q]
          have := g4 (i - d') (by omega)
          rw [show 121 * g + 1 + d' + (i - d') = 121 * g + 1 + i by omega, P11, show 121 * k + 1 + s' + (i - d') = 121 * k + 1 + (s' + (i - d')) by omega] at this
          rw [this]
          exact py.2 _ (by omega)
        · rw [if_neg q, g5 _ (by omega), P11]; exact ry.2 i hi
    · rw [F0]; exact p8
    · exact SpY_ag p3 F13
    · intro e z' hun hA
      exact p11 F (fun j hj => by rw [F13]) h z z' e rfl h4 (HY_ag (by rw [sI_off _ _ _ _ (by decide)]) h7) hun hA
    · rw [st_X, F0, p7]
  · omega
