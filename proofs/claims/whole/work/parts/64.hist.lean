/-- a loop that counts up to e: it goes on, or it answers -/
theorem loop_up {σ ρ : Type} (F : Nat → Int32 → σ → Option ρ) (e : Nat) (I : Nat → σ → Prop) (Post : ρ → Prop)
    (hx : ∀ n s, I e s → ∃ r, F (n + 1) (nI e) s = some r ∧ Post r)
    (hs : ∀ n i s, i < e → I i s → (∃ s', I (i + 1) s' ∧ F (n + 1) (nI i) s = F n (nI (i + 1)) s') ∨ ∃ r, F (n + 1) (nI i) s = some r ∧ Post r) :
    ∀ k i s, e - i = k → i ≤ e → I i s → ∀ n, k < n → ∃ r, F n (nI i) s = some r ∧ Post r := by
  intro k
  induction k with
  | zero =>
    intro i s h1 h2 hI n hn
    have : i = e := by omega
    subst this
    obtain ⟨n, rfl⟩ : ∃ m, n = m + 1 := ⟨n - 1, by omega⟩
    exact hx n s hI
  | succ k ih =>
    intro i s h1 h2 hI n hn
    obtain ⟨n, rfl⟩ : ∃ m, n = m + 1 := ⟨n - 1, by omega⟩
    rcases hs n i s (by omega) hI with ⟨s', hI', e1⟩ | h
    · rw [e1]
      exact ih (i + 1) s' (by omega) (by omega) hI' n (by omega)
    · exact h
theorem fuel_ge : 70000 ≤ fuelN := Nat.le_refl _
theorem loop_go {σ ρ : Type} (F : Nat → Int32 → σ → Option ρ) (e : Nat) (he : e < 66000) (I : Nat → σ → Prop) (Post : ρ → Prop)
    (hx : ∀ n s, I e s → ∃ r, F (n + 1) (nI e) s = some r ∧ Post r)
    (hs : ∀ n i s, i < e → I i s → (∃ s', I (i + 1) s' ∧ F (n + 1) (nI i) s = F n (nI (i + 1)) s') ∨ ∃ r, F (n + 1) (nI i) s = some r ∧ Post r)
    (i : Nat) (s : σ) (hi : i ≤ e) (h0 : I i s) : ∃ r, F fuelN (nI i) s = some r ∧ Post r :=
  loop_up F e I Post hx hs (e - i) i s rfl hi h0 fuelN (by have := fuel_ge; omega)
/-! the histories -/
theorem HX_ag2 {M M' : Mem} {fr : Nat} : ∀ {h : List Ac} {z : Sg}, (∀ m, m < h.length → ∀ k, k < 4 → M'.1 (12 + 4 * ((fr + m) % 60) + k) = M.1 (12 + 4 * ((fr + m) % 60) + k)) → HX M fr h z → HX M' fr h z := by
  intro h
  induction h with
  | nil => intro z _ _; trivial
  | cons a r ih =>
    intro z e H
    exact ⟨AcX_ag H.1 (fun k hk => e r.length (by simp) k hk), ih (fun m hm => e m (by simp only [List.length_cons]; omega)) H.2⟩
theorem HX_drop {M : Mem} {fr : Nat} : ∀ {h : List Ac} {z : Sg}, HX M fr h z → HX M ((fr + 1) % 60) h.dropLast z := by
  intro h
  induction h with
  | nil => intro z _; trivial
  | cons a r ih =>
    intro z H
    cases r with
    | nil => trivial
    | cons b r =>
      refine ⟨?_, ih H.2⟩
      have h1 := H.1
      rw [show (fr + (b :: r).length) % 60 = ((fr + 1) % 60 + (b :: r).dropLast.length) % 60 by simp only [List.length_cons, List.length_dropLast]; omega] at h1
      exact h1
theorem InvH_drop : ∀ {h : List Ac} {z : Sg}, InvH h z → InvH h.dropLast z := by
  intro h
  induction h with
  | nil => intro z H; exact H
  | cons a r ih =>
    intro z H
    cases r with
    | nil => exact H.1
    | cons b r => exact ⟨H.1, ih H.2⟩
theorem PlY_sh {fm : Nat → Fm} {M M' : Mem} {a o o' : Nat} {p : Pl} (h : PlY fm M a o p) (hc : zCnt fm p.1 ≤ 120) (e : ∀ j, j < 121 → M'.1 a (o' + j) = M.1 a (o + j)) : PlY fm M' a o' p := by
  refine ⟨?_, fun i hi => ?_⟩
  · have := e 0 (by decide)
    rw [Nat.add_zero, Nat.add_zero] at this
    rw [this]; exact h.1
  · have := e (1 + i) (by omega)
    rw [← Nat.add_assoc, ← Nat.add_assoc] at this
    rw [this]; exact h.2 i hi
theorem undo_fm {a : Ac} (z : Sg) (h : a.1 ≠ 2) : zFm (undoA a z) = zFm z := by
  unfold undoA
  split
  · rfl
  · rfl
  · next e => exact absurd e h
  · rfl
  · rfl
  · rfl
theorem AcY_sh {M M' : Mem} {o o' : Nat} {a : Ac} {z : Sg} (h : AcY M o a z) (hi : Inv (undoA a z)) (e : ∀ j, j < 126 → M'.1 13 (o' + j) = M.1 13 (o + j)) : AcY M' o' a z := by
  have e0 : M'.1 13 o' = M.1 13 o := by have := e 0 (by decide); rwa [Nat.add_zero, Nat.add_zero] at this
  have e1 := e 1 (by decide)
  have e2 := e 2 (by decide)
  have e3 := e 3 (by decide)
  obtain ⟨k, w, v, pl, th⟩ := a
  unfold AcY at *
  dsimp only at *
  rw [e0, e1, e2, e3]
  split at h
  · exact h
  · exact h
  · exact h
  · exact h
  · refine ⟨h.1, ?_⟩
    cases pl with
    | none => exact h.2
    | some p =>
      refine ⟨h.2.1, PlY_sh h.2.2 ?_ (fun j hj => ?_)⟩
      · have hp := (hi.2.2.1 p rfl).1.1
        have := (hi.2.1.2 p.1 hp).2.2.1
        exact this
      · have := e (3 + j) (by omega)
        rwa [← Nat.add_assoc, ← Nat.add_assoc] at this
  · refine ⟨h.1, h.2.1, h.2.2.1, h.2.2.2.1, h.2.2.2.2.1, fun q => PlY_sh (h.2.2.2.2.2 q) ?_ (fun j hj => ?_)⟩
    · next n0 n1 n2 n3 n4 =>
      have hz : zPc (undoA (k, w, v, pl, th) z) w = th := by
        unfold undoA
        split
        · next hk => exact absurd hk n0
        · next hk => exact absurd hk n1
        · next hk => exact absurd hk n2
        · next hk => exact absurd hk n3
        · next hk => exact absurd hk n4
        · show (if w = w then th else zPc z w) = th
          rw [if_pos rfl]
      have hp := (hi.2.2.2.1 w h.2.2.1).2
      rw [hz] at hp
      have hp := (hp q).1
      have := (hi.2.1.2 _ hp).2.2.1
      rw [undo_fm z (fun e => n2 e)] at this
      exact this
    · have := e (4 + j) (by omega)
      rwa [← Nat.add_assoc, ← Nat.add_assoc] at this
theorem HY_ag2 {M M' : Mem} : ∀ {h : List Ac} {z : Sg}, InvH h z → (∀ j, j < 126 * h.length → M'.1 13 j = M.1 13 j) → HY M h z → HY M' h z := by
  intro h
  induction h with
  | nil => intro z _ _ _; trivial
  | cons a r ih =>
    intro z hI e H
    exact ⟨AcY_sh H.1 hI.2.inv (fun j hj => e _ (by simp only [List.length_cons]; omega)), ih hI.2 (fun j hj => e j (by simp only [List.length_cons]; omega)) H.2⟩
theorem HY_drop {M M' : Mem} : ∀ {h : List Ac} {z : Sg}, InvH h z → (∀ j, j < 126 * (h.length - 1) → M'.1 13 j = M.1 13 (j + 126)) → HY M h z → HY M' h.dropLast z := by
  intro h
  induction h with
  | nil => intro z _ _ _; trivial
  | cons a r ih =>
    intro z hI e H
    cases r with
    | nil => trivial
    | cons b r =>
      refine ⟨AcY_sh H.1 hI.2.inv (fun j hj => ?_), ih hI.2 (fun j hj => e j (by simp only [List.length_cons] at *; omega)) H.2⟩
      have h1 := e (126 * r.length + j) (by simp only [List.length_cons]; omega)
      rw [show 126 * (b :: r).dropLast.length + j = 126 * r.length + j by simp, show 126 * (b :: r).length + j = 126 * r.length + j + 126 by simp only [List.length_cons]; omega]
      exact h1
theorem act_l1 (a b c : Int32) (M : Mem) : ∃ N, f_X11_act_l1 a b c fuelN 126 M = some N ∧ (∀ d, d ≠ 13 → N.1 d = M.1 d) ∧ ∀ j, j < 7434 → N.1 13 j = M.1 13 (j + 126) := by
  have H := loop_go (F := fun n v N => f_X11_act_l1 a b c n v N) 7560 (by decide) (fun i N => 126 ≤ i ∧ (∀ d, d ≠ 13 → N.1 d = M.1 d) ∧ (∀ j, j + 126 < i → N.1 13 j = M.1 13 (j + 126)) ∧ ∀ j, i ≤ j + 126 → N.1 13 j = M.1 13 j)
    (fun N => (∀ d, d ≠ 13 → N.1 d = M.1 d) ∧ ∀ j, j < 7434 → N.1 13 j = M.1 13 (j + 126)) ?_ ?_ 126 M (by decide) ⟨by omega, fun _ _ => rfl, fun j hj => by omega, fun _ _ => rfl⟩
  · exact H
  · intro n N hI
    refine ⟨N, ?_, hI.2.1, fun j hj => hI.2.2.1 j (by omega)⟩
    show f_X11_act_l1 a b c (n + 1) (nI 7560) N = some N
    rw [f_X11_act_l1, if_pos (by decide)]
  · intro n i N hi hI
    left
    refine ⟨sI N 13 (i - 126) (N.1 13 i), ⟨by omega, fun d hd => ?_, fun j hj => ?_, fun j hj => ?_⟩, ?_⟩
    · rw [sI_off _ _ _ _ hd]; exact hI.2.1 d hd
    · by_cases e : j = i - 126
      · rw [sI_1, if_pos ⟨rfl, e⟩, hI.2.2.2 i (by omega), show j + 126 = i by omega]
      · rw [sI_1, if_neg (by omega)]; exact hI.2.2.1 j (by omega)
    · rw [sI_1, if_neg (by omega)]; exact hI.2.2.2 j (by omega)
    · show f_X11_act_l1 a b c (n + 1) (nI i) N = _
      rw [f_X11_act_l1, if_neg (show ¬ (7560 : Int32) ≤ nI i from nI_ge (show i < 7560 by omega) (by decide)), if_pos (inB_nI hi (by decide)), show nI i - (126 : Int32) = nI (i - 126) from pk_sub (a := i) (b := 126) (by omega), if_pos (inB_nI (by omega) (by decide)), nI_clamp (by omega), nI_clamp (by omega), nI_1]
