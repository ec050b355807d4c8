theorem ap_l2 {M1 M2 : Mem} {f g c d : Nat} {p q : Nat → Nat} (fx : QX M1 f c p) (fy : QY M2 f c p) (gx : QX M1 g d q) (gy : QY M2 g d q) {i : Nat} (b : Int32) (hi : i < c) : ∀ n j, j ≤ d → f_X10_firstApart_l2 (264 + 2 * f) (264 + 2 * g) b (nI i) M1 n (nI j) = f_X11_apartOf_l2 (nI f) (nI g) (nI i) M2 n (nI j) := by
  have hc := fx.2.1
  have hd := gx.2.1
  intro n
  induction n with
  | zero => intro j _; rfl
  | succ n ih =>
    intro j hj
    rw [f_X10_firstApart_l2, f_X11_apartOf_l2, if_pos (inB_nI gx.1 (show 24 < 2 ^ 31 by decide)), nI_clamp (show g < 2 ^ 31 by have := gx.1; omega), gx.2.2.1, gy.2.2.1]
    by_cases e : j = d
    · rw [e, if_pos (Int32.le_refl _), if_pos (Int32.le_refl _)]
    · have hlt : j < d := by omega
      rw [if_neg (ifle_no hlt (by omega)), if_neg (ifle_no hlt (by omega)), if_pos (inB_nI (show i < 120 by omega) (by decide)), if_pos (inB_nI (show j < 120 by omega) (by decide)), nI_clamp (show i < 2 ^ 31 by omega), nI_clamp (show j < 2 ^ 31 by omega), fx.2.2.2 i hi, gx.2.2.2 j hlt, fy.at hi, gy.at hlt, Option.bind_some, Option.bind_some, nI_1]
      by_cases h0 : (nI (p i) &&& nI (q j)) = 0
      · rw [if_pos h0, if_pos h0]
      · rw [if_neg h0, if_neg h0]
        exact ih (j + 1) (by omega)
theorem ap_l1 {M1 M2 : Mem} {f g c d : Nat} {p q : Nat → Nat} (fx : QX M1 f c p) (fy : QY M2 f c p) (gx : QX M1 g d q) (gy : QY M2 g d q) (hs : f = g → c = d) {b : Int32} (hb : b = if f = g then 1 else 0) : ∀ n i, i ≤ c → f_X10_firstApart_l1 (264 + 2 * f) (264 + 2 * g) b M1 n (nI i) = f_X11_apartOf_l1 (nI f) (nI g) M2 n (nI i) := by
  have hc := fx.2.1
  have hd := gx.2.1
  have hf := fx.1
  have hg := gx.1
  intro n
  induction n with
  | zero => intro j _; rfl
  | succ n ih =>
    intro i hi
    rw [f_X10_firstApart_l1, f_X11_apartOf_l1, if_pos (inB_nI fx.1 (show 24 < 2 ^ 31 by decide)), nI_clamp (show f < 2 ^ 31 by omega), fx.2.2.1, fy.2.2.1]
    by_cases e : i = c
    · rw [e, if_pos (Int32.le_refl _), if_pos (Int32.le_refl _)]
    · have hlt : i < c := by omega
      rw [if_neg (ifle_no hlt (by omega)), if_neg (ifle_no hlt (by omega)), nI_1]
      by_cases hfg : f = g
      · have hb1 : ¬ b = 0 := by rw [hb, if_pos hfg]; decide
        rw [if_neg hb1, if_pos (show nI f = nI g by rw [hfg]), Option.bind_some, Option.bind_some, ap_l2 fx fy gx gy b hlt fuelN (i + 1) (by have := hs hfg; omega), ih (i + 1) (by omega)]
      · have hb0 : b = 0 := by rw [hb, if_neg hfg]
        rw [if_pos hb0, if_neg (show ¬ nI f = nI g from fun z => hfg ((nI_eq (by omega) (by omega)).mp z)), Option.bind_some, Option.bind_some, show (0 : Int32) = nI 0 from rfl, ap_l2 fx fy gx gy b hlt fuelN 0 (by omega), ih (i + 1) (by omega)]
theorem ap_l2_some {M2 : Mem} {f g c d : Nat} {p q : Nat → Nat} (fy : QY M2 f c p) (gy : QY M2 g d q) {i j : Nat} (hi : i < c) (hj : j ≤ d) : ∃ r, f_X11_apartOf_l2 (nI f) (nI g) (nI i) M2 fuelN (nI j) = some r := by
  have hc := fy.2.1
  have hd := gy.2.1
  have HH := loop_go (F := fun n v (_ : Unit) => f_X11_apartOf_l2 (nI f) (nI g) (nI i) M2 n v) d (by omega) (fun _ _ => True) (fun _ => True) ?_ ?_ j () hj trivial
  · obtain ⟨r, e, -⟩ := HH
    exact ⟨r, e⟩
  · intro n _ _
    refine ⟨.inl (), ?_, trivial⟩
    show f_X11_apartOf_l2 (nI f) (nI g) (nI i) M2 (n + 1) (nI d) = _
    rw [f_X11_apartOf_l2, if_pos (inB_nI gy.1 (show 24 < 2 ^ 31 by decide)), nI_clamp (show g < 2 ^ 31 by have := gy.1; omega), gy.2.2.1, if_pos (Int32.le_refl _)]
  · intro n k _ hk _
    show (∃ s', _ ∧ f_X11_apartOf_l2 (nI f) (nI g) (nI i) M2 (n + 1) (nI k) = f_X11_apartOf_l2 (nI f) (nI g) (nI i) M2 n (nI (k + 1))) ∨ ∃ r, f_X11_apartOf_l2 (nI f) (nI g) (nI i) M2 (n + 1) (nI k) = some r ∧ _
    rw [f_X11_apartOf_l2, if_pos (inB_nI gy.1 (show 24 < 2 ^ 31 by decide)), nI_clamp (show g < 2 ^ 31 by have := gy.1; omega), gy.2.2.1, if_neg (ifle_no hk (by omega)), fy.at hi, gy.at hk, Option.bind_some, Option.bind_some, nI_1]
    by_cases h0 : (nI (p i) &&& nI (q k)) = 0
    · right; rw [if_pos h0]; exact ⟨_, rfl, trivial⟩
    · left; rw [if_neg h0]; exact ⟨(), trivial, rfl⟩
theorem ap_some {M2 : Mem} {f g c d : Nat} {p q : Nat → Nat} (fy : QY M2 f c p) (gy : QY M2 g d q) (hs : f = g → c = d) : ∃ r, f_X11_apartOf (nI f) (nI g) M2 = some r := by
  have hc := fy.2.1
  have hd := gy.2.1
  have hf := fy.1
  have hg := gy.1
  have HH := loop_go (F := fun n v (_ : Unit) => f_X11_apartOf_l1 (nI f) (nI g) M2 n v) c (by omega) (fun _ _ => True) (fun _ => True) ?_ ?_ 0 () (by omega) trivial
  · obtain ⟨r, e, -⟩ := HH
    have e : f_X11_apartOf_l1 (nI f) (nI g) M2 fuelN 0 = some r := e
    unfold f_X11_apartOf
    rw [e, Option.bind_some]
    cases r with
    | inl u => exact ⟨_, rfl⟩
    | inr v => exact ⟨_, rfl⟩
  · intro n _ _
    refine ⟨.inl (), ?_, trivial⟩
    show f_X11_apartOf_l1 (nI f) (nI g) M2 (n + 1) (nI c) = _
    rw [f_X11_apartOf_l1, if_pos (inB_nI fy.1 (show 24 < 2 ^ 31 by decide)), nI_clamp (show f < 2 ^ 31 by omega), fy.2.2.1, if_pos (Int32.le_refl _)]
  · intro n k _ hk _
    show (∃ s', _ ∧ f_X11_apartOf_l1 (nI f) (nI g) M2 (n + 1) (nI k) = f_X11_apartOf_l1 (nI f) (nI g) M2 n (nI (k + 1))) ∨ ∃ r, f_X11_apartOf_l1 (nI f) (nI g) M2 (n + 1) (nI k) = some r ∧ _
    rw [f_X11_apartOf_l1, if_pos (inB_nI fy.1 (show 24 < 2 ^ 31 by decide)), nI_clamp (show f < 2 ^ 31 by omega), fy.2.2.1, if_neg (ifle_no hk (by omega)), nI_1]
    have key : ∀ r : Unit ⊕ Int32, (∃ s' : Unit, True ∧ sel r (fun _ => f_X11_apartOf_l1 (nI f) (nI g) M2 n (nI (k + 1))) (fun v9 => some (Sum.inr v9)) = f_X11_apartOf_l1 (nI f) (nI g) M2 n (nI (k + 1))) ∨ ∃ r2 : Unit ⊕ Int32, sel r (fun _ => f_X11_apartOf_l1 (nI f) (nI g) M2 n (nI (k + 1))) (fun v9 => some (Sum.inr v9)) = some r2 ∧ True := by
      intro r
      cases r with
      | inl u => left; exact ⟨(), trivial, rfl⟩
      | inr v => right; exact ⟨_, rfl, trivial⟩
    by_cases hfg : f = g
    · obtain ⟨r, e⟩ := ap_l2_some fy gy hk (j := k + 1) (by have := hs hfg; omega)
      rw [if_pos (show nI f = nI g by rw [hfg]), Option.bind_some, e, Option.bind_some]
      exact key r
    · obtain ⟨r, e⟩ := ap_l2_some fy gy hk (j := 0) (by omega)
      rw [if_neg (show ¬ nI f = nI g from fun z => hfg ((nI_eq (by omega) (by omega)).mp z)), Option.bind_some, show (0 : Int32) = nI 0 from rfl, e, Option.bind_some]
      exact key r
theorem apart_eq {M1 M2 : Mem} {f g c d : Nat} {p q : Nat → Nat} (fx : QX M1 f c p) (fy : QY M2 f c p) (gx : QX M1 g d q) (gy : QY M2 g d q) (hs : f = g → c = d) {b : Int32} (hb : b = if f = g then 1 else 0) : f_X10_firstApart (264 + 2 * f) (264 + 2 * g) b M1 = f_X11_apartOf (nI f) (nI g) M2 := by
  unfold f_X10_firstApart f_X11_apartOf
  rw [if_pos (kX_fam fx.1), if_pos (kX_fam gx.1)]
  have e := ap_l1 fx fy gx gy hs hb fuelN 0 (Nat.zero_le _)
  rw [show (0 : Int32) = nI 0 from rfl, e]
theorem step_apart : St_apart Rel := by
  intro a b M1 M2 H
  have Hn := Rel_no H 1
  have Hy := Rel_no H 0
  obtain ⟨z, h, ⟨h1, h2, h3, h4, -⟩, hL, hS, hs⟩ := id H
  have hf := h4.inv.2.1
  have h5 : (sI M2 0 5 0).1 0 11 = nI (zFn z) := by rw [fn5]; exact h2.2.1.1
  unfold f_X10_apart f_X11_apart
  have famb : ∃ o, f_X10_familyAt b M1 = some o := by
    rcases pk_ix b (n := zFn z) (by omega) with hb | hb | ⟨g, hgz, rfl⟩
    · exact ⟨_, famAt_no h1.2.1.1 (Or.inl hb)⟩
    · exact ⟨_, famAt_no h1.2.1.1 (Or.inr hb)⟩
    · exact ⟨_, famAt_yes h1.2.1.1 hf.1 hgz⟩
  rcases pk_ix a (n := zFn z) (by omega) with ha | ha | ⟨f, hfz, rfl⟩
  · obtain ⟨o, eo⟩ := famb
    rw [famAt_no h1.2.1.1 (Or.inl ha), isFam_no h5 hf.1 (Or.inl ha), eo]; exact ⟨_, _, rfl, rfl, rfl, Hn⟩
  · obtain ⟨o, eo⟩ := famb
    rw [famAt_no h1.2.1.1 (Or.inr ha), isFam_no h5 hf.1 (Or.inr ha), eo]; exact ⟨_, _, rfl, rfl, rfl, Hn⟩
  rw [famAt_yes h1.2.1.1 hf.1 hfz, isFam_yes h5 hf.1 hfz]
  have qx := QX_of h4.inv h1.2.1 hfz
  have qy := QY_k (QY_of h4.inv h2.2.1 hfz) (k54 M2 0)
  rcases pk_ix b (n := zFn z) (by omega) with hb | hb | ⟨g, hgz, rfl⟩
  · rw [famAt_no h1.2.1.1 (Or.inl hb), isFam_no h5 hf.1 (Or.inl hb)]
    simp only [Option.bind_some, oel, if_pos (kX_fam qx.1), if_neg one_ne]
    exact ⟨_, _, rfl, rfl, rfl, Hn⟩
  · rw [famAt_no h1.2.1.1 (Or.inr hb), isFam_no h5 hf.1 (Or.inr hb)]
    simp only [Option.bind_some, oel, if_pos (kX_fam qx.1), if_neg one_ne]
    exact ⟨_, _, rfl, rfl, rfl, Hn⟩
  · rw [famAt_yes h1.2.1.1 hf.1 hgz, isFam_yes h5 hf.1 hgz]
    have rx := QX_of h4.inv h1.2.1 hgz
    have ry := QY_k (QY_of h4.inv h2.2.1 hgz) (k54 M2 0)
    have hsame : f = g → zCnt (zFm z) f = zCnt (zFm z) g := fun e => by rw [e]
    obtain ⟨r, e⟩ := ap_some qy ry hsame
    have eb : (if nI f = nI g then some (1 : Int32) else some (0 : Int32)) = some (if f = g then 1 else 0) := by
      by_cases hfg : f = g
      · rw [if_pos hfg, if_pos (show nI f = nI g by rw [hfg])]
      · rw [if_neg hfg, if_neg (show ¬ nI f = nI g from fun z => hfg ((nI_eq (by omega) (by omega)).mp z))]
    simp only [Option.bind_some, oel, if_pos (kX_fam qx.1), if_pos (kX_fam rx.1), if_neg one_ne, eb, apart_eq qx qy rx ry hsame rfl, e, f_X10_accept]
    exact ⟨_, _, rfl, rfl, rfl, Hy⟩
