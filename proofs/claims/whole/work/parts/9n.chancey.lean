/-! the reference's chance -/
theorem chanceY2 {M : Mem} {z : Sg} {A v : Nat} (hI : Inv z) (hA : A < 2 ^ zKn z) (hv : Sb v A) (ht : ∀ k, k < zKn z → M.1 2 k = nI (zTe z k)) (a b : Int32) (c : Int64) : f_X11_chance_l2 a (nI A) c (nI v) M fuelN 1 0 = some (lN (prd (cut A (Ft z)) 0 16 v)) := by
  have hpk := p16 hI.1.1
  have hvA := Sb_le hv
  have HH := loop_go (F := fun n w x => f_X11_chance_l2 a (nI A) c (nI v) M n x w) 16 (by omega) (fun i x => x = lN (prd (cut A (Ft z)) 0 i v)) (fun r => r = lN (prd (cut A (Ft z)) 0 16 v)) ?_ ?_ 0 1 (by omega) rfl
  · obtain ⟨r, e, rfl⟩ := HH
    exact e
  · intro n x hx
    refine ⟨x, ?_, hx⟩
    show f_X11_chance_l2 a (nI A) c (nI v) M (n + 1) x (nI 16) = _
    rw [f_X11_chance_l2, if_pos (by decide)]
  · intro n i x hi hx
    left
    refine ⟨lN (prd (cut A (Ft z)) 0 (i + 1) v), rfl, ?_⟩
    show f_X11_chance_l2 a (nI A) c (nI v) M (n + 1) x (nI i) = f_X11_chance_l2 a (nI A) c (nI v) M n _ (nI (i + 1))
    rw [f_X11_chance_l2, if_neg (show ¬ (16 : Int32) ≤ nI i from ifle_no (c := 16) hi (by decide)), bit_ (by omega) (by omega), bit_ (by omega) (by omega), nI_1, hx]
    show _ = f_X11_chance_l2 a (nI A) c (nI v) M n (lN (prd (cut A (Ft z)) 0 i v * cut A (Ft z) (0 + i) (v.testBit i))) (nI (i + 1))
    rw [Nat.zero_add, ← lN_mul]
    cases hAi : A.testBit i with
    | false =>
      have hvi : v.testBit i = false := by
        cases q : v.testBit i with
        | false => rfl
        | true => rw [hv i q] at hAi; cases hAi
      rw [hvi, if_pos (show (if false = true then (1 : Int32) else 0) = 0 from rfl), Option.bind_some, show cut A (Ft z) i false = 10 by unfold cut; rw [hAi]; rfl]
      rfl
    | true =>
      have hik : i < zKn z := by
        apply Classical.byContradiction
        intro q
        rw [tb_hi hA (by omega)] at hAi
        cases hAi
      have hte : zTe z i ≤ 10 := (hI.1.2 i hik).2.2.1
      have htq : tq z i = zTe z i := by unfold tq; rw [if_pos hik]
      rw [if_neg (show ¬ (if true = true then (1 : Int32) else 0) = 0 from one_ne), if_pos (inB_nI hi (by decide)), if_pos (inB_nI hi (by decide)), nI_clamp (by omega), ht i hik]
      cases hvi : v.testBit i with
      | true =>
        rw [if_pos (show (if true = true then (1 : Int32) else 0) = 1 from rfl), Option.bind_some, nI_l (by omega), show cut A (Ft z) i true = zTe z i by unfold cut; rw [hAi]; show tq z i = _; exact htq]
      | false =>
        rw [if_neg (show ¬ (if false = true then (1 : Int32) else 0) = 1 by decide), Option.bind_some, ten_sub hte, show cut A (Ft z) i false = 10 - zTe z i by unfold cut; rw [hAi]; show 10 - tq z i = _; rw [htq]]
theorem cut_zero {A : Nat} {F : Nat → Bool → Nat} {s : Nat} : ∀ n, (∃ k, k < n ∧ s.testBit k = true ∧ A.testBit k = false) → prd (cut A F) 0 n s = 0 := by
  intro n
  induction n with
  | zero => rintro ⟨k, hk, -⟩; omega
  | succ n ih =>
    rintro ⟨k, hk, h1, h2⟩
    show prd (cut A F) 0 n s * cut A F (0 + n) (s.testBit n) = 0
    by_cases e : k = n
    · subst e
      rw [Nat.zero_add, h1, show cut A F k true = 0 by unfold cut; rw [h2]; rfl, Nat.mul_zero]
    · rw [ih ⟨k, by omega, h1, h2⟩, Nat.zero_mul]
theorem chanceY {M : Mem} {z : Sg} {f : Nat} (hI : Inv z) (hf : f < zFn z) (hy : QY M f (zCnt (zFm z) f) (zSet (zFm z) f)) (ht : ∀ k, k < zKn z → M.1 2 k = nI (zTe z k)) {A : Nat} (hAe : orF (zSet (zFm z) f) (zCnt (zFm z) f) = A) (hA : A < 2 ^ zKn z) :
    f_X11_chance_l1 (nI f) (nI A) M fuelN 0 (nI A) = some (lN (SZ (cut A (Ft z)) 16 (kb (Up (fun s => ∃ i, i < zCnt (zFm z) f ∧ s = zSet (zFm z) f i))))) := by
  have hpk := p16 hI.1.1
  obtain ⟨-, c1, c2, c3⟩ := hI.2.1.2 f hf
  generalize hP : kb (Up (fun s => ∃ i, i < zCnt (zFm z) f ∧ s = zSet (zFm z) f i)) = P
  have hP0 : P 0 = false := by
    rw [← hP]
    refine kb_f.mpr (fun ⟨t, t1, i, hi, e⟩ => ?_)
    have := Sb_le t1
    have := (c3 i hi).1
    omega
  let hh : Nat → Nat := fun s => if P s then prd (cut A (Ft z)) 0 16 s else 0
  have hz : ∀ s, s < 65536 → ¬ Sb s A → hh s = 0 := fun s hs hns => by
    show (if P s = true then prd (cut A (Ft z)) 0 16 s else 0) = 0
    have hex : ∃ k, s.testBit k = true ∧ A.testBit k = false := by
      apply Classical.byContradiction
      intro q
      apply hns
      intro k hk
      cases hAk : A.testBit k with
      | true => rfl
      | false => exact absurd ⟨k, hk, hAk⟩ q
    obtain ⟨k, k1, k2⟩ := hex
    have hk16 : k < 16 := by
      apply Classical.byContradiction
      intro q
      rw [tb_hi (show s < 2 ^ 16 from hs) (by omega)] at k1
      cases k1
    rw [cut_zero 16 ⟨k, hk16, k1, k2⟩]
    split <;> rfl
  have htop : psum hh 65536 = psum hh (A + 1) := psum_stop (by omega) (fun k h1 h2 => hz k h2 (fun q => by have := Sb_le q; omega))
  have HH := loop_d (F := fun n (s : Int64 × Int32) => f_X11_chance_l1 (nI f) (nI A) M n s.1 s.2)
    (fun s => ∃ v acc, s.2 = nI v ∧ Sb v A ∧ s.1 = lN acc ∧ acc + psum hh (v + 1) = psum hh 65536)
    (fun s => s.2.toNatClampNeg) (fun r => r = lN (psum hh 65536)) ?_ (0, nI A) ⟨A, 0, rfl, Sb.refl A, rfl, by rw [Nat.zero_add, htop]⟩ (by show (nI A).toNatClampNeg < 70000; rw [nI_clamp (by omega)]; omega)
  · obtain ⟨r, e, rfl⟩ := HH
    exact e
  · rintro n ⟨w, x⟩ ⟨v, acc, e1, hv, e2, hs⟩
    dsimp only at e1 e2
    subst e1 e2
    have hvA := Sb_le hv
    by_cases v0 : v = 0
    · subst v0
      right
      have : psum hh (0 + 1) = 0 := by
        show 0 + (if P 0 = true then prd (cut A (Ft z)) 0 16 0 else 0) = 0
        rw [hP0]; rfl
      refine ⟨lN acc, ?_, by rw [← hs, this, Nat.add_zero]⟩
      show f_X11_chance_l1 _ _ M (n + 1) (lN acc) (nI 0) = _
      rw [f_X11_chance_l1, if_pos (by decide)]
    · left
      have hlt : (v - 1) &&& A < v := by have : (v - 1) &&& A ≤ v - 1 := Nat.and_le_left; omega
      obtain ⟨r, er, hr⟩ := has_some hy (nI v)
      have hPv : (r = 1 ∧ P v = true) ∨ (r = 0 ∧ P v = false) := by
        rcases hr with ⟨rfl, i, hi, h0⟩ | ⟨rfl, hno⟩
        · left
          refine ⟨rfl, ?_⟩
          rw [← hP]
          exact kb_t.mpr ⟨zSet (zFm z) f i, (and_notz (by have := (c3 i hi).2; omega)).mp h0, i, hi, rfl⟩
        · right
          refine ⟨rfl, ?_⟩
          rw [← hP]
          refine kb_f.mpr (fun ⟨t, t1, i, hi, e⟩ => ?_)
          rw [e] at t1
          exact hno i hi ((and_notz (by have := (c3 i hi).2; omega)).mpr t1)
      have hgap : psum hh v = psum hh (((v - 1) &&& A) + 1) := psum_stop (by omega) (fun k h1 h2 => hz k (by omega) (fun q => by
        have := sub_pred 16 A v k (by omega) hv q h2
        omega))
      have hsv : psum hh (v + 1) = psum hh v + hh v := rfl
      have hsel : (if r = 0 then some (lN acc) else (Option.bind (f_X11_chance_l2 (nI f) (nI A) (lN acc) (nI v) M fuelN (1 : Int64) (0 : Int32)) (fun q13 => some (lN acc + q13)))) = some (lN (acc + hh v)) := by
        show _ = some (lN (acc + if P v = true then prd (cut A (Ft z)) 0 16 v else 0))
        rcases hPv with ⟨rfl, hp⟩ | ⟨rfl, hp⟩
        · rw [if_neg one_ne, chanceY2 hI hA hv ht (nI f) 0 (lN acc), Option.bind_some, lN_add, if_pos hp]
        · rw [if_pos rfl, hp]; rfl
      refine ⟨(lN (acc + hh v), nI ((v - 1) &&& A)), ⟨(v - 1) &&& A, acc + hh v, rfl, and_Sb _ _, rfl, by omega⟩, ?_, ?_⟩
      · show (nI ((v - 1) &&& A)).toNatClampNeg < (nI v).toNatClampNeg
        rw [nI_clamp (by omega), nI_clamp (by omega)]; exact hlt
      · show f_X11_chance_l1 (nI f) (nI A) M (n + 1) (lN acc) (nI v) = f_X11_chance_l1 (nI f) (nI A) M n (lN (acc + hh v)) (nI ((v - 1) &&& A))
        rw [f_X11_chance_l1, if_neg (nI_nle (by omega) (by omega)), er, Option.bind_some, hsel, Option.bind_some, show (1 : Int32) = nI 1 from rfl, pk_sub (by omega), nx_and]
theorem step_chance : St_chance Rel := by
  intro a M1 M2 H
  have Hn1 := Rel_no H 1
  obtain ⟨z, h, hC, hL, hS, hs⟩ := id H
  obtain ⟨h1, h2, h3, h4, -⟩ := id hC
  have hI := h4.inv
  have hf := hI.2.1
  unfold f_X10_chance f_X11_chance
  rcases pk_ix a (n := zFn z) (by omega) with ha | ha | ⟨f, hfz, rfl⟩
  · rw [famAt_no h1.2.1.1 (Or.inl ha), isFam_no (by rw [fn5]; exact h2.2.1.1) hf.1 (Or.inl ha)]; exact ⟨_, _, rfl, rfl, rfl, Hn1⟩
  · rw [famAt_no h1.2.1.1 (Or.inr ha), isFam_no (by rw [fn5]; exact h2.2.1.1) hf.1 (Or.inr ha)]; exact ⟨_, _, rfl, rfl, rfl, Hn1⟩
  rw [famAt_yes h1.2.1.1 hf.1 hfz, isFam_yes (by rw [fn5]; exact h2.2.1.1) hf.1 hfz]
  obtain ⟨-, c1, c2, c3⟩ := hf.2 f hfz
  have hpk := p16 hI.1.1
  have qx := QX_of hI h1.2.1 hfz
  have qy := QY_k (QY_of hI h2.2.1 hfz) (k54 M2 0)
  have hA : orF (zSet (zFm z) f) (zCnt (zFm z) f) < 2 ^ zKn z := orF_lt _ (fun i hi => (c3 i hi).2)
  obtain ⟨A0, a1, a2, a3, a4, a5⟩ := begun hI.1.1 h1.1.1
  obtain ⟨A1, a6, a7, a8⟩ := holdX a2 a5 (QX_k qx a4) (fun i hi => k2m (c3 i hi).2)
  have kA1 : KeepX M1 A1 := a4.trans (keepX_1 a7)
  have kA2 : KeepX M1 (sI A1 0 11 0) := kA1.trans (keepX_st _ _)
  have pA2 : PS (sI A1 0 11 0) (max (zKn z) 6) := PS.keep2 (PS.keep a2 a7) (by rw [sI_off _ _ _ _ (by decide)])
  have hkA : KeX (sI A1 0 11 0) z := by
    have := h1.1
    unfold KeX at this ⊢
    rw [kA2.1.2 1 (by omega), kA2.1.2 2 (by omega), kA2.1.2 3 (by omega), kA2.1.2 4 (by omega)]
    exact this
  obtain ⟨N, e1, n1⟩ := setsX hI hkA pA2
  have ey := chanceY (M := sI (sI M2 0 5 0) 0 4 0) hI hfz qy (fun k hk => by rw [sI_off _ _ _ _ (by decide), sI_off _ _ _ _ (by decide)]; exact (h2.1.2 k hk).2.1) rfl hA
  have hsame : SZ (Ft z) (max (zKn z) 6) (pb (sI A1 0 11 0)) * 10 ^ (16 - max (zKn z) 6) = SZ (cut (orF (zSet (zFm z) f) (zCnt (zFm z) f)) (Ft z)) 16 (kb (Up (fun s => ∃ i, i < zCnt (zFm z) f ∧ s = zSet (zFm z) f i))) := by
    have hIns : Ins (orF (zSet (zFm z) f) (zCnt (zFm z) f)) 16 (kb (Up (fun s => ∃ i, i < zCnt (zFm z) f ∧ s = zSet (zFm z) f i))) := fun s t _ _ e => by
      rw [Bool.eq_iff_iff, kb_t, kb_t]
      constructor
      · rintro ⟨u, u1, i, hi, rfl⟩
        exact ⟨_, fun k hk => by rw [← e k (orF_Sb _ i hi k hk)]; exact u1 k hk, i, hi, rfl⟩
      · rintro ⟨u, u1, i, hi, rfl⟩
        exact ⟨_, fun k hk => by rw [e k (orF_Sb _ i hi k hk)]; exact u1 k hk, i, hi, rfl⟩
    have hm := a2.2.1
    have e2 : SZ (Ft z) (max (zKn z) 6) (pb (sI A1 0 11 0)) = SZ (Ft z) (max (zKn z) 6) (kb (Up (fun s => ∃ i, i < zCnt (zFm z) f ∧ s = zSet (zFm z) f i))) := SZ_congr (fun s hs => by
      rw [Bool.eq_iff_iff, kb_t, pb_keep (N := sI A1 0 11 0) (M := A1) rfl s]
      exact a8 s hs)
    have e3 := SZ_ten (A := orF (zSet (zFm z) f) (zCnt (zFm z) f)) (F := Ft z) (Ft_ten hI) (m := max (zKn z) 6) (k2m hA) (16 - max (zKn z) 6) (kb (Up (fun s => ∃ i, i < zCnt (zFm z) f ∧ s = zSet (zFm z) f i))) (by rw [show max (zKn z) 6 + (16 - max (zKn z) 6) = 16 by omega]; exact hIns)
    rw [show max (zKn z) 6 + (16 - max (zKn z) 6) = 16 by omega] at e3
    rw [e2, Nat.mul_comm, ← e3]
    exact SZ_cut (Ft_ten hI) 16 _ hIns
  rw [Option.bind_some, oel_some, if_pos (kX_fam qx.1), a1, Option.bind_some, a6, Option.bind_some, e1, Option.bind_some, Option.bind_some, if_neg one_ne, allOfY qy, Option.bind_some, ey, Option.bind_some, hsame]
  exact ⟨_, _, rfl, rfl, rfl, Rel_keep H (kA2.trans (keepX_1 n1)) (k54 M2 0) (by rw [n1, st_X, st_Y])⟩
