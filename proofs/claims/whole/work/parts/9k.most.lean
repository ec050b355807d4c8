/-! most -/
theorem mostY_l {M : Mem} {kn a : Nat} {g : Nat → Nat} (hkn : kn ≤ 16) (h3 : M.1 0 3 = nI kn) (hw : ∀ k, k < kn → M.1 1 k = nI (g k)) (hg : ∀ b, g b ≤ 100) (ha : a < 2 ^ kn) (h0 : ∀ s, s < 65536 → M.1 14 s = 0) : ∃ N, f_X11_most_l1 (nI a) (nI (sw g kn a)) fuelN (nI a) M = some N ∧ (∀ d, d ≠ 14 → N.1 d = M.1 d) ∧ ∀ s, s < 65536 → (N.1 14 s = 0 ↔ ¬ Gm g kn a s) := by
  have hp := p16 hkn
  have hsw : ∀ s, sw g kn s ≤ 1600 := fun s => by
    have := psum_le (p := ws g s) (b := 100) kn (fun i hi => by
      unfold ws
      have := hg i
      split <;> omega)
    unfold sw
    omega
  refine loop_d (F := fun n (s : Int32 × Mem) => f_X11_most_l1 (nI a) (nI (sw g kn a)) n s.1 s.2)
    (fun s => ∃ v, s.1 = nI v ∧ Sb v a ∧ (∀ d, d ≠ 14 → s.2.1 d = M.1 d) ∧ ∀ t, t < 65536 → (s.2.1 14 t = 0 ↔ ¬ (v < t ∧ Sb t a ∧ sw g kn a < 2 * sw g kn t)))
    (fun s => s.1.toNatClampNeg) _ ?_ (nI a, M) ⟨a, rfl, Sb.refl a, fun _ _ => rfl, fun t ht => ⟨fun _ q => by have := Sb_le q.2.1; omega, fun _ => h0 t ht⟩⟩ (by show (nI a).toNatClampNeg < 70000; rw [nI_clamp (by omega)]; omega)
  rintro n ⟨w, N⟩ ⟨v, e, hv, g1, g2⟩
  dsimp only at e g1 g2
  subst e
  have hva := Sb_le hv
  by_cases v0 : v = 0
  · subst v0
    right
    refine ⟨N, ?_, g1, fun s hs => ?_⟩
    · show f_X11_most_l1 _ _ (n + 1) (nI 0) N = _
      rw [f_X11_most_l1, if_pos (by decide)]
    · rw [g2 s hs]
      exact Iff.rfl
  · left
    have hst := strengthY (M := N) (s := v) hkn (by rw [g1 0 (by decide)]; exact h3) (by omega) (fun k hk => by rw [g1 1 (by decide)]; exact hw k hk)
    have b1 := hsw v
    have b2 := hsw a
    have hlt : (v - 1) &&& a < v := by have : (v - 1) &&& a ≤ v - 1 := Nat.and_le_left; omega
    have hr : (if ((2 : Int32) * nI (sw g kn v)) ≤ nI (sw g kn a) then some (0 : Int32) else some (1 : Int32)) = some (if 2 * sw g kn v ≤ sw g kn a then 0 else 1) := by
      rw [show (2 : Int32) * nI (sw g kn v) = nI (2 * sw g kn v) from pk_mul 2 _]
      by_cases q : 2 * sw g kn v ≤ sw g kn a
      · rw [if_pos (nI_le q (by omega)), if_pos q]
      · rw [if_neg (ifle_no (by omega) (by omega)), if_neg q]
    refine ⟨(nI ((v - 1) &&& a), sI N 14 v (if 2 * sw g kn v ≤ sw g kn a then 0 else 1)), ⟨(v - 1) &&& a, rfl, and_Sb _ _, fun d hd => ?_, fun t ht => ?_⟩, ?_, ?_⟩
    · show (sI N 14 v _).1 d = _
      rw [sI_off _ _ _ _ hd]; exact g1 d hd
    · show (sI N 14 v _).1 14 t = 0 ↔ _
      rw [sI_1]
      by_cases et : t = v
      · subst et
        rw [if_pos ⟨rfl, rfl⟩]
        by_cases q : 2 * sw g kn t ≤ sw g kn a
        · rw [if_pos q]; exact ⟨fun _ z => by have := z.2.2; omega, fun _ => rfl⟩
        · rw [if_neg q]; exact ⟨fun z => absurd z (by decide), fun z => absurd ⟨hlt, hv, by omega⟩ z⟩
      · rw [if_neg (fun q => et q.2), g2 t ht]
        constructor
        · intro q ⟨q1, q2, q3⟩
          refine q ⟨?_, q2, q3⟩
          apply Classical.byContradiction
          intro q4
          have := sub_pred 16 a v t (by omega) hv q2 (by omega)
          omega
        · intro q ⟨q1, q2, q3⟩
          exact q ⟨by omega, q2, q3⟩
    · show (nI ((v - 1) &&& a)).toNatClampNeg < (nI v).toNatClampNeg
      rw [nI_clamp (by omega), nI_clamp (by omega)]; exact hlt
    · show f_X11_most_l1 (nI a) (nI (sw g kn a)) (n + 1) (nI v) N = f_X11_most_l1 (nI a) (nI (sw g kn a)) n (nI ((v - 1) &&& a)) _
      rw [f_X11_most_l1, if_neg (nI_nle (by omega) (by omega)), hst, Option.bind_some, hr, Option.bind_some, if_pos (inB_nI (show v < 65536 by omega) (by decide)), if_pos (by split <;> simp), nI_clamp (by omega), show (1 : Int32) = nI 1 from rfl, pk_sub (by omega), nx_and]
set_option maxRecDepth 10000 in
theorem step_most : St_most Rel := by
  intro a M1 M2 H
  have Hn2 := Rel_no H 2
  obtain ⟨z, h, hC, hL, hS, hs⟩ := id H
  obtain ⟨h1, h2, h3, h4, -⟩ := id hC
  have hI := h4.inv
  have hk := hI.1.1
  have hpk := p16 hk
  unfold f_X10_most f_X11_most
  rcases set_cases a hk h1.1.1 (show (sI M2 0 5 0).1 0 3 = nI (zKn z) by rw [show (sI M2 0 5 0).1 0 3 = M2.1 0 3 by simp [sI]]; exact h2.1.1) with ⟨e1, e2⟩ | ⟨e1, e2, s, hs1, hs2, rfl⟩
  · rw [e1, e2]; exact ⟨_, _, rfl, rfl, rfl, Hn2⟩
  have hg : ∀ b, zSt z b ≤ 100 := fun b => by
    by_cases q : b < zKn z
    · exact (hI.1.2 b q).2.1
    · have := (hI.2.2.2.2.1 b (by omega)).1; omega
  have hW1 : 1 ≤ sw (zSt z) (zKn z) s := by
    obtain ⟨b, b1⟩ := ex_bit (s := s) (by omega)
    have hbk : b < zKn z := by
      apply Classical.byContradiction
      intro q
      rw [tb_hi hs2 (by omega)] at b1
      cases b1
    have := sw_sub (g := zSt z) b1 hbk
    have := (hI.1.2 b hbk).1
    omega
  have hWb : sw (zSt z) (zKn z) s ≤ 1600 := by
    have := psum_le (p := ws (zSt z) s) (b := 100) (zKn z) (fun i hi => by
      unfold ws
      have := hg i
      split <;> omega)
    unfold sw
    omega
  obtain ⟨B0, b1, b2, b3⟩ := noSetsY (sI M2 0 5 0)
  have kB0 : KeepY M2 B0 := (k5 M2).trans (keepY_14 b2)
  have B03 : B0.1 0 3 = nI (zKn z) := by rw [kB0.1.1.1]; exact h2.1.1
  have B01 : ∀ k, k < zKn z → B0.1 1 k = nI (zSt z k) := fun k hk => by rw [kB0.1.2 1 (by omega)]; exact (h2.1.2 k hk).1
  obtain ⟨B, b4, b5, b6⟩ := mostY_l hk B03 B01 hg hs2 b3
  have kB : KeepY M2 B := kB0.trans (keepY_14 b5)
  rw [e1, e2, Option.bind_some, if_neg one_ne, Option.bind_some, if_neg one_ne, b1, Option.bind_some, strengthY hk B03 hs2 B01, Option.bind_some, b4, Option.bind_some]
  by_cases hfn : zFn z < 24
  · obtain ⟨A0, a1, a2, a3, a4, a5⟩ := begun hk h1.1.1
    have kA1 : KeepX A0 (sI A0 254 8 0) := keepX_scr _ _ _ (by omega)
    obtain ⟨A2, k, p, c1, c2, c3, c4, c5, c6⟩ := orderX (M := sI A0 254 8 0) (g := zSt z) (a := s) hk hs2 (by rw [sI_off _ _ _ _ (by decide), a3 1 (by decide)]; exact h1.1.1) (fun k hk => by rw [sI_off _ _ _ _ (by decide), a3 2 (by decide)]; exact (h1.1.2 k hk).1) hg (by rw [sI_1, if_pos ⟨rfl, rfl⟩])
    have kA2 : KeepX (sI A0 254 8 0) A2 := ⟨⟨by rw [c2 0 (by decide) (by decide) (by decide)], fun c hc => c2 c (by omega) (by omega) (by omega)⟩, by rw [c2 0 (by decide) (by decide) (by decide)], c2 6 (by decide) (by decide) (by decide), by rw [c2 252 (by decide) (by decide) (by decide)], c2 253 (by decide) (by decide) (by decide)⟩
    have kA3 : KeepX M1 (sI A2 254 9 0) := ((a4.trans kA1).trans kA2).trans (keepX_scr _ _ _ (by omega))
    have pA3 : PS (sI A2 254 9 0) (max (zKn z) 6) := PS.keep2 a2 (by rw [sI_off _ _ _ _ (by decide), c2 255 (by decide) (by decide) (by decide), sI_off _ _ _ _ (by decide)])
    have pb3 : ∀ t, t < 2 ^ max (zKn z) 6 → pb (sI A2 254 9 0) t = false := fun t ht => by
      rw [pb_keep (N := sI A2 254 9 0) (M := A0) (by show A2.2 = A0.2; rw [c4]; rfl) t]
      exact a5 t ht
    have hcnt0 : cnt (pb (sI A2 254 9 0)) (2 ^ max (zKn z) 6) = 0 := by
      have := cnt_stop (K := pb (sI A2 254 9 0)) (n := 0) (m := 2 ^ max (zKn z) 6) (Nat.zero_le _) (fun t _ ht => pb3 t ht)
      rw [this]; rfl
    have est : f_X5_strengthOf (nI s) (sI A2 254 9 0) = some (nI (sw (zSt z) (zKn z) s)) := strengthX hk hs2 (fun k hk => by rw [kA3.1.2 2 (by omega)]; exact (h1.1.2 k hk).1)
    have hk16 : k ≤ 16 := by have := c6.1; omega
    obtain ⟨A, f', t1, t2⟩ := takeX (m := max (zKn z) 6) c6 hk (by omega) (by omega) hs2 hg (sw (zSt z) (zKn z) s) hWb 42 k 0 0 (sI A2 254 9 0) (Nat.le_refl _) (by omega) (fun j _ _ => by simp) (fun b hb => by simp at hb) (by rw [sw_zero]; omega) (by rw [rsum_top c6 hs2]; exact hWb) ⟨by rw [sI_1, if_neg (by decide)]; exact c5.1, fun i hi => by rw [sI_off _ _ _ _ (by decide), sI_off _ _ _ _ (by decide)]; exact c5.2 i hi⟩ pA3 (by rw [sI_1, if_pos ⟨rfl, rfl⟩]; rfl) (by omega) hcnt0 (fun t ht hk => by rw [pb3 t ht] at hk; cases hk)
    rw [Nat.sub_self, sw_zero, Nat.mul_zero, Nat.sub_zero, rsum_top c6 hs2] at t1
    have t1 : f_X3_takeStrong 42 0 0 (nI (sw (zSt z) (zKn z) s)) (nI (sw (zSt z) (zKn z) s)) (sI A2 254 9 0) = some A := t1
    obtain ⟨d1, d2, d3, d4, d5, d6, d7, d8, d9⟩ := t2
    have kA : KeepX M1 A := kA3.trans ⟨⟨by rw [d1 0 (by decide)], fun c hc => d1 c (by omega)⟩, by rw [d1 0 (by decide)], d1 6 (by decide), by rw [d1 252 (by decide)], d1 253 (by decide)⟩
    have pA : PS A (max (zKn z) 6) := PS.keep2 pA3 (d1 255 (by decide))
    have eg : f_X3_gatherMost (nI s) A0 = some A := by
      unfold f_X3_gatherMost
      rw [c1, Option.bind_some, est, Option.bind_some, t1, Option.bind_some]
    have hsub : ∀ t, t < 2 ^ max (zKn z) 6 → pb A t = true → Ls (Gm (zSt z) (zKn z) s) t := fun t ht hk => by
      rcases d8 t hk with q | q
      · rw [pb3 t ht] at q; cases q
      · exact (Es_iff c6 hs2 t).mp q
    obtain ⟨C, u1, u2, u3⟩ := closeU pA
    have kC : KeepX M1 C := kA.trans (keepX_1 u2)
    have pC := PS.keep pA u2
    have hm16 : 2 ^ max (zKn z) 6 ≤ 65536 := p16 a2.2.1
    rw [room_yes h1.2.1.1 hfn, Option.bind_some, if_neg one_ne, a1, Option.bind_some, eg, Option.bind_some]
    by_cases hf : f' ≤ 120
    · obtain ⟨r, N1, N2, f1, f2, hR⟩ := fin2 (G := Gm (zSt z) (zKn z) s) (kd := 1) hC hL hS hfn (by omega) kC pC (fun t ht => by
        rw [u3 t ht, ← Up_Ls (P := Gm (zSt z) (zKn z) s)]
        refine Up_congr (b := 2 ^ max (zKn z) 6) (fun x hx => ⟨hsub x hx, fun q => d9 hf x ((Es_iff c6 hs2 x).mpr q)⟩) ht) kB b6 (fun t ht => ⟨ht.1, Nat.lt_of_le_of_lt (Sb_le ht.2.1) hs2⟩) ⟨s, hs1, Sb.refl s, by omega⟩
      have eX : f_X10_settleGathered 1 A = some (r, N1) := by
        unfold f_X10_settleGathered
        rw [u1, Option.bind_some, show (1 : Int32) = nI 1 from rfl, f1, Option.bind_some]
      have f2 : f_X11_made 1 B = some (r, N2) := f2
      rw [eX, f2]
      exact ⟨_, _, rfl, rfl, rfl, hR⟩
    · obtain ⟨N1, f1, n1⟩ := settle_many (G := fun t => pb A t = true) pC u3 (by
        have := cnt_sub (K := pb A) (L := kb (Ls (fun t => pb A t = true))) (2 ^ max (zKn z) 6) (fun t ht hk => kb_t.mpr (Ls_iff.mpr ⟨hk, fun u hu hsu => Ls_min (hsub t ht hk) (hsub u (by have := Sb_le hsu; omega) hu).1 hsu⟩))
        omega) 1
      have hB11 : B.1 0 11 = nI (zFn z) := by rw [kB.1.1.2.1]; exact h2.2.1.1
      obtain ⟨N2, f2, n2⟩ := made_many hB11 hfn 1 b6 (by
        have q1 := cnt_sub (K := pb A) (L := kb (Ls (Gm (zSt z) (zKn z) s))) (2 ^ max (zKn z) 6) (fun t ht hk => kb_t.mpr (hsub t ht hk))
        have q2 := cnt_mono (kb (Ls (Gm (zSt z) (zKn z) s))) hm16
        omega)
      have eX : f_X10_settleGathered 1 A = some (-1, sI N1 0 11 3) := by
        unfold f_X10_settleGathered
        rw [u1, Option.bind_some, f1, Option.bind_some]
      rw [eX, f2]
      exact ⟨_, _, rfl, rfl, rfl, Rel_keep H ((kC.trans (keepX_1 n1)).trans (keepX_st _ _)) ((kB.trans n2).trans (keepY_f _ _ (by omega))) (by rw [st_X, st_Y])⟩
  · have h24 : zFn z = 24 := by have := hI.2.1.1; omega
    obtain ⟨e2, hR⟩ := full H kB (by rw [h2.2.1.1, h24]) 1
    rw [room_no (by rw [h1.2.1.1, h24]), e2]
    exact ⟨_, _, rfl, rfl, rfl, hR⟩
