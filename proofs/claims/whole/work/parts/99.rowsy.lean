/-! the reference's rows -/
def GZ (M N : Mem) (S : Nat → Prop) : Prop := (∀ d, d ≠ 14 → d ≠ 19 → N.1 d = M.1 d) ∧ ∀ s, s < 65536 → (N.1 14 s = 0 ↔ (M.1 14 s = 0 ∧ ¬ S s))
theorem GZ.congr {M N : Mem} {S T : Nat → Prop} (h : GZ M N S) (e : ∀ s, S s ↔ T s) : GZ M N T := ⟨h.1, fun s hs => by rw [h.2 s hs, e s]⟩
theorem GZ.trans {A B C : Mem} {S T : Nat → Prop} (h : GZ A B S) (k : GZ B C T) : GZ A C (fun s => S s ∨ T s) := ⟨fun d q1 q2 => (k.1 d q1 q2).trans (h.1 d q1 q2), fun s hs => by rw [k.2 s hs, h.2 s hs, and_assoc, not_or]⟩
theorem GZ.none {M N : Mem} (h : ∀ d, d ≠ 19 → N.1 d = M.1 d) : GZ M N (fun _ => False) := ⟨fun d _ q => h d q, fun s hs => by rw [h 14 (by decide)]; simp⟩
theorem GZ.mark {M N : Mem} {x : Nat} (h : ∀ d, d ≠ 19 → N.1 d = (sI M 14 x 1).1 d) : GZ M N (fun s => s = x) := by
  refine ⟨fun d q1 q2 => by rw [h d q2, sI_off _ _ _ _ q1], fun s hs => ?_⟩
  rw [h 14 (by decide)]
  exact (markG M x).2 s hs
def RowY (M : Mem) (len : Nat → Nat) (base R : Nat) : Prop := M.1 0 27 = nI R ∧ ∀ j, j < R → M.1 17 j = nI (base + psum len j) ∧ M.1 18 j = nI (len j)
theorem RowY.keep {M N : Mem} {len : Nat → Nat} {base R : Nat} (h : RowY M len base R) (e : ∀ d, d ≠ 14 → d ≠ 19 → N.1 d = M.1 d) : RowY N len base R := by
  unfold RowY at *
  rw [e 0 (by decide) (by decide), e 17 (by decide) (by decide), e 18 (by decide) (by decide)]
  exact h
theorem rowsY_l2 {M : Mem} {len : Nat → Nat} {base R r : Nat} (hy : RowY M len base R) (hR : R ≤ 16) (hr : r < R) (a b : Int32) : ∃ N, f_X11_comeRows_l2 a b fuelN (nI (r + 1)) M = some N ∧ (∀ d, d ≠ 19 → N.1 d = M.1 d) ∧ ∀ j, r < j → j < R → N.1 19 j = 0 := by
  refine loop_go (F := fun n v N => f_X11_comeRows_l2 a b n v N) R (by omega) (fun i N => r < i ∧ (∀ d, d ≠ 19 → N.1 d = M.1 d) ∧ ∀ j, r < j → j < i → N.1 19 j = 0) _ (fun n N h => ⟨N, ?_, h.2⟩) (fun n i N hi h => Or.inl ⟨sI N 19 i 0, ⟨by omega, fun d hd => ?_, fun j q1 q2 => ?_⟩, ?_⟩) (r + 1) M (by omega) ⟨by omega, fun _ _ => rfl, fun j q1 q2 => by omega⟩
  · show f_X11_comeRows_l2 a b (n + 1) (nI R) N = _
    rw [f_X11_comeRows_l2, h.2.1 0 (by decide), hy.1, if_pos (Int32.le_refl _)]
  · rw [sI_off _ _ _ _ hd]; exact h.2.1 d hd
  · rw [sI_1]
    by_cases e : j = i
    · rw [if_pos ⟨rfl, e⟩]
    · rw [if_neg (by omega)]; exact h.2.2 j q1 (by omega)
  · show f_X11_comeRows_l2 a b (n + 1) (nI i) N = f_X11_comeRows_l2 a b n (nI (i + 1)) _
    rw [f_X11_comeRows_l2, h.2.1 0 (by decide), hy.1, if_neg (ifle_no hi (by omega)), if_pos (inB_nI (show i < 17 by omega) (by decide)), nI_clamp (by omega), nI_1]
/-- the digits of the rows behind row r -/
def DgY (M : Mem) (len : Nat → Nat) (R r n : Nat) : Prop := ∀ j, r < j → j < R → M.1 19 j = nI (dg (Lr len R) n (R - 1 - j))
theorem rowsY_l4 {M : Mem} {len : Nat → Nat} {base R kn r n full : Nat} (h : RowOk len base R kn) (hy : RowY M len base R) (hr : r < R) (hd : DgY M len R r n) (a b : Int32) : f_X11_comeRows_l4 a b M fuelN (nI full) (nI (r + 1)) = some (nI (full ||| ov (Lr len R) (Fr len base R) n (R - 1 - r))) := by
  have hR := h.2.1
  obtain ⟨v, e, hv⟩ := loop_go (F := fun n v s => f_X11_comeRows_l4 a b M n s v) R (by omega) (fun j s => r < j ∧ ∃ x, s = nI x ∧ x ||| ov (Lr len R) (Fr len base R) n (R - j) = full ||| ov (Lr len R) (Fr len base R) n (R - 1 - r)) (fun s => s = nI (full ||| ov (Lr len R) (Fr len base R) n (R - 1 - r)))
    (fun k s ⟨_, x, hx, hx2⟩ => ⟨s, by show f_X11_comeRows_l4 a b M (k + 1) s (nI R) = _; rw [f_X11_comeRows_l4, hy.1, if_pos (Int32.le_refl _)], by
      rw [Nat.sub_self] at hx2
      have hx2 : x ||| 0 = _ := hx2
      rw [Nat.or_zero] at hx2
      rw [hx, hx2]⟩)
    (fun k j s hj ⟨hrj, x, hx, hx2⟩ => Or.inl ⟨nI (x ||| 2 ^ (base + psum len j + dg (Lr len R) n (R - 1 - j))), ⟨by omega, _, rfl, by
      rw [← hx2, show R - j = R - (j + 1) + 1 by omega]
      show _ = x ||| (ov (Lr len R) (Fr len base R) n (R - (j + 1)) ||| 2 ^ (base + psum len (R - 1 - (R - (j + 1))) + dg (Lr len R) n (R - (j + 1))))
      rw [show R - 1 - (R - (j + 1)) = j by omega, show R - 1 - j = R - (j + 1) by omega, Nat.or_assoc, Nat.or_comm (2 ^ _)]⟩, by
      show f_X11_comeRows_l4 a b M (k + 1) s (nI j) = f_X11_comeRows_l4 a b M k _ (nI (j + 1))
      obtain ⟨l1, l2, l3⟩ := h.len hj
      have hkn := h.2.2.2.2
      have hdl : dg (Lr len R) n (R - 1 - j) < len j := by
        have := Nat.mod_lt (n / pk_ (Lr len R) (R - 1 - j)) (Lr_pos h (i := R - 1 - j) (by omega))
        unfold dg
        have e : Lr len R (R - 1 - j) = len j := by unfold Lr; rw [show R - 1 - (R - 1 - j) = j by omega]
        rw [e] at this ⊢; exact this
      rw [f_X11_comeRows_l4, hy.1, if_neg (ifle_no hj (by omega)), if_pos (inB_nI (show j < 17 by omega) (by decide)), if_pos (inB_nI (show j < 17 by omega) (by decide)), nI_clamp (by omega), (hy.2 j hj).1, hd j hrj hj, nI_add, one_shl _ (by omega), hx, nx_or, nI_1]⟩) (r + 1) (nI full) (by omega) ⟨by omega, full, rfl, by rw [show R - (r + 1) = R - 1 - r by omega]⟩
  rw [← hv]; exact e
theorem rowsY_l5 {M : Mem} {len : Nat → Nat} {base R kn r n : Nat} (h : RowOk len base R kn) (hy : RowY M len base R) (hr : r < R) (hd : DgY M len R r n) (hn : n < pk_ (Lr len R) (R - 1 - r)) (b : Int32) :
    ∃ q : Int32 × Mem, f_X11_comeRows_l5 (nI r) b fuelN (nI R - 1) M = some q ∧ (∀ d, d ≠ 19 → q.2.1 d = M.1 d) ∧ ((q.1 = nI r ∧ n + 1 = pk_ (Lr len R) (R - 1 - r)) ∨ ∃ j, r < j ∧ j < R ∧ q.1 = nI j ∧ (n + 1) % pk_ (Lr len R) (R - 1 - j) = 0 ∧ dg (Lr len R) n (R - 1 - j) + 1 < len j ∧ ∀ i, r < i → i < R → q.2.1 19 i = if j < i then 0 else nI (dg (Lr len R) n (R - 1 - i))) := by
  have hR := h.2.1
  have h1 := h.1
  refine loop_d (F := fun k (s : Int32 × Mem) => f_X11_comeRows_l5 (nI r) b k s.1 s.2)
    (fun s => ∃ j, s.1 = nI j ∧ r ≤ j ∧ j < R ∧ (∀ d, d ≠ 19 → s.2.1 d = M.1 d) ∧ (n + 1) % pk_ (Lr len R) (R - 1 - j) = 0 ∧ ∀ i, r < i → i < R → s.2.1 19 i = if j < i then 0 else nI (dg (Lr len R) n (R - 1 - i)))
    (fun s => s.1.toNatClampNeg) _ ?_ (nI R - 1, M) ⟨R - 1, by rw [show (1 : Int32) = nI 1 from rfl, pk_sub h1], by omega, by omega, fun _ _ => rfl, by rw [show R - 1 - (R - 1) = 0 by omega]; exact Nat.mod_one _, fun i q1 q2 => by rw [if_neg (by omega)]; exact hd i q1 q2⟩ (by
      show (nI R - 1).toNatClampNeg < 70000
      rw [show (1 : Int32) = nI 1 from rfl, pk_sub h1, nI_clamp (by omega)]
      omega)
  rintro k ⟨v, N⟩ ⟨j, e, hrj, hjR, g1, g2, g3⟩
  dsimp only at e g1 g3
  subst e
  by_cases e : j = r
  · subst e
    right
    refine ⟨(nI j, N), ?_, g1, Or.inl ⟨rfl, ?_⟩⟩
    · show f_X11_comeRows_l5 (nI j) b (k + 1) (nI j) N = _
      rw [f_X11_comeRows_l5, if_pos (Int32.le_refl _)]
    · have h2 := Nat.div_add_mod (n + 1) (pk_ (Lr len R) (R - 1 - j))
      rw [g2, Nat.add_zero] at h2
      generalize (n + 1) / pk_ (Lr len R) (R - 1 - j) = x at h2
      have : x = 1 := by
        cases x with
        | zero => rw [Nat.mul_zero] at h2; omega
        | succ x =>
          cases x with
          | zero => rfl
          | succ x =>
            exfalso
            have h3 : pk_ (Lr len R) (R - 1 - j) * 2 ≤ pk_ (Lr len R) (R - 1 - j) * (x + 1 + 1) := Nat.mul_le_mul_left _ (by omega)
            omega
      rw [this, Nat.mul_one] at h2
      exact h2.symm
  · have hlt : r < j := by omega
    obtain ⟨l1, l2, l3⟩ := h.len hjR
    have hkn := h.2.2.2.2
    have eL : Lr len R (R - 1 - j) = len j := by unfold Lr; rw [show R - 1 - (R - 1 - j) = j by omega]
    have hdl : dg (Lr len R) n (R - 1 - j) < len j := by
      have := Nat.mod_lt (n / pk_ (Lr len R) (R - 1 - j)) (Lr_pos h (i := R - 1 - j) (by omega))
      unfold dg
      rw [eL] at this ⊢; exact this
    have hdj : N.1 19 j = nI (dg (Lr len R) n (R - 1 - j)) := by rw [g3 j hlt hjR, if_neg (by omega)]
    have h18 : N.1 18 j = nI (len j) := by rw [g1 18 (by decide)]; exact (hy.2 j hjR).2
    have hLp : ∀ i, i ≤ R - 1 - j → 1 ≤ Lr len R i := fun i hi => Lr_pos h (by omega)
    have ec : nI (len j) - (1 : Int32) = nI (len j - 1) := by rw [show (1 : Int32) = nI 1 from rfl, pk_sub l1]
    have hun : f_X11_comeRows_l5 (nI r) b (k + 1) (nI j) N = (if nI (dg (Lr len R) n (R - 1 - j)) = nI (len j - 1) then f_X11_comeRows_l5 (nI r) b k (nI j + (-1 : Int32)) (sI N 19 j 0) else some (nI j, N)) := by
      rw [f_X11_comeRows_l5, if_neg (ifle_no hlt (by omega)), if_pos (inB_nI (show j < 17 by omega) (by decide)), if_pos (inB_nI (show j < 17 by omega) (by decide)), if_pos (inB_nI (show j < 17 by omega) (by decide)), nI_clamp (by omega), hdj, h18, ec]
    by_cases hend : dg (Lr len R) n (R - 1 - j) = len j - 1
    · left
      refine ⟨(nI (j - 1), sI N 19 j 0), ⟨j - 1, rfl, by omega, by omega, fun d hd => ?_, ?_, fun i q1 q2 => ?_⟩, ?_, ?_⟩
      · show (sI N 19 j 0).1 d = _
        rw [sI_off _ _ _ _ hd]; exact g1 d hd
      · rw [show R - 1 - (j - 1) = R - 1 - j + 1 by omega]
        exact dg_end hLp g2 (by rw [eL]; omega)
      · show (sI N 19 j 0).1 19 i = _
        rw [sI_1]
        by_cases ei : i = j
        · rw [if_pos ⟨rfl, ei⟩, if_pos (by omega)]
        · rw [if_neg (by omega), g3 i q1 q2]
          by_cases q : j < i
          · rw [if_pos q, if_pos (by omega)]
          · rw [if_neg q, if_neg (by omega)]
      · show (nI (j - 1)).toNatClampNeg < (nI j).toNatClampNeg
        rw [nI_clamp (by omega), nI_clamp (by omega)]
        omega
      · show f_X11_comeRows_l5 (nI r) b (k + 1) (nI j) N = f_X11_comeRows_l5 (nI r) b k (nI (j - 1)) (sI N 19 j 0)
        rw [hun, if_pos (by rw [hend]), show nI j + (-1 : Int32) = nI (j - 1) by rw [show j = j - 1 + 1 by omega, pk_m1]; rfl]
    · right
      refine ⟨(nI j, N), ?_, g1, Or.inr ⟨j, hlt, hjR, rfl, g2, by omega, g3⟩⟩
      show f_X11_comeRows_l5 (nI r) b (k + 1) (nI j) N = _
      rw [hun, if_neg (fun q => hend ((nI_eq (by omega) (by omega)).mp q))]
theorem rowsY_l3 {M : Mem} {len : Nat → Nat} {base R kn r : Nat} (h : RowOk len base R kn) (hy : RowY M len base R) (hr : r < R) (hd : ∀ j, r < j → j < R → M.1 19 j = 0) :
    ∃ N, f_X11_comeRows_l3 (nI r) (nI (Fl len base r)) fuelN 1 M = some N ∧ GZ M N (fun s => ∃ n, n < pk_ (Lr len R) (R - 1 - r) ∧ s = Fl len base r ||| ov (Lr len R) (Fr len base R) n (R - 1 - r)) := by
  have hR := h.2.1
  have hkn := h.2.2.2.2
  have hk16 := p16 hkn
  have hcnt := h.cnt (k := R - 1 - r) (by omega)
  have hpos := pk_pos (L := Lr len R) (R - 1 - r) (fun i hi => Lr_pos h (by omega))
  refine loop_d (F := fun k (s : Nat × Int32 × Mem) => f_X11_comeRows_l3 (nI r) (nI (Fl len base r)) k s.2.1 s.2.2)
    (fun s => (s.2.1 = 1 ∧ s.1 < pk_ (Lr len R) (R - 1 - r) ∧ DgY s.2.2 len R r s.1 ∧ GZ M s.2.2 (fun t => ∃ n, n < s.1 ∧ t = Fl len base r ||| ov (Lr len R) (Fr len base R) n (R - 1 - r))) ∨ (s.2.1 = 0 ∧ s.1 = pk_ (Lr len R) (R - 1 - r) ∧ GZ M s.2.2 (fun t => ∃ n, n < s.1 ∧ t = Fl len base r ||| ov (Lr len R) (Fr len base R) n (R - 1 - r))))
    (fun s => 1000 - s.1) _ ?_ (0, 1, M) (Or.inl ⟨rfl, hpos, fun j q1 q2 => ?_, (GZ.none (fun _ _ => rfl)).congr (fun s => ⟨fun q => q.elim, fun ⟨n, hn, _⟩ => by omega⟩)⟩) (by show 1000 - 0 < 70000; omega)
  · rintro k ⟨n, fl, N⟩ hs
    dsimp only at hs
    rcases hs with ⟨rfl, hn, hdg, g⟩ | ⟨rfl, rfl, g⟩
    · left
      have hyN := hy.keep g.1
      have hval : Fl len base r ||| ov (Lr len R) (Fr len base R) n (R - 1 - r) < 2 ^ kn := Nat.or_lt_two_pow (Fl_b h hr).2 (W_lt _ (fun i hi => Fr_le h (by omega)) _ (ov_W n _ (fun i hi => Lr_pos h (by omega))))
      have e4 := rowsY_l4 (full := Fl len base r) h hyN hr hdg (nI r) (nI (Fl len base r))
      let V := sI N 14 (Fl len base r ||| ov (Lr len R) (Fr len base R) n (R - 1 - r)) 1
      have hV : ∀ d, d ≠ 14 → V.1 d = N.1 d := fun d hd => sI_off _ _ _ _ hd
      obtain ⟨⟨v, Q⟩, e5, q1, q2⟩ := rowsY_l5 (M := V) h (hyN.keep (fun d a _ => hV d a)) hr (fun j a b => by rw [hV 19 (by decide)]; exact hdg j a b) hn (nI (Fl len base r))
      dsimp only at q1 q2
      have hun : f_X11_comeRows_l3 (nI r) (nI (Fl len base r)) (k + 1) 1 N = (Option.bind (if v ≤ nI r then some (0 : Int32) else some (1 : Int32)) (fun q14 => (Option.bind (if q14 = 0 then some Q else (if inB v 17 = true then (if inB v 17 = true then some (sI Q 19 v.toNatClampNeg ((Q.1 19 v.toNatClampNeg) + (1 : Int32))) else none) else none)) (fun q17 => f_X11_comeRows_l3 (nI r) (nI (Fl len base r)) k q14 q17)))) := by
        rw [f_X11_comeRows_l3, if_neg one_ne, nI_1, e4, Option.bind_some, if_pos (inB_nI (show Fl len base r ||| ov (Lr len R) (Fr len base R) n (R - 1 - r) < 65536 by omega) (by decide)), nI_clamp (by omega), hyN.1]
        show Option.bind (f_X11_comeRows_l5 (nI r) (nI (Fl len base r)) fuelN (nI R - 1) V) _ = _
        rw [e5, Option.bind_some]
      have gQ : GZ M Q (fun t => ∃ n', n' < n + 1 ∧ t = Fl len base r ||| ov (Lr len R) (Fr len base R) n' (R - 1 - r)) := by
        refine (g.trans (GZ.mark (x := Fl len base r ||| ov (Lr len R) (Fr len base R) n (R - 1 - r)) q1)).congr (fun s => ?_)
        constructor
        · rintro (⟨n', a, b⟩ | q)
          · exact ⟨n', by omega, b⟩
          · exact ⟨n, by omega, q⟩
        · rintro ⟨n', a, b⟩
          by_cases e : n' = n
          · rw [e] at b; exact Or.inr b
          · exact Or.inl ⟨n', by omega, b⟩
      rcases q2 with ⟨rfl, q2⟩ | ⟨j, j1, j2, rfl, j3, j4, j5⟩
      · refine ⟨(n + 1, 0, Q), Or.inr ⟨rfl, q2, gQ⟩, by show 1000 - (n + 1) < 1000 - n; omega, ?_⟩
        show f_X11_comeRows_l3 (nI r) (nI (Fl len base r)) (k + 1) 1 N = f_X11_comeRows_l3 (nI r) (nI (Fl len base r)) k 0 Q
        rw [hun, if_pos (Int32.le_refl _), Option.bind_some, if_pos rfl, Option.bind_some]
      · have eL : Lr len R (R - 1 - j) = len j := by unfold Lr; rw [show R - 1 - (R - 1 - j) = j by omega]
        have hLp : ∀ i, i ≤ R - 1 - j → 1 ≤ Lr len R i := fun i hi => Lr_pos h (by omega)
        have hQj : Q.1 19 j = nI (dg (Lr len R) n (R - 1 - j)) := by rw [j5 j j1 j2, if_neg (by omega)]
        have hn1 : n + 1 < pk_ (Lr len R) (R - 1 - r) := by
          apply Classical.byContradiction
          intro q
          have e : n + 1 = pk_ (Lr len R) (R - 1 - r) := by omega
          -- then the digit of row j were at its end
          have hz : (n + 1) % pk_ (Lr len R) (R - 1 - j + 1) = 0 := by
            have hc : ∃ c, pk_ (Lr len R) (R - 1 - r) = pk_ (Lr len R) (R - 1 - j + 1) * c := by
              by_cases e2 : R - 1 - r = R - 1 - j + 1
              · exact ⟨1, by rw [e2, Nat.mul_one]⟩
              · obtain ⟨c, hc⟩ := pk_dvd (L := Lr len R) (R - 1 - r) (R - 1 - j + 1) (by omega)
                exact ⟨Lr len R (R - 1 - j + 1) * c, by rw [hc, Nat.mul_assoc]⟩
            obtain ⟨c, hc⟩ := hc
            rw [e, hc]
            exact Nat.mul_mod_right _ _
          have hz2 := dg_zero (L := Lr len R) (k := R - 1 - j + 1) (n := n) (fun i hi => hLp i (by omega)) hz (i := R - 1 - j) (by omega)
          have hnx := dg_next (L := Lr len R) (k := R - 1 - j) (n := n) hLp j3 (by rw [eL]; exact j4)
          omega
        refine ⟨(n + 1, 1, sI Q 19 j (nI (dg (Lr len R) n (R - 1 - j) + 1))), Or.inl ⟨rfl, hn1, fun i i1 i2 => ?_, (gQ.trans (GZ.none (M := Q) (fun d hd => sI_off _ _ _ _ hd))).congr (fun s => ⟨fun q => q.elim id (fun q => q.elim), fun q => Or.inl q⟩)⟩, by show 1000 - (n + 1) < 1000 - n; omega, ?_⟩
        · show (sI Q 19 j _).1 19 i = nI (dg (Lr len R) (n + 1) (R - 1 - i))
          rw [sI_1]
          rcases Nat.lt_trichotomy i j with q | q | q
          · rw [if_neg (by omega), j5 i i1 i2, if_neg (by omega), dg_same (k := R - 1 - j) hLp (by rw [eL]; exact j4) j3 (i := R - 1 - i) (by omega)]
          · subst q
            rw [if_pos ⟨rfl, rfl⟩, dg_next hLp j3 (by rw [eL]; exact j4)]
          · rw [if_neg (by omega), j5 i i1 i2, if_pos q, dg_zero (k := R - 1 - j) (fun x hx => hLp x (by omega)) j3 (i := R - 1 - i) (by omega)]
            rfl
        · show f_X11_comeRows_l3 (nI r) (nI (Fl len base r)) (k + 1) 1 N = f_X11_comeRows_l3 (nI r) (nI (Fl len base r)) k 1 _
          rw [hun, if_neg (ifle_no j1 (by omega)), Option.bind_some, if_neg one_ne, if_pos (inB_nI (show j < 17 by omega) (by decide)), if_pos (inB_nI (show j < 17 by omega) (by decide)), nI_clamp (by omega), hQj, nI_1, Option.bind_some]
    · right
      refine ⟨N, ?_, g⟩
      show f_X11_comeRows_l3 (nI r) (nI (Fl len base r)) (k + 1) 0 N = _
      rw [f_X11_comeRows_l3, if_pos rfl]
  · show M.1 19 j = nI (dg (Lr len R) 0 (R - 1 - j))
    rw [hd j q1 q2]
    unfold dg
    rw [Nat.zero_div, Nat.zero_mod]
    rfl
theorem rowsY {M : Mem} {len : Nat → Nat} {base R kn : Nat} (h : RowOk len base R kn) (hy : RowY M len base R) : ∃ N, f_X11_comeRows M = some N ∧ (∀ d, d ≠ 14 → d ≠ 19 → N.1 d = M.1 d) ∧ ∀ s, s < 65536 → (N.1 14 s = 0 ↔ ¬ Gr len base R s) := by
  have hR := h.2.1
  obtain ⟨B0, b1, b2, b3⟩ := noSetsY M
  have hy0 : RowY B0 len base R := hy.keep (fun d q _ => b2 d q)
  have HH := loop_go (F := fun n v N => f_X11_comeRows_l1 n v N) R (by omega) (fun i N => GZ B0 N (fun s => ∃ r, r < i ∧ ∃ w, Wy (Lr len R) (Fr len base R) (R - 1 - r) w ∧ s = Fl len base r ||| w)) (fun N => GZ B0 N (Gr len base R))
    (fun n N hN => ⟨N, by show f_X11_comeRows_l1 (n + 1) (nI R) N = _; rw [f_X11_comeRows_l1, (hy0.keep hN.1).1, if_pos (Int32.le_refl _)], hN⟩)
    (fun n r N hr hN => by
      left
      have hyN := hy0.keep hN.1
      obtain ⟨A, a1, a2, a3⟩ := rowsY_l2 hyN hR hr (nI r) (nI (Fl len base r))
      obtain ⟨B, c1, c2⟩ := rowsY_l3 h (hyN.keep (fun d _ q => a2 d q)) hr a3
      refine ⟨B, ((hN.trans (GZ.none a2)).trans c2).congr (fun s => ?_), ?_⟩
      · constructor
        · rintro ((⟨r', q1, q2⟩ | q) | ⟨n', q1, q2⟩)
          · exact ⟨r', by omega, q2⟩
          · exact q.elim
          · exact ⟨r, by omega, _, ov_W n' _ (fun i hi => Lr_pos h (by omega)), q2⟩
        · rintro ⟨r', q1, w, q2, q3⟩
          by_cases e : r' = r
          · subst e
            obtain ⟨n', n1, n2⟩ := W_ov _ _ (fun i hi => Lr_pos h (by omega)) q2
            exact Or.inr ⟨n', n1, by rw [q3, n2]⟩
          · exact Or.inl (Or.inl ⟨r', by omega, w, q2, q3⟩)
      · show f_X11_comeRows_l1 (n + 1) (nI r) N = f_X11_comeRows_l1 n (nI (r + 1)) B
        rw [f_X11_comeRows_l1, hyN.1, if_neg (ifle_no hr (by omega)), if_pos (inB_nI (show r < 17 by omega) (by decide)), if_pos (inB_nI (show r < 17 by omega) (by decide)), nI_clamp (by omega), (hyN.2 r hr).1, (hyN.2 r hr).2, full_ h hr, nI_1, a1, Option.bind_some, c1, Option.bind_some]) 0 B0 (by omega) ((GZ.none (fun _ _ => rfl)).congr (fun s => ⟨fun q => q.elim, fun ⟨r, hr, _⟩ => by omega⟩))
  obtain ⟨N, e, hN⟩ := HH
  have e : f_X11_comeRows_l1 fuelN 0 B0 = some N := e
  refine ⟨N, ?_, fun d q1 q2 => by rw [hN.1 d q1 q2, b2 d q1], fun s hs => ?_⟩
  · unfold f_X11_comeRows
    rw [b1, Option.bind_some, e, Option.bind_some]
  · rw [hN.2 s hs]
    constructor
    · intro q; exact q.2
    · intro q; exact ⟨b3 s hs, q⟩
