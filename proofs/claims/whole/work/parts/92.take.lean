/-! next, clear, put, take -/
theorem cmp0 (x : Int64) : lg_cmp x 0 = 0 ↔ x = 0 := by
  unfold lg_cmp
  constructor
  · intro h
    by_cases h1 : (0 : Int64) < x
    · simp [h1] at h
    · by_cases h2 : x = 0
      · exact h2
      · simp [h1, h2] at h
  · intro h; subst h; decide
theorem lb_low {x : Int64} (h : ¬ x = 0) : ∃ k, k < 64 ∧ lb x k = true ∧ ∀ j, j < k → lb x j = false := by
  have hex : ∃ k, k < 64 ∧ lb x k = true := by
    apply Classical.byContradiction
    intro q
    apply h
    refine lb_ext (fun j hj => ?_)
    rw [lb_0]
    cases e : lb x j with
    | false => rfl
    | true => exact absurd ⟨j, hj, e⟩ q
  obtain ⟨k, ⟨k1, k2⟩, k3⟩ := pk_least (fun k => k < 64 ∧ lb x k = true) hex
  refine ⟨k, k1, k2, fun j hj => ?_⟩
  cases e : lb x j with
  | false => rfl
  | true => exact absurd ⟨by omega, e⟩ (k3 j hj)
theorem shl6 {i : Nat} (h : i < 1024) : nI i <<< ((6 : Int32) &&& 31) = nI (64 * i) := by
  rw [pk_shlN (n := i) ((6 : Int32) &&& 31) 6 (by decide) (by omega)]
  congr 1
  omega
theorem and63 {n : Nat} (h : n < 2 ^ 31) : nI n &&& (63 : Int32) = nI (n % 64) := pk_andN (by omega) 6 (by decide)
theorem ush6 {n : Nat} (h : n < 2 ^ 31) : iushr (nI n) (6 : Int32) = nI (n / 64) := ius (k := 6) (by omega) (by decide)
/-- the next set of the pot, from a number on -/
def Nx (K : Nat → Bool) (N from_ : Nat) (r : Int32) : Prop := (∃ s, from_ ≤ s ∧ s < N ∧ K s = true ∧ (∀ t, from_ ≤ t → t < s → K t = false) ∧ r = nI s) ∨ ((∀ t, from_ ≤ t → t < N → K t = false) ∧ r = -1)
theorem nextP {M : Mem} {m : Nat} (hp : PS M m) {a : Nat} (ha : a ≤ 2 ^ m) : ∃ r, f_X7_next (nI a) M = some r ∧ Nx (pb M) (2 ^ m) a r := by
  obtain ⟨h1, h2, h3⟩ := hp
  obtain ⟨u1, u2, u3⟩ := ps_u m h1 h2
  have HH := loop_go (F := fun n v (_ : Unit) => f_X7_next_l1 (nI a) (nI (a / 64)) M n v) (2 ^ (m - 6)) (by omega) (fun i _ => a / 64 ≤ i ∧ ∀ t, a ≤ t → t < 64 * i → pb M t = false)
    (fun r => (r = .inl () ∧ ∀ t, a ≤ t → t < 2 ^ m → pb M t = false) ∨ ∃ s, r = .inr (nI s) ∧ a ≤ s ∧ s < 2 ^ m ∧ pb M s = true ∧ ∀ t, a ≤ t → t < s → pb M t = false) ?_ ?_ (a / 64) () (by omega) ⟨Nat.le_refl _, fun t q1 q2 => by omega⟩
  · obtain ⟨r, e, hr⟩ := HH
    have e : f_X7_next_l1 (nI a) (nI (a / 64)) M fuelN (nI (a / 64)) = _ := e
    unfold f_X7_next
    rw [ush6 (by omega), e, Option.bind_some]
    rcases hr with ⟨rfl, h⟩ | ⟨s, rfl, h⟩
    · exact ⟨-1, rfl, Or.inr ⟨h, rfl⟩⟩
    · exact ⟨nI s, rfl, Or.inl ⟨s, h.1, h.2.1, h.2.2.1, h.2.2.2, rfl⟩⟩
  · intro n _ h
    refine ⟨.inl (), ?_, Or.inl ⟨rfl, fun t q1 q2 => h.2 t q1 (by omega)⟩⟩
    show f_X7_next_l1 _ _ M (n + 1) (nI (2 ^ (m - 6))) = _
    rw [f_X7_next_l1, h3, if_pos (Int32.le_refl _)]
  · intro n i _ hi h
    show (∃ s', _ ∧ f_X7_next_l1 (nI a) (nI (a / 64)) M (n + 1) (nI i) = f_X7_next_l1 (nI a) (nI (a / 64)) M n (nI (i + 1))) ∨ ∃ r, f_X7_next_l1 (nI a) (nI (a / 64)) M (n + 1) (nI i) = some r ∧ _
    have key : ∃ q, (if nI i = nI (a / 64) then (if inB (nI i) 1024 = true then some ((M.2 256 (nI i).toNatClampNeg) &&& (lshl (-1 : Int64) (nI a &&& (63 : Int32)))) else none) else (if inB (nI i) 1024 = true then some (M.2 256 (nI i).toNatClampNeg) else none)) = some q ∧ ∀ j, j < 64 → (lb q j = true ↔ (a ≤ 64 * i + j ∧ wb M i j = true)) := by
      rw [if_pos (inB_nI (show i < 1024 by omega) (by decide)), if_pos (inB_nI (show i < 1024 by omega) (by decide)), nI_clamp (by omega)]
      by_cases e : i = a / 64
      · refine ⟨_, by rw [if_pos (by rw [e])], fun j hj => ?_⟩
        rw [lb_and, and63 (by omega), lb_shl _ (show a % 64 < 64 by omega) hj, lb_m1 _ (sub_lt' hj), Bool.and_true, Bool.and_eq_true_iff, decide_eq_true_iff]
        unfold wb
        constructor
        · rintro ⟨q1, q2⟩; exact ⟨by omega, q1⟩
        · rintro ⟨q1, q2⟩; exact ⟨q2, by omega⟩
      · refine ⟨_, by rw [if_neg (fun q => e ((nI_eq (by omega) (by omega)).mp q))], fun j hj => ?_⟩
        unfold wb
        constructor
        · intro q; exact ⟨by omega, q⟩
        · intro q; exact q.2
    obtain ⟨q, eq, hq⟩ := key
    rw [f_X7_next_l1, h3, if_neg (ifle_no hi (by omega)), eq, Option.bind_some]
    by_cases q0 : q = 0
    · left
      refine ⟨(), ⟨by omega, fun t t1 t2 => ?_⟩, by rw [if_pos ((cmp0 q).mpr q0), nI_1]⟩
      by_cases ht : t < 64 * i
      · exact h.2 t t1 ht
      · have ej : t = 64 * i + (t - 64 * i) := by omega
        have hj : t - 64 * i < 64 := by omega
        cases ep : pb M t with
        | false => rfl
        | true =>
          rw [ej, pb_ij M hj] at ep
          have := (hq (t - 64 * i) hj).mpr ⟨by omega, ep⟩
          rw [q0, lb_0] at this
          cases this
    · right
      obtain ⟨k, k1, k2, k3⟩ := lb_low q0
      have hk := (hq k k1).mp k2
      refine ⟨_, by rw [if_neg (fun z => q0 ((cmp0 q).mp z)), lowest64 k1 k2 k3, Option.bind_some, shl6 (by omega), nI_add], Or.inr ⟨_, rfl, hk.1, by omega, by rw [pb_ij M k1]; exact hk.2, fun t t1 t2 => ?_⟩⟩
      by_cases ht : t < 64 * i
      · exact h.2 t t1 ht
      · have ej : t = 64 * i + (t - 64 * i) := by omega
        have hj : t - 64 * i < 64 := by omega
        cases ep : pb M t with
        | false => rfl
        | true =>
          rw [ej, pb_ij M hj] at ep
          have := (hq (t - 64 * i) hj).mpr ⟨by omega, ep⟩
          rw [k3 _ (by omega)] at this
          cases this
theorem clear_sh : ∀ k, k < 17 → (1 : Int32) <<< (((imin (imax (nI k) (6 : Int32)) (16 : Int32)) - (6 : Int32)) &&& 31) = nI (2 ^ (max k 6 - 6)) := by decide +kernel
theorem clearP {M : Mem} {kn : Nat} (hk : kn ≤ 16) : ∃ N, f_X3_begin (nI kn) M = some N ∧ PS N (max kn 6) ∧ (∀ d, d ≠ 255 → N.1 d = M.1 d) ∧ KeepX M N ∧ ∀ s, s < 2 ^ (max kn 6) → pb N s = false := by
  have h1 : 6 ≤ max kn 6 := by omega
  have h2 : max kn 6 ≤ 16 := by omega
  obtain ⟨u1, u2, u3⟩ := ps_u (max kn 6) h1 h2
  have HH := loop_go (F := fun n v N => f_X7_clear_l1 n v N) (2 ^ (max kn 6 - 6)) (by omega)
    (fun i N => N.1 = (sI M 255 2 (nI (2 ^ (max kn 6 - 6)))).1 ∧ ∀ x, x < i → N.2 256 x = 0)
    (fun N => N.1 = (sI M 255 2 (nI (2 ^ (max kn 6 - 6)))).1 ∧ ∀ x, x < 2 ^ (max kn 6 - 6) → N.2 256 x = 0)
    (fun n N h => ⟨N, by show f_X7_clear_l1 (n + 1) (nI (2 ^ (max kn 6 - 6))) N = _; rw [f_X7_clear_l1, show N.1 255 2 = nI (2 ^ (max kn 6 - 6)) by rw [h.1]; simp [sI], if_pos (Int32.le_refl _)], h⟩)
    (fun n i N hi h => Or.inl ⟨sL N 256 i 0, ⟨h.1, fun x hx => by
      rw [sL_2]
      by_cases e : x = i
      · rw [if_pos ⟨rfl, e⟩]
      · rw [if_neg (by omega)]; exact h.2 x (by omega)⟩, by
      show f_X7_clear_l1 (n + 1) (nI i) N = f_X7_clear_l1 n (nI (i + 1)) _
      rw [f_X7_clear_l1, show N.1 255 2 = nI (2 ^ (max kn 6 - 6)) by rw [h.1]; simp [sI], if_neg (ifle_no hi (by omega)), if_pos (inB_nI (show i < 1024 by omega) (by decide)), nI_clamp (by omega), nI_1]⟩) 0 (sI M 255 2 (nI (2 ^ (max kn 6 - 6)))) (by omega) ⟨rfl, fun x hx => by omega⟩
  obtain ⟨N, e, n1, n2⟩ := HH
  have k1 : KeepX (sI M 255 2 (nI (2 ^ (max kn 6 - 6)))) N := by
    unfold KeepX AgX
    rw [n1]
    exact KeepX.refl _
  refine ⟨N, ?_, ⟨h1, h2, by rw [n1, sI_1, if_pos ⟨rfl, rfl⟩]⟩, fun d hd => by rw [n1, sI_off _ _ _ _ hd], (keepX_scr M 2 _ (by omega)).trans k1, fun s hs => ?_⟩
  · have e : f_X7_clear_l1 fuelN 0 (sI M 255 2 (nI (2 ^ (max kn 6 - 6)))) = _ := e
    unfold f_X3_begin f_X7_clear
    rw [clear_sh kn (by omega), e]
    rfl
  · unfold pb
    rw [n2 _ (by omega), lb_0]
theorem lb_1 (j : Nat) : lb 1 j = decide (j = 0) := by
  rcases Nat.lt_or_ge j 64 with h | h
  · exact (by decide +kernel : ∀ j, j < 64 → lb 1 j = decide (j = 0)) j h
  · unfold lb
    rw [BitVec.getLsbD_of_ge _ _ h]
    simp; omega
theorem putP {M : Mem} {m s : Nat} (hp : PS M m) (hs : s < 2 ^ m) : ∃ N, f_X7_put (nI s) M = some N ∧ N.1 = M.1 ∧ ∀ t, (pb N t = true ↔ (pb M t = true ∨ t = s)) := by
  obtain ⟨h1, h2, h3⟩ := hp
  obtain ⟨u1, u2, u3⟩ := ps_u m h1 h2
  refine ⟨sL M 256 (s / 64) (M.2 256 (s / 64) ||| lshl 1 (nI (s % 64))), ?_, rfl, fun t => ?_⟩
  · unfold f_X7_put
    rw [ush6 (by omega), h3, if_neg (ifle_no (show s / 64 < 2 ^ (m - 6) by omega) (by omega)), if_pos (inB_nI (show s / 64 < 1024 by omega) (by decide)), if_pos (inB_nI (show s / 64 < 1024 by omega) (by decide)), nI_clamp (by omega), and63 (by omega)]
  · unfold pb
    rw [sL_2]
    by_cases e : t / 64 = s / 64
    · rw [if_pos ⟨rfl, e⟩, e, lb_or, lb_shl _ (show s % 64 < 64 by omega) (show t % 64 < 64 by omega), lb_1, Bool.or_eq_true_iff, Bool.and_eq_true_iff, decide_eq_true_iff, decide_eq_true_iff]
      constructor
      · rintro (h | h)
        · exact Or.inl h
        · exact Or.inr (by omega)
      · rintro (h | h)
        · exact Or.inl h
        · exact Or.inr (by omega)
    · rw [if_neg (fun q => e q.2)]
      constructor
      · intro h; exact Or.inl h
      · rintro (h | h)
        · exact h
        · rw [h] at e; exact absurd rfl e
theorem PS.keep2 {M N : Mem} {m : Nat} (h : PS M m) (e : N.1 255 = M.1 255) : PS N m := by unfold PS at *; rw [e]; exact h
theorem pb_keep {M N : Mem} (e : N.2 = M.2) (s : Nat) : pb N s = pb M s := by unfold pb; rw [e]
theorem takeP {M : Mem} {m f : Nat} (hp : PS M m) (hf : f < 24) (hc : cnt (pb M) (2 ^ m) ≤ 120) (kd : Int32) : ∃ N, f_X1_take (264 + 2 * f) kd M = some N ∧ (∀ d, d ≠ 264 + 2 * f → d ≠ 264 + 2 * f + 1 → N.1 d = M.1 d) ∧ N.1 (264 + 2 * f) 0 = kd ∧ N.1 (264 + 2 * f) 1 = nI (cnt (pb M) (2 ^ m)) ∧ ∀ s, s < 2 ^ m → pb M s = true → N.1 (264 + 2 * f + 1) (cnt (pb M) s) = nI s := by
  have hp2 := hp
  obtain ⟨h1, h2, h3⟩ := hp
  obtain ⟨u1, u2, u3⟩ := ps_u m h1 h2
  let M0 := sI (sI M (264 + 2 * f) 0 kd) (264 + 2 * f) 1 0
  have hM0 : M0.1 255 = M.1 255 := by show (sI (sI M (264 + 2 * f) 0 kd) (264 + 2 * f) 1 0).1 255 = _; rw [sI_off _ _ _ _ (by omega), sI_off _ _ _ _ (by omega)]
  obtain ⟨r0, e0, hr0⟩ := nextP (PS.keep2 hp2 hM0) (a := 0) (Nat.zero_le _)
  have hpb0 : pb M0 = pb M := funext (fun s => pb_keep rfl s)
  rw [hpb0] at hr0
  have HH := loop_d (F := fun n (s : Int32 × Mem) => f_X1_take_l1 (264 + 2 * f) n s.1 s.2)
    (fun s => ∃ a, a ≤ 2 ^ m ∧ Nx (pb M) (2 ^ m) a s.1 ∧ s.2.2 = M.2 ∧ (∀ d, d ≠ 264 + 2 * f → d ≠ 264 + 2 * f + 1 → s.2.1 d = M.1 d) ∧ s.2.1 (264 + 2 * f) 0 = kd ∧ s.2.1 (264 + 2 * f) 1 = nI (cnt (pb M) a) ∧ ∀ t, t < a → pb M t = true → s.2.1 (264 + 2 * f + 1) (cnt (pb M) t) = nI t)
    (fun s => if s.1 < 0 then 0 else 65537 - s.1.toNatClampNeg)
    (fun N => (∀ d, d ≠ 264 + 2 * f → d ≠ 264 + 2 * f + 1 → N.1 d = M.1 d) ∧ N.1 (264 + 2 * f) 0 = kd ∧ N.1 (264 + 2 * f) 1 = nI (cnt (pb M) (2 ^ m)) ∧ ∀ s, s < 2 ^ m → pb M s = true → N.1 (264 + 2 * f + 1) (cnt (pb M) s) = nI s)
    ?_ (r0, M0) ⟨0, Nat.zero_le _, hr0, rfl, fun d q1 q2 => by show (sI (sI M (264 + 2 * f) 0 kd) (264 + 2 * f) 1 0).1 d = _; rw [sI_off _ _ _ _ q1, sI_off _ _ _ _ q1], by show (sI (sI M (264 + 2 * f) 0 kd) (264 + 2 * f) 1 0).1 _ 0 = _; rw [sI_1, if_neg (by omega), sI_1, if_pos ⟨rfl, rfl⟩], by show (sI (sI M (264 + 2 * f) 0 kd) (264 + 2 * f) 1 0).1 _ 1 = _; rw [sI_1, if_pos ⟨rfl, rfl⟩]; rfl, fun t ht => by omega⟩ (by show (if r0 < 0 then 0 else 65537 - r0.toNatClampNeg) < 70000; split <;> omega)
  · obtain ⟨N, e, hN⟩ := HH
    refine ⟨N, ?_, hN⟩
    have e : f_X1_take_l1 (264 + 2 * f) fuelN r0 M0 = _ := e
    have e0 : f_X7_next 0 M0 = _ := e0
    unfold f_X1_take
    show (if kX (264 + 2 * f) = 1 then (Option.bind (f_X7_next (0 : Int32) M0) (fun q1 => (Option.bind (f_X1_take_l1 (264 + 2 * f) fuelN q1 M0) (fun q3 => some q3)))) else none) = _
    rw [if_pos (kX_fam hf), e0, Option.bind_some, e, Option.bind_some]
  · rintro n ⟨v, N⟩ ⟨a, ha, hnx, g1, g2, g3, g4, g5⟩
    dsimp only at hnx g1 g2 g3 g4 g5
    rcases hnx with ⟨s, s1, s2, s3, s4, rfl⟩ | ⟨s1, rfl⟩
    · left
      have ec : cnt (pb M) a = cnt (pb M) s := (cnt_stop s1 s4).symm
      have hlt : cnt (pb M) s < cnt (pb M) (2 ^ m) := cnt_lt s2 s3
      have ec1 : cnt (pb M) (s + 1) = cnt (pb M) s + 1 := by rw [cnt_s, s3]; rfl
      let N' := sI (sI N (264 + 2 * f + 1) (cnt (pb M) s) (nI s)) (264 + 2 * f) 1 (nI (cnt (pb M) (s + 1)))
      have hN' : N'.1 255 = M.1 255 := by show (sI (sI N (264 + 2 * f + 1) (cnt (pb M) s) (nI s)) (264 + 2 * f) 1 (nI (cnt (pb M) (s + 1)))).1 255 = _; rw [sI_off _ _ _ _ (by omega), sI_off _ _ _ _ (by omega), g2 255 (by omega) (by omega)]
      obtain ⟨r, e, hr⟩ := nextP (PS.keep2 hp2 hN') (a := s + 1) s2
      have hpb' : pb N' = pb M := funext (fun t => pb_keep g1 t)
      rw [hpb'] at hr
      refine ⟨(r, N'), ⟨s + 1, s2, hr, g1, fun d q1 q2 => ?_, ?_, ?_, fun t ht hk => ?_⟩, ?_, ?_⟩
      · show (sI (sI N (264 + 2 * f + 1) (cnt (pb M) s) (nI s)) (264 + 2 * f) 1 (nI (cnt (pb M) (s + 1)))).1 d = _
        rw [sI_off _ _ _ _ q1, sI_off _ _ _ _ q2]; exact g2 d q1 q2
      · show (sI (sI N (264 + 2 * f + 1) (cnt (pb M) s) (nI s)) (264 + 2 * f) 1 (nI (cnt (pb M) (s + 1)))).1 (264 + 2 * f) 0 = _
        rw [sI_1, if_neg (by omega), sI_off _ _ _ _ (by omega)]; exact g3
      · show (sI (sI N (264 + 2 * f + 1) (cnt (pb M) s) (nI s)) (264 + 2 * f) 1 (nI (cnt (pb M) (s + 1)))).1 (264 + 2 * f) 1 = _
        rw [sI_1, if_pos ⟨rfl, rfl⟩]
      · show (sI (sI N (264 + 2 * f + 1) (cnt (pb M) s) (nI s)) (264 + 2 * f) 1 (nI (cnt (pb M) (s + 1)))).1 (264 + 2 * f + 1) (cnt (pb M) t) = _
        rw [sI_off _ _ _ _ (by omega), sI_1]
        by_cases e : t = s
        · rw [if_pos ⟨rfl, by rw [e]⟩, e]
        · rw [if_neg (fun q => e (cnt_inj hk s3 q.2))]
          refine g5 t ?_ hk
          apply Classical.byContradiction
          intro q
          have := s4 t (by omega) (by omega)
          rw [hk] at this
          cases this
      · show (if r < 0 then 0 else 65537 - r.toNatClampNeg) < (if nI s < 0 then 0 else 65537 - (nI s).toNatClampNeg)
        rw [if_neg (nI_pos (show s < 2 ^ 31 by omega)), nI_clamp (by omega)]
        rcases hr with ⟨t, t1, t2, t3, t4, rfl⟩ | ⟨-, rfl⟩
        · rw [if_neg (nI_pos (show t < 2 ^ 31 by omega)), nI_clamp (by omega)]; omega
        · rw [if_pos (by decide)]; omega
      · show f_X1_take_l1 (264 + 2 * f) (n + 1) (nI s) N = f_X1_take_l1 (264 + 2 * f) n r N'
        have eN : sI (sI N (264 + 2 * f + 1) (cnt (pb M) s) (nI s)) (264 + 2 * f) 1 (nI (cnt (pb M) s + 1)) = N' := by show _ = sI (sI N (264 + 2 * f + 1) (cnt (pb M) s) (nI s)) (264 + 2 * f) 1 (nI (cnt (pb M) (s + 1))); rw [ec1]
        rw [f_X1_take_l1, if_neg (nI_pos (show s < 2 ^ 31 by omega)), g4, ec, if_neg (show ¬ (120 : Int32) ≤ nI (cnt (pb M) s) from ifle_no (c := 120) (show cnt (pb M) s < 120 by omega) (by decide)), if_pos (inB_nI (show cnt (pb M) s < 120 by omega) (by decide)), nI_clamp (show cnt (pb M) s < 2 ^ 31 by omega), nI_1, sI_off _ _ _ _ (show 264 + 2 * f ≠ 264 + 2 * f + 1 by omega), g4, ec, nI_1, eN, e, Option.bind_some]
    · right
      have ec : cnt (pb M) (2 ^ m) = cnt (pb M) a := cnt_stop ha s1
      refine ⟨N, ?_, g2, g3, by rw [ec]; exact g4, fun t ht hk => g5 t ?_ hk⟩
      · show f_X1_take_l1 (264 + 2 * f) (n + 1) (-1) N = _
        rw [f_X1_take_l1, if_pos (by decide)]
      · apply Classical.byContradiction
        intro q
        have := s1 t (by omega) ht
        rw [hk] at this
        cases this
