/-! the reference's better -/
theorem comeAllY {M : Mem} {f c : Nat} {q : Nat → Nat} (hy : QY M f c q) (hq : ∀ i, i < c → q i < 65536) : ∃ N, f_X11_comeAll (nI f) M = some N ∧ (∀ d, d ≠ 14 → N.1 d = M.1 d) ∧ ∀ s, s < 65536 → (N.1 14 s = 0 ↔ ¬ ∃ i, i < c ∧ s = q i) := by
  obtain ⟨B0, b1, b2, b3⟩ := noSetsY M
  have hy0 := QY_14 hy b2
  have hc := hy.2.1
  have hf := hy.1
  obtain ⟨B, b4, b5⟩ := loopGY (fun n v N => f_X11_comeAll_l1 (nI f) n v N) c (by omega) (fun i s => s = q i) B0 (fun k N hN => by
      show f_X11_comeAll_l1 (nI f) (k + 1) (nI c) N = _
      rw [f_X11_comeAll_l1, if_pos (inB_nI hf (by decide)), nI_clamp (by omega), (QY_14 hy0 hN).2.2.1, if_pos (Int32.le_refl _)]) (fun k i N hi hN => by
      refine ⟨_, markG N (q i), ?_⟩
      show f_X11_comeAll_l1 (nI f) (k + 1) (nI i) N = f_X11_comeAll_l1 (nI f) k (nI (i + 1)) _
      rw [f_X11_comeAll_l1, if_pos (inB_nI hf (by decide)), nI_clamp (by omega), (QY_14 hy0 hN).2.2.1, if_neg (ifle_no hi (by omega)), (QY_14 hy0 hN).at hi, Option.bind_some, if_pos (inB_nI (hq i hi) (by decide)), nI_clamp (by have := hq i hi; omega), nI_1])
  have b4 : f_X11_comeAll_l1 (nI f) fuelN 0 B0 = some B := b4
  refine ⟨B, ?_, fun d hd => by rw [b5.1 d hd, b2 d hd], gotY b3 b5⟩
  unfold f_X11_comeAll
  rw [b1, Option.bind_some, b4, Option.bind_some]
theorem betterY1 {M : Mem} (h : ∀ t, t < 65536 → M.1 15 t = 0 ∨ M.1 15 t = 1) (a : Int32) : ∃ N, f_X11_better_l1 a fuelN 0 M = some N ∧ (∀ d, d ≠ 22 → d ≠ 23 → N.1 d = M.1 d) ∧ ∀ t, t < 65536 → N.1 22 t = M.1 15 t ∧ N.1 23 t = 0 := by
  refine loop_go (F := fun n v N => f_X11_better_l1 a n v N) 65536 (by decide) (fun i N => (∀ d, d ≠ 22 → d ≠ 23 → N.1 d = M.1 d) ∧ ∀ t, t < i → N.1 22 t = M.1 15 t ∧ N.1 23 t = 0) _ (fun n N hN => ⟨N, ?_, hN⟩) (fun n i N hi hN => Or.inl ⟨sI (sI N 22 i (M.1 15 i)) 23 i 0, ⟨fun d q1 q2 => ?_, fun t ht => ?_⟩, ?_⟩) 0 M (by omega) ⟨fun _ _ _ => rfl, fun t ht => by omega⟩
  · show f_X11_better_l1 a (n + 1) (nI 65536) N = _
    rw [f_X11_better_l1, if_pos (by decide)]
  · rw [sI_off _ _ _ _ q2, sI_off _ _ _ _ q1]; exact hN.1 d q1 q2
  · rw [sI_off _ _ _ _ (show 22 ≠ 23 by decide), sI_1, sI_1]
    by_cases e : t = i
    · rw [if_pos ⟨rfl, e⟩, if_pos ⟨rfl, e⟩, e]; exact ⟨rfl, rfl⟩
    · rw [if_neg (by omega), if_neg (by omega), sI_off _ _ _ _ (show 23 ≠ 22 by decide)]; exact hN.2 t (by omega)
  · show f_X11_better_l1 a (n + 1) (nI i) N = f_X11_better_l1 a n (nI (i + 1)) _
    rw [f_X11_better_l1, if_neg (show ¬ (65536 : Int32) ≤ nI i from ifle_no (c := 65536) hi (by decide)), if_pos (inB_nI hi (by decide)), if_pos (inB_nI hi (by decide)), nI_clamp (by omega), hN.1 15 (by decide) (by decide), if_pos (h i hi), if_pos (inB_nI hi (by decide)), nI_1]
theorem betterY3 {M : Mem} {v R : Nat} (hv : v < 65536) (hR : R < 65536) (a b : Int32) : ∃ N, f_X11_better_l3 a b (nI v) (nI R) fuelN (nI R) M = some N ∧ (∀ d, d ≠ 22 → N.1 d = M.1 d) ∧ ∀ t, (N.1 22 t = 0 ↔ (M.1 22 t = 0 ∧ ¬ ∃ w, 1 ≤ w ∧ Sb w R ∧ t = v ||| w)) := by
  refine loop_d (F := fun n (s : Int32 × Mem) => f_X11_better_l3 a b (nI v) (nI R) n s.1 s.2)
    (fun s => ∃ x, s.1 = nI x ∧ Sb x R ∧ (∀ d, d ≠ 22 → s.2.1 d = M.1 d) ∧ ∀ t, (s.2.1 22 t = 0 ↔ (M.1 22 t = 0 ∧ ¬ ∃ w, x < w ∧ Sb w R ∧ t = v ||| w)))
    (fun s => s.1.toNatClampNeg) _ ?_ (nI R, M) ⟨R, rfl, Sb.refl R, fun _ _ => rfl, fun t => ⟨fun q => ⟨q, fun ⟨w, w1, w2, _⟩ => by have := Sb_le w2; omega⟩, fun q => q.1⟩⟩ (by show (nI R).toNatClampNeg < 70000; rw [nI_clamp (by omega)]; omega)
  rintro n ⟨w, N⟩ ⟨x, e, hx, g1, g2⟩
  dsimp only at e g1 g2
  subst e
  have hxR := Sb_le hx
  by_cases x0 : x = 0
  · subst x0
    right
    refine ⟨N, ?_, g1, fun t => g2 t⟩
    show f_X11_better_l3 a b _ _ (n + 1) (nI 0) N = _
    rw [f_X11_better_l3, if_pos (by decide)]
  · left
    have hor : v ||| x < 65536 := Nat.or_lt_two_pow (n := 16) hv (by omega)
    have hlt : (x - 1) &&& R < x := by have : (x - 1) &&& R ≤ x - 1 := Nat.and_le_left; omega
    refine ⟨(nI ((x - 1) &&& R), sI N 22 (v ||| x) 1), ⟨(x - 1) &&& R, rfl, and_Sb _ _, fun d hd => ?_, fun t => ?_⟩, ?_, ?_⟩
    · show (sI N 22 (v ||| x) 1).1 d = _
      rw [sI_off _ _ _ _ hd]; exact g1 d hd
    · show (sI N 22 (v ||| x) 1).1 22 t = 0 ↔ _
      rw [sI_1]
      by_cases et : t = v ||| x
      · rw [if_pos ⟨rfl, et⟩]
        exact ⟨fun q => absurd q (by decide), fun q => absurd ⟨x, hlt, hx, et⟩ q.2⟩
      · rw [if_neg (fun q => et q.2), g2 t]
        constructor
        · rintro ⟨q1, q2⟩
          refine ⟨q1, fun ⟨y, y1, y2, y3⟩ => q2 ⟨y, ?_, y2, y3⟩⟩
          apply Classical.byContradiction
          intro q4
          by_cases ey : y = x
          · rw [ey] at y3; exact et y3
          · have := sub_pred 16 R x y hR hx y2 (by omega)
            omega
        · rintro ⟨q1, q2⟩
          exact ⟨q1, fun ⟨y, y1, y2, y3⟩ => q2 ⟨y, by omega, y2, y3⟩⟩
    · show (nI ((x - 1) &&& R)).toNatClampNeg < (nI x).toNatClampNeg
      rw [nI_clamp (by omega), nI_clamp (by omega)]; exact hlt
    · show f_X11_better_l3 a b (nI v) (nI R) (n + 1) (nI x) N = f_X11_better_l3 a b (nI v) (nI R) n (nI ((x - 1) &&& R)) _
      rw [f_X11_better_l3, if_neg (nI_nle (by omega) (by omega)), nx_or, if_pos (inB_nI hor (by decide)), nI_clamp (by omega), show (1 : Int32) = nI 1 from rfl, pk_sub (by omega), nx_and]
theorem sub_xor : ∀ n A v, A < 2 ^ n → Sb v A → A - v = A ^^^ v := by
  intro n
  induction n with
  | zero =>
    intro A v hA h
    have := Sb_le h
    have h0 : A = 0 := by simpa using hA
    have h1 : v = 0 := by omega
    rw [h0, h1]; rfl
  | succ n ih =>
    intro A v hA h
    obtain ⟨g1, g2⟩ := Sb_half h
    have := ih (A / 2) (v / 2) (by rw [Nat.pow_succ] at hA; omega) g1
    have o1 : (A ^^^ v) / 2 = A / 2 ^^^ v / 2 := Nat.xor_div_two
    have o2 := @Nat.xor_mod_two_eq_one A v
    have hle := Sb_le g1
    have o3 : (A ^^^ v) % 2 = A % 2 - v % 2 := by
      rcases Nat.mod_two_eq_zero_or_one A with a | a <;> rcases Nat.mod_two_eq_zero_or_one v with b | b
      · have : ¬ (A ^^^ v) % 2 = 1 := fun q => by have := o2.mp q; simp [a, b] at this
        omega
      · omega
      · have : (A ^^^ v) % 2 = 1 := o2.mpr (by simp [a, b])
        omega
      · have : ¬ (A ^^^ v) % 2 = 1 := fun q => by have := o2.mp q; simp [a, b] at this
        omega
    omega
theorem and_rest {v A : Nat} (h : Sb v A) (hA : A < 65536) : nI A &&& (nI v ^^^ (-1 : Int32)) = nI (A - v) := by
  have hs : A - v = A ^^^ v := sub_xor 16 A v hA h
  refine b_ext (fun i hi => ?_)
  rw [b_and, b_xor, b_m1 i hi, Bool.xor_true]
  unfold bt
  rw [tb32 hi, tb32 hi, tb32 hi, hs, Nat.testBit_xor]
  cases hv : v.testBit i with
  | false => simp
  | true => rw [h i hv]; rfl
theorem rest_bit {v A k : Nat} (h : Sb v A) (hA : A < 65536) : (A - v).testBit k = (A.testBit k && !(v.testBit k)) := by
  rw [sub_xor 16 A v hA h, Nat.testBit_xor]
  cases hv : v.testBit k with
  | false => simp
  | true => rw [h k hv]; rfl
/-- what holds v within A: v, and v with some of the rest -/
theorem sup_rest {v A t : Nat} (h : Sb v A) (hA : A < 65536) (ht : Sb t A) : Sb v t ↔ (t = v ∨ ∃ w, 1 ≤ w ∧ Sb w (A - v) ∧ t = v ||| w) := by
  constructor
  · intro q
    by_cases e : t = v
    · exact Or.inl e
    · right
      have ht16 : t < 65536 := by have := Sb_le ht; omega
      have hle := Sb_le q
      refine ⟨t - v, by omega, fun k hk => ?_, ?_⟩
      · rw [rest_bit q ht16] at hk
        rw [rest_bit h hA]
        have hk := Bool.and_eq_true_iff.mp hk
        rw [ht k hk.1, hk.2]; rfl
      · apply Nat.eq_of_testBit_eq
        intro k
        rw [Nat.testBit_or, rest_bit q ht16]
        cases hv : v.testBit k with
        | false => simp
        | true => rw [q k hv]; rfl
  · rintro (q | ⟨w, -, -, q⟩)
    · rw [q]; exact Sb.refl v
    · rw [q]
      intro k hk
      rw [Nat.testBit_or, hk, Bool.true_or]
def BtI (M : Mem) (Q : Nat → Prop) (A v : Nat) (N : Mem) : Prop := (∀ d, d ≠ 22 → d ≠ 23 → N.1 d = M.1 d) ∧ (∀ t, Sb t A → (N.1 22 t = 0 ↔ ¬ Up (Qu Q (mb Q A v)) t)) ∧ ∀ t, t < 65536 → (N.1 23 t = 0 ↔ ¬ mb Q A v t)
theorem betterY2 {M : Mem} {Q : Nat → Prop} {A : Nat} (hA : A < 65536) (hA1 : 1 ≤ A) (hQA : Up Q A) (h22 : ∀ t, t < 65536 → (M.1 22 t = 0 ↔ ¬ Up Q t)) (h23 : ∀ t, t < 65536 → M.1 23 t = 0) (a : Int32) : ∃ N, f_X11_better_l2 a (nI A) fuelN ((0 - nI A) &&& nI A) M = some N ∧ BtI M Q A (A + 1) N := by
  have hsucc : ∀ v, Sb v A → v ≠ A → v < ((v + (65536 - A)) &&& A) ∧ ∀ z, Sb z A → v < z → (v + (65536 - A)) &&& A ≤ z := fun v hv hne => sub_succ 16 A v hA hv hne
  have h0A : Sb 0 A := fun k hk => by simp at hk
  have no0 : ∀ S, ¬ Op Q A S 0 := fun S h => h.2.2 (by
    rw [Nat.sub_zero]
    obtain ⟨t, t1, t2⟩ := hQA
    exact ⟨t, t1, Or.inl t2⟩)
  -- between one subset and the next nothing comes
  have skip : ∀ v, Sb v A → v ≠ A → mb Q A ((v + (65536 - A)) &&& A) = mb Q A (v + 1) := fun v hv hne => by
    obtain ⟨s1, s2⟩ := hsucc v hv hne
    refine mb_skip _ s1 (fun s q1 q2 ho => ?_)
    have := s2 s ho.1 (by omega)
    omega
  have mb1 : mb Q A (0 + 1) = mb Q A 0 := by
    funext u
    apply propext
    show (mb Q A 0 u ∨ (u = 0 ∧ Op Q A (mb Q A 0) 0)) ↔ mb Q A 0 u
    constructor
    · rintro (q | ⟨-, q⟩)
      · exact q
      · exact absurd q (no0 _)
    · intro q; exact Or.inl q
  refine loop_d (F := fun n (s : Int32 × Mem) => f_X11_better_l2 a (nI A) n s.1 s.2)
    (fun s => (s.1 = 0 ∧ BtI M Q A (A + 1) s.2) ∨ ∃ v, s.1 = nI v ∧ 1 ≤ v ∧ Sb v A ∧ BtI M Q A v s.2)
    (fun s => if s.1 = 0 then 0 else 65537 - s.1.toNatClampNeg) _ ?_ ((0 - nI A) &&& nI A, M) (Or.inr ⟨(0 + (65536 - A)) &&& A, ?_, ?_, and_Sb _ _, fun _ _ _ => rfl, fun t ht => ?_, fun t ht => ?_⟩) (by show (if (0 - nI A) &&& nI A = 0 then 0 else 65537 - _) < 70000; split <;> omega)
  · rintro n ⟨w, N⟩ hs
    dsimp only at hs
    rcases hs with ⟨rfl, hI⟩ | ⟨v, rfl, v1, v2, hI⟩
    · right
      refine ⟨N, ?_, hI⟩
      show f_X11_better_l2 a (nI A) (n + 1) 0 N = _
      rw [f_X11_better_l2, if_pos rfl]
    · left
      have hvA := Sb_le v2
      obtain ⟨g1, g2, g3⟩ := hI
      have hrest : Sb (A - v) A := fun k hk => by
        rw [rest_bit v2 hA] at hk
        exact (Bool.and_eq_true_iff.mp hk).1
      -- one step of v
      have step : ∃ P, (if (N.1 22 v) = 0 then (if inB (nI A &&& (nI v ^^^ (-1 : Int32))) 65536 = true then (if (N.1 22 (nI A &&& (nI v ^^^ (-1 : Int32))).toNatClampNeg) = 0 then (if inB (nI v) 65536 = true then (Option.bind (f_X11_better_l3 a (nI A) (nI v) (nI A &&& (nI v ^^^ (-1 : Int32))) fuelN (nI A &&& (nI v ^^^ (-1 : Int32))) (sI N 23 v (1 : Int32))) (fun q25 => (if inB (nI v) 65536 = true then some (sI q25 22 v (1 : Int32)) else none))) else none) else some N) else none) else some N) = some P ∧ BtI M Q A (v + 1) P := by
        rw [and_rest v2 hA, if_pos (inB_nI (show A - v < 65536 by omega) (by decide)), nI_clamp (show A - v < 2 ^ 31 by omega), if_pos (inB_nI (show v < 65536 by omega) (by decide))]
        have shut : ¬ Op Q A (mb Q A v) v → BtI M Q A (v + 1) N := fun hno => by
          have e : mb Q A (v + 1) = mb Q A v := mb_skip (v + 1) (by omega) (fun s q1 q2 => by rw [show s = v by omega]; exact hno)
          refine ⟨g1, fun t ht => by rw [e]; exact g2 t ht, fun t ht => by rw [e]; exact g3 t ht⟩
        by_cases c1 : N.1 22 v = 0
        · rw [if_pos c1]
          by_cases c2 : N.1 22 (A - v) = 0
          · have ho : Op Q A (mb Q A v) v := ⟨v2, (g2 v v2).mp c1, (g2 (A - v) hrest).mp c2⟩
            obtain ⟨P, p1, p2, p3⟩ := betterY3 (M := sI N 23 v 1) (v := v) (R := A - v) (by omega) (by omega) a (nI A)
            rw [if_pos c2, p1, Option.bind_some, if_pos (inB_nI (show v < 65536 by omega) (by decide))]
            refine ⟨_, rfl, fun d q1 q2 => ?_, fun t ht => ?_, fun t ht => ?_⟩
            · rw [sI_off _ _ _ _ q1, p2 d q1, sI_off _ _ _ _ q2]; exact g1 d q1 q2
            · rw [sI_1, Up_mb ho, sup_rest v2 hA ht]
              by_cases et : t = v
              · rw [if_pos ⟨rfl, et⟩]
                exact ⟨fun q => absurd q (by decide), fun q => absurd (Or.inr (Or.inl et)) q⟩
              · rw [if_neg (fun q => et q.2), p3 t, sI_off _ _ _ _ (by decide), g2 t ht, not_or, not_or]
                constructor
                · rintro ⟨q1, q2⟩; exact ⟨q1, et, q2⟩
                · rintro ⟨q1, -, q2⟩; exact ⟨q1, q2⟩
            · rw [sI_off _ _ _ _ (by decide), p2 23 (by decide), sI_1, mb_step ho]
              by_cases et : t = v
              · rw [if_pos ⟨rfl, et⟩]
                exact ⟨fun q => absurd q (by decide), fun q => absurd (Or.inr et) q⟩
              · rw [if_neg (fun q => et q.2), g3 t ht]
                constructor
                · rintro q (q2 | q2)
                  · exact q q2
                  · exact et q2
                · intro q q2; exact q (Or.inl q2)
          · rw [if_neg c2]
            exact ⟨N, rfl, shut (fun ho => c2 ((g2 (A - v) hrest).mpr ho.2.2))⟩
        · rw [if_neg c1]
          exact ⟨N, rfl, shut (fun ho => c1 ((g2 v v2).mpr ho.2.1))⟩
      obtain ⟨P, p1, p2⟩ := step
      have hun : f_X11_better_l2 a (nI A) (n + 1) (nI v) N = f_X11_better_l2 a (nI A) n (nI ((v + (65536 - A)) &&& A)) P := by
        rw [f_X11_better_l2, if_neg (nI_ne0 (by omega) (by omega)), if_pos (inB_nI (show v < 65536 by omega) (by decide)), nI_clamp (show v < 2 ^ 31 by omega), p1, Option.bind_some, succI hA]
      by_cases evA : v = A
      · have ez : (v + (65536 - A)) &&& A = 0 := by
          rw [evA, show A + (65536 - A) = 65536 by omega, Nat.and_comm]
          have := and_p2n A 16
          rw [tb_hi (show A < 2 ^ 16 from hA) (Nat.le_refl _)] at this
          exact this
        refine ⟨(0, P), Or.inl ⟨rfl, by rw [evA] at p2; exact p2⟩, ?_, ?_⟩
        · show (if (0 : Int32) = 0 then 0 else _) < (if nI v = 0 then 0 else 65537 - (nI v).toNatClampNeg)
          rw [if_pos rfl, if_neg (nI_ne0 (by omega) (by omega)), nI_clamp (by omega)]
          omega
        · show f_X11_better_l2 a (nI A) (n + 1) (nI v) N = f_X11_better_l2 a (nI A) n 0 P
          rw [hun, ez]
          rfl
      · obtain ⟨s1, s2⟩ := hsucc v v2 evA
        have hsA : (v + (65536 - A)) &&& A ≤ A := Nat.and_le_right
        refine ⟨(nI ((v + (65536 - A)) &&& A), P), Or.inr ⟨_, rfl, by omega, and_Sb _ _, p2.1, ?_, ?_⟩, ?_, hun⟩
        · rw [skip v v2 evA]; exact p2.2.1
        · rw [skip v v2 evA]; exact p2.2.2
        · show (if nI ((v + (65536 - A)) &&& A) = 0 then 0 else 65537 - (nI ((v + (65536 - A)) &&& A)).toNatClampNeg) < (if nI v = 0 then 0 else 65537 - (nI v).toNatClampNeg)
          rw [if_neg (nI_ne0 (by omega) (by omega)), if_neg (nI_ne0 (by omega) (by omega)), nI_clamp (by omega), nI_clamp (by omega)]
          omega
  · show (0 - nI A) &&& nI A = _
    exact succI (v := 0) hA
  · exact (hsucc 0 h0A (by omega)).1
  · rw [skip 0 h0A (by omega), mb1, h22 t (by have := Sb_le ht; omega)]
    constructor
    · rintro q ⟨u, u1, u2⟩
      rcases u2 with u2 | u2
      · exact q ⟨u, u1, u2⟩
      · exact u2.elim
    · rintro q ⟨u, u1, u2⟩
      exact q ⟨u, u1, Or.inl u2⟩
  · rw [skip 0 h0A (by omega), mb1]
    exact ⟨fun _ q => q.elim, fun _ => h23 t ht⟩
theorem betterY4 (M : Mem) : ∃ N, f_X11_better_l4 fuelN 0 M = some N ∧ (∀ d, d ≠ 14 → N.1 d = M.1 d) ∧ ∀ t, t < 65536 → (N.1 14 t = 0 ↔ (M.1 14 t = 0 ∧ M.1 23 t = 0)) := by
  refine loop_go (F := fun n v N => f_X11_better_l4 n v N) 65536 (by decide) (fun i N => (∀ d, d ≠ 14 → N.1 d = M.1 d) ∧ (∀ t, t < i → (N.1 14 t = 0 ↔ (M.1 14 t = 0 ∧ M.1 23 t = 0))) ∧ ∀ t, i ≤ t → N.1 14 t = M.1 14 t) _ (fun n N hN => ⟨N, ?_, hN.1, hN.2.1⟩) (fun n i N hi hN => ?_) 0 M (by omega) ⟨fun _ _ => rfl, fun t ht => by omega, fun _ _ => rfl⟩
  · show f_X11_better_l4 (n + 1) (nI 65536) N = _
    rw [f_X11_better_l4, if_pos (by decide)]
  · left
    obtain ⟨g1, g2, g3⟩ := hN
    have key : ∃ v : Int32, (if (N.1 14 i) = 0 then (if inB (nI i) 65536 = true then (if (N.1 23 i) = 0 then some (0 : Int32) else some (1 : Int32)) else none) else some (1 : Int32)) = some v ∧ (v = 0 ∨ v = 1) ∧ (v = 0 ↔ (M.1 14 i = 0 ∧ M.1 23 i = 0)) := by
      rw [if_pos (inB_nI hi (by decide)), g3 i (Nat.le_refl _), g1 23 (by decide)]
      by_cases c1 : M.1 14 i = 0
      · rw [if_pos c1]
        by_cases c2 : M.1 23 i = 0
        · rw [if_pos c2]; exact ⟨0, rfl, Or.inl rfl, fun _ => ⟨c1, c2⟩, fun _ => rfl⟩
        · rw [if_neg c2]; exact ⟨1, rfl, Or.inr rfl, fun q => absurd q (by decide), fun q => absurd q.2 c2⟩
      · rw [if_neg c1]; exact ⟨1, rfl, Or.inr rfl, fun q => absurd q (by decide), fun q => absurd q.1 c1⟩
    obtain ⟨v, k1, k2, k3⟩ := key
    refine ⟨sI N 14 i v, ⟨fun d hd => by rw [sI_off _ _ _ _ hd]; exact g1 d hd, fun t ht => ?_, fun t ht => by rw [sI_1, if_neg (by omega)]; exact g3 t (by omega)⟩, ?_⟩
    · rw [sI_1]
      by_cases e : t = i
      · rw [if_pos ⟨rfl, e⟩, e]; exact k3
      · rw [if_neg (by omega)]; exact g2 t (by omega)
    · show f_X11_better_l4 (n + 1) (nI i) N = f_X11_better_l4 n (nI (i + 1)) _
      rw [f_X11_better_l4, if_neg (show ¬ (65536 : Int32) ≤ nI i from ifle_no (c := 65536) hi (by decide)), if_pos (inB_nI hi (by decide)), nI_clamp (by omega), k1, Option.bind_some, if_pos (inB_nI hi (by decide)), if_pos k2, nI_1]
theorem cnt_sub {K L : Nat → Bool} : ∀ n, (∀ s, s < n → K s = true → L s = true) → cnt K n ≤ cnt L n := by
  intro n
  induction n with
  | zero => intro _; exact Nat.le_refl _
  | succ n ih =>
    intro h
    rw [cnt_s, cnt_s]
    have := ih (fun s hs => h s (by omega))
    have : (if K n = true then 1 else 0) ≤ (if L n = true then 1 else 0) := by
      cases hk : K n with
      | false => simp
      | true => rw [h n (by omega) hk]; exact Nat.le_refl _
    omega
theorem mb_top {Q : Nat → Prop} {A v : Nat} (h : A + 1 ≤ v) : mb Q A v = mb Q A (A + 1) := mb_skip v h (fun s q1 q2 ho => by have := Sb_le ho.1; omega)
/-! a keeper of no quorum opens and shuts nothing: all keepers may stand for those of the quorums -/
theorem Op_wide {Q S : Nat → Prop} {A F v : Nat} (hF : F < 65536) (hAF : Sb A F) (hG : ∀ t, Qu Q S t → Sb t A) (h : Op Q A S v) : Op Q F S v := by
  have hA : A < 65536 := Nat.lt_of_le_of_lt (Sb_le hAF) hF
  have hvF := h.1.trans hAF
  refine ⟨hvF, h.2.1, ?_⟩
  rintro ⟨t, t1, t2⟩
  refine h.2.2 ⟨t, fun k hk => ?_, t2⟩
  have q := t1 k hk
  rw [rest_bit hvF hF, Bool.and_eq_true_iff] at q
  rw [rest_bit h.1 hA, hG t t2 k hk, q.2]
  rfl
theorem Op_narrow {Q S : Nat → Prop} {A F v : Nat} (hF : F < 65536) (hAF : Sb A F) (h : Op Q F S v) : Op Q A S (v &&& A) := by
  have hA : A < 65536 := Nat.lt_of_le_of_lt (Sb_le hAF) hF
  have hs : Sb (v &&& A) A := and_Sb v A
  refine ⟨hs, ?_, ?_⟩
  · rintro ⟨t, t1, t2⟩
    refine h.2.1 ⟨t, fun k hk => ?_, t2⟩
    have q := t1 k hk
    rw [Nat.testBit_and, Bool.and_eq_true_iff] at q
    exact q.1
  · rintro ⟨t, t1, t2⟩
    refine h.2.2 ⟨t, fun k hk => ?_, t2⟩
    have q := t1 k hk
    rw [rest_bit hs hA, Nat.testBit_and, Bool.and_eq_true_iff] at q
    obtain ⟨q1, q2⟩ := q
    rw [q1, Bool.and_true] at q2
    rw [rest_bit h.1 hF, hAF k q1, q2]
    rfl
theorem mb_in {Q : Nat → Prop} {A : Nat} : ∀ v u, mb Q A v u → Sb u A := by
  intro v
  induction v with
  | zero => intro u h; exact h.elim
  | succ v ih =>
    rintro u (h | ⟨h, ho⟩)
    · exact ih u h
    · rw [h]; exact ho.1
theorem Qu_in {Q : Nat → Prop} {A : Nat} (hQ : ∀ t, Q t → Sb t A) (v : Nat) : ∀ t, Qu Q (mb Q A v) t → Sb t A := fun t ht => by
  rcases ht with ht | ht
  · exact hQ t ht
  · exact mb_in v t ht
theorem mb_full {Q : Nat → Prop} {A F : Nat} (hF : F < 65536) (hAF : Sb A F) (hQ : ∀ t, Q t → Sb t A) : ∀ v, mb Q F v = mb Q A v := by
  intro v
  induction v with
  | zero => rfl
  | succ v ih =>
    have e : Op Q F (mb Q A v) v ↔ Op Q A (mb Q A v) v := by
      constructor
      · intro h
        have h2 := Op_narrow hF hAF h
        by_cases q : v &&& A = v
        · rw [q] at h2; exact h2
        · have hle : v &&& A ≤ v := Nat.and_le_left
          exact absurd h2 (mb_shut (by omega))
      · exact Op_wide hF hAF (Qu_in hQ v)
    funext u
    apply propext
    show (mb Q F v u ∨ (u = v ∧ Op Q F (mb Q F v) v)) ↔ (mb Q A v u ∨ (u = v ∧ Op Q A (mb Q A v) v))
    rw [ih, e]
theorem completeX {M : Mem} {m A : Nat} {Q : Nat → Prop} (hp : PS M m) (hA : A < 2 ^ m) (hQA : ∀ t, Q t → Sb t A) (hQ : ∀ s, s < 2 ^ m → (pb M s = true ↔ Up Q s)) : ∃ N, f_X7_complete 120 M = some N ∧ N.1 = M.1 ∧ ∃ v, v ≤ 2 ^ m ∧ (∀ s, s < 2 ^ m → (pb N s = true ↔ Up (Qu Q (mb Q A v)) s)) ∧ ((∀ s, ¬ Op Q A (mb Q A v) s) ∨ 120 < cnt (kb (mb Q A v)) (2 ^ m)) := by
  have hm : 2 ^ m ≤ 65536 := p16 hp.2.1
  have hpos := Nat.two_pow_pos m
  have hF : 2 ^ m - 1 < 65536 := by omega
  have hAF : Sb A (2 ^ m - 1) := Sb_full hA
  obtain ⟨N, e, n1, v, v1, v2, v3⟩ := completeF (A := 2 ^ m - 1) hp rfl hQ
  rw [mb_full hF hAF hQA v] at v2 v3
  refine ⟨N, e, n1, v, v1, v2, ?_⟩
  rcases v3 with v3 | v3
  · exact Or.inl (fun s hs => v3 s (Op_wide hF hAF (Qu_in hQA v) hs))
  · exact Or.inr v3
set_option maxRecDepth 10000 in
theorem step_better : St_better Rel := by
  intro a M1 M2 H
  have Hn1 := Rel_no H 1
  have Hn4 := Rel_no H 4
  have Hn7 := Rel_no H 7
  obtain ⟨z, h, hC, hL, hS, hs⟩ := id H
  obtain ⟨h1, h2, h3, h4, -⟩ := id hC
  have hI := h4.inv
  have hf := hI.2.1
  unfold f_X10_better f_X11_better
  rcases pk_ix a (n := zFn z) (by omega) with ha | ha | ⟨f, hfz, rfl⟩
  · rw [famAt_no h1.2.1.1 (Or.inl ha), isFam_no (by rw [fn5]; exact h2.2.1.1) hf.1 (Or.inl ha)]; exact ⟨_, _, rfl, rfl, rfl, Hn1⟩
  · rw [famAt_no h1.2.1.1 (Or.inr ha), isFam_no (by rw [fn5]; exact h2.2.1.1) hf.1 (Or.inr ha)]; exact ⟨_, _, rfl, rfl, rfl, Hn1⟩
  rw [famAt_yes h1.2.1.1 hf.1 hfz, isFam_yes (by rw [fn5]; exact h2.2.1.1) hf.1 hfz]
  obtain ⟨-, c1, c2, c3⟩ := hf.2 f hfz
  have hpk := p16 hI.1.1
  have qx := QX_of hI h1.2.1 hfz
  have qy := QY_of hI h2.2.1 hfz
  have qy5 := QY_k qy (k5 M2)
  obtain ⟨r0, er0⟩ := ap_some qy5 qy5 (fun _ => rfl)
  rw [Option.bind_some, oel_some, if_pos (kX_fam qx.1), apart_eq qx qy5 qx qy5 (fun _ => rfl) (show (1 : Int32) = if f = f then 1 else 0 by rw [if_pos rfl]), er0, Option.bind_some, Option.bind_some, if_neg one_ne, Option.bind_some]
  by_cases hr0 : r0 = -2
  · rw [if_pos hr0, if_pos hr0, h2.2.1.1]
    by_cases hfn : zFn z < 24
    · rw [if_neg (fn_ne hfn), room_yes h1.2.1.1 hfn, Option.bind_some, if_neg one_ne]
      have hq16 : ∀ i, i < zCnt (zFm z) f → zSet (zFm z) f i < 65536 := fun i hi => by have := (c3 i hi).2; omega
      have hA : orF (zSet (zFm z) f) (zCnt (zFm z) f) < 2 ^ zKn z := orF_lt _ (fun i hi => (c3 i hi).2)
      generalize hAe : orF (zSet (zFm z) f) (zCnt (zFm z) f) = A at hA
      have hA1 : 1 ≤ A := by
        have := Sb_le (orF_Sb (q := zSet (zFm z) f) (zCnt (zFm z) f) 0 c1)
        have := (c3 0 c1).1
        omega
      -- the reference
      obtain ⟨B1, b1, b2, b3⟩ := comeAllY qy5 hq16
      obtain ⟨B2, b4, b5, b6, b7, -, -, -⟩ := leastY b3
      have k2 : KeepY M2 B2.2 := ((k5 M2).trans (keepY_14 b2)).trans ⟨⟨⟨b6 3 (by decide), b6 11 (by decide), b6 13 (by decide), b6 20 (by decide)⟩, fun c hc => b5 c (by omega) (by omega) (by omega)⟩, b6 7 (by decide), b5 4 (by omega) (by omega) (by omega), b6 18 (by decide), b5 12 (by omega) (by omega) (by omega)⟩
      obtain ⟨B3, b8, b9, b10⟩ := betterY1 (M := B2.2) (fun t ht => (b7 t ht).1) (nI f)
      have k3 : KeepY M2 B3 := k2.trans ⟨⟨⟨by rw [b9 0 (by decide) (by decide)], by rw [b9 0 (by decide) (by decide)], by rw [b9 0 (by decide) (by decide)], by rw [b9 0 (by decide) (by decide)]⟩, fun c hc => b9 c (by omega) (by omega)⟩, by rw [b9 0 (by decide) (by decide)], b9 4 (by decide) (by decide), by rw [b9 0 (by decide) (by decide)], b9 12 (by decide) (by decide)⟩
      have hQA : Up (fun s => ∃ i, i < zCnt (zFm z) f ∧ s = zSet (zFm z) f i) A := ⟨zSet (zFm z) f 0, by rw [← hAe]; exact orF_Sb _ 0 c1, 0, c1, rfl⟩
      obtain ⟨B4, b11, b12⟩ := betterY2 (M := B3) (Q := fun s => ∃ i, i < zCnt (zFm z) f ∧ s = zSet (zFm z) f i) (A := A) (by omega) hA1 hQA (fun t ht => by rw [(b10 t ht).1]; exact (b7 t ht).2) (fun t ht => (b10 t ht).2) (nI f)
      have k4 : KeepY M2 B4 := k3.trans ⟨⟨⟨by rw [b12.1 0 (by decide) (by decide)], by rw [b12.1 0 (by decide) (by decide)], by rw [b12.1 0 (by decide) (by decide)], by rw [b12.1 0 (by decide) (by decide)]⟩, fun c hc => b12.1 c (by omega) (by omega)⟩, by rw [b12.1 0 (by decide) (by decide)], b12.1 4 (by decide) (by decide), by rw [b12.1 0 (by decide) (by decide)], b12.1 12 (by decide) (by decide)⟩
      obtain ⟨B5, b13, b14, b15⟩ := comeAllY (QY_k qy k4) hq16
      obtain ⟨B, b16, b17, b18⟩ := betterY4 B5
      have kB : KeepY M2 B := (k4.trans (keepY_14 b14)).trans (keepY_14 b17)
      have hGY : ∀ s, s < 65536 → (B.1 14 s = 0 ↔ ¬ Qu (fun s => ∃ i, i < zCnt (zFm z) f ∧ s = zSet (zFm z) f i) (mb (fun s => ∃ i, i < zCnt (zFm z) f ∧ s = zSet (zFm z) f i) A (A + 1)) s) := fun s hs => by
        rw [b18 s hs, b15 s hs, b14 23 (by decide), b12.2.2 s hs]
        unfold Qu
        rw [not_or]
      have e3 : f_X11_allOf (nI f) B3 = some (nI A) := by rw [allOfY (QY_k qy k3), hAe]
      rw [b1, Option.bind_some, b4, Option.bind_some, b8, Option.bind_some, e3, Option.bind_some, b11, Option.bind_some, b13, Option.bind_some, b16, Option.bind_some]
      -- the class
      obtain ⟨A0, a1, a2, a3, a4, a5⟩ := begun hI.1.1 h1.1.1
      obtain ⟨A1, a6, a7, a8⟩ := holdX a2 a5 (QX_k qx a4) (fun i hi => k2m (c3 i hi).2)
      have pA1 := PS.keep a2 a7
      obtain ⟨A2, a9, a10, v, hv, a11, a12⟩ := completeX (Q := fun s => ∃ i, i < zCnt (zFm z) f ∧ s = zSet (zFm z) f i) pA1 (k2m hA) (fun t ht => by
        obtain ⟨i, hi, e⟩ := ht
        rw [e, ← hAe]; exact orF_Sb _ i hi) a8
      have kA : KeepX M1 A2 := (a4.trans (keepX_1 a7)).trans (keepX_1 a10)
      have pA2 := PS.keep pA1 a10
      have eB : f_X3_gatherBetter (264 + 2 * f) A0 = some A2 := by
        unfold f_X3_gatherBetter
        rw [if_pos (kX_fam qx.1), a6, Option.bind_some, a9, Option.bind_some]
      rw [a1, Option.bind_some, eB, Option.bind_some]
      have hm16 : 2 ^ max (zKn z) 6 ≤ 65536 := p16 a2.2.1
      rcases a12 with a12 | a12
      · have emb : mb (fun s => ∃ i, i < zCnt (zFm z) f ∧ s = zSet (zFm z) f i) A v = mb (fun s => ∃ i, i < zCnt (zFm z) f ∧ s = zSet (zFm z) f i) A (A + 1) := by
          by_cases q : A + 1 ≤ v
          · exact mb_top q
          · exact (mb_skip (A + 1) (by omega) (fun s _ _ => a12 s)).symm
        rw [emb] at a11
        obtain ⟨r, N1, N2, e1, e2, hR⟩ := fin2 (G := Qu (fun s => ∃ i, i < zCnt (zFm z) f ∧ s = zSet (zFm z) f i) (mb (fun s => ∃ i, i < zCnt (zFm z) f ∧ s = zSet (zFm z) f i) A (A + 1))) (kd := 10) hC hL hS hfn (by omega) kA pA2 a11 kB hGY (fun s hs => by
          rcases hs with ⟨i, hi, e⟩ | hs
          · rw [e]; exact c3 i hi
          · have hop : ∀ w, mb (fun s => ∃ i, i < zCnt (zFm z) f ∧ s = zSet (zFm z) f i) A w s → Op (fun s => ∃ i, i < zCnt (zFm z) f ∧ s = zSet (zFm z) f i) A (mb (fun s => ∃ i, i < zCnt (zFm z) f ∧ s = zSet (zFm z) f i) A s) s := by
              intro w
              induction w with
              | zero => intro q; exact q.elim
              | succ w ih =>
                rintro (q | ⟨q1, q2⟩)
                · exact ih q
                · subst q1; exact q2
            have ho := hop _ hs
            refine ⟨?_, Nat.lt_of_le_of_lt (Sb_le ho.1) hA⟩
            apply Classical.byContradiction
            intro q
            have s0 : s = 0 := by omega
            subst s0
            refine ho.2.2 ?_
            rw [Nat.sub_zero]
            obtain ⟨t, t1, t2⟩ := hQA
            exact ⟨t, t1, Or.inl t2⟩) ⟨_, Or.inl ⟨0, c1, rfl⟩⟩
        rw [show (10 : Int32) = nI 10 from rfl, e1, e2]
        exact ⟨_, _, rfl, rfl, rfl, hR⟩
      · obtain ⟨N1, e1, n1⟩ := settle_many (G := Qu (fun s => ∃ i, i < zCnt (zFm z) f ∧ s = zSet (zFm z) f i) (mb (fun s => ∃ i, i < zCnt (zFm z) f ∧ s = zSet (zFm z) f i) A v)) pA2 a11 (by
          have := cnt_sub (K := kb (mb (fun s => ∃ i, i < zCnt (zFm z) f ∧ s = zSet (zFm z) f i) A v)) (L := kb (Ls (Qu (fun s => ∃ i, i < zCnt (zFm z) f ∧ s = zSet (zFm z) f i) (mb (fun s => ∃ i, i < zCnt (zFm z) f ∧ s = zSet (zFm z) f i) A v)))) (2 ^ max (zKn z) 6) (fun s _ hk => kb_t.mpr (mb_least (kb_t.mp hk)))
          omega) 10
        have hB11 : B.1 0 11 = nI (zFn z) := by rw [kB.1.1.2.1]; exact h2.2.1.1
        obtain ⟨N2, e2, n2⟩ := made_many hB11 hfn 10 hGY (by
          have q1 := cnt_sub (K := kb (mb (fun s => ∃ i, i < zCnt (zFm z) f ∧ s = zSet (zFm z) f i) A v)) (L := kb (Ls (Qu (fun s => ∃ i, i < zCnt (zFm z) f ∧ s = zSet (zFm z) f i) (mb (fun s => ∃ i, i < zCnt (zFm z) f ∧ s = zSet (zFm z) f i) A (A + 1))))) (2 ^ max (zKn z) 6) (fun s _ hk => kb_t.mpr (mb_least (by
            have hk := kb_t.mp hk
            by_cases q : A + 1 ≤ v
            · rw [mb_top q] at hk; exact hk
            · exact mb_mono (by omega) hk)))
          have q2 := cnt_mono (kb (Ls (Qu (fun s => ∃ i, i < zCnt (zFm z) f ∧ s = zSet (zFm z) f i) (mb (fun s => ∃ i, i < zCnt (zFm z) f ∧ s = zSet (zFm z) f i) A (A + 1))))) hm16
          omega)
        rw [e1, e2]
        exact ⟨_, _, rfl, rfl, rfl, Rel_keep H ((kA.trans (keepX_1 n1)).trans (keepX_st _ _)) ((kB.trans n2).trans (keepY_f _ _ (by omega))) (by rw [st_X, st_Y])⟩
    · have h24 : zFn z = 24 := by omega
      rw [room_no (by rw [h1.2.1.1, h24]), h24, if_pos (show nI 24 = (24 : Int32) from rfl)]
      exact ⟨_, _, rfl, rfl, rfl, Hn4⟩
  · rw [if_neg hr0, if_neg hr0]
    exact ⟨_, _, rfl, rfl, rfl, Hn7⟩
