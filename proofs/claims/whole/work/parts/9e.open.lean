/-! better: sets that are open, the least first -/
def Qu (Q S : Nat → Prop) (t : Nat) : Prop := Q t ∨ S t
def Op (Q : Nat → Prop) (A : Nat) (S : Nat → Prop) (v : Nat) : Prop := Sb v A ∧ ¬ Up (Qu Q S) v ∧ ¬ Up (Qu Q S) (A - v)
/-- what has come below v -/
def mb (Q : Nat → Prop) (A : Nat) : Nat → Nat → Prop
  | 0, _ => False
  | v + 1, u => mb Q A v u ∨ (u = v ∧ Op Q A (mb Q A v) v)
theorem mb_lt {Q : Nat → Prop} {A : Nat} : ∀ v u, mb Q A v u → u < v := by
  intro v
  induction v with
  | zero => intro u h; exact h.elim
  | succ v ih =>
    rintro u (h | ⟨h, -⟩)
    · have := ih u h; omega
    · omega
theorem mb_mono {Q : Nat → Prop} {A : Nat} {v w : Nat} (h : v ≤ w) {u : Nat} (hu : mb Q A v u) : mb Q A w u := by
  induction h with
  | refl => exact hu
  | step _ ih => exact Or.inl ih
theorem Qu_mono {Q S T : Nat → Prop} (h : ∀ t, S t → T t) {s : Nat} (hs : Up (Qu Q S) s) : Up (Qu Q T) s := by
  obtain ⟨t, t1, t2⟩ := hs
  refine ⟨t, t1, ?_⟩
  rcases t2 with t2 | t2
  · exact Or.inl t2
  · exact Or.inr (h t t2)
theorem Op_anti {Q : Nat → Prop} {A : Nat} {S T : Nat → Prop} (h : ∀ t, S t → T t) {v : Nat} (hv : Op Q A T v) : Op Q A S v := ⟨hv.1, fun q => hv.2.1 (Qu_mono h q), fun q => hv.2.2 (Qu_mono h q)⟩
/-- below v none is open any more -/
theorem mb_shut {Q : Nat → Prop} {A : Nat} {v u : Nat} (hu : u < v) : ¬ Op Q A (mb Q A v) u := by
  intro h
  have h1 : Op Q A (mb Q A u) u := Op_anti (fun t ht => mb_mono (by omega) ht) h
  have h2 : mb Q A (u + 1) u := Or.inr ⟨rfl, h1⟩
  exact h.2.1 ⟨u, Sb.refl u, Or.inr (mb_mono (show u + 1 ≤ v from hu) h2)⟩
theorem mb_skip {Q : Nat → Prop} {A : Nat} {v : Nat} : ∀ w, v ≤ w → (∀ s, v ≤ s → s < w → ¬ Op Q A (mb Q A v) s) → mb Q A w = mb Q A v := by
  intro w hw
  induction hw with
  | refl => intro _; rfl
  | @step w hw ih =>
    intro h
    have e := ih (fun s s1 s2 => h s s1 (Nat.lt_succ_of_lt s2))
    funext u
    apply propext
    show (mb Q A w u ∨ (u = w ∧ Op Q A (mb Q A w) w)) ↔ _
    rw [e]
    constructor
    · rintro (q | ⟨-, q⟩)
      · exact q
      · exact absurd q (h w hw (Nat.lt_succ_self w))
    · intro q; exact Or.inl q
theorem mb_step {Q : Nat → Prop} {A v : Nat} (h : Op Q A (mb Q A v) v) (u : Nat) : mb Q A (v + 1) u ↔ (mb Q A v u ∨ u = v) := by
  show (mb Q A v u ∨ (u = v ∧ Op Q A (mb Q A v) v)) ↔ _
  constructor
  · rintro (q | ⟨q, -⟩)
    · exact Or.inl q
    · exact Or.inr q
  · rintro (q | q)
    · exact Or.inl q
    · exact Or.inr ⟨q, h⟩
theorem Up_mb {Q : Nat → Prop} {A v s : Nat} (h : Op Q A (mb Q A v) v) : Up (Qu Q (mb Q A (v + 1))) s ↔ (Up (Qu Q (mb Q A v)) s ∨ Sb v s) := by
  constructor
  · rintro ⟨t, t1, t2⟩
    rcases t2 with t2 | t2
    · exact Or.inl ⟨t, t1, Or.inl t2⟩
    · rcases (mb_step h t).mp t2 with q | q
      · exact Or.inl ⟨t, t1, Or.inr q⟩
      · rw [q] at t1; exact Or.inr t1
  · rintro (q | q)
    · exact Qu_mono (fun t ht => Or.inl ht) q
    · exact ⟨v, q, Or.inr ((mb_step h v).mpr (Or.inr rfl))⟩
/-- each that has come is one of the least -/
theorem mb_least {Q : Nat → Prop} {A v u : Nat} (h : mb Q A v u) : Ls (Qu Q (mb Q A v)) u := by
  rw [Ls_iff]
  refine ⟨Or.inr h, fun t ht hs => ?_⟩
  -- u came when it was open
  have key : ∀ w, mb Q A w u → Op Q A (mb Q A u) u := by
    intro w
    induction w with
    | zero => intro q; exact q.elim
    | succ w ih =>
      rintro (q | ⟨q1, q2⟩)
      · exact ih q
      · subst q1; exact q2
  have hop := key v h
  have low : ∀ w, mb Q A w t → t < u → mb Q A u t := by
    intro w
    induction w with
    | zero => intro q; exact q.elim
    | succ w ih =>
      rintro (q | ⟨q1, q2⟩) hlt
      · exact ih q hlt
      · subst q1
        exact mb_mono (show t + 1 ≤ u from hlt) (Or.inr ⟨rfl, q2⟩)
  apply Classical.byContradiction
  intro hne
  have hlt : t < u := by have := Sb_le hs; omega
  rcases ht with ht | ht
  · exact hop.2.1 ⟨t, hs, Or.inl ht⟩
  · exact hop.2.1 ⟨t, hs, Or.inr (low v ht hlt)⟩
/-! within, next open, put upwards -/
theorem Sb64 {j low : Nat} (hj : j < 64) : Sb j low ↔ ∀ i, i < 6 → low.testBit i = false → j.testBit i = false := by
  constructor
  · intro h i _ hl
    cases hji : j.testBit i with
    | false => rfl
    | true => rw [h i hji] at hl; cases hl
  · intro h k hk
    have hk6 : k < 6 := by
      apply Classical.byContradiction
      intro q
      rw [tb_hi (show j < 2 ^ 6 from hj) (by omega)] at hk
      cases hk
    cases hl : low.testBit k with
    | true => rfl
    | false => rw [h k hk6 hl] at hk; cases hk
theorem Sb_ij {i j h l : Nat} (hj : j < 64) (hl : l < 64) : Sb (64 * i + j) (64 * h + l) ↔ (Sb i h ∧ Sb j l) := by
  constructor
  · intro q
    refine ⟨fun k hk => ?_, ?_⟩
    · have := q (k + 6) (by rw [tb_ij2 hj]; exact hk)
      rwa [tb_ij2 hl] at this
    · rw [Sb64 hj]
      intro i' hi' hl'
      cases hji : j.testBit i' with
      | false => rfl
      | true =>
        have := q i' (by rw [tb_ij hj hi']; exact hji)
        rw [tb_ij hl hi', hl'] at this
        cases this
  · rintro ⟨q1, q2⟩ k hk
    by_cases hk6 : k < 6
    · rw [tb_ij hj hk6] at hk
      rw [tb_ij hl hk6]
      exact q2 k hk
    · obtain ⟨k', rfl⟩ : ∃ k', k = k' + 6 := ⟨k - 6, by omega⟩
      rw [tb_ij2 hj] at hk
      rw [tb_ij2 hl]
      exact q1 k' hk
theorem and_notz {v h : Nat} (hv : v < 2 ^ 31) : (nI v &&& (nI h ^^^ (-1 : Int32))) = 0 ↔ Sb v h := by
  constructor
  · intro q k hk
    have hk31 : k < 31 := by
      apply Classical.byContradiction
      intro q'
      rw [tb_hi hv (by omega)] at hk
      cases hk
    have := congrArg (fun x => bt x k) q
    simp only [b_and, b_xor, b_m1 k (by omega), b_0, Bool.xor_true] at this
    unfold bt at this
    rw [tb32 (by omega), tb32 (by omega), hk] at this
    cases hh : h.testBit k with
    | true => rfl
    | false => rw [hh] at this; cases this
  · intro q
    refine b_ext (fun i hi => ?_)
    rw [b_and, b_xor, b_m1 i hi, b_0, Bool.xor_true]
    unfold bt
    rw [tb32 hi, tb32 hi]
    cases hv' : v.testBit i with
    | false => rfl
    | true => rw [q i hv']; rfl
theorem Sb_full {m s : Nat} (hs : s < 2 ^ m) : Sb s (2 ^ m - 1) := fun k hk => by
  rw [Nat.testBit_two_pow_sub_one, decide_eq_true_iff]
  apply Classical.byContradiction
  intro q
  rw [tb_hi hs (by omega)] at hk
  cases hk
theorem openP {M : Mem} {m A a : Nat} (hp : PS M m) (hA : A = 2 ^ m - 1) (ha : a < 2 ^ m) : ∃ r, f_X7_nextOpen (nI a) M = some r ∧ Nx (kb (fun s => Sb s A ∧ pb M s = false ∧ pb M (A - s) = false)) (2 ^ m) (64 * (a / 64)) r := by
  obtain ⟨h1, h2, h3⟩ := hp
  obtain ⟨u1, u2, u3⟩ := ps_u m h1 h2
  have HH := loop_go (F := fun n v (_ : Unit) => f_X7_nextOpen_l1 M n v) (2 ^ (m - 6)) (by omega) (fun i _ => a / 64 ≤ i ∧ ∀ t, 64 * (a / 64) ≤ t → t < 64 * i → kb (fun s => Sb s A ∧ pb M s = false ∧ pb M (A - s) = false) t = false)
    (fun r => (r = .inl () ∧ ∀ t, 64 * (a / 64) ≤ t → t < 2 ^ m → kb (fun s => Sb s A ∧ pb M s = false ∧ pb M (A - s) = false) t = false) ∨ ∃ s, r = .inr (nI s) ∧ 64 * (a / 64) ≤ s ∧ s < 2 ^ m ∧ kb (fun s => Sb s A ∧ pb M s = false ∧ pb M (A - s) = false) s = true ∧ ∀ t, 64 * (a / 64) ≤ t → t < s → kb (fun s => Sb s A ∧ pb M s = false ∧ pb M (A - s) = false) t = false) ?_ ?_ (a / 64) () (by omega) ⟨Nat.le_refl _, fun t q1 q2 => by omega⟩
  · obtain ⟨r, e, hr⟩ := HH
    have e : f_X7_nextOpen_l1 M fuelN (nI (a / 64)) = _ := e
    unfold f_X7_nextOpen
    rw [ush6 (by omega), e, Option.bind_some]
    rcases hr with ⟨rfl, h⟩ | ⟨s, rfl, h⟩
    · exact ⟨-1, rfl, Or.inr ⟨h, rfl⟩⟩
    · exact ⟨nI s, rfl, Or.inl ⟨s, h.1, h.2.1, h.2.2.1, h.2.2.2, rfl⟩⟩
  · intro n _ h
    refine ⟨.inl (), ?_, Or.inl ⟨rfl, fun t q1 q2 => h.2 t q1 (by omega)⟩⟩
    show f_X7_nextOpen_l1 M (n + 1) (nI (2 ^ (m - 6))) = _
    rw [f_X7_nextOpen_l1, h3, if_pos (Int32.le_refl _)]
  · intro n i _ hi h
    show (∃ s', _ ∧ f_X7_nextOpen_l1 M (n + 1) (nI i) = f_X7_nextOpen_l1 M n (nI (i + 1))) ∨ ∃ r, f_X7_nextOpen_l1 M (n + 1) (nI i) = some r ∧ _
    have e1 : nI (2 ^ (m - 6)) - 1 - nI i = nI (2 ^ (m - 6) - 1 - i) := by
      rw [show (1 : Int32) = nI 1 from rfl, pk_sub (show 1 ≤ 2 ^ (m - 6) from u3), pk_sub (show i ≤ 2 ^ (m - 6) - 1 by omega)]
    rw [f_X7_nextOpen_l1, h3, if_neg (ifle_no hi (by omega)), e1, nI_1, if_pos (inB_nI (show i < 1024 by omega) (by decide)), if_pos (inB_nI (show 2 ^ (m - 6) - 1 - i < 1024 by omega) (by decide)), nI_clamp (show i < 2 ^ 31 by omega), nI_clamp (show 2 ^ (m - 6) - 1 - i < 2 ^ 31 by omega)]
    obtain ⟨fw, ef, hfw⟩ := flipW (M.2 256 (2 ^ (m - 6) - 1 - i))
    rw [ef, Option.bind_some]
    have hbit : ∀ j, j < 64 → (lb (((M.2 256 i) ^^^ (-1 : Int64)) &&& (fw ^^^ (-1 : Int64))) j = true ↔ (Sb (64 * i + j) A ∧ pb M (64 * i + j) = false ∧ pb M (A - (64 * i + j)) = false)) := by
      intro j hj
      rw [lb_and, lb_not _ hj, lb_not _ hj, Bool.and_eq_true_iff, Bool.not_eq_true', Bool.not_eq_true', hfw j hj, xor63_ j hj, pb_ij M hj, show A - (64 * i + j) = 64 * (2 ^ (m - 6) - 1 - i) + (63 - j) by omega, pb_ij M (show 63 - j < 64 by omega)]
      exact ⟨fun q => ⟨by rw [hA]; exact Sb_full (by omega), q⟩, fun q => q.2⟩
    generalize hq : ((M.2 256 i) ^^^ (-1 : Int64)) &&& (fw ^^^ (-1 : Int64)) = q at hbit
    by_cases q0 : q = 0
    · left
      refine ⟨(), ⟨by omega, fun t t1 t2 => ?_⟩, by rw [if_pos ((cmp0 q).mpr q0)]⟩
      by_cases ht : t < 64 * i
      · exact h.2 t t1 ht
      · refine kb_f.mpr (fun hop => ?_)
        have hj : t - 64 * i < 64 := by omega
        have := (hbit (t - 64 * i) hj).mpr (by rw [show 64 * i + (t - 64 * i) = t by omega]; exact hop)
        rw [q0, lb_0] at this
        cases this
    · right
      obtain ⟨k, k1, k2, k3⟩ := lb_low q0
      refine ⟨_, by rw [if_neg (fun z => q0 ((cmp0 q).mp z)), lowest64 k1 k2 k3, Option.bind_some, shl6 (by omega), nI_add], Or.inr ⟨_, rfl, by omega, by omega, kb_t.mpr ((hbit k k1).mp k2), fun t t1 t2 => ?_⟩⟩
      by_cases ht : t < 64 * i
      · exact h.2 t t1 ht
      · refine kb_f.mpr (fun hop => ?_)
        have hj : t - 64 * i < 64 := by omega
        have := (hbit (t - 64 * i) hj).mpr (by rw [show 64 * i + (t - 64 * i) = t by omega]; exact hop)
        rw [k3 _ (by omega)] at this
        cases this
theorem upw {M : Mem} {m v : Nat} (hp : PS M m) (hv : v < 2 ^ m) : ∃ N, f_X7_putUpwards (nI v) M = some N ∧ N.1 = M.1 ∧ ∀ s, s < 2 ^ m → (pb N s = true ↔ (pb M s = true ∨ Sb v s)) := by
  obtain ⟨h1, h2, h3⟩ := hp
  obtain ⟨u1, u2, u3⟩ := ps_u m h1 h2
  obtain ⟨cw, ec, hcw⟩ := closedW (lshl 1 (nI (v % 64)))
  have hv64 : v % 64 < 64 := by omega
  have hcw2 : ∀ j, j < 64 → (lb cw j = true ↔ Sb (v % 64) j) := fun j hj => by
    rw [hcw j hj, upI_Up (show j < 2 ^ 6 from hj)]
    constructor
    · rintro ⟨t, t1, t2⟩
      have htl := Sb_le t1
      have t2 : lb (lshl 1 (nI (v % 64))) t = true := t2
      rw [lb_shl _ hv64 (by omega), lb_1, Bool.and_eq_true_iff, decide_eq_true_iff, decide_eq_true_iff] at t2
      rw [show v % 64 = t by omega]; exact t1
    · intro q
      refine ⟨v % 64, q, ?_⟩
      show lb (lshl 1 (nI (v % 64))) (v % 64) = true
      rw [lb_shl _ hv64 hv64, lb_1, Bool.and_eq_true_iff, decide_eq_true_iff, decide_eq_true_iff]
      omega
  have hvh : v / 64 < 2 ^ (m - 6) := by omega
  have HH := loop_d (F := fun n (s : Int32 × Mem) => f_X7_putUpwards_l1 cw (nI (v / 64)) n s.1 s.2)
    (fun s => ∃ i, s.1 = nI i ∧ i < 2048 ∧ Sb (v / 64) i ∧ s.2.1 = M.1 ∧ (∀ x, x < i → x < 2 ^ (m - 6) → ∀ j, j < 64 → (wb s.2 x j = true ↔ (wb M x j = true ∨ (Sb (v / 64) x ∧ Sb (v % 64) j)))) ∧ ∀ x, i ≤ x → s.2.2 256 x = M.2 256 x)
    (fun s => 2048 - s.1.toNatClampNeg)
    (fun N => N.1 = M.1 ∧ ∀ x, x < 2 ^ (m - 6) → ∀ j, j < 64 → (wb N x j = true ↔ (wb M x j = true ∨ (Sb (v / 64) x ∧ Sb (v % 64) j))))
    ?_ (nI (v / 64), M) ⟨v / 64, rfl, by omega, Sb.refl _, rfl, fun x hx _ j hj => ⟨fun q => Or.inl q, fun q => by
      rcases q with q | ⟨q, -⟩
      · exact q
      · have := Sb_le q; omega⟩, fun _ _ => rfl⟩ (by show 2048 - _ < 70000; omega)
  · obtain ⟨N, e, n1, n2⟩ := HH
    refine ⟨N, ?_, n1, fun s hs => ?_⟩
    · have e : f_X7_putUpwards_l1 cw (nI (v / 64)) fuelN (nI (v / 64)) M = some N := e
      unfold f_X7_putUpwards
      rw [and63 (by omega), ec, Option.bind_some, ush6 (by omega), e, Option.bind_some]
    · have hj : s % 64 < 64 := by omega
      rw [pb_of, n2 _ (by omega) _ hj, ← pb_of]
      have := Sb_ij (i := v / 64) (h := s / 64) hv64 hj
      rw [show 64 * (v / 64) + v % 64 = v by omega, show 64 * (s / 64) + s % 64 = s by omega] at this
      rw [this]
  · rintro n ⟨w, N⟩ ⟨i, e, hi, hib, g1, g2, g3⟩
    dsimp only at e g1 g2 g3
    subst e
    by_cases hlt : i < 2 ^ (m - 6)
    · left
      have hor : (i + 1) ||| (v / 64) < 2048 := Nat.or_lt_two_pow (n := 11) (by omega) (by omega)
      have hgt : i + 1 ≤ (i + 1) ||| (v / 64) := Nat.left_le_or
      have hob : Sb (v / 64) ((i + 1) ||| (v / 64)) := fun k hk => by rw [Nat.testBit_or, hk, Bool.or_true]
      refine ⟨(nI ((i + 1) ||| (v / 64)), sL N 256 i (M.2 256 i ||| cw)), ⟨(i + 1) ||| (v / 64), rfl, hor, hob, g1, fun x hx hxu j hj => ?_, fun x hx => ?_⟩, ?_, ?_⟩
      · by_cases ex : x = i
        · subst ex
          have ew : wb (sL N 256 x (M.2 256 x ||| cw)) x j = (wb M x j || lb cw j) := by
            unfold wb
            rw [sL_2, if_pos ⟨rfl, rfl⟩, lb_or]
          show wb (sL N 256 x (M.2 256 x ||| cw)) x j = true ↔ _
          rw [ew, Bool.or_eq_true_iff, hcw2 j hj]
          constructor
          · rintro (q | q)
            · exact Or.inl q
            · exact Or.inr ⟨hib, q⟩
          · rintro (q | ⟨-, q⟩)
            · exact Or.inl q
            · exact Or.inr q
        · have ew : wb (sL N 256 i (M.2 256 i ||| cw)) x j = wb N x j := by
            unfold wb
            rw [sL_2, if_neg (fun q => ex q.2)]
          show wb (sL N 256 i (M.2 256 i ||| cw)) x j = true ↔ _
          rw [ew]
          by_cases hxi : x < i
          · exact g2 x hxi hxu j hj
          · have ewm : wb N x j = wb M x j := by unfold wb; rw [g3 x (by omega)]
            rw [ewm]
            constructor
            · intro q; exact Or.inl q
            · rintro (q | ⟨q, -⟩)
              · exact q
              · exfalso
                have := sup_succ 10 (v / 64) i x (by omega) hib q (by omega)
                omega
      · show (sL N 256 i (M.2 256 i ||| cw)).2 256 x = _
        rw [sL_2, if_neg (by omega)]
        exact g3 x (by omega)
      · show 2048 - (nI ((i + 1) ||| (v / 64))).toNatClampNeg < 2048 - (nI i).toNatClampNeg
        rw [nI_clamp (by omega), nI_clamp (by omega)]
        omega
      · show f_X7_putUpwards_l1 cw (nI (v / 64)) (n + 1) (nI i) N = f_X7_putUpwards_l1 cw (nI (v / 64)) n (nI ((i + 1) ||| (v / 64))) _
        rw [f_X7_putUpwards_l1, g1, h3, if_neg (ifle_no hlt (by omega)), if_pos (inB_nI (show i < 1024 by omega) (by decide)), if_pos (inB_nI (show i < 1024 by omega) (by decide)), nI_clamp (by omega), nI_1, nx_or, g3 i (Nat.le_refl _)]
    · right
      refine ⟨N, ?_, g1, fun x hx j hj => g2 x (by omega) hx j hj⟩
      show f_X7_putUpwards_l1 cw (nI (v / 64)) (n + 1) (nI i) N = _
      rw [f_X7_putUpwards_l1, g1, h3, if_pos (nI_le (by omega) (by omega))]
/-- the class's completing: it comes to an end, or more than 120 have come -/
theorem completeF {M : Mem} {m A : Nat} {Q : Nat → Prop} (hp : PS M m) (hA : A = 2 ^ m - 1) (hQ : ∀ s, s < 2 ^ m → (pb M s = true ↔ Up Q s)) : ∃ N, f_X7_complete 120 M = some N ∧ N.1 = M.1 ∧ ∃ v, v ≤ 2 ^ m ∧ (∀ s, s < 2 ^ m → (pb N s = true ↔ Up (Qu Q (mb Q A v)) s)) ∧ ((∀ s, ¬ Op Q A (mb Q A v) s) ∨ 120 < cnt (kb (mb Q A v)) (2 ^ m)) := by
  have hm : 2 ^ m ≤ 65536 := p16 hp.2.1
  have hpos := Nat.two_pow_pos m
  -- the next open one, when all below v is shut
  have nxt : ∀ (N : Mem) (v a : Nat), N.1 = M.1 → (∀ s, s < 2 ^ m → (pb N s = true ↔ Up (Qu Q (mb Q A v)) s)) → v ≤ 2 ^ m → a < 2 ^ m → a ≤ v → ∃ r, f_X7_nextOpen (nI a) N = some r ∧ ((∃ s, v ≤ s ∧ s < 2 ^ m ∧ Op Q A (mb Q A v) s ∧ (∀ t, v ≤ t → t < s → ¬ Op Q A (mb Q A v) t) ∧ r = nI s) ∨ ((∀ s, ¬ Op Q A (mb Q A v) s) ∧ r = -1)) := by
    intro N v a n1 hN hv ha hav
    obtain ⟨r, e, hr⟩ := openP (PS.keep hp n1) hA ha
    have hop : ∀ s, s < 2 ^ m → (kb (fun s => Sb s A ∧ pb N s = false ∧ pb N (A - s) = false) s = true ↔ Op Q A (mb Q A v) s) := fun s hs => by
      rw [kb_t, ← Bool.not_eq_true, ← Bool.not_eq_true, hN s hs, hN (A - s) (by omega)]
      exact Iff.rfl
    refine ⟨r, e, ?_⟩
    rcases hr with ⟨s, s1, s2, s3, s4, rfl⟩ | ⟨s1, rfl⟩
    · left
      have ho := (hop s s2).mp s3
      have hvs : v ≤ s := by
        apply Classical.byContradiction
        intro q
        exact mb_shut (by omega) ho
      refine ⟨s, hvs, s2, ho, fun t t1 t2 q => ?_, rfl⟩
      have := s4 t (by omega) t2
      rw [(hop t (by omega)).mpr q] at this
      cases this
    · right
      refine ⟨fun s ho => ?_, rfl⟩
      have hs : s < 2 ^ m := by have := Sb_le ho.1; omega
      by_cases q : s < v
      · exact mb_shut q ho
      · have := s1 s (by omega) hs
        rw [(hop s hs).mpr ho] at this
        cases this
  have hU0 : ∀ s, s < 2 ^ m → (pb M s = true ↔ Up (Qu Q (mb Q A 0)) s) := fun s hs => by
    rw [hQ s hs]
    constructor
    · rintro ⟨t, t1, t2⟩; exact ⟨t, t1, Or.inl t2⟩
    · rintro ⟨t, t1, t2⟩
      rcases t2 with t2 | t2
      · exact ⟨t, t1, t2⟩
      · exact t2.elim
  obtain ⟨r0, e0, hr0⟩ := nxt M 0 0 rfl hU0 (Nat.zero_le _) hpos (Nat.le_refl _)
  have c0 : cnt (kb (mb Q A 0)) (2 ^ m) = 0 := by
    have := cnt_stop (K := kb (mb Q A 0)) (n := 0) (m := 2 ^ m) (Nat.zero_le _) (fun k _ _ => kb_f.mpr (fun q => q.elim))
    rw [this]; rfl
  have HH := loop_d (F := fun n (s : Int32 × Int32 × Mem) => f_X7_complete_l1 120 n s.1 s.2.1 s.2.2)
    (fun s => ∃ v, v ≤ 2 ^ m ∧ s.1 = nI (cnt (kb (mb Q A v)) (2 ^ m)) ∧ s.2.2.1 = M.1 ∧ (∀ t, t < 2 ^ m → (pb s.2.2 t = true ↔ Up (Qu Q (mb Q A v)) t)) ∧ ((∃ x, v ≤ x ∧ x < 2 ^ m ∧ Op Q A (mb Q A v) x ∧ (∀ t, v ≤ t → t < x → ¬ Op Q A (mb Q A v) t) ∧ s.2.1 = nI x) ∨ ((∀ x, ¬ Op Q A (mb Q A v) x) ∧ s.2.1 = -1)))
    (fun s => if s.2.1 < 0 then 0 else 65537 - s.2.1.toNatClampNeg)
    (fun N => N.1 = M.1 ∧ ∃ v, v ≤ 2 ^ m ∧ (∀ s, s < 2 ^ m → (pb N s = true ↔ Up (Qu Q (mb Q A v)) s)) ∧ ((∀ s, ¬ Op Q A (mb Q A v) s) ∨ 120 < cnt (kb (mb Q A v)) (2 ^ m)))
    ?_ (0, r0, M) ⟨0, Nat.zero_le _, by rw [c0]; rfl, rfl, hU0, hr0⟩ (by show (if r0 < 0 then 0 else 65537 - r0.toNatClampNeg) < 70000; split <;> omega)
  · obtain ⟨N, e, hN⟩ := HH
    refine ⟨N, ?_, hN⟩
    have e : f_X7_complete_l1 120 fuelN 0 r0 M = some N := e
    have e0 : f_X7_nextOpen 0 M = some r0 := e0
    unfold f_X7_complete
    rw [e0, Option.bind_some, e, Option.bind_some]
  · rintro n ⟨ct, w, N⟩ ⟨v, hv, ec, n1, hN, hx⟩
    dsimp only at ec n1 hN hx
    subst ec
    have hcl := cnt_le (kb (mb Q A v)) (2 ^ m)
    rcases hx with ⟨x, x1, x2, x3, x4, rfl⟩ | ⟨x1, rfl⟩
    · by_cases hc : 120 < cnt (kb (mb Q A v)) (2 ^ m)
      · right
        refine ⟨N, ?_, n1, v, hv, hN, Or.inr hc⟩
        show f_X7_complete_l1 120 (n + 1) _ (nI x) N = _
        rw [f_X7_complete_l1, if_neg (nI_pos (show x < 2 ^ 31 by omega)), if_pos (show (120 : Int32) < nI _ from nI_lt (a := 120) hc (by omega))]
      · left
        have esk : mb Q A x = mb Q A v := mb_skip x x1 x4
        have ho : Op Q A (mb Q A x) x := by rw [esk]; exact x3
        obtain ⟨P, p1, p2, p3⟩ := upw (PS.keep hp n1) x2
        have hP : ∀ s, s < 2 ^ m → (pb P s = true ↔ Up (Qu Q (mb Q A (x + 1))) s) := fun s hs => by
          rw [p3 s hs, hN s hs, Up_mb ho, esk]
        obtain ⟨r, e, hr⟩ := nxt P (x + 1) x (p2.trans n1) hP x2 x2 (by omega)
        have ect : cnt (kb (mb Q A (x + 1))) (2 ^ m) = cnt (kb (mb Q A v)) (2 ^ m) + 1 := by
          have e1 : cnt (kb (mb Q A v)) (2 ^ m) = cnt (kb (mb Q A v)) x := cnt_stop (by omega) (fun k k1 _ => kb_f.mpr (fun q => by have := mb_lt v k q; omega))
          have e2 : cnt (kb (mb Q A (x + 1))) (2 ^ m) = cnt (kb (mb Q A (x + 1))) (x + 1) := cnt_stop (by omega) (fun k k1 _ => kb_f.mpr (fun q => by have := mb_lt (x + 1) k q; omega))
          have e3 : cnt (kb (mb Q A (x + 1))) x = cnt (kb (mb Q A v)) x := cnt_congr x (fun s hs => by
            rw [Bool.eq_iff_iff, kb_t, kb_t, mb_step ho, esk]
            constructor
            · rintro (q | q)
              · exact q
              · omega
            · intro q; exact Or.inl q)
          rw [e1, e2, cnt_s, e3, kb_t.mpr ((mb_step ho x).mpr (Or.inr rfl))]
          rfl
        refine ⟨(nI (cnt (kb (mb Q A (x + 1))) (2 ^ m)), r, P), ⟨x + 1, x2, rfl, p2.trans n1, hP, hr⟩, ?_, ?_⟩
        · show (if r < 0 then 0 else 65537 - r.toNatClampNeg) < (if nI x < 0 then 0 else 65537 - (nI x).toNatClampNeg)
          rw [if_neg (nI_pos (show x < 2 ^ 31 by omega)), nI_clamp (by omega)]
          rcases hr with ⟨t, t1, t2, t3, t4, rfl⟩ | ⟨-, rfl⟩
          · rw [if_neg (nI_pos (show t < 2 ^ 31 by omega)), nI_clamp (by omega)]; omega
          · rw [if_pos (by decide)]; omega
        · show f_X7_complete_l1 120 (n + 1) _ (nI x) N = f_X7_complete_l1 120 n (nI (cnt (kb (mb Q A (x + 1))) (2 ^ m))) r P
          rw [f_X7_complete_l1, if_neg (nI_pos (show x < 2 ^ 31 by omega)), if_neg (show ¬ (120 : Int32) < nI _ from nI_nlt (a := 120) (show cnt (kb (mb Q A v)) (2 ^ m) ≤ 120 by omega) (by decide)), p1, Option.bind_some, e, Option.bind_some, nI_1, ect]
    · right
      refine ⟨N, ?_, n1, v, hv, hN, Or.inl x1⟩
      show f_X7_complete_l1 120 (n + 1) _ (-1) N = _
      rw [f_X7_complete_l1, if_pos (by decide)]
