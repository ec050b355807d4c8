theorem grownW (w : Int64) : ∃ r, f_X7_grownWord w = some r ∧ ∀ j, j < 64 → (lb r j = true ↔ ∃ k, k < 6 ∧ j.testBit k = true ∧ lb w (j - 2 ^ k) = true) := by
  have HH := loop_go (F := fun n v s => f_X7_grownWord_l1 w n s v) 6 (by decide) (fun i s => ∀ j, j < 64 → (lb s j = true ↔ ∃ k, k < i ∧ j.testBit k = true ∧ lb w (j - 2 ^ k) = true)) (fun r => ∀ j, j < 64 → (lb r j = true ↔ ∃ k, k < 6 ∧ j.testBit k = true ∧ lb w (j - 2 ^ k) = true))
    (fun n s h => ⟨s, by show f_X7_grownWord_l1 w (n + 1) s (nI 6) = _; rw [f_X7_grownWord_l1, if_pos (by decide)], h⟩)
    (fun n i s hi h => Or.inl ⟨s ||| lshl (w &&& WL i) ((1 : Int32) <<< (nI i &&& 31)), fun j hj => by
      rw [lb_or, grow_bit w hi hj, Bool.or_eq_true_iff, Bool.and_eq_true_iff, h j hj]
      constructor
      · rintro (⟨k, k1, k2⟩ | h)
        · exact ⟨k, by omega, k2⟩
        · exact ⟨i, by omega, h⟩
      · rintro ⟨k, k1, k2⟩
        by_cases e : k = i
        · subst e; exact Or.inr k2
        · exact Or.inl ⟨k, by omega, k2⟩, by
      show f_X7_grownWord_l1 w (n + 1) s (nI i) = f_X7_grownWord_l1 w n _ (nI (i + 1))
      rw [f_X7_grownWord_l1, if_neg (show ¬ (6 : Int32) ≤ nI i from ifle_no hi (by decide)), if_pos (inB_nI hi (by decide)), nI_clamp (by omega), nI_1]⟩) 0 0 (by omega) (fun j hj => by
        rw [lb_0]
        constructor
        · intro h; cases h
        · rintro ⟨k, k1, -⟩; omega)
  obtain ⟨r, e, hr⟩ := HH
  refine ⟨r, ?_, hr⟩
  unfold f_X7_grownWord
  have e : f_X7_grownWord_l1 w fuelN 0 0 = _ := e
  rw [e, Option.bind_some]
theorem and_p2n (i b : Nat) : i &&& 2 ^ b = if i.testBit b then 2 ^ b else 0 := by
  apply Nat.eq_of_testBit_eq
  intro k
  rw [Nat.testBit_and, Nat.testBit_two_pow]
  by_cases e : b = k
  · subst e
    cases h : i.testBit b with
    | false => simp
    | true => simp [Nat.testBit_two_pow_self]
  · cases h : i.testBit b with
    | false => simp [e]
    | true => simp [e, Nat.testBit_two_pow]
theorem and_p2 {i b : Nat} (hi : i < 2 ^ 31) : (nI i &&& nI (2 ^ b)) = 0 ↔ i.testBit b = false := by
  rw [nx_and, and_p2n]
  cases h : i.testBit b with
  | false => simp; rfl
  | true =>
    have := tb_ge h
    rw [if_pos rfl]
    constructor
    · intro q; exact absurd q (nI_ne0 (Nat.two_pow_pos b) (by omega))
    · intro q; cases q
theorem keepL2 {M : Mem} {i : Nat} (hi : i < 1024) (g : Int64) : ∃ r, f_X7_keepLeast_l2 (nI i) M fuelN g 1 = some r ∧ ∀ j, j < 64 → (lb r j = true ↔ (lb g j = true ∨ ∃ b, i.testBit b = true ∧ wb M (i - 2 ^ b) j = true)) := by
  refine loop_d (F := fun n (s : Int64 × Int32) => f_X7_keepLeast_l2 (nI i) M n s.1 s.2)
    (fun s => ∃ b, s.2 = nI (2 ^ b) ∧ b ≤ 10 ∧ ∀ j, j < 64 → (lb s.1 j = true ↔ (lb g j = true ∨ ∃ b', b' < b ∧ i.testBit b' = true ∧ wb M (i - 2 ^ b') j = true)))
    (fun s => 2048 - s.2.toNatClampNeg) _ ?_ (g, 1) ⟨0, rfl, by omega, fun j hj => ⟨fun h => Or.inl h, fun h => by
      rcases h with h | ⟨b', h, -⟩
      · exact h
      · omega⟩⟩ (by show 2048 - _ < 70000; omega)
  rintro n ⟨v, w⟩ ⟨b, e, hb, hv⟩
  dsimp only at e hv
  subst e
  have hb2 : 2 ^ b ≤ 1024 := (Nat.pow_le_pow_right (by decide) hb : 2 ^ b ≤ 2 ^ 10)
  have hb0 := Nat.two_pow_pos b
  by_cases hlt : i < 2 ^ b
  · right
    refine ⟨v, ?_, fun j hj => ?_⟩
    · show f_X7_keepLeast_l2 (nI i) M (n + 1) v (nI (2 ^ b)) = _
      rw [f_X7_keepLeast_l2, if_pos (nI_lt hlt (by omega))]
    · rw [hv j hj]
      constructor
      · rintro (h | ⟨b', -, h⟩)
        · exact Or.inl h
        · exact Or.inr ⟨b', h⟩
      · rintro (h | ⟨b', h1, h2⟩)
        · exact Or.inl h
        · refine Or.inr ⟨b', ?_, h1, h2⟩
          have := tb_ge h1
          exact (Nat.pow_lt_pow_iff_right (by decide : 1 < 2)).mp (by omega)
  · left
    have hb10 : b < 10 := (Nat.pow_lt_pow_iff_right (by decide : 1 < 2)).mp (show 2 ^ b < 2 ^ 10 by omega)
    have hmu : 2048 - (nI (2 ^ (b + 1))).toNatClampNeg < 2048 - (nI (2 ^ b)).toNatClampNeg := by
      have : 2 ^ (b + 1) = 2 * 2 ^ b := by rw [Nat.pow_succ]; omega
      rw [nI_clamp (by omega), nI_clamp (by omega)]
      omega
    cases hib : i.testBit b with
    | false =>
      refine ⟨(v, nI (2 ^ (b + 1))), ⟨b + 1, rfl, by omega, fun j hj => ?_⟩, hmu, ?_⟩
      · show lb v j = true ↔ _
        rw [hv j hj]
        constructor
        · rintro (h | ⟨b', h1, h2⟩)
          · exact Or.inl h
          · exact Or.inr ⟨b', by omega, h2⟩
        · rintro (h | ⟨b', h1, h2, h3⟩)
          · exact Or.inl h
          · refine Or.inr ⟨b', ?_, h2, h3⟩
            by_cases e : b' = b
            · rw [e, hib] at h2; cases h2
            · omega
      · show f_X7_keepLeast_l2 (nI i) M (n + 1) v (nI (2 ^ b)) = f_X7_keepLeast_l2 (nI i) M n v (nI (2 ^ (b + 1)))
        rw [f_X7_keepLeast_l2, if_neg (nI_nlt (by omega) (by omega)), if_pos ((and_p2 (by omega)).mpr hib), Option.bind_some, shl2p b (by omega)]
    | true =>
      refine ⟨(v ||| M.2 256 (i - 2 ^ b), nI (2 ^ (b + 1))), ⟨b + 1, rfl, by omega, fun j hj => ?_⟩, hmu, ?_⟩
      · show lb (v ||| M.2 256 (i - 2 ^ b)) j = true ↔ _
        rw [lb_or, Bool.or_eq_true_iff, hv j hj]
        constructor
        · rintro ((h | ⟨b', h1, h2⟩) | h)
          · exact Or.inl h
          · exact Or.inr ⟨b', by omega, h2⟩
          · exact Or.inr ⟨b, by omega, hib, h⟩
        · rintro (h | ⟨b', h1, h2, h3⟩)
          · exact Or.inl (Or.inl h)
          · by_cases e : b' = b
            · rw [e] at h3; exact Or.inr h3
            · exact Or.inl (Or.inr ⟨b', by omega, h2, h3⟩)
      · show f_X7_keepLeast_l2 (nI i) M (n + 1) v (nI (2 ^ b)) = f_X7_keepLeast_l2 (nI i) M n (v ||| M.2 256 (i - 2 ^ b)) (nI (2 ^ (b + 1)))
        rw [f_X7_keepLeast_l2, if_neg (nI_nlt (by omega) (by omega)), if_neg (fun q => by rw [(and_p2 (by omega)).mp q] at hib; cases hib), pk_sub (by omega), if_pos (inB_nI (show i - 2 ^ b < 1024 from sub_lt' hi) (by decide)), nI_clamp (show i - 2 ^ b < 2 ^ 31 from sub_lt' (by omega)), Option.bind_some, shl2p b (by omega)]
theorem m1_neg : nI 0 - 1 < 0 := by decide
theorem keepL {M : Mem} {m : Nat} (hp : PS M m) : ∃ N, f_X7_keepLeast M = some N ∧ N.1 = M.1 ∧ ∀ s, s < 2 ^ m → (pb N s = true ↔ (pb M s = true ∧ ∀ k, s.testBit k = true → ¬ pb M (s - 2 ^ k) = true)) := by
  obtain ⟨h1, h2, h3⟩ := hp
  obtain ⟨u1, u2, u3⟩ := ps_u m h1 h2
  have HH := loop_d (F := fun n (s : Int32 × Mem) => f_X7_keepLeast_l1 n s.1 s.2)
    (fun s => ∃ k, s.1 = nI k - 1 ∧ k ≤ 2 ^ (m - 6) ∧ s.2.1 = M.1 ∧ (∀ x, x < k → s.2.2 256 x = M.2 256 x) ∧ ∀ x, k ≤ x → x < 2 ^ (m - 6) → ∀ j, j < 64 → (wb s.2 x j = true ↔ (wb M x j = true ∧ ¬ (∃ k, k < 6 ∧ j.testBit k = true ∧ wb M x (j - 2 ^ k) = true) ∧ ¬ ∃ b, x.testBit b = true ∧ wb M (x - 2 ^ b) j = true)))
    (fun s => (s.1 + 1).toNatClampNeg)
    (fun N => N.1 = M.1 ∧ ∀ x, x < 2 ^ (m - 6) → ∀ j, j < 64 → (wb N x j = true ↔ (wb M x j = true ∧ ¬ (∃ k, k < 6 ∧ j.testBit k = true ∧ wb M x (j - 2 ^ k) = true) ∧ ¬ ∃ b, x.testBit b = true ∧ wb M (x - 2 ^ b) j = true)))
    ?_ (nI (2 ^ (m - 6)) - 1, M) ⟨2 ^ (m - 6), rfl, Nat.le_refl _, rfl, fun _ _ => rfl, fun x q1 q2 => by omega⟩ (by
      show (nI (2 ^ (m - 6)) - 1 + 1).toNatClampNeg < 70000
      obtain ⟨d, hd⟩ : ∃ d, 2 ^ (m - 6) = d + 1 := ⟨2 ^ (m - 6) - 1, by omega⟩
      rw [hd, nI_pred, nI_1, nI_clamp (by omega)]
      omega)
  · obtain ⟨N, e, n1, n2⟩ := HH
    refine ⟨N, ?_, n1, fun s hs => ?_⟩
    · unfold f_X7_keepLeast
      have e : f_X7_keepLeast_l1 fuelN (nI (2 ^ (m - 6)) - 1) M = _ := e
      rw [h3, e, Option.bind_some]
    · have hx : s / 64 < 2 ^ (m - 6) := by omega
      have hj : s % 64 < 64 := by omega
      have hs2 : s = 64 * (s / 64) + s % 64 := by omega
      rw [pb_of, n2 _ hx _ hj, ← pb_of]
      constructor
      · rintro ⟨q1, q2, q3⟩
        refine ⟨q1, fun k hk hp => ?_⟩
        have hge := tb_ge hk
        by_cases hk6 : k < 6
        · have ht : (s % 64).testBit k = true := by
            have := tb_ij (i := s / 64) hj hk6
            rw [← hs2] at this
            rw [← this]; exact hk
          have hge2 := tb_ge ht
          refine q2 ⟨k, hk6, ht, ?_⟩
          have e1 : s - 2 ^ k = 64 * (s / 64) + (s % 64 - 2 ^ k) := by omega
          rw [e1, pb_ij M (sub_lt' hj)] at hp
          exact hp
        · obtain ⟨b, rfl⟩ : ∃ b, k = b + 6 := ⟨k - 6, by omega⟩
          have ht : (s / 64).testBit b = true := by
            have := tb_ij2 (i := s / 64) (n := b) hj
            rw [← hs2] at this
            rw [← this]; exact hk
          have hge2 := tb_ge ht
          refine q3 ⟨b, ht, ?_⟩
          have e1 : s - 2 ^ (b + 6) = 64 * (s / 64 - 2 ^ b) + s % 64 := by
            have : 2 ^ (b + 6) = 64 * 2 ^ b := by rw [Nat.pow_add]; omega
            rw [this]
            omega
          rw [e1, pb_ij M hj] at hp
          exact hp
      · rintro ⟨q1, q2⟩
        refine ⟨q1, ?_, ?_⟩
        · rintro ⟨k, k1, k2, k3⟩
          have hge2 := tb_ge k2
          refine q2 k ?_ ?_
          · have := tb_ij (i := s / 64) hj k1
            rw [← hs2] at this
            rw [this]; exact k2
          · have e1 : s - 2 ^ k = 64 * (s / 64) + (s % 64 - 2 ^ k) := by omega
            rw [e1, pb_ij M (sub_lt' hj)]
            exact k3
        · rintro ⟨b, k2, k3⟩
          have hge2 := tb_ge k2
          refine q2 (b + 6) ?_ ?_
          · have := tb_ij2 (i := s / 64) (n := b) hj
            rw [← hs2] at this
            rw [this]; exact k2
          · have e1 : s - 2 ^ (b + 6) = 64 * (s / 64 - 2 ^ b) + s % 64 := by
              have : 2 ^ (b + 6) = 64 * 2 ^ b := by rw [Nat.pow_add]; omega
              rw [this]
              omega
            rw [e1, pb_ij M hj]
            exact k3
  · rintro n ⟨v, N⟩ ⟨k, e, hk, g1, g2, g3⟩
    dsimp only at e g1 g2 g3
    subst e
    cases k with
    | zero =>
      right
      refine ⟨N, ?_, g1, fun x hx => g3 x (by omega) hx⟩
      show f_X7_keepLeast_l1 (n + 1) (nI 0 - 1) N = _
      rw [f_X7_keepLeast_l1, if_pos m1_neg]
    | succ k =>
      left
      obtain ⟨r, e1, hr⟩ := grownW (N.2 256 k)
      obtain ⟨r', e2, hr'⟩ := keepL2 (M := N) (i := k) (by omega) r
      refine ⟨(nI k - 1, sL N 256 k (N.2 256 k &&& (r' ^^^ (-1 : Int64)))), ⟨k, rfl, by omega, g1, fun x hx => ?_, fun x hx hxu j hj => ?_⟩, ?_, ?_⟩
      · show (sL N 256 k _).2 256 x = _
        rw [sL_2, if_neg (by omega)]; exact g2 x (by omega)
      · by_cases ex : x = k
        · subst ex
          have ew : wb (sL N 256 x (N.2 256 x &&& (r' ^^^ (-1 : Int64)))) x j = (lb (N.2 256 x) j && !(lb r' j)) := by
            unfold wb
            rw [sL_2, if_pos ⟨rfl, rfl⟩, lb_and, lb_not _ hj]
          show wb (sL N 256 x (N.2 256 x &&& (r' ^^^ (-1 : Int64)))) x j = true ↔ _
          rw [ew, Bool.and_eq_true_iff, Bool.not_eq_true']
          have a1 : lb (N.2 256 x) j = wb M x j := by unfold wb; rw [g2 x (by omega)]
          rw [a1, ← Bool.not_eq_true, hr' j hj, hr j hj]
          have a2 : (∃ k, k < 6 ∧ j.testBit k = true ∧ lb (N.2 256 x) (j - 2 ^ k) = true) ↔ (∃ k, k < 6 ∧ j.testBit k = true ∧ wb M x (j - 2 ^ k) = true) := by
            unfold wb; rw [g2 x (by omega)]
          have a3 : (∃ b, x.testBit b = true ∧ wb N (x - 2 ^ b) j = true) ↔ (∃ b, x.testBit b = true ∧ wb M (x - 2 ^ b) j = true) := by
            constructor
            · rintro ⟨b, b1, b2⟩
              refine ⟨b, b1, ?_⟩
              unfold wb at b2 ⊢
              rw [g2 (x - 2 ^ b) (sub_lt' (by omega))] at b2; exact b2
            · rintro ⟨b, b1, b2⟩
              refine ⟨b, b1, ?_⟩
              unfold wb at b2 ⊢
              rw [g2 (x - 2 ^ b) (sub_lt' (by omega))]; exact b2
          rw [a2, a3, not_or]
        · have ew : wb (sL N 256 k (N.2 256 k &&& (r' ^^^ (-1 : Int64)))) x j = wb N x j := by
            unfold wb
            rw [sL_2, if_neg (by omega)]
          show wb (sL N 256 k (N.2 256 k &&& (r' ^^^ (-1 : Int64)))) x j = true ↔ _
          rw [ew]
          exact g3 x (by omega) hxu j hj
      · show (nI k - 1 + 1).toNatClampNeg < (nI (k + 1) - 1 + 1).toNatClampNeg
        rw [nI_pred, nI_1, nI_clamp (show k + 1 < 2 ^ 31 by omega)]
        cases k with
        | zero => decide
        | succ k => rw [nI_pred, nI_1, nI_clamp (by omega)]; omega
      · show f_X7_keepLeast_l1 (n + 1) (nI (k + 1) - 1) N = f_X7_keepLeast_l1 n (nI k - 1) _
        rw [nI_pred, f_X7_keepLeast_l1, if_neg (nI_pos (by omega)), if_pos (inB_nI (show k < 1024 by omega) (by decide)), nI_clamp (by omega), e1, Option.bind_some, e2, Option.bind_some, if_pos (inB_nI (show k < 1024 by omega) (by decide)), if_pos (inB_nI (show k < 1024 by omega) (by decide)), show nI k + (-1 : Int32) = nI k - 1 from (Int32.sub_eq_add_neg _ _).symm]
/-! counting -/
def cnt (K : Nat → Bool) (n : Nat) : Nat := psum (fun s => if K s then 1 else 0) n
theorem cnt_s (K : Nat → Bool) (n : Nat) : cnt K (n + 1) = cnt K n + if K n then 1 else 0 := rfl
theorem cnt_mono (K : Nat → Bool) {i j : Nat} (h : i ≤ j) : cnt K i ≤ cnt K j := psum_mono h
theorem cnt_lt {K : Nat → Bool} {s n : Nat} (h : s < n) (hk : K s = true) : cnt K s < cnt K n := by
  have := cnt_mono K (show s + 1 ≤ n from h)
  rw [cnt_s, hk] at this
  simp at this
  omega
theorem cnt_inj {K : Nat → Bool} {s t : Nat} (hs : K s = true) (ht : K t = true) (h : cnt K s = cnt K t) : s = t := by
  rcases Nat.lt_trichotomy s t with q | q | q
  · have := cnt_lt q hs; omega
  · exact q
  · have := cnt_lt q ht; omega
theorem cnt_surj {K : Nat → Bool} : ∀ n i, i < cnt K n → ∃ s, s < n ∧ K s = true ∧ cnt K s = i := by
  intro n
  induction n with
  | zero => intro i h; exact absurd h (Nat.not_lt_zero _)
  | succ n ih =>
    intro i h
    by_cases e : i < cnt K n
    · obtain ⟨s, s1, s2⟩ := ih i e
      exact ⟨s, by omega, s2⟩
    · rw [cnt_s] at h
      cases hk : K n with
      | false => rw [hk] at h; simp at h; omega
      | true => rw [hk] at h; simp at h; exact ⟨n, by omega, hk, by omega⟩
theorem cnt_congr {K L : Nat → Bool} (n : Nat) (h : ∀ s, s < n → K s = L s) : cnt K n = cnt L n := psum_congr n (fun s hs => by rw [h s hs])
theorem cnt_stop {K : Nat → Bool} {n m : Nat} (h : n ≤ m) (hz : ∀ k, n ≤ k → k < m → K k = false) : cnt K m = cnt K n := psum_stop h (fun k h1 h2 => by rw [hz k h1 h2]; rfl)
theorem cnt_le (K : Nat → Bool) (n : Nat) : cnt K n ≤ n := by
  have := psum_le (p := fun s => if K s then 1 else 0) (b := 1) n (fun i _ => by split <;> omega)
  unfold cnt; omega
theorem cnt_eq_of {K : Nat → Bool} {a b : Nat} (h : a ≤ b) (hz : ∀ t, a ≤ t → t < b → K t = false) : cnt K b = cnt K a := cnt_stop h hz
theorem countP {M : Mem} {m : Nat} (hp : PS M m) : f_X7_countSets M = some (nI (cnt (pb M) (2 ^ m))) := by
  obtain ⟨h1, h2, h3⟩ := hp
  obtain ⟨u1, u2, u3⟩ := ps_u m h1 h2
  obtain ⟨r, e, rfl⟩ := loop_go (F := fun n v s => f_X7_countSets_l1 M n s v) (2 ^ (m - 6)) (by omega) (fun i s => s = nI (cnt (pb M) (64 * i))) (fun r => r = nI (cnt (pb M) (2 ^ m)))
    (fun n s h => ⟨s, by show f_X7_countSets_l1 M (n + 1) s (nI (2 ^ (m - 6))) = _; rw [f_X7_countSets_l1, h3, if_pos (Int32.le_refl _)], by rw [h, u1]⟩)
    (fun n i s hi h => Or.inl ⟨_, rfl, by
      show f_X7_countSets_l1 M (n + 1) s (nI i) = f_X7_countSets_l1 M n _ (nI (i + 1))
      obtain ⟨w, w1, w2⟩ := wb_of (M.2 256 i)
      have ec : cnt (pb M) (64 * (i + 1)) = cnt (pb M) (64 * i) + pcn w 64 := by
        unfold cnt pcn
        rw [show 64 * (i + 1) = 64 * i + 64 by omega, psum_split]
        congr 1
        refine psum_congr 64 (fun k hk => ?_)
        show (if pb M (64 * i + k) = true then 1 else 0) = bi w k
        rw [pb_ij M hk]
        unfold wb lb bi
        rw [w2, tb64 hk]
      rw [f_X7_countSets_l1, h3, if_neg (ifle_no hi (by omega)), if_pos (inB_nI (show i < 1024 by omega) (by decide)), nI_clamp (by omega), w2, bitCount64 w1, Option.bind_some, h, nI_add, nI_1, ec]⟩) 0 (nI 0) (by omega) rfl
  unfold f_X7_countSets
  have e : f_X7_countSets_l1 M fuelN 0 0 = _ := e
  rw [e, Option.bind_some]
