/-! chance, on both machines -/
def tq (z : Sg) (k : Nat) : Nat := if k < zKn z then zTe z k else 10
def Ft (z : Sg) (k : Nat) (b : Bool) : Nat := if b then tq z k else 10 - tq z k
theorem tq_le {z : Sg} (hI : Inv z) (k : Nat) : tq z k ≤ 10 := by
  unfold tq
  by_cases h : k < zKn z
  · rw [if_pos h]; exact (hI.1.2 k h).2.2.1
  · rw [if_neg h]; exact Nat.le_refl _
theorem Ft_ten {z : Sg} (hI : Inv z) (k : Nat) : Ft z k false + Ft z k true = 10 := by
  have := tq_le hI k
  show 10 - tq z k + tq z k = 10
  omega
theorem tenthsX {M : Mem} {z : Sg} (hI : Inv z) (h : KeX M z) {i : Nat} (hi : i < 16) : f_X5_tenthsOrAll (nI i) M = some (nI (tq z i)) := by
  unfold f_X5_tenthsOrAll tq
  by_cases q : i < zKn z
  · rw [isThere_yes h.1 hI.1.1 q, Option.bind_some, if_neg one_ne, if_pos (inB_nI hi (by decide)), nI_clamp (by omega), (h.2 i q).2.1, if_pos q]
  · rw [isThere_no h.1 (Or.inr (nI_le (by omega) (by omega))), Option.bind_some, if_pos rfl, if_neg q]; rfl
theorem ten_sub {t : Nat} (h : t ≤ 10) : ((10 : Int32) - nI t).toInt64 = lN (10 - t) := by
  rw [show (10 : Int32) = nI 10 from rfl, pk_sub h, nI_l (by omega)]
theorem lowX2 {M : Mem} {i t : Nat} {a : Nat → Nat} (hi : i < 6) (ht : t ≤ 10) (h : ∀ j, j < 2 ^ i → M.2 257 j = lN (a j)) (w : Int32) : ∃ N, f_X7_reckonLowChances_l2 w (nI t) (nI (2 ^ i)) fuelN 0 M = some N ∧ N.1 = M.1 ∧ (∀ c, c ≠ 257 → N.2 c = M.2 c) ∧ ∀ j, j < 2 ^ i → N.2 257 j = lN (a j * (10 - t)) ∧ N.2 257 (2 ^ i + j) = lN (a j * t) := by
  have hp : 2 ^ i ≤ 32 := (Nat.pow_le_pow_right (by decide) (by omega) : 2 ^ i ≤ 2 ^ 5)
  refine loop_go (F := fun n v N => f_X7_reckonLowChances_l2 w (nI t) (nI (2 ^ i)) n v N) (2 ^ i) (by omega) (fun v N => N.1 = M.1 ∧ (∀ c, c ≠ 257 → N.2 c = M.2 c) ∧ (∀ j, j < v → N.2 257 j = lN (a j * (10 - t)) ∧ N.2 257 (2 ^ i + j) = lN (a j * t)) ∧ ∀ j, v ≤ j → j < 2 ^ i → N.2 257 j = lN (a j)) _ (fun n N hN => ⟨N, ?_, hN.1, hN.2.1, hN.2.2.1⟩) (fun n v N hv hN => Or.inl ⟨sL (sL N 257 (2 ^ i + v) (lN (a v * t))) 257 v (lN (a v * (10 - t))), ⟨hN.1, fun c hc => ?_, fun j hj => ?_, fun j h1 h2 => ?_⟩, ?_⟩) 0 M (Nat.zero_le _) ⟨rfl, fun _ _ => rfl, fun j hj => by omega, fun j _ hj => h j hj⟩
  · show f_X7_reckonLowChances_l2 _ _ _ (n + 1) (nI (2 ^ i)) N = _
    rw [f_X7_reckonLowChances_l2, if_pos (Int32.le_refl _)]
  · rw [sL_off _ _ _ _ hc, sL_off _ _ _ _ hc]; exact hN.2.1 c hc
  · by_cases e : j = v
    · subst e
      constructor
      · rw [sL_2, if_pos ⟨rfl, rfl⟩]
      · rw [sL_2, if_neg (by omega), sL_2, if_pos ⟨rfl, rfl⟩]
    · constructor
      · rw [sL_2, if_neg (by omega), sL_2, if_neg (by omega)]; exact (hN.2.2.1 j (by omega)).1
      · rw [sL_2, if_neg (by omega), sL_2, if_neg (by omega)]; exact (hN.2.2.1 j (by omega)).2
  · rw [sL_2, if_neg (by omega), sL_2, if_neg (by omega)]; exact hN.2.2.2 j (by omega) h2
  · show f_X7_reckonLowChances_l2 w (nI t) (nI (2 ^ i)) (n + 1) (nI v) N = f_X7_reckonLowChances_l2 w (nI t) (nI (2 ^ i)) n (nI (v + 1)) _
    rw [f_X7_reckonLowChances_l2, if_neg (ifle_no hv (by omega)), if_pos (inB_nI (show v < 64 by omega) (by decide)), nI_add, Nat.add_comm v, if_pos (inB_nI (show 2 ^ i + v < 64 by omega) (by decide)), if_pos (inB_nI (show v < 64 by omega) (by decide)), if_pos (inB_nI (show v < 64 by omega) (by decide)), nI_clamp (show v < 2 ^ 31 by omega), nI_clamp (show 2 ^ i + v < 2 ^ 31 by omega), hN.2.2.2 v (Nat.le_refl _) hv, nI_l (by omega), lN_mul, sL_2, if_neg (by omega), hN.2.2.2 v (Nat.le_refl _) hv, ten_sub ht, lN_mul, nI_1]
theorem lowX {M : Mem} {z : Sg} (hI : Inv z) (h : KeX M z) : ∃ N, f_X7_reckonLowChances M = some N ∧ N.1 = M.1 ∧ (∀ c, c ≠ 257 → N.2 c = M.2 c) ∧ ∀ j, j < 64 → N.2 257 j = lN (prd (Ft z) 0 6 j) := by
  obtain ⟨N, e, n1, n2, n3⟩ := loop_go (F := fun n v N => f_X7_reckonLowChances_l1 n v N) 6 (by omega) (fun i N => N.1 = M.1 ∧ (∀ c, c ≠ 257 → N.2 c = M.2 c) ∧ ∀ j, j < 2 ^ i → N.2 257 j = lN (prd (Ft z) 0 i j)) (fun N => N.1 = M.1 ∧ (∀ c, c ≠ 257 → N.2 c = M.2 c) ∧ ∀ j, j < 64 → N.2 257 j = lN (prd (Ft z) 0 6 j))
    (fun n N hN => ⟨N, by show f_X7_reckonLowChances_l1 (n + 1) (nI 6) N = _; rw [f_X7_reckonLowChances_l1, if_pos (by decide)], hN⟩)
    (fun n i N hi hN => by
      left
      have hk : KeX N z := by unfold KeX at *; rw [hN.1]; exact h
      obtain ⟨P, p1, p2, p3, p4⟩ := lowX2 (M := N) hi (tq_le hI i) hN.2.2 (nI i)
      refine ⟨P, ⟨p2.trans hN.1, fun c hc => (p3 c hc).trans (hN.2.1 c hc), fun j hj => ?_⟩, ?_⟩
      · have e : 2 ^ (i + 1) = 2 ^ i + 2 ^ i := by rw [Nat.pow_succ]; omega
        show P.2 257 j = lN (prd (Ft z) 0 i j * Ft z (0 + i) (j.testBit i))
        by_cases q : j < 2 ^ i
        · rw [(p4 j q).1, tb_hi q (Nat.le_refl _), Nat.zero_add]; rfl
        · obtain ⟨y, rfl⟩ : ∃ y, j = 2 ^ i + y := ⟨j - 2 ^ i, by omega⟩
          have hy : y < 2 ^ i := by omega
          rw [(p4 y hy).2, add_tb hy, if_pos rfl, Nat.zero_add, prd_congr (F := Ft z) (G := Ft z) (o := 0) i (2 ^ i + y) y (fun k hk => by rw [add_tb hy, if_neg (by omega)])]
          rfl
      · show f_X7_reckonLowChances_l1 (n + 1) (nI i) N = f_X7_reckonLowChances_l1 n (nI (i + 1)) P
        rw [f_X7_reckonLowChances_l1, if_neg (show ¬ (6 : Int32) ≤ nI i from ifle_no (c := 6) hi (by decide)), tenthsX hI hk (by omega), Option.bind_some, one_shl i (by omega), p1, Option.bind_some, nI_1]) 0 (sL M 257 0 1) (by omega) ⟨rfl, fun c hc => sL_off _ _ _ _ hc, fun j hj => by
      rw [Nat.pow_zero] at hj
      rw [sL_2, if_pos ⟨rfl, by omega⟩]
      rfl⟩
  refine ⟨N, ?_, n1, n2, n3⟩
  have e : f_X7_reckonLowChances_l1 fuelN 0 (sL M 257 0 1) = some N := e
  unfold f_X7_reckonLowChances
  rw [e, Option.bind_some]
theorem drop_bit {x : Int64} {k : Nat} (hk : k < 64) (h1 : lb x k = true) (h2 : ∀ j, j < k → lb x j = false) {j : Nat} (hj : j < 64) : lb (x &&& (x - 1)) j = (lb x j && decide (j ≠ k)) := by
  unfold lb at *
  have := bv_drop x.toBitVec j hj
  rw [Int64.toBitVec_and, Int64.toBitVec_sub]
  show (x.toBitVec &&& (x.toBitVec - 1#64)).getLsbD j = _
  rw [this]
  rcases Nat.lt_trichotomy j k with q | q | q
  · rw [h2 j q]; rfl
  · subst q
    have e1 : decide (∃ i, i < j ∧ x.toBitVec.getLsbD i = true) = false := decide_eq_false (fun ⟨i, i1, i2⟩ => by rw [h2 i i1] at i2; cases i2)
    have e2 : decide (j ≠ j) = false := decide_eq_false (fun q => q rfl)
    rw [h1, e1, e2]
  · rw [decide_eq_true (show j ≠ k by omega), decide_eq_true ⟨k, q, h1⟩]
theorem psum_drop {p q : Nat → Nat} {k : Nat} (h : ∀ j, j ≠ k → q j = p j) (h0 : q k = 0) : ∀ n, k < n → psum q n + p k = psum p n := by
  intro n
  induction n with
  | zero => intro h; omega
  | succ n ih =>
    intro hk
    show psum q n + q n + p k = psum p n + p n
    by_cases e : k = n
    · subst e
      have : psum q k = psum p k := psum_congr k (fun j hj => h j (by omega))
      omega
    · have := ih (by omega)
      have := h n (by omega)
      omega
theorem wordX {M : Mem} {lw : Nat → Nat} (h : ∀ j, j < 64 → M.2 257 j = lN (lw j)) (w : Int64) : f_X7_chanceOfWord w M = some (lN (psum (fun j => if lb w j then lw j else 0) 64)) := by
  have HH := loop_d (F := fun n (s : Int64 × Int64 × Int32) => f_X7_chanceOfWord_l1 M n s.1 s.2.1 s.2.2)
    (fun s => ∃ n acc, s.2.2 = nI n ∧ s.1 = lN acc ∧ n + cnt (lb s.2.1) 64 ≤ 64 ∧ acc + psum (fun j => if lb s.2.1 j then lw j else 0) 64 = psum (fun j => if lb w j then lw j else 0) 64)
    (fun s => 64 - s.2.2.toNatClampNeg) (fun r => r = lN (psum (fun j => if lb w j then lw j else 0) 64)) ?_ (0, w, 0) ⟨0, 0, rfl, rfl, by rw [Nat.zero_add]; exact cnt_le _ _, by rw [Nat.zero_add]⟩ (by show 64 - _ < 70000; omega)
  · obtain ⟨r, e, rfl⟩ := HH
    have e : f_X7_chanceOfWord_l1 M fuelN 0 w 0 = _ := e
    unfold f_X7_chanceOfWord
    rw [e, Option.bind_some]
  · rintro n ⟨v3, v5, v7⟩ ⟨c, acc, e1, e2, h1, h2⟩
    dsimp only at e1 e2 h1 h2
    subst e1 e2
    by_cases q0 : v5 = 0
    · right
      subst q0
      have hz : psum (fun j => if lb (0 : Int64) j then lw j else 0) 64 = 0 := psum_stop (n := 0) (m := 64) (by omega) (fun k _ _ => by rw [lb_0]; rfl)
      rw [hz, Nat.add_zero] at h2
      refine ⟨lN acc, ?_, by rw [h2]⟩
      show f_X7_chanceOfWord_l1 M (n + 1) (lN acc) 0 (nI c) = _
      by_cases hc : c = 64
      · rw [f_X7_chanceOfWord_l1, if_pos (by rw [hc]; decide)]
      · rw [f_X7_chanceOfWord_l1, if_neg (show ¬ (64 : Int32) ≤ nI c from ifle_no (c := 64) (by omega) (by decide)), if_pos ((cmp0 0).mpr rfl)]
    · left
      obtain ⟨k, k1, k2, k3⟩ := lb_low q0
      have hcs := cnt_lt (K := lb v5) k1 k2
      have hc : c < 64 := by omega
      have hb : ∀ j, j < 64 → lb (v5 &&& (v5 - 1)) j = (lb v5 j && decide (j ≠ k)) := fun j hj => drop_bit k1 k2 k3 hj
      have hcnt : cnt (lb (v5 &&& (v5 - 1))) 64 + 1 = cnt (lb v5) 64 := by
        unfold cnt
        have e1 : psum (fun s => if lb (v5 &&& (v5 - 1)) s = true then 1 else 0) 64 = psum (fun s => if (lb v5 s && decide (s ≠ k)) = true then 1 else 0) 64 := psum_congr 64 (fun j hj => by rw [hb j hj])
        rw [e1]
        have := psum_drop (p := fun s => if lb v5 s = true then 1 else 0) (q := fun s => if (lb v5 s && decide (s ≠ k)) = true then 1 else 0) (k := k) (fun j hj => by rw [decide_eq_true hj, Bool.and_true]) (by simp) 64 k1
        rw [k2, if_pos rfl] at this
        exact this
      have hsum : psum (fun j => if lb (v5 &&& (v5 - 1)) j then lw j else 0) 64 + lw k = psum (fun j => if lb v5 j then lw j else 0) 64 := by
        have e1 : psum (fun j => if lb (v5 &&& (v5 - 1)) j then lw j else 0) 64 = psum (fun s => if (lb v5 s && decide (s ≠ k)) = true then lw s else 0) 64 := psum_congr 64 (fun j hj => by rw [hb j hj])
        rw [e1]
        have := psum_drop (p := fun s => if lb v5 s = true then lw s else 0) (q := fun s => if (lb v5 s && decide (s ≠ k)) = true then lw s else 0) (k := k) (fun j hj => by rw [decide_eq_true hj, Bool.and_true]) (by simp) 64 k1
        rw [k2, if_pos rfl] at this
        exact this
      refine ⟨(lN (acc + lw k), v5 &&& (v5 - 1), nI (c + 1)), ⟨c + 1, acc + lw k, rfl, rfl, by show c + 1 + cnt (lb (v5 &&& (v5 - 1))) 64 ≤ 64; omega, by show acc + lw k + psum (fun j => if lb (v5 &&& (v5 - 1)) j then lw j else 0) 64 = _; omega⟩, ?_, ?_⟩
      · show 64 - (nI (c + 1)).toNatClampNeg < 64 - (nI c).toNatClampNeg
        rw [nI_clamp (by omega), nI_clamp (by omega)]; omega
      · show f_X7_chanceOfWord_l1 M (n + 1) (lN acc) v5 (nI c) = f_X7_chanceOfWord_l1 M n (lN (acc + lw k)) (v5 &&& (v5 - 1)) (nI (c + 1))
        rw [f_X7_chanceOfWord_l1, if_neg (show ¬ (64 : Int32) ≤ nI c from ifle_no (c := 64) hc (by decide)), if_neg (fun q => q0 ((cmp0 v5).mp q)), lowest64 k1 k2 k3, Option.bind_some, and63 (by omega), Nat.mod_eq_of_lt k1, if_pos (inB_nI k1 (by decide)), nI_clamp (by omega), h k k1, lN_add, nI_1]
theorem setsX1 {M : Mem} {m : Nat} {lw : Nat → Nat} (hp : PS M m) (h : ∀ j, j < 64 → M.2 257 j = lN (lw j)) : ∃ N, f_X7_chanceOfSets_l1 fuelN 0 M = some N ∧ N.1 = M.1 ∧ ∀ x, x < 2 ^ (m - 6) → N.2 256 x = lN (psum (fun j => if pb M (64 * x + j) then lw j else 0) 64) := by
  obtain ⟨h1, h2, h3⟩ := hp
  obtain ⟨u1, u2, u3⟩ := ps_u m h1 h2
  obtain ⟨N, e, n1, n2, n3⟩ := loop_go (F := fun n v N => f_X7_chanceOfSets_l1 n v N) (2 ^ (m - 6)) (by omega) (fun i N => N.1 = M.1 ∧ N.2 257 = M.2 257 ∧ (∀ x, x < i → N.2 256 x = lN (psum (fun j => if pb M (64 * x + j) then lw j else 0) 64)) ∧ ∀ x, i ≤ x → N.2 256 x = M.2 256 x) (fun N => N.1 = M.1 ∧ N.2 257 = M.2 257 ∧ ∀ x, x < 2 ^ (m - 6) → N.2 256 x = lN (psum (fun j => if pb M (64 * x + j) then lw j else 0) 64))
    (fun n N hN => ⟨N, by show f_X7_chanceOfSets_l1 (n + 1) (nI (2 ^ (m - 6))) N = _; rw [f_X7_chanceOfSets_l1, hN.1, h3, if_pos (Int32.le_refl _)], hN.1, hN.2.1, hN.2.2.1⟩)
    (fun n i N hi hN => by
      left
      have ew := wordX (M := N) (lw := lw) (fun j hj => by rw [hN.2.1]; exact h j hj) (M.2 256 i)
      have es : psum (fun j => if lb (M.2 256 i) j then lw j else 0) 64 = psum (fun j => if pb M (64 * i + j) then lw j else 0) 64 := psum_congr 64 (fun j hj => by rw [pb_ij M hj]; rfl)
      rw [es] at ew
      refine ⟨sL N 256 i (lN (psum (fun j => if pb M (64 * i + j) then lw j else 0) 64)), ⟨hN.1, by rw [sL_off _ _ _ _ (by decide)]; exact hN.2.1, fun x hx => ?_, fun x hx => by rw [sL_2, if_neg (by omega)]; exact hN.2.2.2 x (by omega)⟩, ?_⟩
      · rw [sL_2]
        by_cases q : x = i
        · rw [if_pos ⟨rfl, q⟩, q]
        · rw [if_neg (fun z => q z.2)]; exact hN.2.2.1 x (by omega)
      · show f_X7_chanceOfSets_l1 (n + 1) (nI i) N = f_X7_chanceOfSets_l1 n (nI (i + 1)) _
        rw [f_X7_chanceOfSets_l1, hN.1, h3, if_neg (ifle_no hi (by omega)), if_pos (inB_nI (show i < 1024 by omega) (by decide)), nI_clamp (by omega), hN.2.2.2 i (Nat.le_refl _), ew, Option.bind_some, if_pos (inB_nI (show i < 1024 by omega) (by decide)), nI_1]) 0 M (by omega) ⟨rfl, rfl, fun x hx => by omega, fun _ _ => rfl⟩
  exact ⟨N, e, n1, n3⟩
theorem foldX {M : Mem} {m b t : Nat} {V : Nat → Nat} (hp : PS M m) (hb : b < m - 6) (ht : t ≤ 10) (h : ∀ x, x < 2 ^ (b + 1) → M.2 256 x = lN (V x)) : ∃ N, f_X7_fold (nI (2 ^ b)) (nI t) M = some N ∧ N.1 = M.1 ∧ ∀ x, x < 2 ^ b → N.2 256 x = lN ((10 - t) * V x + t * V (x + 2 ^ b)) := by
  obtain ⟨h1, h2, h3⟩ := hp
  obtain ⟨u1, u2, u3⟩ := ps_u m h1 h2
  have e1 : 2 ^ (b + 1) = 2 ^ b + 2 ^ b := by rw [Nat.pow_succ]; omega
  have hbu : 2 ^ (b + 1) ≤ 2 ^ (m - 6) := Nat.pow_le_pow_right (by decide) (by omega)
  obtain ⟨N, e, n1, n2⟩ := loop_go (F := fun n v N => f_X7_fold_l1 (nI (2 ^ b)) (nI t) n v N) (2 ^ b) (by omega) (fun i N => N.1 = M.1 ∧ (∀ x, x < i → N.2 256 x = lN ((10 - t) * V x + t * V (x + 2 ^ b))) ∧ ∀ x, i ≤ x → N.2 256 x = M.2 256 x) (fun N => N.1 = M.1 ∧ ∀ x, x < 2 ^ b → N.2 256 x = lN ((10 - t) * V x + t * V (x + 2 ^ b)))
    (fun n N hN => ⟨N, by show f_X7_fold_l1 _ _ (n + 1) (nI (2 ^ b)) N = _; rw [f_X7_fold_l1, if_pos (Int32.le_refl _)], hN.1, hN.2.1⟩)
    (fun n i N hi hN => by
      left
      refine ⟨sL N 256 i (lN ((10 - t) * V i + t * V (i + 2 ^ b))), ⟨hN.1, fun x hx => ?_, fun x hx => by rw [sL_2, if_neg (by omega)]; exact hN.2.2 x (by omega)⟩, ?_⟩
      · rw [sL_2]
        by_cases q : x = i
        · rw [if_pos ⟨rfl, q⟩, q]
        · rw [if_neg (fun z => q z.2)]; exact hN.2.1 x (by omega)
      · show f_X7_fold_l1 (nI (2 ^ b)) (nI t) (n + 1) (nI i) N = f_X7_fold_l1 (nI (2 ^ b)) (nI t) n (nI (i + 1)) _
        rw [f_X7_fold_l1, if_neg (ifle_no hi (by omega)), hN.1, h3, nI_add, if_neg (ifle_no (show i + 2 ^ b < 2 ^ (m - 6) by omega) (by omega)), if_pos (inB_nI (show i < 1024 by omega) (by decide)), if_pos (inB_nI (show i + 2 ^ b < 1024 by omega) (by decide)), if_pos (inB_nI (show i < 1024 by omega) (by decide)), nI_clamp (show i < 2 ^ 31 by omega), nI_clamp (show i + 2 ^ b < 2 ^ 31 by omega), hN.2.2 i (Nat.le_refl _), hN.2.2 (i + 2 ^ b) (by omega), h i (by omega), h (i + 2 ^ b) (by omega), ten_sub ht, nI_l (by omega), lN_mul, lN_mul, lN_add, Nat.mul_comm (V i), Nat.mul_comm (V (i + 2 ^ b)), nI_1]) 0 M (Nat.zero_le _) ⟨rfl, fun x hx => absurd hx (Nat.not_lt_zero _), fun _ _ => rfl⟩
  refine ⟨N, ?_, n1, n2⟩
  have e : f_X7_fold_l1 (nI (2 ^ b)) (nI t) fuelN 0 M = some N := e
  unfold f_X7_fold
  rw [e, Option.bind_some]
theorem setsX2 {M : Mem} {z : Sg} {m : Nat} {B : Nat → Nat} (hI : Inv z) (hk : KeX M z) (hp : PS M m) (h : ∀ x, x < 2 ^ (m - 6) → M.2 256 x = lN (B x)) : ∃ q : Int64 × Mem, f_X7_chanceOfSets_l2 fuelN 1 15 M = some q ∧ q.2.1 = M.1 ∧ q.1 = lN (10 ^ (16 - m)) ∧ q.2.2 256 0 = lN (Vf (Ft z) m B (m - 6) 0) := by
  obtain ⟨h1, h2, h3⟩ := id hp
  obtain ⟨u1, u2, u3⟩ := ps_u m h1 h2
  refine loop_d (F := fun n (s : Int64 × Int32 × Mem) => f_X7_chanceOfSets_l2 n s.1 s.2.1 s.2.2)
    (fun s => ∃ v, 5 ≤ v ∧ v ≤ 15 ∧ s.2.1 = nI v ∧ s.2.2.1 = M.1 ∧ s.1 = lN (10 ^ (15 - max v (m - 1))) ∧ ∀ x, x < 2 ^ (m - 6 - (m - 1 - min v (m - 1))) → s.2.2.2 256 x = lN (Vf (Ft z) m B (m - 1 - min v (m - 1)) x))
    (fun s => s.2.1.toNatClampNeg) _ ?_ (1, 15, M) ⟨15, by omega, by omega, rfl, rfl, by rw [show max 15 (m - 1) = 15 by omega]; rfl, fun x hx => by
      rw [show m - 1 - min 15 (m - 1) = 0 by omega, Nat.sub_zero] at hx
      rw [show m - 1 - min 15 (m - 1) = 0 by omega]; exact h x hx⟩ (by show (15 : Int32).toNatClampNeg < 70000; decide)
  rintro n ⟨v2, v4, N⟩ ⟨v, v5, v15, e1, n1, e2, n2⟩
  dsimp only at e1 n1 e2 n2
  subst e1 e2
  have hkN : KeX N z := by unfold KeX at *; rw [n1]; exact hk
  have hpN := PS.keep hp n1
  by_cases q5 : v = 5
  · subst q5
    right
    refine ⟨(lN (10 ^ (15 - max 5 (m - 1))), N), ?_, n1, ?_, ?_⟩
    · show f_X7_chanceOfSets_l2 (n + 1) _ (nI 5) N = _
      rw [f_X7_chanceOfSets_l2, if_pos (by decide)]
    · show lN (10 ^ (15 - max 5 (m - 1))) = lN (10 ^ (16 - m))
      rw [show 15 - max 5 (m - 1) = 16 - m by omega]
    · have := n2 0 (Nat.two_pow_pos _)
      rw [show m - 1 - min 5 (m - 1) = m - 6 by omega] at this
      exact this
  · left
    have hv6 : nI v - (6 : Int32) = nI (v - 6) := by rw [show (6 : Int32) = nI 6 from rfl, pk_sub (by omega)]
    have hmu : (nI (v - 1)).toNatClampNeg < (nI v).toNatClampNeg := by rw [nI_clamp (by omega), nI_clamp (by omega)]; omega
    have evm : nI v + (-1 : Int32) = nI (v - 1) := by rw [show v = v - 1 + 1 by omega, pk_m1]; rfl
    have hv2 : 2 ^ (v - 6) ≤ 512 := (Nat.pow_le_pow_right (by decide) (by omega) : 2 ^ (v - 6) ≤ 2 ^ 9)
    by_cases qm : v < m
    · have hd : m - 1 - min v (m - 1) = m - 1 - v := by omega
      rw [hd] at n2
      have hb : m - 6 - (m - 1 - v) = v - 6 + 1 := by omega
      rw [hb] at n2
      obtain ⟨P, p1, p2, p3⟩ := foldX (M := N) (m := m) (b := v - 6) (t := tq z v) (V := fun x => Vf (Ft z) m B (m - 1 - v) x) hpN (by omega) (tq_le hI v) n2
      refine ⟨(lN (10 ^ (15 - max v (m - 1))), nI (v - 1), P), ⟨v - 1, by omega, by omega, rfl, p2.trans n1, by rw [show max (v - 1) (m - 1) = max v (m - 1) by omega], fun x hx => ?_⟩, hmu, ?_⟩
      · rw [show m - 1 - min (v - 1) (m - 1) = m - 1 - v + 1 by omega] at hx ⊢
        rw [show m - 6 - (m - 1 - v + 1) = v - 6 by omega] at hx
        show P.2 256 x = lN (Ft z (m - 1 - (m - 1 - v)) false * Vf (Ft z) m B (m - 1 - v) x + Ft z (m - 1 - (m - 1 - v)) true * Vf (Ft z) m B (m - 1 - v) (x + 2 ^ (m - 6 - (m - 1 - v + 1))))
        rw [p3 x hx, show m - 1 - (m - 1 - v) = v by omega, show m - 6 - (m - 1 - v + 1) = v - 6 by omega]
        rfl
      · show f_X7_chanceOfSets_l2 (n + 1) _ (nI v) N = f_X7_chanceOfSets_l2 n _ (nI (v - 1)) P
        have hlt : 2 ^ (v - 6) < 2 ^ (m - 6) := Nat.pow_lt_pow_right (by decide) (by omega)
        rw [f_X7_chanceOfSets_l2, if_neg (show ¬ nI v < (6 : Int32) from nI_nlt (a := v) (b := 6) (by omega) (by omega)), hv6, one_shl _ (by omega), n1, h3, if_pos (nI_lt hlt (by omega)), tenthsX hI hkN (by omega), Option.bind_some, p1, Option.bind_some, Option.bind_some, evm]
    · have hd : m - 1 - min v (m - 1) = 0 := by omega
      refine ⟨(lN (10 ^ (15 - max (v - 1) (m - 1))), nI (v - 1), N), ⟨v - 1, by omega, by omega, rfl, n1, rfl, fun x hx => ?_⟩, hmu, ?_⟩
      · rw [show m - 1 - min (v - 1) (m - 1) = m - 1 - min v (m - 1) by omega] at hx ⊢
        exact n2 x hx
      · show f_X7_chanceOfSets_l2 (n + 1) (lN (10 ^ (15 - max v (m - 1)))) (nI v) N = f_X7_chanceOfSets_l2 n (lN (10 ^ (15 - max (v - 1) (m - 1)))) (nI (v - 1)) N
        have hle : 2 ^ (m - 6) ≤ 2 ^ (v - 6) := Nat.pow_le_pow_right (by decide) (by omega)
        rw [f_X7_chanceOfSets_l2, if_neg (show ¬ nI v < (6 : Int32) from nI_nlt (a := v) (b := 6) (by omega) (by omega)), hv6, one_shl _ (by omega), n1, h3, if_neg (nI_nlt hle (by omega)), Option.bind_some, evm, show (10 : Int64) = lN 10 from rfl, lN_mul, show 15 - max (v - 1) (m - 1) = 15 - max v (m - 1) + 1 by omega, Nat.pow_succ]
theorem setsX {M : Mem} {z : Sg} {m : Nat} (hI : Inv z) (hk : KeX M z) (hp : PS M m) : ∃ N, f_X7_chanceOfSets M = some (lN (SZ (Ft z) m (pb M) * 10 ^ (16 - m)), N) ∧ N.1 = M.1 := by
  obtain ⟨A, a1, a2, a3, a4⟩ := lowX hI hk
  obtain ⟨B, b1, b2, b3⟩ := setsX1 (M := A) (PS.keep hp a2) a4
  have hkB : KeX B z := by unfold KeX at *; rw [b2, a2]; exact hk
  obtain ⟨⟨w, C⟩, c1, c2, c3, c4⟩ := setsX2 (M := B) hI hkB (PS.keep hp (b2.trans a2)) b3
  dsimp only at c2 c3 c4
  subst c3
  have hpb : ∀ s, pb A s = pb M s := fun s => by unfold pb; rw [a3 256 (by decide)]
  refine ⟨C, ?_, (c2.trans b2).trans a2⟩
  unfold f_X7_chanceOfSets
  rw [a1, Option.bind_some, b1, Option.bind_some, c1, Option.bind_some, c4, Vf_SZ hp.1, lN_mul, show pb A = pb M from funext hpb]
