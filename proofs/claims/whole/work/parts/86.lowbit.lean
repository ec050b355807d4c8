theorem ex_bit {s : Nat} (h : s ≠ 0) : ∃ k, s.testBit k = true := by
  refine Classical.byContradiction fun q => h ?_
  refine Nat.eq_of_testBit_eq fun i => ?_
  rw [Nat.zero_testBit]
  cases hb : s.testBit i with
  | false => rfl
  | true => exact absurd ⟨i, hb⟩ q
/-- the lowest bit of a set -/
theorem low_bit {s n : Nat} (h : s ≠ 0) (hs : s < 2 ^ n) : ∃ k, k < n ∧ s.testBit k = true ∧ ∀ j, j < k → s.testBit j = false := by
  obtain ⟨k, h1, h2⟩ := pk_least (fun k => s.testBit k = true) (ex_bit h)
  refine ⟨k, Nat.not_le.mp fun q => ?_, h1, fun j hj => by cases hb : s.testBit j with | false => rfl | true => exact absurd hb (h2 j hj)⟩
  rw [tb_hi hs q] at h1
  cases h1
theorem tb32 {s i : Nat} (hi : i < 32) : (nI s).toBitVec.getLsbD i = s.testBit i := by
  show (BitVec.ofNat 32 s).getLsbD i = _
  rw [BitVec.getLsbD_ofNat, decide_eq_true hi, Bool.true_and]
theorem tb64 {s i : Nat} (hi : i < 64) : (lN s).toBitVec.getLsbD i = s.testBit i := by
  show (BitVec.ofNat 64 s).getLsbD i = _
  rw [BitVec.getLsbD_ofNat, decide_eq_true hi, Bool.true_and]
theorem low32 : ∀ k, k < 32 → BitVec.twoPow 32 k = (nI (2 ^ k)).toBitVec ∧ nI (2 ^ k) - 1 = nI (2 ^ k - 1) ∧ pcn (2 ^ k - 1) 32 = k := by decide +kernel
theorem low64 : ∀ k, k < 64 → BitVec.twoPow 64 k = (lN (2 ^ k)).toBitVec ∧ lN (2 ^ k) - 1 = lN (2 ^ k - 1) ∧ pcn (2 ^ k - 1) 64 = k := by decide +kernel
theorem p2lt {k n : Nat} (h : k < n) : 2 ^ k - 1 < 2 ^ n := Nat.lt_of_le_of_lt (Nat.sub_le _ _) (Nat.pow_lt_pow_right (by decide) h)
/-- the least keeper of a set that isn't empty -/
theorem leastK {s k : Nat} (hs : s < 2 ^ 31) (h1 : s.testBit k = true) (h2 : ∀ j, j < k → s.testBit j = false) : f_X8_leastKeeper (nI s) = some (nI k) := by
  have hk : k < 31 := Nat.not_le.mp fun q => by rw [tb_hi hs q] at h1; cases h1
  have h0 : s ≠ 0 := fun q => by rw [q, Nat.zero_testBit] at h1; cases h1
  obtain ⟨e1, e2, e3⟩ := low32 k (by omega)
  have el : nI s &&& -(nI s) = nI (2 ^ k) := by
    refine Int32.toBitVec_inj.mp ?_
    rw [← e1, Int32.toBitVec_and, Int32.toBitVec_neg]
    exact bv_low _ k (by omega) (fun j hj => by rw [tb32 (by omega)]; exact h2 j hj) (by rw [tb32 (by omega)]; exact h1)
  unfold f_X8_leastKeeper
  rw [if_neg (show ¬ nI s = 0 from fun q => h0 ((nI_eq (a := s) (b := 0) hs (by decide)).mp q)), el, e2, bitCount32 (p2lt (by omega)), e3]
  rfl
theorem lowest64 {w : Int64} {k : Nat} (hk : k < 64) (h1 : w.toBitVec.getLsbD k = true) (h2 : ∀ j, j < k → w.toBitVec.getLsbD j = false) : f_X7_lowestBit w = some (nI k) := by
  obtain ⟨e1, e2, e3⟩ := low64 k hk
  have el : w &&& -w = lN (2 ^ k) := by
    refine Int64.toBitVec_inj.mp ?_
    rw [← e1, Int64.toBitVec_and, Int64.toBitVec_neg]
    exact bv_low _ k hk h2 h1
  unfold f_X7_lowestBit
  rw [el, e2, bitCount64 (p2lt hk), e3]
  rfl
theorem and_pred {s : Nat} (h0 : s ≠ 0) (hs : s < 2 ^ 32) (i : Nat) (hi : i < 32) : (s &&& (s - 1)).testBit i = (s.testBit i && decide (∃ j, j < i ∧ s.testBit j = true)) := by
  have e := bv_drop (BitVec.ofNat 32 s) i hi
  have e1 : BitVec.ofNat 32 s - 1#32 = BitVec.ofNat 32 (s - 1) := by
    refine BitVec.eq_of_toNat_eq ?_
    rw [BitVec.toNat_sub, BitVec.toNat_ofNat, BitVec.toNat_ofNat, BitVec.toNat_ofNat, Nat.mod_eq_of_lt hs, Nat.mod_eq_of_lt (show s - 1 < 2 ^ 32 by omega)]
    omega
  rw [e1, BitVec.getLsbD_and, BitVec.getLsbD_ofNat, BitVec.getLsbD_ofNat, decide_eq_true hi, Bool.true_and, Bool.true_and] at e
  rw [Nat.testBit_and, e]
  congr 1
  refine decide_eq_decide.mpr ⟨fun ⟨j, a, b⟩ => ⟨j, a, ?_⟩, fun ⟨j, a, b⟩ => ⟨j, a, ?_⟩⟩
  · rw [BitVec.getLsbD_ofNat, decide_eq_true (show j < 32 by omega), Bool.true_and] at b; exact b
  · rw [BitVec.getLsbD_ofNat, decide_eq_true (show j < 32 by omega), Bool.true_and]; exact b
theorem pcn_pred {s n : Nat} (h0 : s ≠ 0) (hs : s < 2 ^ n) (hn : n ≤ 32) : pcn (s &&& (s - 1)) n + 1 = pcn s n := by
  obtain ⟨k, hk, h1, h2⟩ := low_bit h0 hs
  have hs32 : s < 2 ^ 32 := Nat.lt_of_lt_of_le hs (Nat.pow_le_pow_right (by decide) hn)
  have e : pcn (s &&& (s - 1)) n = psum (nUp (bi s) k 0) n := by
    unfold pcn
    refine psum_congr n fun i hi => ?_
    unfold bi
    rw [and_pred h0 hs32 i (by omega)]
    by_cases q : i = k
    · subst q
      rw [nup_s, decide_eq_false (fun ⟨j, a, b⟩ => by rw [h2 j a] at b; cases b)]
      simp
    · rw [nup_n _ _ q]
      by_cases q2 : i < k
      · rw [h2 i q2]; rfl
      · rw [decide_eq_true ⟨k, by omega, h1⟩, Bool.and_true]
  have := psum_up (p := bi s) (i := k) (v := 0) n hk
  have eb : bi s k = 1 := by unfold bi; rw [h1]; rfl
  unfold pcn at *
  omega
theorem pcn_zero {s n : Nat} (hs : s < 2 ^ n) (h : pcn s n = 0) : s = 0 := by
  refine Classical.byContradiction fun q => ?_
  obtain ⟨k, hk, h1, -⟩ := low_bit q hs
  have := psum_ge (p := bi s) n k hk
  have eb : bi s k = 1 := by unfold bi; rw [h1]; rfl
  unfold pcn at h
  omega
theorem pcn_le (s n : Nat) : pcn s n ≤ n := by
  have := psum_le (p := bi s) (b := 1) n (fun i _ => by unfold bi; split <;> omega)
  unfold pcn
  omega
theorem pcn_ext {s n m : Nat} (hs : s < 2 ^ n) (h : n ≤ m) : pcn s m = pcn s n := psum_stop h (fun k h1 _ => by unfold bi; rw [tb_hi hs h1]; rfl)
theorem bitsOf_l : ∀ c s n v, s < 65536 → pcn s 16 = c → c < n → f_X11_bitsOf_l1 n (nI v) (nI s) = some (nI (v + c)) := by
  intro c
  induction c with
  | zero =>
    intro s n v hs hc hn
    obtain ⟨n, rfl⟩ : ∃ m, n = m + 1 := ⟨n - 1, by omega⟩
    rw [pcn_zero (n := 16) hs hc, f_X11_bitsOf_l1, if_pos (show nI 0 = 0 from rfl)]
    rfl
  | succ c ih =>
    intro s n v hs hc hn
    obtain ⟨n, rfl⟩ : ∃ m, n = m + 1 := ⟨n - 1, by omega⟩
    have h0 : s ≠ 0 := fun q => by
      rw [q] at hc
      have : pcn 0 16 = 0 := by decide
      omega
    have hp := pcn_pred (n := 16) h0 hs (by decide)
    have hlt : s &&& (s - 1) ≤ s := Nat.and_le_left
    rw [f_X11_bitsOf_l1, if_neg (show ¬ nI s = 0 from fun q => h0 ((nI_eq (a := s) (b := 0) (by omega) (by decide)).mp q)), show nI s - (1 : Int32) = nI (s - 1) from pk_sub (a := s) (b := 1) (by omega), nx_and, nI_1, ih (s &&& (s - 1)) n (v + 1) (by omega) (by omega) (by omega)]
    congr 2
    omega
theorem bitsOf_ {s : Nat} (hs : s < 65536) : f_X11_bitsOf (nI s) = some (nI (pcn s 16)) := by
  unfold f_X11_bitsOf
  have := pcn_le s 16
  rw [show (0 : Int32) = nI 0 from rfl, bitsOf_l (pcn s 16) s fuelN 0 hs rfl (by have := fuel_ge; omega), Nat.zero_add]
  rfl
theorem bitCount16 {s : Nat} (hs : s < 65536) : f_J6_bitCount_0f7a4 (nI s) = some (nI (pcn s 16)) := by
  rw [bitCount32 (by omega), pcn_ext (n := 16) hs (by decide)]
