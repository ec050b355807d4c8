/-! bits of sets, sums, fractions -/
theorem bit_ {s k : Nat} (hs : s < 2 ^ 31) (hk : k < 32) : ((nI s >>> (nI k &&& 31)) &&& (1 : Int32)) = if s.testBit k then 1 else 0 := by
  rw [pk_shrN hs _ k (s_l k hk), show (1 : Int32) = nI 1 from rfl, nx_and, Nat.and_one_is_mod]
  have : s.testBit k = decide (s / 2 ^ k % 2 = 1) := Nat.testBit_eq_decide_div_mod_eq
  rw [this]
  by_cases h : s / 2 ^ k % 2 = 1
  · rw [h]; simp
  · have : s / 2 ^ k % 2 = 0 := by omega
    rw [this]; simp; rfl
theorem bit_no {s k : Nat} (hs : s < 2 ^ 31) (hk : k < 32) (h : s.testBit k = false) : ((nI s >>> (nI k &&& 31)) &&& (1 : Int32)) = 0 := by rw [bit_ hs hk, h]; rfl
theorem bit_yes {s k : Nat} (hs : s < 2 ^ 31) (hk : k < 32) (h : s.testBit k = true) : ((nI s >>> (nI k &&& 31)) &&& (1 : Int32)) = 1 := by rw [bit_ hs hk, h]; rfl
theorem psum_stop {p : Nat → Nat} {n m : Nat} (h : n ≤ m) (hz : ∀ k, n ≤ k → k < m → p k = 0) : psum p m = psum p n := by
  induction m with
  | zero => have : n = 0 := by omega
            rw [this]
  | succ m ih =>
    by_cases e : n = m + 1
    · rw [e]
    · show psum p m + p m = _
      rw [hz m (by omega) (by omega), ih (by omega) (fun k h1 h2 => hz k h1 (by omega))]
      omega
theorem tb_hi {s n k : Nat} (h : s < 2 ^ n) (hk : n ≤ k) : s.testBit k = false := Nat.testBit_lt_two_pow (Nat.lt_of_lt_of_le h (Nat.pow_le_pow_right (by decide) hk))
theorem gcd_step (a b : Nat) : Nat.gcd a b = Nat.gcd b (a % b) := by
  rw [Nat.gcd_comm a b, Nat.gcd_rec b a, Nat.gcd_comm]
theorem half_step {a b : Nat} (hb : 0 < b) (hr : 0 < a % b) : 2 * (b % (a % b)) < b := by
  have h1 : a % b < b := Nat.mod_lt _ hb
  have h2 : b % (a % b) < a % b := Nat.mod_lt _ hr
  by_cases h : 2 * (a % b) ≤ b
  · omega
  · have : b % (a % b) = b - a % b := by
      rw [Nat.mod_eq_sub_mod (by omega), Nat.mod_eq_of_lt (by omega)]
    omega
theorem gcdX_l : ∀ k a b i n, a < 2 ^ 31 → b < 2 ^ 31 → b < 2 ^ k → i + 2 * k + 1 ≤ 64 → 2 * k + 1 < n → f_X2_greatestCommon_l1 n (nI a) (nI b) (nI i) = some (nI (Nat.gcd a b)) := by
  intro k
  induction k with
  | zero =>
    intro a b i n ha hb hk hi hn
    have : b = 0 := by simp at hk; exact hk
    subst this
    obtain ⟨n, rfl⟩ : ∃ m, n = m + 1 := ⟨n - 1, by omega⟩
    rw [f_X2_greatestCommon_l1, if_neg (show ¬ (64 : Int32) ≤ nI i from ifle_no (show i < 64 by omega) (by decide)), if_pos (show nI 0 = 0 from rfl), Nat.gcd_zero_right]
  | succ k ih =>
    intro a b i n ha hb hk hi hn
    obtain ⟨n, rfl⟩ : ∃ m, n = m + 2 := ⟨n - 2, by omega⟩
    rw [f_X2_greatestCommon_l1, if_neg (show ¬ (64 : Int32) ≤ nI i from ifle_no (show i < 64 by omega) (by decide))]
    by_cases b0 : b = 0
    · rw [b0, if_pos (show nI 0 = 0 from rfl), Nat.gcd_zero_right]
    · have hne : ¬ nI b = 0 := fun q => b0 ((nI_eq (a := b) (b := 0) hb (by decide)).mp q)
      have hm : a % b < b := Nat.mod_lt _ (by omega)
      rw [if_neg hne, if_pos hne, pk_rem ha (by omega) hb, nI_1, f_X2_greatestCommon_l1, if_neg (show ¬ (64 : Int32) ≤ nI (i + 1) from ifle_no (show i + 1 < 64 by omega) (by decide))]
      by_cases r0 : a % b = 0
      · rw [r0, if_pos (show nI 0 = 0 from rfl), gcd_step, r0, Nat.gcd_zero_right]
      · have hne2 : ¬ nI (a % b) = 0 := fun q => r0 ((nI_eq (a := a % b) (b := 0) (by omega) (by decide)).mp q)
        have hh := half_step (a := a) (b := b) (by omega) (by omega)
        rw [Nat.pow_succ] at hk
        rw [if_neg hne2, if_pos hne2, pk_rem hb (by omega) (by omega), nI_1, ih (a % b) (b % (a % b)) (i + 1 + 1) n (by omega) (by omega) (by omega) (by omega) (by omega), gcd_step a b, gcd_step b (a % b)]
theorem gcdX {a b : Nat} (ha : a < 2 ^ 31) (hb : b < 2 ^ 24) : f_X2_greatestCommon (nI a) (nI b) = some (nI (Nat.gcd a b)) := by
  unfold f_X2_greatestCommon
  rw [show (0 : Int32) = nI 0 from rfl, gcdX_l 24 a b 0 fuelN ha (by omega) hb (by decide) (by have := fuel_ge; omega)]
  rfl
theorem gcdY_l : ∀ k a b n, a < 2 ^ 31 → b < 2 ^ 31 → b < 2 ^ k → 2 * k + 1 < n → f_X11_divisor_l1 n (nI a) (nI b) = some (nI (Nat.gcd a b)) := by
  intro k
  induction k with
  | zero =>
    intro a b n ha hb hk hn
    have : b = 0 := by simp at hk; exact hk
    subst this
    obtain ⟨n, rfl⟩ : ∃ m, n = m + 1 := ⟨n - 1, by omega⟩
    rw [f_X11_divisor_l1, if_pos (show nI 0 = 0 from rfl), Nat.gcd_zero_right]
  | succ k ih =>
    intro a b n ha hb hk hn
    obtain ⟨n, rfl⟩ : ∃ m, n = m + 2 := ⟨n - 2, by omega⟩
    rw [f_X11_divisor_l1]
    by_cases b0 : b = 0
    · rw [b0, if_pos (show nI 0 = 0 from rfl), Nat.gcd_zero_right]
    · have hne : ¬ nI b = 0 := fun q => b0 ((nI_eq (a := b) (b := 0) hb (by decide)).mp q)
      have hm : a % b < b := Nat.mod_lt _ (by omega)
      rw [if_neg hne, if_pos hne, pk_rem ha (by omega) hb, f_X11_divisor_l1]
      by_cases r0 : a % b = 0
      · rw [r0, if_pos (show nI 0 = 0 from rfl), gcd_step, r0, Nat.gcd_zero_right]
      · have hne2 : ¬ nI (a % b) = 0 := fun q => r0 ((nI_eq (a := a % b) (b := 0) (by omega) (by decide)).mp q)
        have hh := half_step (a := a) (b := b) (by omega) (by omega)
        rw [Nat.pow_succ] at hk
        rw [if_neg hne2, if_pos hne2, pk_rem hb (by omega) (by omega), ih (a % b) (b % (a % b)) n (by omega) (by omega) (by omega) (by omega), gcd_step a b, gcd_step b (a % b)]
theorem gcdY {a b : Nat} (ha : a < 2 ^ 31) (hb : b < 2 ^ 24) : f_X11_divisor (nI a) (nI b) = some (nI (Nat.gcd a b)) := by
  unfold f_X11_divisor
  rw [gcdY_l 24 a b fuelN ha (by omega) hb (by have := fuel_ge; omega)]
  rfl
def frN (l t : Nat) : Nat := l / Nat.gcd l t
def frD (l t : Nat) : Nat := t / Nat.gcd l t
theorem fr0 {t : Nat} (h : 0 < t) : frN 0 t = 0 ∧ frD 0 t = 1 := by
  unfold frN frD
  rw [Nat.gcd_zero_left]
  exact ⟨Nat.zero_div _, Nat.div_self h⟩
theorem fr_eq {l t : Nat} : l = Nat.gcd l t * frN l t ∧ t = Nat.gcd l t * frD l t := by
  unfold frN frD
  exact ⟨(Nat.mul_div_cancel' (Nat.gcd_dvd_left l t)).symm, (Nat.mul_div_cancel' (Nat.gcd_dvd_right l t)).symm⟩
theorem fr_le {l t l' t' : Nat} (h : 0 < t) (h' : 0 < t') : frN l t * frD l' t' ≤ frN l' t' * frD l t ↔ l * t' ≤ l' * t := by
  have e := fr_eq (l := l) (t := t)
  have e' := fr_eq (l := l') (t := t')
  have g0 : 0 < Nat.gcd l t := Nat.gcd_pos_of_pos_right _ h
  have g0' : 0 < Nat.gcd l' t' := Nat.gcd_pos_of_pos_right _ h'
  generalize Nat.gcd l t = g at e g0
  generalize Nat.gcd l' t' = g' at e' g0'
  generalize frN l t = a at e ⊢
  generalize frD l t = b at e ⊢
  generalize frN l' t' = a' at e' ⊢
  generalize frD l' t' = b' at e' ⊢
  rw [e.1, e.2, e'.1, e'.2, show g * a * (g' * b') = g * g' * (a * b') by simp only [Nat.mul_assoc, Nat.mul_left_comm, Nat.mul_comm], show g' * a' * (g * b) = g * g' * (a' * b) by simp only [Nat.mul_assoc, Nat.mul_left_comm, Nat.mul_comm]]
  constructor
  · exact fun q => Nat.mul_le_mul_left _ q
  · exact fun q => Nat.le_of_mul_le_mul_left q (Nat.mul_pos g0 g0')
theorem fr_sm {l t : Nat} : frN l t ≤ l ∧ frD l t ≤ t := ⟨Nat.div_le_self _ _, Nat.div_le_self _ _⟩
theorem becomeX {M : Mem} {l t : Nat} (hl : l < 2 ^ 31) (ht : t < 2 ^ 24) : ∃ N, f_X2_become (nI l) (nI t) M = some N ∧ KeepX M N ∧ N.1 0 11 = M.1 0 11 ∧ (0 < t → N.1 263 0 = nI (frN l t) ∧ N.1 263 1 = nI (frD l t)) ∧ (t = 0 → N.1 263 0 = 0 ∧ N.1 263 1 = 1) := by
  unfold f_X2_become
  rw [gcdX hl ht, Option.bind_some]
  have fin : ∀ a b : Int32, KeepX M (sI (sI M 263 0 a) 263 1 b) ∧ (sI (sI M 263 0 a) 263 1 b).1 0 11 = M.1 0 11 ∧ (sI (sI M 263 0 a) 263 1 b).1 263 0 = a ∧ (sI (sI M 263 0 a) 263 1 b).1 263 1 = b := fun a b => ⟨(keepX_scr M 0 a (by omega)).trans (keepX_scr _ 1 b (by omega)), by rw [sI_off _ _ _ _ (by decide), sI_off _ _ _ _ (by decide)], by rw [sI_1, if_neg (by omega), sI_1, if_pos ⟨rfl, rfl⟩], by rw [sI_1, if_pos ⟨rfl, rfl⟩]⟩
  by_cases l0 : l = 0
  · obtain ⟨f1, f2, f3, f4⟩ := fin 0 1
    rw [l0, if_pos (show nI 0 ≤ 0 from Int32.le_refl _)]
    refine ⟨_, rfl, f1, f2, fun q => ?_, fun q => ⟨f3, f4⟩⟩
    rw [(fr0 q).1, (fr0 q).2]
    exact ⟨f3, f4⟩
  rw [if_neg (nI_nle (by omega) hl)]
  by_cases t0 : t = 0
  · obtain ⟨f1, f2, f3, f4⟩ := fin 0 1
    rw [t0, if_pos (show nI 0 ≤ 0 from Int32.le_refl _)]
    exact ⟨_, rfl, f1, f2, fun q => absurd q (by omega), fun _ => ⟨f3, f4⟩⟩
  have hg : 0 < Nat.gcd l t := Nat.gcd_pos_of_pos_right _ (by omega)
  have hgl : Nat.gcd l t ≤ t := Nat.gcd_le_right _ (by omega)
  have hne : ¬ nI (Nat.gcd l t) = 0 := fun q => by have := (nI_eq (a := Nat.gcd l t) (b := 0) (by omega) (by decide)).mp q; omega
  rw [if_neg (nI_nle (by omega) (by omega)), if_pos (show (0 : Int32) < nI (Nat.gcd l t) from nI_lt (a := 0) hg (by omega)), if_pos hne, if_pos hne, pk_div hl hg (by omega), pk_div (by omega) hg (by omega)]
  obtain ⟨f1, f2, f3, f4⟩ := fin (nI (l / Nat.gcd l t)) (nI (t / Nat.gcd l t))
  exact ⟨_, rfl, f1, f2, fun _ => ⟨f3, f4⟩, fun q => absurd q t0⟩
theorem fractionY {M : Mem} {l t : Nat} (hl : l < 2 ^ 31) (ht : t < 2 ^ 24) (h0 : 0 < t) : ∃ N, f_X11_fraction (nI l) (nI t) M = some N ∧ KeepY M N ∧ N.1 0 4 = M.1 0 4 ∧ N.1 0 33 = nI (frN l t) ∧ N.1 0 34 = nI (frD l t) := by
  unfold f_X11_fraction
  have hg : 0 < Nat.gcd l t := Nat.gcd_pos_of_pos_right _ h0
  have hgl : Nat.gcd l t ≤ t := Nat.gcd_le_right _ h0
  have hne : ¬ nI (Nat.gcd l t) = 0 := fun q => by have := (nI_eq (a := Nat.gcd l t) (b := 0) (by omega) (by decide)).mp q; omega
  rw [gcdY hl ht, Option.bind_some, if_pos hne, if_pos hne, pk_div hl hg (by omega), pk_div (by omega) hg (by omega)]
  refine ⟨_, rfl, (keepY_f M _ (by omega)).trans (keepY_f _ _ (by omega)), ?_, ?_, ?_⟩
  · rw [sI_1, if_neg (by omega), sI_1, if_neg (by omega)]
  · rw [sI_1, if_neg (by omega), sI_1, if_pos ⟨rfl, rfl⟩]; rfl
  · rw [sI_1, if_pos ⟨rfl, rfl⟩]; rfl
