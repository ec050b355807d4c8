theorem tb_dec (s n : Nat) (h : s.testBit n = true) : ∃ a lo, lo < 2 ^ n ∧ s = 2 ^ n * (2 * a + 1) + lo := by
  refine ⟨s / 2 ^ n / 2, s % 2 ^ n, Nat.mod_lt _ (Nat.two_pow_pos n), ?_⟩
  have h1 : s / 2 ^ n % 2 = 1 := by
    rw [Nat.testBit_eq_decide_div_mod_eq] at h
    exact of_decide_eq_true h
  have h2 : 2 * (s / 2 ^ n / 2) + 1 = s / 2 ^ n := by omega
  rw [h2]
  exact (Nat.div_add_mod s (2 ^ n)).symm
theorem tb_ge {s n : Nat} (h : s.testBit n = true) : 2 ^ n ≤ s := Nat.ge_two_pow_of_testBit h
theorem tb_sub {s n : Nat} (h : s.testBit n = true) (k : Nat) : (s - 2 ^ n).testBit k = (s.testBit k && decide (k ≠ n)) := by
  obtain ⟨a, lo, hlo, rfl⟩ := tb_dec s n h
  have e : 2 ^ n * (2 * a + 1) + lo - 2 ^ n = 2 ^ n * (2 * a) + lo := by
    rw [Nat.mul_add, Nat.mul_one]; omega
  rw [e, Nat.testBit_two_pow_mul_add _ hlo, Nat.testBit_two_pow_mul_add _ hlo]
  by_cases hk : k < n
  · rw [if_pos hk, if_pos hk]
    simp; intro _; omega
  · rw [if_neg hk, if_neg hk]
    by_cases e : k = n
    · subst e; simp
    · obtain ⟨d, rfl⟩ : ∃ d, k = n + (d + 1) := ⟨k - n - 1, by omega⟩
      rw [show n + (d + 1) - n = d + 1 by omega, Nat.testBit_succ, Nat.testBit_succ, show (2 * a + 1) / 2 = a by omega, show 2 * a / 2 = a by omega]
      simp
/-- t within s -/
def Sb (t s : Nat) : Prop := ∀ k, t.testBit k = true → s.testBit k = true
theorem Sb.refl (s : Nat) : Sb s s := fun _ h => h
theorem Sb.trans {a b c : Nat} (h : Sb a b) (g : Sb b c) : Sb a c := fun k q => g k (h k q)
theorem Sb_sub {s n : Nat} (h : s.testBit n = true) : Sb (s - 2 ^ n) s := fun k q => by
  rw [tb_sub h] at q
  exact (Bool.and_eq_true_iff.mp q).1
theorem Sb_le {t s : Nat} (h : Sb t s) : t ≤ s := by
  have e : t &&& s = t := by
    apply Nat.eq_of_testBit_eq
    intro i
    rw [Nat.testBit_and]
    cases ht : t.testBit i with
    | false => rfl
    | true => rw [h i ht]; rfl
  rw [← e]
  exact Nat.and_le_right
theorem Sb_ne {t s : Nat} (h : Sb t s) (hne : t ≠ s) : ∃ k, s.testBit k = true ∧ t.testBit k = false := by
  apply Classical.byContradiction
  intro q
  apply hne
  apply Nat.eq_of_testBit_eq
  intro i
  cases ht : t.testBit i with
  | true => exact (h i ht).symm
  | false =>
    cases hs : s.testBit i with
    | false => rfl
    | true => exact absurd ⟨i, hs, ht⟩ q
theorem Sb_drop {t s k : Nat} (h : Sb t s) (h1 : s.testBit k = true) (h2 : t.testBit k = false) : Sb t (s - 2 ^ k) := fun i q => by
  rw [tb_sub h1, h i q]
  by_cases e : i = k
  · rw [e, h2] at q; cases q
  · simp [e]
theorem Sb_and {t s : Nat} : Sb t s ↔ t &&& s = t := by
  constructor
  · intro h
    apply Nat.eq_of_testBit_eq
    intro i
    rw [Nat.testBit_and]
    cases ht : t.testBit i with
    | false => rfl
    | true => rw [h i ht]; rfl
  · intro h k q
    rw [← h, Nat.testBit_and] at q
    exact (Bool.and_eq_true_iff.mp q).2
/-- what holds one of P -/
def Up (P : Nat → Prop) (s : Nat) : Prop := ∃ t, Sb t s ∧ P t
theorem Up.mono {P : Nat → Prop} {s s' : Nat} (h : Up P s) (g : Sb s s') : Up P s' := by
  obtain ⟨t, h1, h2⟩ := h
  exact ⟨t, h1.trans g, h2⟩
def upI : Nat → (Nat → Prop) → Nat → Prop
  | 0, P, s => P s
  | n + 1, P, s => upI n P s ∨ (s.testBit n = true ∧ upI n P (s - 2 ^ n))
theorem upI_iff {P : Nat → Prop} : ∀ n s, upI n P s ↔ ∃ t, Sb t s ∧ (∀ k, n ≤ k → t.testBit k = s.testBit k) ∧ P t := by
  intro n
  induction n with
  | zero =>
    intro s
    constructor
    · intro h; exact ⟨s, Sb.refl s, fun _ _ => rfl, h⟩
    · rintro ⟨t, h1, h2, h3⟩
      have : t = s := Nat.eq_of_testBit_eq fun i => h2 i (Nat.zero_le _)
      rw [← this]; exact h3
  | succ n ih =>
    intro s
    show (upI n P s ∨ (s.testBit n = true ∧ upI n P (s - 2 ^ n))) ↔ _
    rw [ih, ih]
    constructor
    · rintro (⟨t, h1, h2, h3⟩ | ⟨hb, t, h1, h2, h3⟩)
      · exact ⟨t, h1, fun k hk => h2 k (by omega), h3⟩
      · refine ⟨t, h1.trans (Sb_sub hb), fun k hk => ?_, h3⟩
        rw [h2 k (by omega), tb_sub hb]
        simp; intro _; omega
    · rintro ⟨t, h1, h2, h3⟩
      by_cases e : t.testBit n = s.testBit n
      · refine Or.inl ⟨t, h1, fun k hk => ?_, h3⟩
        by_cases ek : k = n
        · rw [ek]; exact e
        · exact h2 k (by omega)
      · have hs : s.testBit n = true := by
          cases hs : s.testBit n with
          | true => rfl
          | false =>
            cases ht : t.testBit n with
            | true => rw [h1 n ht] at hs; exact hs.symm
            | false => rw [hs, ht] at e; exact absurd rfl e
        have ht : t.testBit n = false := by
          cases ht : t.testBit n with
          | false => rfl
          | true => rw [hs, ht] at e; exact absurd rfl e
        refine Or.inr ⟨hs, t, Sb_drop h1 hs ht, fun k hk => ?_, h3⟩
        rw [tb_sub hs]
        by_cases ek : k = n
        · rw [ek, ht]; simp
        · rw [h2 k (by omega)]; simp [ek]
theorem upI_Up {P : Nat → Prop} {n s : Nat} (hs : s < 2 ^ n) : upI n P s ↔ Up P s := by
  rw [upI_iff]
  constructor
  · rintro ⟨t, h1, h2, h3⟩; exact ⟨t, h1, h3⟩
  · rintro ⟨t, h1, h3⟩
    refine ⟨t, h1, fun k hk => ?_, h3⟩
    have b1 := Nat.testBit_lt_two_pow (Nat.lt_of_lt_of_le hs (Nat.pow_le_pow_right (by decide : 0 < 2) hk))
    have b2 := Nat.testBit_lt_two_pow (Nat.lt_of_lt_of_le (Nat.lt_of_le_of_lt (Sb_le h1) hs) (Nat.pow_le_pow_right (by decide : 0 < 2) hk))
    rw [b1, b2]
/-- the least of P -/
def Ls (P : Nat → Prop) (s : Nat) : Prop := P s ∧ ∀ k, s.testBit k = true → ¬ Up P (s - 2 ^ k)
theorem Ls_up {P : Nat → Prop} {s : Nat} : (Up P s ∧ ∀ k, s.testBit k = true → ¬ Up P (s - 2 ^ k)) ↔ Ls P s := by
  constructor
  · rintro ⟨⟨t, h1, h2⟩, h3⟩
    refine ⟨?_, h3⟩
    by_cases e : t = s
    · rw [← e]; exact h2
    · obtain ⟨k, k1, k2⟩ := Sb_ne h1 e
      exact absurd ⟨t, Sb_drop h1 k1 k2, h2⟩ (h3 k k1)
  · rintro ⟨h1, h2⟩
    exact ⟨⟨s, Sb.refl s, h1⟩, h2⟩
theorem Ls_min {P : Nat → Prop} {s t : Nat} (h : Ls P s) (ht : P t) (hs : Sb t s) : t = s := by
  by_cases e : t = s
  · exact e
  · obtain ⟨k, k1, k2⟩ := Sb_ne hs e
    exact absurd ⟨t, Sb_drop hs k1 k2, ht⟩ (h.2 k k1)
theorem Ls_iff {P : Nat → Prop} {s : Nat} : Ls P s ↔ P s ∧ ∀ t, P t → Sb t s → t = s := by
  constructor
  · intro h; exact ⟨h.1, fun t ht hs => Ls_min h ht hs⟩
  · rintro ⟨h1, h2⟩
    refine ⟨h1, fun k hk ⟨t, q1, q2⟩ => ?_⟩
    have e := h2 t q2 (q1.trans (Sb_sub hk))
    have := Sb_le q1
    have := tb_ge hk
    have := Nat.two_pow_pos k
    omega
theorem Ls_ex {P : Nat → Prop} : ∀ n s, s < n → P s → ∃ t, Sb t s ∧ Ls P t := by
  intro n
  induction n with
  | zero => intro s h; omega
  | succ n ih =>
    intro s h hp
    by_cases e : ∃ t, P t ∧ Sb t s ∧ t ≠ s
    · obtain ⟨t, t1, t2, t3⟩ := e
      have := Sb_le t2
      obtain ⟨u, u1, u2⟩ := ih t (by omega) t1
      exact ⟨u, u1.trans t2, u2⟩
    · refine ⟨s, Sb.refl s, Ls_iff.mpr ⟨hp, fun t ht hs => ?_⟩⟩
      exact Classical.byContradiction fun q => e ⟨t, ht, hs, q⟩
theorem Up_Ls {P : Nat → Prop} {s : Nat} : Up (Ls P) s ↔ Up P s := by
  constructor
  · rintro ⟨t, h1, h2⟩; exact ⟨t, h1, h2.1⟩
  · rintro ⟨t, h1, h2⟩
    obtain ⟨u, u1, u2⟩ := Ls_ex (t + 1) t (by omega) h2
    exact ⟨u, u1.trans h1, u2⟩
theorem Up_Up {P : Nat → Prop} {s : Nat} : Up (Up P) s ↔ Up P s := by
  constructor
  · rintro ⟨t, h1, h2⟩; exact h2.mono h1
  · intro h; exact ⟨s, Sb.refl s, h⟩
/-! steps through the sets within one, and through those that hold one -/
theorem tb0 (x : Nat) : x.testBit 0 = decide (x % 2 = 1) := Nat.testBit_zero x
theorem Sb_half {t s : Nat} (h : Sb t s) : Sb (t / 2) (s / 2) ∧ t % 2 ≤ s % 2 := by
  refine ⟨fun k q => ?_, ?_⟩
  · rw [← Nat.testBit_succ] at q ⊢
    exact h (k + 1) q
  · have := h 0
    rw [tb0, tb0] at this
    simp at this
    omega
theorem and_half (a b : Nat) : (a &&& b) / 2 = a / 2 &&& b / 2 ∧ (a &&& b) % 2 = (a % 2) * (b % 2) := by
  constructor
  · exact Nat.and_div_two
  · have q := @Nat.and_mod_two_eq_one a b
    rcases Nat.mod_two_eq_zero_or_one a with h | h <;> rcases Nat.mod_two_eq_zero_or_one b with g | g
    · rw [h, g] at q ⊢; have : ¬ (a &&& b) % 2 = 1 := fun z => by have := (q.mp z).1; omega
      omega
    · rw [h, g] at q ⊢; have : ¬ (a &&& b) % 2 = 1 := fun z => by have := (q.mp z).1; omega
      omega
    · rw [h, g] at q ⊢; have : ¬ (a &&& b) % 2 = 1 := fun z => by have := (q.mp z).2; omega
      omega
    · rw [h, g] at q ⊢; have := q.mpr ⟨rfl, rfl⟩
      omega
theorem or_half (a b : Nat) : (a ||| b) / 2 = a / 2 ||| b / 2 ∧ (a ||| b) % 2 = if a % 2 = 1 ∨ b % 2 = 1 then 1 else 0 := by
  constructor
  · exact Nat.or_div_two
  · have := @Nat.or_mod_two_eq_one a b
    split
    · next h => exact this.mpr h
    · next h => have : ¬ (a ||| b) % 2 = 1 := fun q => h (this.mp q); omega
theorem sup_succ : ∀ n a i z, a < 2 ^ n → Sb a i → Sb a z → i < z → (i + 1) ||| a ≤ z := by
  intro n
  induction n with
  | zero =>
    intro a i z ha h1 h2 h3
    have : a = 0 := by simpa using ha
    subst this
    simp; omega
  | succ n ih =>
    intro a i z ha h1 h2 h3
    obtain ⟨g1, g2⟩ := Sb_half h1
    obtain ⟨k1, k2⟩ := Sb_half h2
    have o := or_half (i + 1) a
    by_cases hi : i % 2 = 0
    · have e : (i + 1) ||| a = i + 1 := by
        have e2 : (i + 1) / 2 = i / 2 := by omega
        have e3 : i / 2 ||| a / 2 = i / 2 := by
          apply Nat.eq_of_testBit_eq
          intro k
          rw [Nat.testBit_or]
          cases ht : (a / 2).testBit k with
          | false => simp
          | true => rw [g1 k ht]; rfl
        rw [e2, e3, if_pos (by omega)] at o
        omega
      omega
    · have e2 : (i + 1) / 2 = i / 2 + 1 := by omega
      have := ih (a / 2) (i / 2) (z / 2) (by rw [Nat.pow_succ] at ha; omega) g1 k1 (by omega)
      rw [e2] at o
      have o2 : ((i + 1) ||| a) % 2 ≤ a % 2 := by
        rw [o.2]
        split
        · omega
        · omega
      omega
theorem sub_pred : ∀ n a v z, a < 2 ^ n → Sb v a → Sb z a → z < v → z ≤ (v - 1) &&& a := by
  intro n
  induction n with
  | zero =>
    intro a v z ha h1 h2 h3
    have : a = 0 := by simpa using ha
    subst this
    have := Sb_le h1
    omega
  | succ n ih =>
    intro a v z ha h1 h2 h3
    obtain ⟨g1, g2⟩ := Sb_half h1
    obtain ⟨k1, k2⟩ := Sb_half h2
    have o := and_half (v - 1) a
    by_cases hv : v % 2 = 1
    · have e2 : (v - 1) / 2 = v / 2 := by omega
      have e3 : v / 2 &&& a / 2 = v / 2 := Sb_and.mp g1
      rw [e2, e3] at o
      omega
    · have e2 : (v - 1) / 2 = v / 2 - 1 := by omega
      have e3 : (v - 1) % 2 = 1 := by omega
      have := ih (a / 2) (v / 2) (z / 2) (by rw [Nat.pow_succ] at ha; omega) g1 k1 (by omega)
      rw [e2, e3, Nat.one_mul] at o
      omega
theorem sub_in : ∀ n a v, a < 2 ^ n → Sb v a → (v + (2 ^ n - 1 - a)) &&& a = v := by
  intro n
  induction n with
  | zero =>
    intro a v ha h1
    have : a = 0 := by simpa using ha
    subst this
    have := Sb_le h1
    simp; omega
  | succ n ih =>
    intro a v ha h1
    obtain ⟨g1, g2⟩ := Sb_half h1
    have hp := Nat.two_pow_pos n
    rw [Nat.pow_succ] at ha ⊢
    have := ih (a / 2) (v / 2) (by omega) g1
    have o := and_half (v + (2 ^ n * 2 - 1 - a)) a
    by_cases h : a % 2 = 1
    · rw [show (v + (2 ^ n * 2 - 1 - a)) / 2 = v / 2 + (2 ^ n - 1 - a / 2) by omega, this, show (v + (2 ^ n * 2 - 1 - a)) % 2 = v % 2 by omega, h] at o
      omega
    · rw [show (v + (2 ^ n * 2 - 1 - a)) / 2 = v / 2 + (2 ^ n - 1 - a / 2) by omega, this, show a % 2 = 0 by omega, Nat.mul_zero] at o
      omega
theorem sub_succ : ∀ n a v, a < 2 ^ n → Sb v a → v ≠ a → v < ((v + (2 ^ n - a)) &&& a) ∧ ∀ z, Sb z a → v < z → (v + (2 ^ n - a)) &&& a ≤ z := by
  intro n
  induction n with
  | zero =>
    intro a v ha h1 h2
    have : a = 0 := by simpa using ha
    subst this
    have := Sb_le h1
    omega
  | succ n ih =>
    intro a v ha h1 h2
    obtain ⟨g1, g2⟩ := Sb_half h1
    have hp := Nat.two_pow_pos n
    rw [Nat.pow_succ] at ha ⊢
    have o := and_half (v + (2 ^ n * 2 - a)) a
    by_cases h : v % 2 = a % 2
    · have i1 := ih (a / 2) (v / 2) (by omega) g1 (by omega)
      rw [show (v + (2 ^ n * 2 - a)) / 2 = v / 2 + (2 ^ n - a / 2) by omega, show (v + (2 ^ n * 2 - a)) % 2 = 0 by omega, Nat.zero_mul] at o
      refine ⟨by omega, fun z hz hvz => ?_⟩
      obtain ⟨k1, k2⟩ := Sb_half hz
      have := i1.2 (z / 2) k1 (by omega)
      omega
    · have i1 := sub_in n (a / 2) (v / 2) (by omega) g1
      rw [show (v + (2 ^ n * 2 - a)) / 2 = v / 2 + (2 ^ n - 1 - a / 2) by omega, i1, show (v + (2 ^ n * 2 - a)) % 2 = 1 by omega, Nat.one_mul] at o
      refine ⟨by omega, fun z hz hvz => ?_⟩
      omega
theorem and_Sb (x a : Nat) : Sb (x &&& a) a := fun k q => by
  rw [Nat.testBit_and] at q
  exact (Bool.and_eq_true_iff.mp q).2
