/-! most: strengths of sets -/
abbrev sw (g : Nat → Nat) (kn s : Nat) : Nat := psum (ws g s) kn
theorem ws_or {g : Nat → Nat} {c b k : Nat} : ws g (c ||| 2 ^ b) k = if k = b then g b else ws g c k := by
  unfold ws
  rw [Nat.testBit_or, Nat.testBit_two_pow]
  by_cases e : k = b
  · subst e; simp
  · simp [e, Ne.symm e]
theorem sw_or {g : Nat → Nat} {c b : Nat} (hb : c.testBit b = false) : ∀ kn, b < kn → sw g kn (c ||| 2 ^ b) = sw g kn c + g b := by
  intro kn
  induction kn with
  | zero => intro h; omega
  | succ kn ih =>
    intro h
    show psum (ws g (c ||| 2 ^ b)) kn + ws g (c ||| 2 ^ b) kn = psum (ws g c) kn + ws g c kn + g b
    rw [ws_or]
    by_cases e : kn = b
    · subst e
      rw [if_pos rfl]
      have h1 : psum (ws g (c ||| 2 ^ kn)) kn = psum (ws g c) kn := psum_congr kn (fun k hk => by rw [ws_or, if_neg (by omega)])
      have h2 : ws g c kn = 0 := by unfold ws; rw [hb]; rfl
      omega
    · rw [if_neg e]
      have := ih (by omega)
      unfold sw at this
      omega
theorem sw_mono {g : Nat → Nat} {t s : Nat} (h : Sb t s) : ∀ kn, sw g kn t ≤ sw g kn s := by
  intro kn
  induction kn with
  | zero => exact Nat.le_refl _
  | succ kn ih =>
    show psum (ws g t) kn + ws g t kn ≤ psum (ws g s) kn + ws g s kn
    have ih : psum (ws g t) kn ≤ psum (ws g s) kn := ih
    have : ws g t kn ≤ ws g s kn := by
      unfold ws
      cases ht : t.testBit kn with
      | false => simp
      | true => rw [h kn ht]; exact Nat.le_refl _
    omega
theorem sw_sub {g : Nat → Nat} {s b kn : Nat} (hs : s.testBit b = true) (hb : b < kn) : sw g kn (s - 2 ^ b) + g b = sw g kn s := by
  have h0 : (s - 2 ^ b).testBit b = false := by rw [tb_sub hs]; simp
  have e : (s - 2 ^ b) ||| 2 ^ b = s := by
    apply Nat.eq_of_testBit_eq
    intro k
    rw [Nat.testBit_or, tb_sub hs, Nat.testBit_two_pow]
    by_cases q : b = k
    · subst q; simp [hs]
    · simp [q, Ne.symm q]
  rw [← sw_or h0 kn hb, e]
theorem sw_zero (g : Nat → Nat) : ∀ kn, sw g kn 0 = 0 := by
  intro kn
  induction kn with
  | zero => rfl
  | succ kn ih =>
    show psum (ws g 0) kn + ws g 0 kn = 0
    have ih : psum (ws g 0) kn = 0 := ih
    rw [ih]
    unfold ws
    simp
/-- what is taken: at place k - r, with c chosen, of k places -/
def Es (g : Nat → Nat) (kn W k : Nat) (p : Nat → Nat) : Nat → Nat → Nat → Prop
  | 0, _, _ => False
  | r + 1, c, s => (if 2 * sw g kn (c ||| 2 ^ p (k - 1 - r)) ≤ W then Es g kn W k p r (c ||| 2 ^ p (k - 1 - r)) s else s = c ||| 2 ^ p (k - 1 - r)) ∨ Es g kn W k p r c s
/-- the places, the strong ones first -/
def Ord (g : Nat → Nat) (a v k : Nat) (p : Nat → Nat) : Prop := k ≤ v ∧ (∀ i, i < k → a.testBit (p i) = true ∧ p i < v) ∧ (∀ i j, i < j → j < k → p i ≠ p j) ∧ (∀ b, b < v → a.testBit b = true → ∃ i, i < k ∧ p i = b) ∧ ∀ i j, i < j → j < k → g (p j) ≤ g (p i)
theorem Ord.inj {g : Nat → Nat} {a v k : Nat} {p : Nat → Nat} (h : Ord g a v k p) {i j : Nat} (hi : i < k) (hj : j < k) (hne : i ≠ j) : p i ≠ p j := by
  rcases Nat.lt_or_gt_of_ne hne with q | q
  · exact h.2.2.1 i j q hj
  · exact fun e => h.2.2.1 j i q hi e.symm
theorem or_tb {c b k : Nat} : (c ||| 2 ^ b).testBit k = (c.testBit k || decide (b = k)) := by rw [Nat.testBit_or, Nat.testBit_two_pow]
/-- c has none of the places from i on -/
def Fre (k i : Nat) (p : Nat → Nat) (c : Nat) : Prop := ∀ j, i ≤ j → j < k → c.testBit (p j) = false
theorem Fre.next {k i : Nat} {p : Nat → Nat} {c : Nat} (h : Fre k i p c) : Fre k (i + 1) p c := fun j h1 h2 => h j (by omega) h2
theorem Fre.take {g : Nat → Nat} {a v k i : Nat} {p : Nat → Nat} {c : Nat} (o : Ord g a v k p) (h : Fre k i p c) (hi : i < k) : Fre k (i + 1) p (c ||| 2 ^ p i) := fun j h1 h2 => by
  rw [or_tb, h j (by omega) h2, Bool.false_or, decide_eq_false (o.inj hi h2 (by omega))]
/-- what is taken is strong, and its weakest is one that it needs -/
theorem Es_out {g : Nat → Nat} {a kn W k : Nat} {p : Nat → Nat} (o : Ord g a kn k p) : ∀ r c s, r ≤ k → Fre k (k - r) p c → (∀ b, c.testBit b = true → ∀ j, k - r ≤ j → j < k → g (p j) ≤ g b) → 2 * sw g kn c ≤ W → Es g kn W k p r c s →
    Sb c s ∧ (∀ b, s.testBit b = true → c.testBit b = true ∨ ∃ j, k - r ≤ j ∧ j < k ∧ b = p j) ∧ W < 2 * sw g kn s ∧ ∃ l, l < kn ∧ s.testBit l = true ∧ 2 * (sw g kn s - g l) ≤ W ∧ ∀ b, s.testBit b = true → g l ≤ g b := by
  intro r
  induction r with
  | zero => intro c s _ _ _ _ h; exact h.elim
  | succ r ih =>
    intro c s hr hf hc hW h
    have hk : k - (r + 1) = k - 1 - r := by omega
    have hi : k - 1 - r < k := by omega
    have hcb : c.testBit (p (k - 1 - r)) = false := hf _ (by omega) hi
    rcases h with h | h
    · by_cases q : 2 * sw g kn (c ||| 2 ^ p (k - 1 - r)) ≤ W
      · rw [if_pos q] at h
        have hf' : Fre k (k - r) p (c ||| 2 ^ p (k - 1 - r)) := by
          have := Fre.take (i := k - 1 - r) o (by rw [← hk]; exact hf) hi
          rw [show k - 1 - r + 1 = k - r by omega] at this
          exact this
        obtain ⟨s1, s2, s3, s4⟩ := ih _ s (by omega) hf' (fun b hb j j1 j2 => by
          rw [or_tb] at hb
          cases hcc : c.testBit b with
          | true => exact hc b hcc j (by omega) j2
          | false =>
            rw [hcc, Bool.false_or] at hb
            rw [← of_decide_eq_true hb]
            exact o.2.2.2.2 _ _ (by omega) j2) q h
        refine ⟨fun b hb => s1 b (by rw [or_tb, hb, Bool.true_or]), fun b hb => ?_, s3, s4⟩
        rcases s2 b hb with q | ⟨j, j1, j2, j3⟩
        · rw [or_tb] at q
          cases hcc : c.testBit b with
          | true => exact Or.inl rfl
          | false =>
            rw [hcc, Bool.false_or] at q
            exact Or.inr ⟨k - 1 - r, by omega, hi, (of_decide_eq_true q).symm⟩
        · exact Or.inr ⟨j, by omega, j2, j3⟩
      · rw [if_neg q] at h
        subst h
        have hpk := (o.2.1 _ hi).2
        refine ⟨fun b hb => by rw [or_tb, hb, Bool.true_or], fun b hb => ?_, by omega, p (k - 1 - r), hpk, by rw [or_tb]; simp, ?_, fun b hb => ?_⟩
        · rw [or_tb] at hb
          cases hcc : c.testBit b with
          | true => exact Or.inl rfl
          | false =>
            rw [hcc, Bool.false_or] at hb
            exact Or.inr ⟨k - 1 - r, by omega, hi, (of_decide_eq_true hb).symm⟩
        · rw [sw_or hcb kn hpk]
          omega
        · rw [or_tb] at hb
          cases hcc : c.testBit b with
          | true => exact hc b hcc _ (by omega) hi
          | false =>
            rw [hcc, Bool.false_or] at hb
            rw [← of_decide_eq_true hb]
            exact Nat.le_refl _
    · obtain ⟨s1, s2, s3⟩ := ih c s (by omega) (by
        have := Fre.next (i := k - 1 - r) (by rw [← hk]; exact hf)
        rw [show k - 1 - r + 1 = k - r by omega] at this
        exact this) (fun b hb j j1 j2 => hc b hb j (by omega) j2) hW h
      refine ⟨s1, fun b hb => ?_, s3⟩
      rcases s2 b hb with q | ⟨j, j1, j2, j3⟩
      · exact Or.inl q
      · exact Or.inr ⟨j, by omega, j2, j3⟩
/-- each least strong set is taken -/
theorem Es_in {g : Nat → Nat} {a kn W k : Nat} {p : Nat → Nat} (o : Ord g a kn k p) : ∀ r c s, r ≤ k → Fre k (k - r) p c → 2 * sw g kn c ≤ W → W < 2 * sw g kn s → Sb c s → (∀ b, s.testBit b = true → c.testBit b = true ∨ ∃ j, k - r ≤ j ∧ j < k ∧ b = p j) → (∀ b, s.testBit b = true → c.testBit b = false → 2 * (sw g kn s - g b) ≤ W) → Es g kn W k p r c s := by
  intro r
  induction r with
  | zero =>
    intro c s _ _ hc hs h1 h2 _
    have : c = s := by
      apply Nat.eq_of_testBit_eq
      intro b
      cases hcb : c.testBit b with
      | true => exact (h1 b hcb).symm
      | false =>
        cases hsb : s.testBit b with
        | false => rfl
        | true =>
          rcases h2 b hsb with q | ⟨j, j1, j2, -⟩
          · rw [hcb] at q; exact q
          · omega
    rw [this] at hc
    omega
  | succ r ih =>
    intro c s hr hf hc hs h1 h2 h3
    have hk : k - (r + 1) = k - 1 - r := by omega
    have hi : k - 1 - r < k := by omega
    have hpk := (o.2.1 _ hi).2
    have hcb : c.testBit (p (k - 1 - r)) = false := hf _ (by omega) hi
    show (if 2 * sw g kn (c ||| 2 ^ p (k - 1 - r)) ≤ W then Es g kn W k p r (c ||| 2 ^ p (k - 1 - r)) s else s = c ||| 2 ^ p (k - 1 - r)) ∨ Es g kn W k p r c s
    have e1 : k - 1 - r + 1 = k - r := by omega
    cases hsp : s.testBit (p (k - 1 - r)) with
    | true =>
      left
      have h1' : Sb (c ||| 2 ^ p (k - 1 - r)) s := fun b hb => by
        rw [or_tb] at hb
        cases hcc : c.testBit b with
        | true => exact h1 b hcc
        | false =>
          rw [hcc, Bool.false_or] at hb
          rw [← of_decide_eq_true hb]; exact hsp
      by_cases q : 2 * sw g kn (c ||| 2 ^ p (k - 1 - r)) ≤ W
      · rw [if_pos q]
        refine ih _ s (by omega) ?_ q hs h1' (fun b hb => ?_) (fun b hb hcc => h3 b hb ?_)
        · have := Fre.take (i := k - 1 - r) o (by rw [← hk]; exact hf) hi
          rw [e1] at this; exact this
        · rcases h2 b hb with q | ⟨j, j1, j2, j3⟩
          · exact Or.inl (by rw [or_tb, q, Bool.true_or])
          · by_cases ej : j = k - 1 - r
            · exact Or.inl (by rw [or_tb, j3, ej]; simp)
            · exact Or.inr ⟨j, by omega, j2, j3⟩
        · rw [or_tb] at hcc
          cases hx : c.testBit b with
          | false => rfl
          | true => rw [hx] at hcc; simp at hcc
      · rw [if_neg q]
        apply Classical.byContradiction
        intro hne
        obtain ⟨b, b1, b2⟩ := Sb_ne h1' (fun e => hne e.symm)
        have hcx : c.testBit b = false := by
          rw [or_tb] at b2
          cases hx : c.testBit b with
          | false => rfl
          | true => rw [hx] at b2; simp at b2
        have hbk : b < kn := by
          rcases h2 b b1 with q | ⟨j, -, j2, j3⟩
          · rw [hcx] at q; cases q
          · rw [j3]; exact (o.2.1 j j2).2
        have q1 := h3 b b1 hcx
        have q2 := sw_sub (g := g) b1 hbk
        have q3 := sw_mono (g := g) (Sb_drop h1' b1 b2) kn
        omega
    | false =>
      right
      refine ih c s (by omega) ?_ hc hs h1 (fun b hb => ?_) h3
      · have := Fre.next (i := k - 1 - r) (by rw [← hk]; exact hf)
        rw [e1] at this; exact this
      · rcases h2 b hb with q | ⟨j, j1, j2, j3⟩
        · exact Or.inl q
        · refine Or.inr ⟨j, ?_, j2, j3⟩
          by_cases ej : j = k - 1 - r
          · rw [j3, ej, hsp] at hb; cases hb
          · omega
/-- the strength of the places from k - r on -/
def rsum (g : Nat → Nat) (k : Nat) (p : Nat → Nat) : Nat → Nat
  | 0 => 0
  | r + 1 => rsum g k p r + g (p (k - 1 - r))
theorem Es_sum {g : Nat → Nat} {a kn W k : Nat} {p : Nat → Nat} (o : Ord g a kn k p) : ∀ r c s, r ≤ k → Fre k (k - r) p c → Es g kn W k p r c s → sw g kn s ≤ sw g kn c + rsum g k p r := by
  intro r
  induction r with
  | zero => intro c s _ _ h; exact h.elim
  | succ r ih =>
    intro c s hr hf h
    have hk : k - (r + 1) = k - 1 - r := by omega
    have hi : k - 1 - r < k := by omega
    have hpk := (o.2.1 _ hi).2
    have e1 : k - 1 - r + 1 = k - r := by omega
    have hcb : c.testBit (p (k - 1 - r)) = false := hf _ (by omega) hi
    have hor := sw_or (g := g) hcb kn hpk
    show sw g kn s ≤ sw g kn c + (rsum g k p r + g (p (k - 1 - r)))
    rcases h with h | h
    · by_cases q : 2 * sw g kn (c ||| 2 ^ p (k - 1 - r)) ≤ W
      · rw [if_pos q] at h
        have := ih _ s (by omega) (by
          have := Fre.take (i := k - 1 - r) o (by rw [← hk]; exact hf) hi
          rw [e1] at this; exact this) h
        omega
      · rw [if_neg q] at h
        subst h
        omega
    · have := ih c s (by omega) (by
        have := Fre.next (i := k - 1 - r) (by rw [← hk]; exact hf)
        rw [e1] at this; exact this) h
      omega
theorem rsum_all {g : Nat → Nat} {a kn k : Nat} {p : Nat → Nat} (o : Ord g a kn k p) : ∀ r, r ≤ k → ∃ c, (∀ b, c.testBit b = true ↔ ∃ j, k - r ≤ j ∧ j < k ∧ b = p j) ∧ sw g kn c = rsum g k p r := by
  intro r
  induction r with
  | zero =>
    intro _
    refine ⟨0, fun b => ⟨fun q => by simp at q, fun ⟨j, j1, j2, _⟩ => by omega⟩, sw_zero g kn⟩
  | succ r ih =>
    intro hr
    obtain ⟨c, c1, c2⟩ := ih (by omega)
    have hi : k - 1 - r < k := by omega
    have hpk := (o.2.1 _ hi).2
    have hcb : c.testBit (p (k - 1 - r)) = false := by
      cases hx : c.testBit (p (k - 1 - r)) with
      | false => rfl
      | true =>
        obtain ⟨j, j1, j2, j3⟩ := (c1 _).mp hx
        exact absurd j3 (o.inj hi j2 (by omega))
    refine ⟨c ||| 2 ^ p (k - 1 - r), fun b => ?_, by rw [sw_or hcb kn hpk, c2]; rfl⟩
    rw [or_tb]
    constructor
    · intro q
      cases hx : c.testBit b with
      | true =>
        obtain ⟨j, j1, j2, j3⟩ := (c1 b).mp hx
        exact ⟨j, by omega, j2, j3⟩
      | false =>
        rw [hx, Bool.false_or] at q
        exact ⟨k - 1 - r, by omega, hi, (of_decide_eq_true q).symm⟩
    · rintro ⟨j, j1, j2, j3⟩
      by_cases e : j = k - 1 - r
      · rw [j3, e]; simp
      · rw [(c1 b).mpr ⟨j, by omega, j2, j3⟩, Bool.true_or]
theorem rsum_top {g : Nat → Nat} {a kn k : Nat} {p : Nat → Nat} (o : Ord g a kn k p) (ha : a < 2 ^ kn) : rsum g k p k = sw g kn a := by
  obtain ⟨c, c1, c2⟩ := rsum_all o k (Nat.le_refl _)
  have : c = a := by
    apply Nat.eq_of_testBit_eq
    intro b
    rw [Bool.eq_iff_iff, c1 b]
    constructor
    · rintro ⟨j, -, j2, j3⟩; rw [j3]; exact (o.2.1 j j2).1
    · intro hb
      have hbk : b < kn := by
        apply Classical.byContradiction
        intro q
        rw [tb_hi ha (by omega)] at hb
        cases hb
      obtain ⟨i, i1, i2⟩ := o.2.2.2.1 b hbk hb
      exact ⟨i, by omega, i1, i2.symm⟩
  rw [← c2, this]
/-- the sets within a that are strong -/
def Gm (g : Nat → Nat) (kn a s : Nat) : Prop := 1 ≤ s ∧ Sb s a ∧ sw g kn a < 2 * sw g kn s
theorem Es_iff {g : Nat → Nat} {a kn k : Nat} {p : Nat → Nat} (o : Ord g a kn k p) (ha : a < 2 ^ kn) (s : Nat) : Es g kn (sw g kn a) k p k 0 s ↔ Ls (Gm g kn a) s := by
  have hf0 : Fre k (k - k) p 0 := fun j _ _ => by simp
  constructor
  · intro h
    obtain ⟨s1, s2, s3, l, l1, l2, l3, l4⟩ := Es_out o k 0 s (Nat.le_refl _) hf0 (fun b hb => by simp at hb) (by rw [sw_zero]; omega) h
    rw [Ls_iff]
    have hsa : Sb s a := fun b hb => by
      rcases s2 b hb with q | ⟨j, -, j2, j3⟩
      · simp at q
      · rw [j3]; exact (o.2.1 j j2).1
    refine ⟨⟨by have := tb_ge l2; have := Nat.two_pow_pos l; omega, hsa, s3⟩, fun t ht hts => ?_⟩
    apply Classical.byContradiction
    intro hne
    obtain ⟨b, b1, b2⟩ := Sb_ne hts hne
    have hbk : b < kn := by
      apply Classical.byContradiction
      intro q
      rw [tb_hi (Nat.lt_of_le_of_lt (Sb_le hsa) ha) (by omega)] at b1
      cases b1
    have q1 := sw_mono (g := g) (Sb_drop hts b1 b2) kn
    have q2 := sw_sub (g := g) b1 hbk
    have q3 := l4 b b1
    have q4 := ht.2.2
    omega
  · intro h
    obtain ⟨⟨h1, h2, h3⟩, h4⟩ := Ls_iff.mp h
    refine Es_in o k 0 s (Nat.le_refl _) hf0 (by rw [sw_zero]; omega) h3 (fun b hb => by simp at hb) (fun b hb => ?_) (fun b hb _ => ?_)
    · have hbk : b < kn := by
        apply Classical.byContradiction
        intro q
        have := h2 b hb
        rw [tb_hi ha (by omega)] at this
        cases this
      obtain ⟨i, i1, i2⟩ := o.2.2.2.1 b hbk (h2 b hb)
      exact Or.inr ⟨i, by omega, i1, i2.symm⟩
    · have hbk : b < kn := by
        apply Classical.byContradiction
        intro q
        have := h2 b hb
        rw [tb_hi ha (by omega)] at this
        cases this
      have q2 := sw_sub (g := g) hb hbk
      apply Classical.byContradiction
      intro q
      have hst : sw g kn a < 2 * sw g kn (s - 2 ^ b) := by omega
      have hpos : 1 ≤ s - 2 ^ b := by
        apply Classical.byContradiction
        intro q'
        have : s - 2 ^ b = 0 := by omega
        rw [this, sw_zero] at hst
        omega
      have := h4 (s - 2 ^ b) ⟨hpos, (Sb_sub hb).trans h2, hst⟩ (Sb_sub hb)
      have := tb_ge hb
      have := Nat.two_pow_pos b
      omega
