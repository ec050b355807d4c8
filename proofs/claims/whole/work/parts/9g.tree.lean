/-! tree -/
def tc : Nat → Nat
  | 0 => 0
  | d + 1 => if d = 0 then 1 else 2 * tc d + tc d * tc d
/-- the ways of a node of height d -/
def Tt (base : Nat) : Nat → Nat → Nat → Prop
  | 0, _, _ => False
  | d + 1, v, s => if d = 0 then s = 2 ^ (base + v - 1) else (∃ w, (Tt base d (2 * v) w ∨ Tt base d (2 * v + 1) w) ∧ s = 2 ^ (base + v - 1) ||| w) ∨ ∃ w w', Tt base d (2 * v) w ∧ Tt base d (2 * v + 1) w' ∧ s = w ||| w'
def lg (v : Nat) : Nat := if v < 2 then 0 else if v < 4 then 1 else if v < 8 then 2 else 3
def hg (h v : Nat) : Nat := h - lg v
def st (h v : Nat) : Nat := psum (fun i => tc (hg h (2 ^ h - 1 - i))) (2 ^ h - 1 - v)
theorem tr1a' : ∀ h, h < 5 → ∀ v, v < 16 → (¬ (1 ≤ h ∧ 1 ≤ v ∧ v < 2 ^ h) ∨ (1 ≤ hg h v ∧ (2 * v ≤ 2 ^ h - 1 ↔ 2 ≤ hg h v))) := by decide +kernel
theorem tr1b' : ∀ h, h < 5 → ∀ v, v < 16 → (¬ (1 ≤ h ∧ 1 ≤ v ∧ v < 2 ^ h ∧ 2 ≤ hg h v) ∨ (hg h (2 * v) = hg h v - 1 ∧ hg h (2 * v + 1) = hg h v - 1 ∧ 2 * v + 1 ≤ 2 ^ h - 1)) := by decide +kernel
theorem tr1c' : ∀ h, h < 5 → ∀ v, v < 16 → (¬ (1 ≤ h ∧ 1 ≤ v ∧ v < 2 ^ h) ∨ (st h v + tc (hg h v) = st h (v - 1) ∧ st h (v - 1) ≤ 305 ∧ tc (hg h v) ≤ 255)) := by decide +kernel
theorem tr1a (h : Nat) (h5 : h < 5) (v : Nat) (hv : v < 16) (h1 : 1 ≤ h) (v1 : 1 ≤ v) (h2 : v < 2 ^ h) : 1 ≤ hg h v ∧ (2 * v ≤ 2 ^ h - 1 ↔ 2 ≤ hg h v) := (tr1a' h h5 v hv).resolve_left (fun q => q ⟨h1, v1, h2⟩)
theorem tr1b (h : Nat) (h5 : h < 5) (v : Nat) (hv : v < 16) (h1 : 1 ≤ h) (v1 : 1 ≤ v) (h2 : v < 2 ^ h) (h3 : 2 ≤ hg h v) : hg h (2 * v) = hg h v - 1 ∧ hg h (2 * v + 1) = hg h v - 1 ∧ 2 * v + 1 ≤ 2 ^ h - 1 := (tr1b' h h5 v hv).resolve_left (fun q => q ⟨h1, v1, h2, h3⟩)
theorem tr1c (h : Nat) (h5 : h < 5) (v : Nat) (hv : v < 16) (h1 : 1 ≤ h) (v1 : 1 ≤ v) (h2 : v < 2 ^ h) : st h v + tc (hg h v) = st h (v - 1) ∧ st h (v - 1) ≤ 305 ∧ tc (hg h v) ≤ 255 := (tr1c' h h5 v hv).resolve_left (fun q => q ⟨h1, v1, h2⟩)
theorem tr2 : ∀ h, h < 5 → 1 ≤ h → st h (2 ^ h - 1) = 0 ∧ 2 ^ h - 1 < 16 ∧ st h 0 ≤ 305 := by decide +kernel
theorem Tt_b {base : Nat} : ∀ d v s, 1 ≤ v → Tt base d v s → ∀ h, (v + 1) * 2 ^ (d - 1) ≤ 2 ^ h → 1 ≤ s ∧ s < 2 ^ (base + (2 ^ h - 1)) := by
  intro d
  induction d with
  | zero => intro v s _ h; exact h.elim
  | succ d ih =>
    intro v s hv ht h hh
    have hvh : v + 1 ≤ 2 ^ h := Nat.le_trans (Nat.le_mul_of_pos_right _ (Nat.two_pow_pos _)) hh
    have hb : 2 ^ (base + v - 1) < 2 ^ (base + (2 ^ h - 1)) := Nat.pow_lt_pow_right (by decide) (by omega)
    have hp := Nat.two_pow_pos (base + v - 1)
    unfold Tt at ht
    by_cases d0 : d = 0
    · rw [if_pos d0] at ht
      rw [ht]; exact ⟨hp, hb⟩
    · rw [if_neg d0] at ht
      have e : 2 ^ (d + 1 - 1) = 2 * 2 ^ (d - 1) := by
        rw [show d + 1 - 1 = d - 1 + 1 by omega, Nat.pow_succ]; omega
      rw [e, ← Nat.mul_assoc] at hh
      have hp1 := Nat.two_pow_pos (d - 1)
      have h1 : (2 * v + 1) * 2 ^ (d - 1) ≤ 2 ^ h := Nat.le_trans (Nat.mul_le_mul_right _ (by omega)) hh
      have h2 : (2 * v + 1 + 1) * 2 ^ (d - 1) ≤ 2 ^ h := Nat.le_trans (Nat.mul_le_mul_right _ (by omega)) hh
      rcases ht with ⟨w, hw, rfl⟩ | ⟨w, w', hw, hw', rfl⟩
      · have hw2 : 1 ≤ w ∧ w < 2 ^ (base + (2 ^ h - 1)) := by
          rcases hw with hw | hw
          · exact ih _ _ (by omega) hw h h1
          · exact ih _ _ (by omega) hw h h2
        exact ⟨Nat.le_trans hp Nat.left_le_or, Nat.or_lt_two_pow hb hw2.2⟩
      · have q1 := ih _ _ (by omega) hw h h1
        have q2 := ih _ _ (by omega) hw' h h2
        exact ⟨Nat.le_trans q1.1 Nat.left_le_or, Nat.or_lt_two_pow q1.2 q2.2⟩
theorem Tt_leaf {base v s : Nat} : Tt base 1 v s ↔ s = 2 ^ (base + v - 1) := by
  show (if (0 : Nat) = 0 then s = 2 ^ (base + v - 1) else _) ↔ _
  rw [if_pos rfl]
theorem Tt_node {base d v s : Nat} (hd : 1 ≤ d) : Tt base (d + 1) v s ↔ ((∃ w, (Tt base d (2 * v) w ∨ Tt base d (2 * v + 1) w) ∧ s = 2 ^ (base + v - 1) ||| w) ∨ ∃ w w', Tt base d (2 * v) w ∧ Tt base d (2 * v + 1) w' ∧ s = w ||| w') := by
  show (if d = 0 then _ else _) ↔ _
  rw [if_neg (by omega)]
theorem tc_node {d : Nat} (hd : 1 ≤ d) : tc (d + 1) = tc d + tc d + tc d * tc d := by
  show (if d = 0 then 1 else 2 * tc d + tc d * tc d) = _
  rw [if_neg (by omega)]; omega
theorem tc_pos : ∀ d, 1 ≤ d → 1 ≤ tc d := by
  intro d
  induction d with
  | zero => intro h; omega
  | succ d ih =>
    intro _
    by_cases e : d = 0
    · subst e; exact Nat.le_refl 1
    · rw [tc_node (by omega)]
      have := ih (by omega)
      omega
/-- ways are added behind the c that are there -/
def AppV (M N : Mem) (c c' : Nat) (wv wv' : Nat → Nat) (S : Nat → Prop) : Prop := N.2 = M.2 ∧ c ≤ c' ∧ (∀ d, d ≠ 258 → N.1 d = M.1 d) ∧ (∀ i, i < c → wv' i = wv i) ∧ (∀ i, i < c' → N.1 258 i = nI (wv' i)) ∧ ∀ s, S s ↔ ∃ i, c ≤ i ∧ i < c' ∧ s = wv' i
theorem AppV.none {M : Mem} {c : Nat} {wv : Nat → Nat} (h : ∀ i, i < c → M.1 258 i = nI (wv i)) : AppV M M c c wv wv (fun _ => False) := ⟨rfl, Nat.le_refl _, fun _ _ => rfl, fun _ _ => rfl, h, fun s => ⟨fun q => q.elim, fun ⟨i, h1, h2, _⟩ => by omega⟩⟩
theorem AppV.congr {M N : Mem} {c c' : Nat} {wv wv' : Nat → Nat} {S T : Nat → Prop} (h : AppV M N c c' wv wv' S) (e : ∀ s, S s ↔ T s) : AppV M N c c' wv wv' T := ⟨h.1, h.2.1, h.2.2.1, h.2.2.2.1, h.2.2.2.2.1, fun s => by rw [← e s]; exact h.2.2.2.2.2 s⟩
theorem AppV.trans {A B C : Mem} {c c1 c2 : Nat} {wv w1 w2 : Nat → Nat} {S T : Nat → Prop} (h : AppV A B c c1 wv w1 S) (g : AppV B C c1 c2 w1 w2 T) : AppV A C c c2 wv w2 (fun s => S s ∨ T s) := by
  obtain ⟨h0, h1, h2, h3, h4, h5⟩ := h
  obtain ⟨g0, g1, g2, g3, g4, g5⟩ := g
  refine ⟨g0.trans h0, by omega, fun d hd => (g2 d hd).trans (h2 d hd), fun i hi => (g3 i (by omega)).trans (h3 i hi), g4, fun s => ?_⟩
  show (S s ∨ T s) ↔ _
  rw [h5 s, g5 s]
  constructor
  · rintro (⟨i, i1, i2, i3⟩ | ⟨i, i1, i2, i3⟩)
    · exact ⟨i, i1, by omega, by rw [g3 i (by omega)]; exact i3⟩
    · exact ⟨i, by omega, i2, i3⟩
  · rintro ⟨i, i1, i2, i3⟩
    by_cases q : i < c1
    · exact Or.inl ⟨i, i1, q, by rw [← g3 i q]; exact i3⟩
    · exact Or.inr ⟨i, by omega, i2, i3⟩
theorem addWayX {M : Mem} {c w : Nat} {wv : Nat → Nat} (hc : c < 320) (h : ∀ i, i < c → M.1 258 i = nI (wv i)) : ∃ N, f_X3_addWay (nI c) (nI w) M = some (nI (c + 1), N) ∧ ∃ wv', AppV M N c (c + 1) wv wv' (fun s => s = w) := by
  refine ⟨sI M 258 c (nI w), ?_, nUp wv c w, rfl, by omega, fun d hd => sI_off _ _ _ _ hd, fun i hi => nup_n _ _ (by omega), fun i hi => ?_, fun s => ?_⟩
  · unfold f_X3_addWay
    rw [if_neg (nI_pos (by omega)), if_pos (show nI c < (320 : Int32) from nI_lt (b := 320) hc (by decide)), if_pos (inB_nI hc (by decide)), nI_clamp (by omega), nI_1]
  · rw [sI_1]
    by_cases e : i = c
    · rw [if_pos ⟨rfl, e⟩, e, nup_s]
    · rw [if_neg (fun q => e q.2), nup_n _ _ e]; exact h i (by omega)
  · constructor
    · intro q; exact ⟨c, Nat.le_refl _, by omega, by rw [nup_s]; exact q⟩
    · rintro ⟨i, i1, i2, i3⟩
      rw [show i = c by omega, nup_s] at i3; exact i3
theorem nodeX1 {M : Mem} {a b c bit : Nat} {wv : Nat → Nat} (hab : a ≤ b) (hbc : b ≤ c) (hc : c + (b - a) ≤ 320) (h : ∀ i, i < c → M.1 258 i = nI (wv i)) (x y : Int32) :
    ∃ N, f_X3_addNode_l1 (nI bit) x y (nI b) fuelN (nI c) (nI a) M = some (nI (c + (b - a)), N) ∧ ∃ wv', AppV M N c (c + (b - a)) wv wv' (fun s => ∃ i, a ≤ i ∧ i < b ∧ s = bit ||| wv i) := by
  obtain ⟨⟨r, N⟩, e, r1, wv', hr⟩ := loop_go (F := fun n v (s : Int32 × Mem) => f_X3_addNode_l1 (nI bit) x y (nI b) n s.1 v s.2) b (by omega)
    (fun v s => a ≤ v ∧ s.1 = nI (c + (v - a)) ∧ ∃ wv', AppV M s.2 c (c + (v - a)) wv wv' (fun s => ∃ i, a ≤ i ∧ i < v ∧ s = bit ||| wv i))
    (fun s => s.1 = nI (c + (b - a)) ∧ ∃ wv', AppV M s.2 c (c + (b - a)) wv wv' (fun s => ∃ i, a ≤ i ∧ i < b ∧ s = bit ||| wv i))
    (fun n s hs => ⟨s, by
      show f_X3_addNode_l1 _ x y _ (n + 1) s.1 (nI b) s.2 = _
      rw [f_X3_addNode_l1, if_neg (nI_pos (by omega)), if_pos (Int32.le_refl _)], hs.2⟩)
    (fun n v s hv hs => by
      obtain ⟨h1, h2, w1, h3⟩ := hs
      left
      obtain ⟨N', e, w2, g⟩ := addWayX (M := s.2) (c := c + (v - a)) (w := bit ||| wv v) (by omega) h3.2.2.2.2.1
      refine ⟨(nI (c + (v - a) + 1), N'), ⟨by omega, by show nI _ = nI _; congr 1; omega, w2, ?_⟩, ?_⟩
      · rw [show c + (v + 1 - a) = c + (v - a) + 1 by omega]
        refine (h3.trans g).congr (fun t => ?_)
        constructor
        · rintro (⟨i, i1, i2, i3⟩ | q)
          · exact ⟨i, i1, by omega, i3⟩
          · exact ⟨v, h1, by omega, q⟩
        · rintro ⟨i, i1, i2, i3⟩
          by_cases q : i = v
          · rw [q] at i3; exact Or.inr i3
          · exact Or.inl ⟨i, i1, by omega, i3⟩
      · show f_X3_addNode_l1 _ x y _ (n + 1) s.1 (nI v) s.2 = f_X3_addNode_l1 _ x y _ n (nI (c + (v - a) + 1)) (nI (v + 1)) N'
        rw [f_X3_addNode_l1, if_neg (nI_pos (by omega)), if_neg (ifle_no hv (by omega)), if_neg (show ¬ (320 : Int32) ≤ nI v from ifle_no (c := 320) (by omega) (by decide)), if_pos (inB_nI (show v < 320 by omega) (by decide)), nI_clamp (by omega), h3.2.2.2.2.1 v (by omega), h3.2.2.2.1 v (by omega), nx_or, h2, e, Option.bind_some, nI_1]) a (nI c, M) hab ⟨Nat.le_refl _, by rw [Nat.sub_self, Nat.add_zero], wv, by
        rw [Nat.sub_self, Nat.add_zero]
        exact (AppV.none h).congr (fun s => ⟨fun q => q.elim, fun ⟨i, i1, i2, _⟩ => by omega⟩)⟩
  dsimp only at r1 hr
  subst r1
  exact ⟨N, e, wv', hr⟩
theorem nodeX3 {M : Mem} {a b c j : Nat} {wv : Nat → Nat} (hab : a ≤ b) (hbc : b ≤ c) (hj : j < c) (hc : c + (b - a) ≤ 320) (h : ∀ i, i < c → M.1 258 i = nI (wv i)) (x : Int32) :
    ∃ N, f_X3_addNode_l3 (nI a) (nI b) x (nI j) fuelN (nI c) (nI a) M = some (nI (c + (b - a)), N) ∧ ∃ wv', AppV M N c (c + (b - a)) wv wv' (fun s => ∃ i, a ≤ i ∧ i < b ∧ s = wv j ||| wv i) := by
  obtain ⟨⟨r, N⟩, e, r1, wv', hr⟩ := loop_go (F := fun n v (s : Int32 × Mem) => f_X3_addNode_l3 (nI a) (nI b) x (nI j) n s.1 v s.2) b (by omega)
    (fun v s => a ≤ v ∧ s.1 = nI (c + (v - a)) ∧ ∃ wv', AppV M s.2 c (c + (v - a)) wv wv' (fun s => ∃ i, a ≤ i ∧ i < v ∧ s = wv j ||| wv i))
    (fun s => s.1 = nI (c + (b - a)) ∧ ∃ wv', AppV M s.2 c (c + (b - a)) wv wv' (fun s => ∃ i, a ≤ i ∧ i < b ∧ s = wv j ||| wv i))
    (fun n s hs => ⟨s, by
      show f_X3_addNode_l3 _ _ x _ (n + 1) s.1 (nI b) s.2 = _
      rw [f_X3_addNode_l3, if_neg (nI_pos (by omega)), if_pos (Int32.le_refl _)], hs.2⟩)
    (fun n v s hv hs => by
      obtain ⟨h1, h2, w1, h3⟩ := hs
      left
      obtain ⟨N', e, w2, g⟩ := addWayX (M := s.2) (c := c + (v - a)) (w := wv j ||| wv v) (by omega) h3.2.2.2.2.1
      refine ⟨(nI (c + (v - a) + 1), N'), ⟨by omega, by show nI _ = nI _; congr 1; omega, w2, ?_⟩, ?_⟩
      · rw [show c + (v + 1 - a) = c + (v - a) + 1 by omega]
        refine (h3.trans g).congr (fun t => ?_)
        constructor
        · rintro (⟨i, i1, i2, i3⟩ | q)
          · exact ⟨i, i1, by omega, i3⟩
          · exact ⟨v, h1, by omega, q⟩
        · rintro ⟨i, i1, i2, i3⟩
          by_cases q : i = v
          · rw [q] at i3; exact Or.inr i3
          · exact Or.inl ⟨i, i1, by omega, i3⟩
      · show f_X3_addNode_l3 _ _ x _ (n + 1) s.1 (nI v) s.2 = f_X3_addNode_l3 _ _ x _ n (nI (c + (v - a) + 1)) (nI (v + 1)) N'
        rw [f_X3_addNode_l3, if_neg (nI_pos (by omega)), if_neg (ifle_no hv (by omega)), if_neg (show ¬ (320 : Int32) ≤ nI v from ifle_no (c := 320) (by omega) (by decide)), if_pos (inB_nI (show j < 320 by omega) (by decide)), if_pos (inB_nI (show v < 320 by omega) (by decide)), nI_clamp (show j < 2 ^ 31 by omega), nI_clamp (show v < 2 ^ 31 by omega), h3.2.2.2.2.1 v (by omega), h3.2.2.2.1 v (by omega), h3.2.2.2.2.1 j (by omega), h3.2.2.2.1 j hj, nx_or, h2, e, Option.bind_some, nI_1]) a (nI c, M) hab ⟨Nat.le_refl _, by rw [Nat.sub_self, Nat.add_zero], wv, by
        rw [Nat.sub_self, Nat.add_zero]
        exact (AppV.none h).congr (fun s => ⟨fun q => q.elim, fun ⟨i, i1, i2, _⟩ => by omega⟩)⟩
  dsimp only at r1 hr
  subst r1
  exact ⟨N, e, wv', hr⟩
theorem nodeX2 {M : Mem} {a b b2 c : Nat} {wv : Nat → Nat} (hab : a ≤ b) (hb2 : b ≤ b2) (hbc : b2 ≤ c) (hc : c + (b2 - b) * (b - a) ≤ 320) (h : ∀ i, i < c → M.1 258 i = nI (wv i)) :
    ∃ N, f_X3_addNode_l2 (nI a) (nI b) (nI b2) fuelN (nI c) (nI b) M = some (nI (c + (b2 - b) * (b - a)), N) ∧ ∃ wv', AppV M N c (c + (b2 - b) * (b - a)) wv wv' (fun s => ∃ j i, b ≤ j ∧ j < b2 ∧ a ≤ i ∧ i < b ∧ s = wv j ||| wv i) := by
  obtain ⟨⟨r, N⟩, e, r1, wv', hr⟩ := loop_go (F := fun n v (s : Int32 × Mem) => f_X3_addNode_l2 (nI a) (nI b) (nI b2) n s.1 v s.2) b2 (by omega)
    (fun v s => b ≤ v ∧ s.1 = nI (c + (v - b) * (b - a)) ∧ ∃ wv', AppV M s.2 c (c + (v - b) * (b - a)) wv wv' (fun s => ∃ j i, b ≤ j ∧ j < v ∧ a ≤ i ∧ i < b ∧ s = wv j ||| wv i))
    (fun s => s.1 = nI (c + (b2 - b) * (b - a)) ∧ ∃ wv', AppV M s.2 c (c + (b2 - b) * (b - a)) wv wv' (fun s => ∃ j i, b ≤ j ∧ j < b2 ∧ a ≤ i ∧ i < b ∧ s = wv j ||| wv i))
    (fun n s hs => ⟨s, by
      show f_X3_addNode_l2 _ _ _ (n + 1) s.1 (nI b2) s.2 = _
      rw [f_X3_addNode_l2, if_neg (nI_pos (by omega)), if_pos (Int32.le_refl _)], hs.2⟩)
    (fun n v s hv hs => by
      obtain ⟨h1, h2, w1, h3⟩ := hs
      left
      have hmul : (v - b) * (b - a) + (b - a) = (v + 1 - b) * (b - a) := by
        rw [show v + 1 - b = v - b + 1 by omega, Nat.add_mul, Nat.one_mul]
      have hle : (v + 1 - b) * (b - a) ≤ (b2 - b) * (b - a) := Nat.mul_le_mul_right _ (by omega)
      have hcc := h3.2.1
      obtain ⟨N', e, w2, g⟩ := nodeX3 (M := s.2) (a := a) (b := b) (c := c + (v - b) * (b - a)) (j := v) hab (by omega) (by omega) (by omega) h3.2.2.2.2.1 (nI b2)
      rw [show c + (v - b) * (b - a) + (b - a) = c + (v + 1 - b) * (b - a) by omega] at e g
      refine ⟨(nI (c + (v + 1 - b) * (b - a)), N'), ⟨by omega, rfl, w2, ?_⟩, ?_⟩
      · refine (h3.trans g).congr (fun t => ?_)
        constructor
        · rintro (⟨j, i, j1, j2, i1, i2, i3⟩ | ⟨i, i1, i2, i3⟩)
          · exact ⟨j, i, j1, by omega, i1, i2, i3⟩
          · rw [h3.2.2.2.1 v (by omega), h3.2.2.2.1 i (by omega)] at i3
            exact ⟨v, i, h1, by omega, i1, i2, i3⟩
        · rintro ⟨j, i, j1, j2, i1, i2, i3⟩
          by_cases q : j = v
          · rw [q] at i3
            refine Or.inr ⟨i, i1, i2, ?_⟩
            rw [h3.2.2.2.1 v (by omega), h3.2.2.2.1 i (by omega)]; exact i3
          · exact Or.inl ⟨j, i, j1, by omega, i1, i2, i3⟩
      · show f_X3_addNode_l2 _ _ _ (n + 1) s.1 (nI v) s.2 = f_X3_addNode_l2 _ _ _ n (nI (c + (v + 1 - b) * (b - a))) (nI (v + 1)) N'
        rw [f_X3_addNode_l2, if_neg (nI_pos (by omega)), if_neg (ifle_no hv (by omega)), if_neg (show ¬ (320 : Int32) ≤ nI v from ifle_no (c := 320) (by omega) (by decide)), h2, e, Option.bind_some, nI_1]) b (nI c, M) hb2 ⟨Nat.le_refl _, by rw [Nat.sub_self, Nat.zero_mul, Nat.add_zero], wv, by
        rw [Nat.sub_self, Nat.zero_mul, Nat.add_zero]
        exact (AppV.none h).congr (fun s => ⟨fun q => q.elim, fun ⟨j, i, j1, j2, _⟩ => by omega⟩)⟩
  dsimp only at r1 hr
  subst r1
  exact ⟨N, e, wv', hr⟩
/-- the class's tree while it is gathered: nodes above v stand -/
def TrX (M : Mem) (base h v : Nat) (s : Int32 × Int32 × Mem) : Prop := s.1 = nI (st h v) ∧ s.2.1 = nI v ∧ s.2.2.2 = M.2 ∧ (∀ d, d ≠ 258 → d ≠ 259 → s.2.2.1 d = M.1 d) ∧ (∀ u, v < u → u < 2 ^ h → s.2.2.1 259 u = nI (st h u)) ∧ ∃ wv : Nat → Nat, (∀ i, i < st h v → s.2.2.1 258 i = nI (wv i)) ∧ ∀ u, v < u → u < 2 ^ h → ∀ t, Tt base (hg h u) u t ↔ ∃ i, st h u ≤ i ∧ i < st h (u - 1) ∧ t = wv i
theorem st_mono {h u v : Nat} (huv : u ≤ v) : st h v ≤ st h u := psum_mono (by omega)
theorem treeX_l1 {M : Mem} {base h : Nat} (h1 : 1 ≤ h) (h4 : h < 5) (hb : base + (2 ^ h - 1) ≤ 16) : ∃ r N, f_X3_gatherTree_l1 (nI (2 ^ h - 1)) (nI base) fuelN 0 (nI (2 ^ h - 1)) M = some (r, N) ∧ r = nI (st h 0) ∧ N.2 = M.2 ∧ (∀ d, d ≠ 258 → d ≠ 259 → N.1 d = M.1 d) ∧ N.1 259 1 = nI (st h 1) ∧ ∃ wv : Nat → Nat, (∀ i, i < st h 0 → N.1 258 i = nI (wv i)) ∧ ∀ t, Tt base h 1 t ↔ ∃ i, st h 1 ≤ i ∧ i < st h 0 ∧ t = wv i := by
  obtain ⟨z1, z2, z3⟩ := tr2 h h4 h1
  have hp := Nat.two_pow_pos h
  have h2h : 2 ≤ 2 ^ h := Nat.le_trans (Nat.le_refl (2 ^ 1)) (Nat.pow_le_pow_right (by decide) h1)
  have HH := loop_d (F := fun n (s : Int32 × Int32 × Mem) => f_X3_gatherTree_l1 (nI (2 ^ h - 1)) (nI base) n s.1 s.2.1 s.2.2)
    (fun s => ∃ v, v < 2 ^ h ∧ TrX M base h v s) (fun s => s.2.1.toNatClampNeg) (fun q => TrX M base h 0 (q.1, 0, q.2)) ?_ (0, nI (2 ^ h - 1), M) ⟨2 ^ h - 1, by omega, by rw [z1]; rfl, rfl, rfl, fun _ _ _ => rfl, fun u q1 q2 => by omega, fun _ => 0, fun i hi => by omega, fun u q1 q2 => by omega⟩ (by show (nI (2 ^ h - 1)).toNatClampNeg < 70000; rw [nI_clamp (by omega)]; omega)
  · obtain ⟨⟨r, N⟩, e, t1, t2, t3, t4, t5, wv, t6, t7⟩ := HH
    dsimp only at t1 t3 t4 t5 t6
    refine ⟨r, N, e, t1, t3, t4, t5 1 (by omega) (by omega), wv, t6, fun t => ?_⟩
    have := t7 1 (by omega) (by omega) t
    rw [show hg h 1 = h from rfl] at this
    exact this
  · rintro n ⟨v3, v4, N⟩ ⟨v, hv, t1, t2, t3, t4, t5, wv, t6, t7⟩
    dsimp only at t1 t2 t3 t4 t5 t6
    subst t1 t2
    by_cases v0 : v = 0
    · subst v0
      right
      refine ⟨(nI (st h 0), N), ?_, rfl, rfl, t3, t4, t5, wv, t6, t7⟩
      show f_X3_gatherTree_l1 _ _ (n + 1) _ (nI 0) N = _
      rw [f_X3_gatherTree_l1, if_pos (by decide)]
    · left
      have ha := tr1a h h4 v (by omega) h1 (by omega) hv
      have hc := tr1c h h4 v (by omega) h1 (by omega) hv
      let N0 := sI N 259 v (nI (st h v))
      have N0o : ∀ d, d ≠ 259 → N0.1 d = N.1 d := fun d hd => sI_off _ _ _ _ hd
      have N9 : ∀ u, v ≤ u → u < 2 ^ h → N0.1 259 u = nI (st h u) := fun u q1 q2 => by
        show (sI N 259 v (nI (st h v))).1 259 u = _
        rw [sI_1]
        by_cases e : u = v
        · rw [if_pos ⟨rfl, e⟩, e]
        · rw [if_neg (fun q => e q.2)]; exact t5 u (by omega) q2
      have w0 : ∀ i, i < st h v → N0.1 258 i = nI (wv i) := fun i hi => by rw [N0o 258 (by decide)]; exact t6 i hi
      have ebit : (1 : Int32) <<< (((nI base + nI v) - (1 : Int32)) &&& 31) = nI (2 ^ (base + v - 1)) := by
        rw [nI_add, show (1 : Int32) = nI 1 from rfl, pk_sub (by omega), show nI 1 = (1 : Int32) from rfl, one_shl _ (by omega)]
      -- what the node adds
      have body : ∃ Q, (if ((2 : Int32) * nI v) ≤ nI (2 ^ h - 1) then (Option.bind (f_X3_addNode (nI v) (nI (2 ^ (base + v - 1))) (nI (st h v)) N0) (fun q7 => some (q7.1, q7.2))) else (Option.bind (f_X3_addWay (nI (st h v)) (nI (2 ^ (base + v - 1))) N0) (fun q9 => some (q9.1, q9.2)))) = some (nI (st h (v - 1)), Q) ∧ ∃ wv', AppV N0 Q (st h v) (st h (v - 1)) wv wv' (Tt base (hg h v) v) := by
        rw [show (2 : Int32) * nI v = nI (2 * v) from pk_mul 2 v]
        by_cases h2 : 2 ≤ hg h v
        · have hb' := tr1b h h4 v (by omega) h1 (by omega) hv h2
          have h2v := ha.2.mpr h2
          obtain ⟨d, hd⟩ : ∃ d, hg h v = d + 1 := ⟨hg h v - 1, by omega⟩
          have hd1 : 1 ≤ d := by omega
          have g1 : hg h (2 * v) = d := by omega
          have g2 : hg h (2 * v + 1) = d := by omega
          have c1 := tr1c h h4 (2 * v) (by omega) h1 (by omega) (by omega)
          have c2 := tr1c h h4 (2 * v + 1) (by omega) h1 (by omega) (by omega)
          rw [g1] at c1
          rw [g2] at c2
          rw [hd, tc_node hd1] at hc
          rw [show 2 * v + 1 - 1 = 2 * v by omega] at c2
          have m1 := st_mono (h := h) (show v ≤ 2 * v - 1 by omega)
          have m2 := st_mono (h := h) (show 2 * v - 1 ≤ 2 * v by omega)
          have m3 := st_mono (h := h) (show 2 * v ≤ 2 * v + 1 by omega)
          have e1 : st h (2 * v - 1) - st h (2 * v + 1) = tc d + tc d := by omega
          have e2 : st h (2 * v - 1) - st h (2 * v) = tc d := by omega
          have e3 : st h (2 * v) - st h (2 * v + 1) = tc d := by omega
          obtain ⟨P, p1, w1, p2⟩ := nodeX1 (M := N0) (a := st h (2 * v + 1)) (b := st h (2 * v - 1)) (c := st h v) (bit := 2 ^ (base + v - 1)) (wv := wv) (by omega) m1 (by omega) w0 (nI (st h (2 * v + 1))) (nI (st h (2 * v)))
          rw [e1] at p1 p2
          obtain ⟨Q, q1, w2, q2⟩ := nodeX2 (M := P) (a := st h (2 * v + 1)) (b := st h (2 * v)) (b2 := st h (2 * v - 1)) (c := st h v + (tc d + tc d)) (wv := w1) m3 m2 (by omega) (by rw [e2, e3]; omega) p2.2.2.2.2.1
          rw [e2, e3, show st h v + (tc d + tc d) + tc d * tc d = st h (v - 1) by omega] at q1 q2
          refine ⟨Q, ?_, w2, (p2.trans q2).congr (fun t => ?_)⟩
          · rw [if_pos (nI_le h2v (by omega))]
            unfold f_X3_addNode
            rw [if_neg (show ¬ nI v < (1 : Int32) from nI_nlt (a := v) (b := 1) (by omega) (by omega)), show (2 : Int32) * nI v = nI (2 * v) from pk_mul 2 v, nI_1, if_pos (show nI (2 * v + 1) < (16 : Int32) from nI_lt (b := 16) (by omega) (by decide)), if_pos (inB_nI (show 2 * v + 1 < 16 by omega) (by decide)), show nI (2 * v + 1) - (1 : Int32) = nI (2 * v) from nI_pred _, show nI (2 * v + 1) - (2 : Int32) = nI (2 * v - 1) by rw [show (2 : Int32) = nI 2 from rfl, pk_sub (by omega)]; congr 1, if_pos (inB_nI (show 2 * v < 16 by omega) (by decide)), if_pos (inB_nI (show 2 * v - 1 < 16 by omega) (by decide)), nI_clamp (show 2 * v + 1 < 2 ^ 31 by omega), nI_clamp (show 2 * v < 2 ^ 31 by omega), nI_clamp (show 2 * v - 1 < 2 ^ 31 by omega), N9 (2 * v + 1) (by omega) (by omega), N9 (2 * v) (by omega) (by omega), N9 (2 * v - 1) (by omega) (by omega), p1, Option.bind_some, q1, Option.bind_some, Option.bind_some]
          · rw [hd, Tt_node hd1]
            have T1 : ∀ w, Tt base d (2 * v) w ↔ ∃ i, st h (2 * v) ≤ i ∧ i < st h (2 * v - 1) ∧ w = wv i := fun w => by
              have := t7 (2 * v) (by omega) (by omega) w
              rwa [g1] at this
            have T2 : ∀ w, Tt base d (2 * v + 1) w ↔ ∃ i, st h (2 * v + 1) ≤ i ∧ i < st h (2 * v) ∧ w = wv i := fun w => by
              have := t7 (2 * v + 1) (by omega) (by omega) w
              rwa [g2, show 2 * v + 1 - 1 = 2 * v by omega] at this
            have ew : ∀ i, i < st h v → w1 i = wv i := p2.2.2.2.1
            constructor
            · rintro (⟨i, i1, i2, i3⟩ | ⟨j, i, j1, j2, i1, i2, i3⟩)
              · refine Or.inl ⟨wv i, ?_, i3⟩
                by_cases q : i < st h (2 * v)
                · exact Or.inr ((T2 _).mpr ⟨i, i1, q, rfl⟩)
                · exact Or.inl ((T1 _).mpr ⟨i, by omega, i2, rfl⟩)
              · rw [ew j (by omega), ew i (by omega)] at i3
                exact Or.inr ⟨wv j, wv i, (T1 _).mpr ⟨j, j1, j2, rfl⟩, (T2 _).mpr ⟨i, i1, i2, rfl⟩, i3⟩
            · rintro (⟨w, hw, e⟩ | ⟨w, w', hw, hw', e⟩)
              · rcases hw with hw | hw
                · obtain ⟨i, i1, i2, i3⟩ := (T1 w).mp hw
                  exact Or.inl ⟨i, by omega, i2, by rw [e, i3]⟩
                · obtain ⟨i, i1, i2, i3⟩ := (T2 w).mp hw
                  exact Or.inl ⟨i, i1, by omega, by rw [e, i3]⟩
              · obtain ⟨j, j1, j2, j3⟩ := (T1 w).mp hw
                obtain ⟨i, i1, i2, i3⟩ := (T2 w').mp hw'
                exact Or.inr ⟨j, i, j1, j2, i1, i2, by rw [ew j (by omega), ew i (by omega), e, j3, i3]⟩
        · have hh1 : hg h v = 1 := by omega
          rw [hh1, show tc 1 = 1 from rfl] at hc
          obtain ⟨Q, q1, w2, q2⟩ := addWayX (M := N0) (c := st h v) (w := 2 ^ (base + v - 1)) (wv := wv) (by omega) w0
          rw [hc.1] at q1 q2
          refine ⟨Q, ?_, w2, q2.congr (fun t => by rw [hh1, Tt_leaf])⟩
          have h2v : 2 ^ h - 1 < 2 * v := by
            apply Classical.byContradiction
            intro q
            exact h2 (ha.2.mp (by omega))
          rw [if_neg (ifle_no h2v (by omega)), q1, Option.bind_some]
      obtain ⟨Q, q1, wv', q2⟩ := body
      refine ⟨(nI (st h (v - 1)), nI (v - 1), Q), ⟨v - 1, by omega, rfl, rfl, q2.1.trans t3, fun d a b => ?_, fun u a b => ?_, wv', q2.2.2.2.2.1, fun u a b t => ?_⟩, ?_, ?_⟩
      · show Q.1 d = _
        rw [q2.2.2.1 d a, N0o d b]; exact t4 d a b
      · show Q.1 259 u = _
        rw [q2.2.2.1 259 (by decide)]; exact N9 u (by omega) b
      · by_cases e : u = v
        · subst e
          exact q2.2.2.2.2.2 t
        · rw [t7 u (by omega) b t]
          have mm := st_mono (h := h) (show v ≤ u - 1 by omega)
          constructor
          · rintro ⟨i, i1, i2, i3⟩
            exact ⟨i, i1, i2, by rw [q2.2.2.2.1 i (by omega)]; exact i3⟩
          · rintro ⟨i, i1, i2, i3⟩
            exact ⟨i, i1, i2, by rw [← q2.2.2.2.1 i (by omega)]; exact i3⟩
      · show (nI (v - 1)).toNatClampNeg < (nI v).toNatClampNeg
        rw [nI_clamp (by omega), nI_clamp (by omega)]; omega
      · show f_X3_gatherTree_l1 (nI (2 ^ h - 1)) (nI base) (n + 1) (nI (st h v)) (nI v) N = f_X3_gatherTree_l1 (nI (2 ^ h - 1)) (nI base) n (nI (st h (v - 1))) (nI (v - 1)) Q
        rw [f_X3_gatherTree_l1, if_neg (show ¬ nI v < (1 : Int32) from nI_nlt (a := v) (b := 1) (by omega) (by omega)), if_pos (inB_nI (show v < 16 by omega) (by decide)), nI_clamp (show v < 2 ^ 31 by omega), ebit]
        have q1' := q1
        show Option.bind (if ((2 : Int32) * nI v) ≤ nI (2 ^ h - 1) then (Option.bind (f_X3_addNode (nI v) (nI (2 ^ (base + v - 1))) (nI (st h v)) N0) (fun q7 => some (q7.1, q7.2))) else (Option.bind (f_X3_addWay (nI (st h v)) (nI (2 ^ (base + v - 1))) N0) (fun q9 => some (q9.1, q9.2)))) _ = _
        rw [q1', Option.bind_some, show nI v + (-1 : Int32) = nI (v - 1) by rw [show v = v - 1 + 1 by omega, pk_m1]; rfl]
theorem treeX {M : Mem} {m base h : Nat} (hp : PS M m) (h1 : 1 ≤ h) (h4 : h < 5) (hb : base + (2 ^ h - 1) ≤ m) : ∃ N, f_X3_gatherTree (nI (2 ^ h - 1)) (nI base) M = some N ∧ (∀ d, d ≠ 258 → d ≠ 259 → N.1 d = M.1 d) ∧ ∀ s, (pb N s = true ↔ (pb M s = true ∨ Tt base h 1 s)) := by
  obtain ⟨z1, z2, z3⟩ := tr2 h h4 h1
  have hm := hp.2.1
  obtain ⟨r, N, e, rfl, n1, n2, n3, wv, n4, n5⟩ := treeX_l1 (M := M) (base := base) h1 h4 (by omega)
  have hpN : PS N m := PS.keep2 hp (n2 255 (by decide) (by decide))
  have hm01 := st_mono (h := h) (show 0 ≤ 1 by omega)
  have hTb : ∀ i, st h 1 ≤ i → i < st h 0 → wv i < 2 ^ m := fun i i1 i2 => by
    have := (Tt_b h 1 (wv i) (Nat.le_refl _) ((n5 _).mpr ⟨i, i1, i2, rfl⟩) h (by
      rw [show (2 : Nat) ^ h = 2 * 2 ^ (h - 1) by rw [← Nat.pow_succ']; congr 1; omega]; exact Nat.le_refl _)).2
    exact Nat.lt_of_lt_of_le this (Nat.pow_le_pow_right (by decide) hb)
  obtain ⟨P, p1, p2⟩ := loop_go (F := fun n v P => f_X3_gatherTree_l2 (nI (st h 0)) n v P) (st h 0) (by omega) (fun v P => st h 1 ≤ v ∧ GX N P (fun s => ∃ i, st h 1 ≤ i ∧ i < v ∧ s = wv i)) (fun P => GX N P (fun s => ∃ i, st h 1 ≤ i ∧ i < st h 0 ∧ s = wv i))
    (fun n P hP => ⟨P, by
      show f_X3_gatherTree_l2 _ (n + 1) (nI (st h 0)) P = _
      rw [f_X3_gatherTree_l2, if_neg (nI_pos (by omega)), if_pos (Int32.le_refl _)], hP.2⟩)
    (fun n v P hv hP => by
      left
      obtain ⟨P', e', g⟩ := putG (PS.keep hpN hP.2.1) (hTb v hP.1 hv)
      refine ⟨P', ⟨by omega, (hP.2.trans g).congr (fun s => ?_)⟩, ?_⟩
      · constructor
        · rintro (⟨i, i1, i2, i3⟩ | q)
          · exact ⟨i, i1, by omega, i3⟩
          · exact ⟨v, hP.1, by omega, q⟩
        · rintro ⟨i, i1, i2, i3⟩
          by_cases q : i = v
          · rw [q] at i3; exact Or.inr i3
          · exact Or.inl ⟨i, i1, by omega, i3⟩
      · show f_X3_gatherTree_l2 _ (n + 1) (nI v) P = f_X3_gatherTree_l2 _ n (nI (v + 1)) P'
        rw [f_X3_gatherTree_l2, if_neg (nI_pos (by omega)), if_neg (ifle_no hv (by omega)), if_neg (show ¬ (320 : Int32) ≤ nI v from ifle_no (c := 320) (by omega) (by decide)), if_pos (inB_nI (show v < 320 by omega) (by decide)), nI_clamp (by omega), hP.2.1, n4 v hv, e', Option.bind_some, nI_1]) (st h 1) N hm01 ⟨Nat.le_refl _, (GX.none N).congr (fun s => ⟨fun q => q.elim, fun ⟨i, i1, i2, _⟩ => by omega⟩)⟩
  refine ⟨P, ?_, fun d a b => by rw [p2.1]; exact n2 d a b, fun s => ?_⟩
  · have e : f_X3_gatherTree_l1 (nI (2 ^ h - 1)) (nI base) fuelN 0 (nI (2 ^ h - 1)) M = _ := e
    have p1 : f_X3_gatherTree_l2 (nI (st h 0)) fuelN (nI (st h 1)) N = some P := p1
    unfold f_X3_gatherTree
    rw [show imin (nI (2 ^ h - 1)) (15 : Int32) = nI (2 ^ h - 1) by
      rw [show (15 : Int32) = nI 15 from rfl, imin_nI (by omega) (by omega), Nat.min_eq_left (by omega)], e, Option.bind_some, n3, p1, Option.bind_some]
  · rw [p2.2 s, pb_keep n1 s, n5 s]
