/-! most, on both machines -/
theorem strengthX {M : Mem} {kn s : Nat} {w : Nat → Nat} (hkn : kn ≤ 16) (hs : s < 2 ^ kn) (hw : ∀ k, k < kn → M.1 2 k = nI (w k)) : f_X5_strengthOf (nI s) M = some (nI (sw w kn s)) := by
  unfold f_X5_strengthOf
  rw [sumOfX (t := 2) rfl hkn hs hw, Option.bind_some]
theorem strengthY {M : Mem} {kn s : Nat} {w : Nat → Nat} (hkn : kn ≤ 16) (h0 : M.1 0 3 = nI kn) (hs : s < 2 ^ kn) (hw : ∀ k, k < kn → M.1 1 k = nI (w k)) : f_X11_strengthOf (nI s) M = some (nI (sw w kn s)) := by
  have hp := p16 hkn
  have HH := loop_go (F := fun n v x => f_X11_strengthOf_l1 (nI s) M n x v) kn (by omega) (fun i x => x = nI (psum (ws w s) i)) (fun r => r = nI (psum (ws w s) kn)) ?_ ?_ 0 0 (by omega) rfl
  · obtain ⟨r, e, rfl⟩ := HH
    have e : f_X11_strengthOf_l1 (nI s) M fuelN 0 0 = _ := e
    unfold f_X11_strengthOf
    rw [e, Option.bind_some]
  · intro n x hx
    refine ⟨x, ?_, hx⟩
    show f_X11_strengthOf_l1 (nI s) M (n + 1) x (nI kn) = _
    rw [f_X11_strengthOf_l1, h0, if_pos (Int32.le_refl _)]
  · intro n i x hi hx
    left
    refine ⟨nI (psum (ws w s) (i + 1)), rfl, ?_⟩
    show f_X11_strengthOf_l1 (nI s) M (n + 1) x (nI i) = _
    have es : psum (ws w s) (i + 1) = psum (ws w s) i + ws w s i := rfl
    rw [f_X11_strengthOf_l1, h0, if_neg (ifle_no hi (by omega)), bit_ (by omega) (by omega), hx, nI_1, es]
    unfold ws
    by_cases hb : s.testBit i
    · rw [if_pos hb, if_pos hb, if_pos rfl, if_pos (inB_nI (show i < 16 by omega) (by decide)), nI_clamp (show i < 2 ^ 31 by omega), hw i hi, Option.bind_some, nI_add]
    · rw [if_neg hb, if_neg hb, if_neg (by decide), Option.bind_some, show (0 : Int32) = nI 0 from rfl, nI_add]
/-- the class's places -/
def PlcX (M : Mem) (g : Nat → Nat) (k : Nat) (p : Nat → Nat) : Prop := M.1 254 8 = nI k ∧ ∀ i, i < k → M.1 261 i = nI (2 ^ p i) ∧ M.1 262 i = nI (g (p i))
def insP (p : Nat → Nat) (x b : Nat) : Nat → Nat := fun i => if i < x then p i else if i = x then b else p (i - 1)
theorem insX {M : Mem} {g : Nat → Nat} {a v k : Nat} {p : Nat → Nat} (h : PlcX M g k p) (o : Ord g a v k p) (hk : k < 16) (hg : ∀ b, g b ≤ 100) (hv : a.testBit v = true) : ∃ N x, f_X3_orderByStrength (nI (2 ^ v)) (nI (g v)) M = some N ∧ (∀ d, d ≠ 254 → d ≠ 261 → d ≠ 262 → N.1 d = M.1 d) ∧ (∀ y, y ≠ 8 → N.1 254 y = M.1 254 y) ∧ N.2 = M.2 ∧ PlcX N g (k + 1) (insP p x v) ∧ Ord g a (v + 1) (k + 1) (insP p x v) := by
  have HH := loop_d (F := fun n (s : Int32 × Mem) => f_X3_orderByStrength_l1 (nI (2 ^ v)) (nI (g v)) n s.1 s.2)
    (fun s => ∃ x, x ≤ k ∧ s.1 = nI x ∧ s.2.2 = M.2 ∧ (∀ d, d ≠ 261 → d ≠ 262 → s.2.1 d = M.1 d) ∧ (∀ j, j < x → s.2.1 261 j = M.1 261 j ∧ s.2.1 262 j = M.1 262 j) ∧ (∀ j, x < j → j ≤ k → s.2.1 261 j = M.1 261 (j - 1) ∧ s.2.1 262 j = M.1 262 (j - 1)) ∧ ∀ j, x ≤ j → j < k → g (p j) < g v)
    (fun s => s.1.toNatClampNeg)
    (fun r => ∃ x, x ≤ k ∧ r.1 = nI x ∧ r.2.2 = M.2 ∧ (∀ d, d ≠ 261 → d ≠ 262 → r.2.1 d = M.1 d) ∧ (∀ j, j < x → r.2.1 261 j = M.1 261 j ∧ r.2.1 262 j = M.1 262 j) ∧ (∀ j, x < j → j ≤ k → r.2.1 261 j = M.1 261 (j - 1) ∧ r.2.1 262 j = M.1 262 (j - 1)) ∧ (∀ j, x ≤ j → j < k → g (p j) < g v) ∧ ∀ j, j < x → g v ≤ g (p j))
    ?_ (nI k, M) ⟨k, Nat.le_refl _, rfl, rfl, fun _ _ _ => rfl, fun _ _ => ⟨rfl, rfl⟩, fun j q1 q2 => by omega, fun j q1 q2 => by omega⟩ (by show (nI k).toNatClampNeg < 70000; rw [nI_clamp (by omega)]; omega)
  · obtain ⟨⟨r, P⟩, e, x, hx, r1, r2, r3, r4, r5, r6, r7⟩ := HH
    dsimp only at r1 r2 r3 r4 r5
    subst r1
    have e : f_X3_orderByStrength_l1 (nI (2 ^ v)) (nI (g v)) fuelN (nI k) M = some (nI x, P) := e
    refine ⟨sI (sI (sI P 261 x (nI (2 ^ v))) 262 x (nI (g v))) 254 8 (nI (k + 1)), x, ?_, fun d q1 q2 q3 => ?_, fun y hy => ?_, r2, ⟨?_, fun i hi => ?_⟩, ?_⟩
    · unfold f_X3_orderByStrength
      rw [h.1, if_neg (nI_pos (by omega)), if_pos (show nI k < (16 : Int32) from nI_lt (b := 16) hk (by decide)), e, Option.bind_some, if_pos (inB_nI (show x < 16 by omega) (by decide)), if_pos (inB_nI (show x < 16 by omega) (by decide)), nI_clamp (by omega), r3 254 (by decide) (by decide), h.1, nI_1]
    · rw [sI_off _ _ _ _ q1, sI_off _ _ _ _ q3, sI_off _ _ _ _ q2]; exact r3 d q2 q3
    · rw [sI_1, if_neg (by omega), sI_off _ _ _ _ (by decide), sI_off _ _ _ _ (by decide), r3 254 (by decide) (by decide)]
    · rw [sI_1, if_pos ⟨rfl, rfl⟩]
    · have c1 : (sI (sI (sI P 261 x (nI (2 ^ v))) 262 x (nI (g v))) 254 8 (nI (k + 1))).1 261 i = if i = x then nI (2 ^ v) else P.1 261 i := by
        rw [sI_off _ _ _ _ (show 261 ≠ 254 by decide), sI_off _ _ _ _ (show 261 ≠ 262 by decide), sI_1]
        by_cases q : i = x
        · rw [if_pos ⟨rfl, q⟩, if_pos q]
        · rw [if_neg (fun z => q z.2), if_neg q]
      have c2 : (sI (sI (sI P 261 x (nI (2 ^ v))) 262 x (nI (g v))) 254 8 (nI (k + 1))).1 262 i = if i = x then nI (g v) else P.1 262 i := by
        rw [sI_off _ _ _ _ (show 262 ≠ 254 by decide), sI_1]
        by_cases q : i = x
        · rw [if_pos ⟨rfl, q⟩, if_pos q]
        · rw [if_neg (fun z => q z.2), if_neg q, sI_off _ _ _ _ (show 262 ≠ 261 by decide)]
      rw [c1, c2]
      by_cases q1 : i < x
      · have eP : insP p x v i = p i := if_pos q1
        rw [if_neg (by omega), if_neg (by omega), eP, (r4 i q1).1, (r4 i q1).2]; exact h.2 i (by omega)
      · by_cases q2 : i = x
        · have eP : insP p x v i = v := by unfold insP; rw [if_neg q1, if_pos q2]
          rw [if_pos q2, if_pos q2, eP]; exact ⟨rfl, rfl⟩
        · have eP : insP p x v i = p (i - 1) := by unfold insP; rw [if_neg q1, if_neg q2]
          rw [if_neg q2, if_neg q2, eP, (r5 i (by omega) (by omega)).1, (r5 i (by omega) (by omega)).2]; exact h.2 (i - 1) (by omega)
    · obtain ⟨o1, o2, o3, o4, o5⟩ := o
      refine ⟨by omega, fun i hi => ?_, fun i j hij hj => ?_, fun b hb hab => ?_, fun i j hij hj => ?_⟩
      · unfold insP
        by_cases q1 : i < x
        · rw [if_pos q1]; have := o2 i (by omega); exact ⟨this.1, by omega⟩
        · by_cases q2 : i = x
          · rw [if_neg q1, if_pos q2]; exact ⟨hv, by omega⟩
          · rw [if_neg q1, if_neg q2]; have := o2 (i - 1) (by omega); exact ⟨this.1, by omega⟩
      · unfold insP
        by_cases q1 : i < x
        · rw [if_pos q1]
          by_cases q3 : j < x
          · rw [if_pos q3]; exact o3 i j hij (by omega)
          · by_cases q4 : j = x
            · rw [if_neg q3, if_pos q4]; have := (o2 i (by omega)).2; omega
            · rw [if_neg q3, if_neg q4]; exact o3 i (j - 1) (by omega) (by omega)
        · by_cases q2 : i = x
          · rw [if_neg q1, if_pos q2, if_neg (by omega), if_neg (by omega)]
            have := (o2 (j - 1) (by omega)).2; omega
          · rw [if_neg q1, if_neg q2, if_neg (by omega), if_neg (by omega)]
            exact o3 (i - 1) (j - 1) (by omega) (by omega)
      · by_cases e2 : b = v
        · exact ⟨x, by omega, by unfold insP; rw [if_neg (by omega), if_pos rfl, e2]⟩
        · obtain ⟨i, i1, i2⟩ := o4 b (by omega) hab
          by_cases q1 : i < x
          · exact ⟨i, by omega, by unfold insP; rw [if_pos q1, i2]⟩
          · exact ⟨i + 1, by omega, by unfold insP; rw [if_neg (by omega), if_neg (by omega), Nat.add_sub_cancel, i2]⟩
      · unfold insP
        by_cases q1 : i < x
        · rw [if_pos q1]
          by_cases q3 : j < x
          · rw [if_pos q3]; exact o5 i j hij (by omega)
          · by_cases q4 : j = x
            · rw [if_neg q3, if_pos q4]; exact r7 i q1
            · rw [if_neg q3, if_neg q4]; exact o5 i (j - 1) (by omega) (by omega)
        · by_cases q2 : i = x
          · rw [if_neg q1, if_pos q2, if_neg (by omega), if_neg (by omega)]
            exact Nat.le_of_lt (r6 (j - 1) (by omega) (by omega))
          · rw [if_neg q1, if_neg q2, if_neg (by omega), if_neg (by omega)]
            exact o5 (i - 1) (j - 1) (by omega) (by omega)
  · rintro n ⟨w, P⟩ ⟨x, hx, e, g0, g1, g2, g3, g4⟩
    dsimp only at e g0 g1 g2 g3
    subst e
    by_cases x0 : x = 0
    · subst x0
      right
      refine ⟨(nI 0, P), ?_, 0, hx, rfl, g0, g1, g2, g3, g4, fun j hj => by omega⟩
      show f_X3_orderByStrength_l1 _ _ (n + 1) (nI 0) P = _
      rw [f_X3_orderByStrength_l1, if_pos (by decide)]
    · have hv262 : P.1 262 (x - 1) = nI (g (p (x - 1))) := by rw [(g2 (x - 1) (by omega)).2]; exact (h.2 (x - 1) (by omega)).2
      have hv261 : P.1 261 (x - 1) = M.1 261 (x - 1) := (g2 (x - 1) (by omega)).1
      have b1 := hg v
      have b2 := hg (p (x - 1))
      have hun : f_X3_orderByStrength_l1 (nI (2 ^ v)) (nI (g v)) (n + 1) (nI x) P = (if nI (g v) ≤ nI (g (p (x - 1))) then some (nI x, P) else f_X3_orderByStrength_l1 (nI (2 ^ v)) (nI (g v)) n (nI x + (-1 : Int32)) (sI (sI P 261 x (P.1 261 (x - 1))) 262 x (P.1 262 (x - 1)))) := by
        rw [f_X3_orderByStrength_l1, if_neg (nI_nle (by omega) (by omega)), show (1 : Int32) = nI 1 from rfl, pk_sub (by omega), if_pos (inB_nI (show x - 1 < 16 by omega) (by decide)), nI_clamp (show x - 1 < 2 ^ 31 by omega), if_pos (inB_nI (show x - 1 < 16 by omega) (by decide)), if_pos (inB_nI (show x < 16 by omega) (by decide)), if_pos (inB_nI (show x - 1 < 16 by omega) (by decide)), if_pos (inB_nI (show x < 16 by omega) (by decide)), nI_clamp (show x < 2 ^ 31 by omega), hv262]
      by_cases hle : g v ≤ g (p (x - 1))
      · right
        refine ⟨(nI x, P), ?_, x, hx, rfl, g0, g1, g2, g3, g4, fun j hj => ?_⟩
        · show f_X3_orderByStrength_l1 _ _ (n + 1) (nI x) P = _
          rw [hun, if_pos (nI_le hle (by omega))]
        · by_cases ej : j = x - 1
          · rw [ej]; exact hle
          · exact Nat.le_trans hle (o.2.2.2.2 j (x - 1) (by omega) (by omega))
      · left
        refine ⟨(nI (x - 1), sI (sI P 261 x (M.1 261 (x - 1))) 262 x (M.1 262 (x - 1))), ⟨x - 1, by omega, rfl, g0, fun d q1 q2 => ?_, fun j hj => ?_, fun j q1 q2 => ?_, fun j q1 q2 => ?_⟩, ?_, ?_⟩
        · show (sI (sI P 261 x _) 262 x _).1 d = _
          rw [sI_off _ _ _ _ q2, sI_off _ _ _ _ q1]; exact g1 d q1 q2
        · show (sI (sI P 261 x _) 262 x _).1 261 j = _ ∧ (sI (sI P 261 x _) 262 x _).1 262 j = _
          rw [sI_off _ _ _ _ (show 261 ≠ 262 by decide), sI_1, if_neg (by omega), sI_1, if_neg (by omega), sI_off _ _ _ _ (show 262 ≠ 261 by decide)]
          exact g2 j (by omega)
        · show (sI (sI P 261 x _) 262 x _).1 261 j = _ ∧ (sI (sI P 261 x _) 262 x _).1 262 j = _
          rw [sI_off _ _ _ _ (show 261 ≠ 262 by decide), sI_1, sI_1]
          by_cases ej : j = x
          · rw [if_pos ⟨rfl, ej⟩, if_pos ⟨rfl, ej⟩, ej]; exact ⟨rfl, rfl⟩
          · rw [if_neg (by omega), if_neg (by omega), sI_off _ _ _ _ (show 262 ≠ 261 by decide)]
            exact g3 j (by omega) q2
        · by_cases ej : j = x - 1
          · rw [ej]; omega
          · exact g4 j (by omega) q2
        · show (nI (x - 1)).toNatClampNeg < (nI x).toNatClampNeg
          rw [nI_clamp (by omega), nI_clamp (by omega)]; omega
        · show f_X3_orderByStrength_l1 _ _ (n + 1) (nI x) P = f_X3_orderByStrength_l1 _ _ n (nI (x - 1)) _
          rw [hun, if_neg (ifle_no (by omega) (by omega)), hv261, (g2 (x - 1) (by omega)).2, show nI x + (-1 : Int32) = nI (x - 1) by rw [show x = x - 1 + 1 by omega, pk_m1]; rfl]
theorem orderX {M : Mem} {g : Nat → Nat} {a kn : Nat} (hkn : kn ≤ 16) (ha : a < 2 ^ kn) (h1 : M.1 1 0 = nI kn) (h2 : ∀ k, k < kn → M.1 2 k = nI (g k)) (hg : ∀ b, g b ≤ 100) (h8 : M.1 254 8 = 0) : ∃ N k p, f_X3_gatherMost_l1 (nI a) fuelN 0 M = some N ∧ (∀ d, d ≠ 254 → d ≠ 261 → d ≠ 262 → N.1 d = M.1 d) ∧ (∀ y, y ≠ 8 → N.1 254 y = M.1 254 y) ∧ N.2 = M.2 ∧ PlcX N g k p ∧ Ord g a kn k p := by
  have hp := p16 hkn
  obtain ⟨N, e, hN, n2, n3, k, p, n4, n5⟩ := loop_go (F := fun n v N => f_X3_gatherMost_l1 (nI a) n v N) kn (by omega) (fun v N => (∀ d, d ≠ 254 → d ≠ 261 → d ≠ 262 → N.1 d = M.1 d) ∧ (∀ y, y ≠ 8 → N.1 254 y = M.1 254 y) ∧ N.2 = M.2 ∧ ∃ k p, PlcX N g k p ∧ Ord g a v k p) (fun N => (∀ d, d ≠ 254 → d ≠ 261 → d ≠ 262 → N.1 d = M.1 d) ∧ (∀ y, y ≠ 8 → N.1 254 y = M.1 254 y) ∧ N.2 = M.2 ∧ ∃ k p, PlcX N g k p ∧ Ord g a kn k p)
    (fun n N hN => ⟨N, by
      show f_X3_gatherMost_l1 (nI a) (n + 1) (nI kn) N = _
      rw [f_X3_gatherMost_l1, hN.1 1 (by decide) (by decide) (by decide), h1, if_pos (Int32.le_refl _)], hN⟩)
    (fun n v N hv hN => by
      left
      obtain ⟨g1, g2, g3, k, p, g4, g5⟩ := hN
      show ∃ s', _ ∧ f_X3_gatherMost_l1 (nI a) (n + 1) (nI v) N = f_X3_gatherMost_l1 (nI a) n (nI (v + 1)) s'
      rw [f_X3_gatherMost_l1, g1 1 (by decide) (by decide) (by decide), h1, if_neg (ifle_no hv (by omega)), if_neg (show ¬ (16 : Int32) ≤ nI v from ifle_no (c := 16) (by omega) (by decide)), bit_ (by omega) (by omega), nI_1]
      cases hb : a.testBit v with
      | false =>
        refine ⟨N, ⟨g1, g2, g3, k, p, g4, ?_⟩, by rw [if_pos (show (if false = true then (1 : Int32) else 0) = 0 from rfl), Option.bind_some]⟩
        obtain ⟨o1, o2, o3, o4, o5⟩ := g5
        refine ⟨by omega, fun i hi => ⟨(o2 i hi).1, by have := (o2 i hi).2; omega⟩, o3, fun b hb2 hab => ?_, o5⟩
        by_cases e : b = v
        · rw [e, hb] at hab; cases hab
        · exact o4 b (by omega) hab
      | true =>
        obtain ⟨N', x, e, i1, i2, i3, i4, i5⟩ := insX g4 g5 (by have := g5.1; omega) hg hb
        refine ⟨N', ⟨fun d q1 q2 q3 => by rw [i1 d q1 q2 q3]; exact g1 d q1 q2 q3, fun y hy => by rw [i2 y hy]; exact g2 y hy, i3.trans g3, k + 1, _, i4, i5⟩, ?_⟩
        rw [if_neg (show ¬ (if true = true then (1 : Int32) else 0) = 0 from one_ne), if_pos (inB_nI (show v < 16 by omega) (by decide)), nI_clamp (by omega), one_shl v (by omega), g1 2 (by decide) (by decide) (by decide), h2 v hv, e, Option.bind_some, Option.bind_some]) 0 M (by omega) ⟨fun _ _ _ _ => rfl, fun _ _ => rfl, rfl, 0, fun _ => 0, ⟨h8, fun i hi => by omega⟩, Nat.le_refl _, fun i hi => by omega, fun i j _ hj => by omega, fun b hb => by omega, fun i j _ hj => by omega⟩
  exact ⟨N, k, p, e, hN, n2, n3, n4, n5⟩
theorem Es_sup {g : Nat → Nat} {kn W k : Nat} {p : Nat → Nat} : ∀ r c s, Es g kn W k p r c s → Sb c s := by
  intro r
  induction r with
  | zero => intro c s h; exact h.elim
  | succ r ih =>
    intro c s h
    rcases h with h | h
    · by_cases q : 2 * sw g kn (c ||| 2 ^ p (k - 1 - r)) ≤ W
      · rw [if_pos q] at h
        exact fun b hb => ih _ s h b (by rw [or_tb, hb, Bool.true_or])
      · rw [if_neg q] at h
        rw [h]
        exact fun b hb => by rw [or_tb, hb, Bool.true_or]
    · exact ih c s h
theorem Es_big {g : Nat → Nat} {kn W k : Nat} {p : Nat → Nat} : ∀ r c s, Es g kn W k p r c s → W < 2 * sw g kn s := by
  intro r
  induction r with
  | zero => intro c s h; exact h.elim
  | succ r ih =>
    intro c s h
    rcases h with h | h
    · by_cases q : 2 * sw g kn (c ||| 2 ^ p (k - 1 - r)) ≤ W
      · rw [if_pos q] at h; exact ih _ s h
      · rw [if_neg q] at h
        rw [h]; omega
    · exact ih c s h
theorem cnt_put {K L : Nat → Bool} {x : Nat} (h : ∀ t, (L t = true ↔ (K t = true ∨ t = x))) (hx : K x = false) : ∀ n, x < n → cnt L n = cnt K n + 1 := by
  intro n
  induction n with
  | zero => intro q; omega
  | succ n ih =>
    intro q
    rw [cnt_s, cnt_s]
    by_cases e : x = n
    · subst e
      have h1 : cnt L x = cnt K x := cnt_congr x (fun t ht => by
        rw [Bool.eq_iff_iff, h t]
        constructor
        · rintro (q | q)
          · exact q
          · omega
        · intro q; exact Or.inl q)
      rw [h1, hx, (h x).mpr (Or.inr rfl)]
      rfl
    · have h1 := ih (by omega)
      have h2 : L n = K n := by
        rw [Bool.eq_iff_iff, h n]
        constructor
        · rintro (q | q)
          · exact q
          · exact absurd q.symm e
        · intro q; exact Or.inl q
      rw [h1, h2]
      omega
/-- what a call of takeStrong leaves -/
def TkP (M N : Mem) (m f f' : Nat) (E : Nat → Prop) : Prop := (∀ d, d ≠ 254 → N.1 d = M.1 d) ∧ (∀ y, y ≠ 9 → N.1 254 y = M.1 254 y) ∧ N.1 254 9 = nI f' ∧ f ≤ f' ∧ f' ≤ 121 ∧ cnt (pb N) (2 ^ m) = f' ∧ (∀ s, pb M s = true → pb N s = true) ∧ (∀ s, pb N s = true → pb M s = true ∨ E s) ∧ (f' ≤ 120 → ∀ s, E s → pb N s = true)
theorem TkP.congr {M N : Mem} {m f f' : Nat} {E F : Nat → Prop} (h : TkP M N m f f' E) (e : ∀ s, E s ↔ F s) : TkP M N m f f' F := by
  have : E = F := funext fun s => propext (e s)
  rw [← this]; exact h
theorem takeX {g : Nat → Nat} {a kn m k : Nat} {p : Nat → Nat} (o : Ord g a kn k p) (hkn : kn ≤ 16) (hkm : kn ≤ m) (hm16 : m ≤ 16) (ha : a < 2 ^ kn) (hg : ∀ b, g b ≤ 100) (W : Nat) (hW : W ≤ 1600) :
    ∀ n r c f M, r ≤ k → r < n → Fre k (k - r) p c → Sb c a → 2 * sw g kn c ≤ W → rsum g k p r ≤ 1600 → PlcX M g k p → PS M m → M.1 254 9 = nI f → f ≤ 121 → cnt (pb M) (2 ^ m) = f → (∀ t, t < 2 ^ m → pb M t = true → ∃ j, j < k - r ∧ t.testBit (p j) = true ∧ c.testBit (p j) = false) →
      ∃ N f', f_X3_takeStrong n (nI (k - r)) (nI c) (nI (W - 2 * sw g kn c)) (nI (rsum g k p r)) M = some N ∧ TkP M N m f f' (Es g kn W k p r c) := by
  have hk16 : k ≤ 16 := by have := o.1; omega
  have hpk := p16 hkn
  have hpm : 2 ^ kn ≤ 2 ^ m := Nat.pow_le_pow_right (by decide) hkm
  intro n
  induction n with
  | zero => intro r c f M _ h; omega
  | succ n ih =>
    intro r c f M hr hrn hf hca hcW hrs hP hp h9 hf1 hcnt hinv
    have same : ∀ E : Nat → Prop, (f ≤ 120 → ∀ s, ¬ E s) → TkP M M m f f E := fun E hE => ⟨fun _ _ => rfl, fun _ _ => rfl, h9, Nat.le_refl _, hf1, hcnt, fun _ q => q, fun _ q => Or.inl q, fun q s hs => absurd hs (hE q s)⟩
    have hq1 : (if ((2 : Int32) * nI (rsum g k p r)) ≤ nI (W - 2 * sw g kn c) then some (0 : Int32) else some (1 : Int32)) = some (if 2 * rsum g k p r ≤ W - 2 * sw g kn c then 0 else 1) := by
      rw [show (2 : Int32) * nI (rsum g k p r) = nI (2 * rsum g k p r) from pk_mul 2 _]
      by_cases q : 2 * rsum g k p r ≤ W - 2 * sw g kn c
      · rw [if_pos (nI_le q (by omega)), if_pos q]
      · rw [if_neg (ifle_no (by omega) (by omega)), if_neg q]
    cases r with
    | zero =>
      refine ⟨M, f, ?_, same _ (fun _ s q => q.elim)⟩
      rw [f_X3_takeStrong, hq1, Option.bind_some, if_neg (nI_pos (by omega)), hP.1, if_pos (by rw [Nat.sub_zero]; exact Int32.le_refl _)]
    | succ r =>
      have hk1 : k - (r + 1) = k - 1 - r := by omega
      have hi : k - 1 - r < k := by omega
      have hpi := o.2.1 _ hi
      have hcb : c.testBit (p (k - 1 - r)) = false := hf _ (by omega) hi
      have hor := sw_or (g := g) hcb kn hpi.2
      have hgi := hg (p (k - 1 - r))
      have hcell := hP.2 _ hi
      have hcell' : M.1 261 (k - (r + 1)) = nI (2 ^ p (k - 1 - r)) ∧ M.1 262 (k - (r + 1)) = nI (g (p (k - 1 - r))) := by rw [hk1]; exact hcell
      by_cases q0 : 2 * rsum g k p (r + 1) ≤ W - 2 * sw g kn c
      · refine ⟨M, f, ?_, same _ (fun _ s hs => ?_)⟩
        · rw [f_X3_takeStrong, hq1, Option.bind_some, if_pos q0, if_neg (nI_pos (by omega)), hP.1, if_neg (ifle_no (show k - (r + 1) < k by omega) (by omega)), if_neg (show ¬ (16 : Int32) ≤ nI (k - (r + 1)) from ifle_no (c := 16) (by omega) (by decide)), if_pos rfl]
        · have := Es_sum o (r + 1) c s hr hf hs
          have := Es_big (r + 1) c s hs
          omega
      by_cases qf : f ≤ 120
      · -- go on
        have hc'a : Sb (c ||| 2 ^ p (k - 1 - r)) a := fun b hb => by
          rw [or_tb] at hb
          cases hx : c.testBit b with
          | true => exact hca b hx
          | false =>
            rw [hx, Bool.false_or] at hb
            rw [← of_decide_eq_true hb]; exact hpi.1
        have hc'lt : c ||| 2 ^ p (k - 1 - r) < 2 ^ kn := Nat.lt_of_le_of_lt (Sb_le hc'a) ha
        have e1 : k - 1 - r + 1 = k - r := by omega
        have hrs' : rsum g k p (r + 1) = rsum g k p r + g (p (k - 1 - r)) := rfl
        -- nothing that is there holds what c with the place has
        have hinv' : ∀ t, t < 2 ^ m → pb M t = true → ∃ j, j < k - r ∧ t.testBit (p j) = true ∧ (c ||| 2 ^ p (k - 1 - r)).testBit (p j) = false := fun t ht hk => by
          obtain ⟨j, j1, j2, j3⟩ := hinv t ht hk
          refine ⟨j, by omega, j2, ?_⟩
          rw [or_tb, j3, Bool.false_or, decide_eq_false (o.inj hi (by omega) (by omega))]
        have first : ∃ N1 f1, (if ((2 : Int32) * nI (g (p (k - 1 - r)))) ≤ nI (W - 2 * sw g kn c) then (Option.bind (f_X3_takeStrong n (nI (k - (r + 1)) + (1 : Int32)) (nI c ||| nI (2 ^ p (k - 1 - r))) (nI (W - 2 * sw g kn c) - ((2 : Int32) * nI (g (p (k - 1 - r))))) (nI (rsum g k p (r + 1)) - nI (g (p (k - 1 - r)))) M) (fun q17 => some q17)) else (Option.bind (f_X7_put (nI c ||| nI (2 ^ p (k - 1 - r))) M) (fun q19 => some (sI q19 254 9 ((q19.1 254 9) + (1 : Int32)))))) = some N1 ∧ TkP M N1 m f f1 (fun s => if 2 * sw g kn (c ||| 2 ^ p (k - 1 - r)) ≤ W then Es g kn W k p r (c ||| 2 ^ p (k - 1 - r)) s else s = c ||| 2 ^ p (k - 1 - r)) := by
          rw [show (2 : Int32) * nI (g (p (k - 1 - r))) = nI (2 * g (p (k - 1 - r))) from pk_mul 2 _, nx_or]
          by_cases qs : 2 * g (p (k - 1 - r)) ≤ W - 2 * sw g kn c
          · have qs2 : 2 * sw g kn (c ||| 2 ^ p (k - 1 - r)) ≤ W := by omega
            obtain ⟨N1, f1, t1, t2⟩ := ih r (c ||| 2 ^ p (k - 1 - r)) f M (by omega) (by omega) (by
              have := Fre.take (i := k - 1 - r) o (by rw [← hk1]; exact hf) hi
              rw [e1] at this; exact this) hc'a qs2 (by omega) hP hp h9 hf1 hcnt hinv'
            refine ⟨N1, f1, ?_, ?_⟩
            · rw [if_pos (nI_le qs (by omega)), pk_sub qs, pk_sub (show g (p (k - 1 - r)) ≤ rsum g k p (r + 1) by omega), nI_1, show k - (r + 1) + 1 = k - r by omega, show W - 2 * sw g kn c - 2 * g (p (k - 1 - r)) = W - 2 * sw g kn (c ||| 2 ^ p (k - 1 - r)) by omega, show rsum g k p (r + 1) - g (p (k - 1 - r)) = rsum g k p r by omega, t1, Option.bind_some]
            · exact t2.congr (fun s => by rw [if_pos qs2])
          · have qs2 : ¬ 2 * sw g kn (c ||| 2 ^ p (k - 1 - r)) ≤ W := by omega
            obtain ⟨P, p1, p2, p3⟩ := putP hp (s := c ||| 2 ^ p (k - 1 - r)) (by omega)
            have hnew : pb M (c ||| 2 ^ p (k - 1 - r)) = false := by
              cases hx : pb M (c ||| 2 ^ p (k - 1 - r)) with
              | false => rfl
              | true =>
                obtain ⟨j, -, j2, j3⟩ := hinv' _ (by omega) hx
                rw [j3] at j2; cases j2
            refine ⟨sI P 254 9 (nI (f + 1)), f + 1, ?_, ?_⟩
            · rw [if_neg (ifle_no (show W - 2 * sw g kn c < 2 * g (p (k - 1 - r)) by omega) (by omega)), p1, Option.bind_some, p2, h9, nI_1]
            · refine TkP.congr (E := fun s => s = c ||| 2 ^ p (k - 1 - r)) ?_ (fun s => by rw [if_neg qs2])
              refine ⟨fun d hd => by rw [sI_off _ _ _ _ hd, p2], fun y hy => by rw [sI_1, if_neg (by omega), p2], by rw [sI_1, if_pos ⟨rfl, rfl⟩], by omega, by omega, ?_, fun s hs => (p3 s).mpr (Or.inl hs), fun s hs => ?_, fun _ s hs => (p3 s).mpr (Or.inr hs)⟩
              · rw [show pb (sI P 254 9 (nI (f + 1))) = pb P from funext (fun s => pb_keep rfl s), cnt_put p3 hnew _ (by omega), hcnt]
              · exact (p3 s).mp hs
        obtain ⟨N1, f1, g0, g1, g2, g3, g4, g5, g6, g7, g8, g9⟩ := first
        have hP1 : PlcX N1 g k p := ⟨by rw [g2 8 (by decide)]; exact hP.1, fun i hi => by rw [g1 261 (by decide), g1 262 (by decide)]; exact hP.2 i hi⟩
        obtain ⟨N2, f2, t1, d1, d2, d3, d4, d5, d6, d7, d8, d9⟩ := ih r c f1 N1 (by omega) (by omega) (by
          have := Fre.next (i := k - 1 - r) (by rw [← hk1]; exact hf)
          rw [e1] at this; exact this) hca hcW (by omega) hP1 (PS.keep2 hp (g1 255 (by decide))) g3 g5 g6 (fun t ht hk => by
          rcases g8 t hk with q | q
          · obtain ⟨j, j1, j2, j3⟩ := hinv t ht q
            exact ⟨j, by omega, j2, j3⟩
          · refine ⟨k - 1 - r, by omega, ?_, hcb⟩
            by_cases qs2 : 2 * sw g kn (c ||| 2 ^ p (k - 1 - r)) ≤ W
            · rw [if_pos qs2] at q
              exact Es_sup _ _ _ q _ (by rw [or_tb]; simp)
            · rw [if_neg qs2] at q
              rw [q, or_tb]; simp)
        refine ⟨N2, f2, ?_, fun d hd => by rw [d1 d hd, g1 d hd], fun y hy => by rw [d2 y hy, g2 y hy], d3, by omega, d5, d6, fun s hs => d7 s (g7 s hs), fun s hs => ?_, fun q s hs => ?_⟩
        · rw [f_X3_takeStrong, hq1, Option.bind_some, if_neg q0, if_neg (nI_pos (by omega)), hP.1, if_neg (ifle_no (show k - (r + 1) < k by omega) (by omega)), if_neg (show ¬ (16 : Int32) ≤ nI (k - (r + 1)) from ifle_no (c := 16) (by omega) (by decide)), if_neg one_ne, h9, if_pos (show nI f ≤ (120 : Int32) from nI_le (b := 120) qf (by decide)), if_pos (inB_nI (show k - (r + 1) < 16 by omega) (by decide)), if_pos (inB_nI (show k - (r + 1) < 16 by omega) (by decide)), nI_clamp (show k - (r + 1) < 2 ^ 31 by omega), hcell'.1, hcell'.2, g0, Option.bind_some, nI_1, show k - (r + 1) + 1 = k - r by omega, pk_sub (show g (p (k - 1 - r)) ≤ rsum g k p (r + 1) by omega), show rsum g k p (r + 1) - g (p (k - 1 - r)) = rsum g k p r by omega, t1, Option.bind_some]
        · rcases d8 s hs with q | q
          · rcases g8 s q with q | q
            · exact Or.inl q
            · exact Or.inr (Or.inl q)
          · exact Or.inr (Or.inr q)
        · rcases hs with hs | hs
          · exact d7 s (g9 (by omega) s hs)
          · exact d9 q s hs
      · refine ⟨M, f, ?_, same _ (fun q => absurd q qf)⟩
        rw [f_X3_takeStrong, hq1, Option.bind_some, if_neg q0, if_neg (nI_pos (by omega)), hP.1, if_neg (ifle_no (show k - (r + 1) < k by omega) (by omega)), if_neg (show ¬ (16 : Int32) ≤ nI (k - (r + 1)) from ifle_no (c := 16) (by omega) (by decide)), if_neg one_ne, h9, if_neg (show ¬ nI f ≤ (120 : Int32) from nI_ge (a := 120) (by omega) (by omega))]
