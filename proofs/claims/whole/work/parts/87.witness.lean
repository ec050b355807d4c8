def pr (c : Nat) : Nat → Nat := psum (fun t => c - 1 - t)
theorem psum_mono {p : Nat → Nat} {i j : Nat} (h : i ≤ j) : psum p i ≤ psum p j := by
  induction j with
  | zero => have : i = 0 := by omega
            rw [this]; exact Nat.le_refl _
  | succ j ih =>
    by_cases e : i = j + 1
    · rw [e]; exact Nat.le_refl _
    · have := ih (by omega)
      show psum p i ≤ psum p j + p j
      omega
theorem pr_all : ∀ c, c ≤ 120 → pr c c ≤ 7140 ∧ 2 * pr c c = c * (c - 1) := by decide +kernel
theorem pr_s (c i : Nat) : pr c (i + 1) = pr c i + (c - 1 - i) := rfl
theorem pr_b {c i : Nat} (hc : c ≤ 120) (hi : i < c) : pr c i + (c - 1 - i) ≤ 7140 := by
  have h1 := (pr_all c hc).1
  have h2 : pr c (i + 1) ≤ pr c c := psum_mono hi
  rw [pr_s] at h2
  omega
theorem pr_ix {c : Nat} : ∀ n x, n ≤ c → x < pr c n → ∃ i j, i < j ∧ j < c ∧ i < n ∧ x = pr c i + (j - i - 1) := by
  intro n
  induction n with
  | zero => intro x _ h; exact absurd h (Nat.not_lt_zero _)
  | succ n ih =>
    intro x hn h
    by_cases e : x < pr c n
    · obtain ⟨i, j, h1, h2, h3, h4⟩ := ih x (by omega) e
      exact ⟨i, j, h1, h2, by omega, h4⟩
    · rw [pr_s] at h
      exact ⟨n, n + 1 + (x - pr c n), by omega, by omega, by omega, by omega⟩
def lv (s : Nat) : Int32 := (f_X8_leastKeeper (nI s)).getD 0
theorem lv_some {s : Nat} (hs : s < 65536) : f_X8_leastKeeper (nI s) = some (lv s) := by
  unfold lv
  by_cases h : s = 0
  · subst h
    unfold f_X8_leastKeeper
    rw [if_pos (show nI 0 = 0 from rfl)]
    rfl
  · obtain ⟨k, hk, h1, h2⟩ := low_bit h (n := 16) hs
    rw [leastK (by omega) h1 h2]
    rfl
theorem lv_0 : lv 0 = -1 := rfl
theorem lv_k {s k : Nat} (hs : s < 65536) (h1 : s.testBit k = true) (h2 : ∀ j, j < k → s.testBit j = false) : lv s = nI k := by
  unfold lv
  rw [leastK (by omega) h1 h2]
  rfl
theorem and_lt16 {a b : Nat} (h : b < 65536) : a &&& b < 65536 := Nat.and_lt_two_pow (n := 16) a h
theorem wr_l2 {M : Mem} {f c i : Nat} {q : Nat → Nat} (hx : QX M f c q) (hq : ∀ i, i < c → q i < 65536) (hi : i < c) {n0 : Nat} (h0 : M.1 252 0 = nI n0) (hn : n0 + (c - 1 - i) ≤ 7140) :
    ∃ N, f_X8_write_l2 (264 + 2 * f) (nI i) fuelN (nI (i + 1)) M = some N ∧ (∀ d, d ≠ 252 → d ≠ 253 → N.1 d = M.1 d) ∧ N.1 252 0 = nI (n0 + (c - 1 - i)) ∧ (∀ x, x < n0 → N.1 253 x = M.1 253 x) ∧ ∀ j, i < j → j < c → N.1 253 (n0 + (j - i - 1)) = lv (q i &&& q j) := by
  have hc := hx.2.1
  have hf := hx.1
  have HH := loop_go (F := fun n v N => f_X8_write_l2 (264 + 2 * f) (nI i) n v N) c (by omega) (fun j N => i < j ∧ (∀ d, d ≠ 252 → d ≠ 253 → N.1 d = M.1 d) ∧ N.1 252 0 = nI (n0 + (j - i - 1)) ∧ (∀ x, x < n0 → N.1 253 x = M.1 253 x) ∧ ∀ j', i < j' → j' < j → N.1 253 (n0 + (j' - i - 1)) = lv (q i &&& q j'))
    (fun N => (∀ d, d ≠ 252 → d ≠ 253 → N.1 d = M.1 d) ∧ N.1 252 0 = nI (n0 + (c - 1 - i)) ∧ (∀ x, x < n0 → N.1 253 x = M.1 253 x) ∧ ∀ j, i < j → j < c → N.1 253 (n0 + (j - i - 1)) = lv (q i &&& q j)) ?_ ?_ (i + 1) M (by omega) ⟨by omega, fun _ _ _ => rfl, by rw [h0]; congr 1; omega, fun _ _ => rfl, fun j' h1 h2 => by omega⟩
  · exact HH
  · intro n N h
    refine ⟨N, ?_, h.2.1, by rw [h.2.2.1]; congr 1; omega, h.2.2.2.1, h.2.2.2.2⟩
    show f_X8_write_l2 (264 + 2 * f) (nI i) (n + 1) (nI c) N = _
    rw [f_X8_write_l2, h.2.1 _ (by omega) (by omega), hx.2.2.1, if_pos (Int32.le_refl _)]
  · intro n j N hj h
    obtain ⟨g1, g2, g3, g4, g5⟩ := h
    left
    refine ⟨sI (sI N 253 (n0 + (j - i - 1)) (lv (q i &&& q j))) 252 0 (nI (n0 + (j + 1 - i - 1))), ⟨by omega, fun d q1 q2 => ?_, ?_, fun x hx => ?_, fun j' h1 h2 => ?_⟩, ?_⟩
    · rw [sI_off _ _ _ _ q1, sI_off _ _ _ _ q2]; exact g2 d q1 q2
    · rw [sI_1, if_pos ⟨rfl, rfl⟩]
    · rw [sI_off _ _ _ _ (by decide), sI_1, if_neg (by omega)]; exact g4 x hx
    · rw [sI_off _ _ _ _ (by decide), sI_1]
      by_cases e : j' = j
      · rw [if_pos ⟨rfl, by rw [e]⟩, e]
      · rw [if_neg (by omega)]; exact g5 j' h1 (by omega)
    · show f_X8_write_l2 (264 + 2 * f) (nI i) (n + 1) (nI j) N = _
      rw [f_X8_write_l2, g2 (264 + 2 * f) (by omega) (by omega), g2 (264 + 2 * f + 1) (by omega) (by omega), hx.2.2.1, if_neg (ifle_no hj (by omega)), g3, if_neg (show ¬ (7140 : Int32) ≤ nI (n0 + (j - i - 1)) from ifle_no (show n0 + (j - i - 1) < 7140 by omega) (by decide)), if_pos (inB_nI (show i < 120 by omega) (by decide)), if_pos (inB_nI (show j < 120 by omega) (by decide)), nI_clamp (show i < 2 ^ 31 by omega), nI_clamp (show j < 2 ^ 31 by omega), hx.2.2.2 i hi, hx.2.2.2 j hj, nx_and, lv_some (and_lt16 (hq j hj)), Option.bind_some, if_pos (inB_nI (show n0 + (j - i - 1) < 7140 by omega) (by decide)), nI_clamp (show n0 + (j - i - 1) < 2 ^ 31 by omega), nI_1, nI_1, show n0 + (j - i - 1) + 1 = n0 + (j + 1 - i - 1) by omega]
theorem writeX {M : Mem} {f c : Nat} {q : Nat → Nat} (hx : QX M f c q) (hq : ∀ i, i < c → q i < 65536) :
    ∃ N, f_X8_write (264 + 2 * f) M = some N ∧ (∀ d, d ≠ 252 → d ≠ 253 → N.1 d = M.1 d) ∧ N.1 252 0 = nI (pr c c) ∧ ∀ i j, i < j → j < c → N.1 253 (pr c i + (j - i - 1)) = lv (q i &&& q j) := by
  have hc := hx.2.1
  have hf := hx.1
  have HH := loop_go (F := fun n v N => f_X8_write_l1 (264 + 2 * f) n v N) c (by omega) (fun i N => (∀ d, d ≠ 252 → d ≠ 253 → N.1 d = M.1 d) ∧ N.1 252 0 = nI (pr c i) ∧ ∀ i' j, i' < i → i' < j → j < c → N.1 253 (pr c i' + (j - i' - 1)) = lv (q i' &&& q j))
    (fun N => (∀ d, d ≠ 252 → d ≠ 253 → N.1 d = M.1 d) ∧ N.1 252 0 = nI (pr c c) ∧ ∀ i j, i < j → j < c → N.1 253 (pr c i + (j - i - 1)) = lv (q i &&& q j)) ?_ ?_ 0 (sI M 252 0 0) (by omega) ⟨fun d q1 q2 => sI_off _ _ _ _ q1, by rw [sI_1, if_pos ⟨rfl, rfl⟩]; rfl, fun i' j h1 h2 => by omega⟩
  · obtain ⟨N, e, h⟩ := HH
    have e : f_X8_write_l1 (264 + 2 * f) fuelN 0 (sI M 252 0 0) = some N := e
    unfold f_X8_write
    rw [if_pos (kX_fam hf), e]
    exact ⟨N, rfl, h⟩
  · intro n N h
    refine ⟨N, ?_, h.1, h.2.1, fun i j h1 h2 => h.2.2 i j (by omega) h1 h2⟩
    show f_X8_write_l1 (264 + 2 * f) (n + 1) (nI c) N = _
    rw [f_X8_write_l1, h.1 _ (by omega) (by omega), hx.2.2.1, if_pos (Int32.le_refl _)]
  · intro n i N hi h
    left
    have hxN : QX N f c q := by
      unfold QX at *
      rw [h.1 (264 + 2 * f) (by omega) (by omega), h.1 (264 + 2 * f + 1) (by omega) (by omega)]
      exact hx
    obtain ⟨P, p1, p2, p3, p4, p5⟩ := wr_l2 hxN hq hi h.2.1 (pr_b hc hi)
    refine ⟨P, ⟨fun d q1 q2 => by rw [p2 d q1 q2, h.1 d q1 q2], by rw [p3, pr_s], fun i' j h1 h2 h3 => ?_⟩, ?_⟩
    · by_cases e : i' = i
      · rw [e] at h2 ⊢; exact p5 j h2 h3
      · have hm : pr c (i' + 1) ≤ pr c i := psum_mono (by omega)
        rw [pr_s] at hm
        rw [p4 _ (by omega)]
        exact h.2.2 i' j (by omega) h2 h3
    · show f_X8_write_l1 (264 + 2 * f) (n + 1) (nI i) N = _
      rw [f_X8_write_l1, hxN.2.2.1, if_neg (ifle_no hi (by omega)), nI_1, p1]
      rfl
theorem wit_l3 {s : Nat} (hs : s < 65536) (a b c : Int32) (M : Mem) : ∃ r, f_X11_witness_l3 a b c (nI s) M fuelN 0 = some r ∧ (if (16 : Int32) ≤ r then some (-1 : Int32) else some r) = some (lv s) := by
  have HH := loop_go (F := fun n v (_ : Unit) => f_X11_witness_l3 a b c (nI s) M n v) 16 (by omega) (fun i _ => ∀ j, j < i → s.testBit j = false) (fun r => (if (16 : Int32) ≤ r then some (-1 : Int32) else some r) = some (lv s)) ?_ ?_ 0 () (by omega) (fun j hj => by omega)
  · exact HH
  · intro n _ h
    refine ⟨nI 16, ?_, ?_⟩
    · show f_X11_witness_l3 a b c (nI s) M (n + 1) (nI 16) = _
      rw [f_X11_witness_l3, if_pos (by decide)]
    · have : s = 0 := Classical.byContradiction fun q => by
        obtain ⟨k, hk, h1, h2⟩ := low_bit q (n := 16) hs
        rw [h k hk] at h1; cases h1
      rw [this, lv_0, if_pos (by decide)]
  · intro n i _ hi h
    show (∃ s', _ ∧ f_X11_witness_l3 a b c (nI s) M (n + 1) (nI i) = f_X11_witness_l3 a b c (nI s) M n (nI (i + 1))) ∨ ∃ r, f_X11_witness_l3 a b c (nI s) M (n + 1) (nI i) = some r ∧ _
    rw [f_X11_witness_l3, if_neg (show ¬ (16 : Int32) ≤ nI i from ifle_no hi (by decide)), bit_ (by omega) (by omega), nI_1]
    cases hb : s.testBit i with
    | false =>
      left
      refine ⟨(), fun j hj => ?_, by rw [if_pos (show (if false = true then (1 : Int32) else 0) = 0 from rfl)]⟩
      by_cases e : j = i
      · rw [e]; exact hb
      · exact h j (by omega)
    | true =>
      right
      refine ⟨nI i, by rw [if_neg (show ¬ (if true = true then (1 : Int32) else 0) = 0 from one_ne)], ?_⟩
      rw [if_neg (show ¬ (16 : Int32) ≤ nI i from ifle_no hi (by decide)), lv_k hs hb h]
theorem wy_l2 {M : Mem} {f c i : Nat} {q : Nat → Nat} (hy : QY M f c q) (hq : ∀ i, i < c → q i < 65536) (hi : i < c) {n0 : Nat} (h0 : M.1 0 18 = nI n0) (hn : n0 + (c - 1 - i) ≤ 7140) :
    ∃ N, f_X11_witness_l2 (nI f) (nI i) fuelN (nI (i + 1)) M = some N ∧ ((∀ d, d ≠ 0 → d ≠ 12 → N.1 d = M.1 d) ∧ ∀ x, x ≠ 18 → N.1 0 x = M.1 0 x) ∧ N.1 0 18 = nI (n0 + (c - 1 - i)) ∧ (∀ x, x < n0 → N.1 12 x = M.1 12 x) ∧ ∀ j, i < j → j < c → N.1 12 (n0 + (j - i - 1)) = lv (q i &&& q j) := by
  have hc := hy.2.1
  have hf := hy.1
  have HH := loop_go (F := fun n v N => f_X11_witness_l2 (nI f) (nI i) n v N) c (by omega) (fun j N => i < j ∧ ((∀ d, d ≠ 0 → d ≠ 12 → N.1 d = M.1 d) ∧ ∀ x, x ≠ 18 → N.1 0 x = M.1 0 x) ∧ N.1 0 18 = nI (n0 + (j - i - 1)) ∧ (∀ x, x < n0 → N.1 12 x = M.1 12 x) ∧ ∀ j', i < j' → j' < j → N.1 12 (n0 + (j' - i - 1)) = lv (q i &&& q j'))
    (fun N => ((∀ d, d ≠ 0 → d ≠ 12 → N.1 d = M.1 d) ∧ ∀ x, x ≠ 18 → N.1 0 x = M.1 0 x) ∧ N.1 0 18 = nI (n0 + (c - 1 - i)) ∧ (∀ x, x < n0 → N.1 12 x = M.1 12 x) ∧ ∀ j, i < j → j < c → N.1 12 (n0 + (j - i - 1)) = lv (q i &&& q j)) ?_ ?_ (i + 1) M (by omega) ⟨by omega, ⟨fun _ _ _ => rfl, fun _ _ => rfl⟩, by rw [h0]; congr 1; omega, fun _ _ => rfl, fun j' h1 h2 => by omega⟩
  · exact HH
  · intro n N h
    refine ⟨N, ?_, h.2.1, by rw [h.2.2.1]; congr 1; omega, h.2.2.2.1, h.2.2.2.2⟩
    show f_X11_witness_l2 (nI f) (nI i) (n + 1) (nI c) N = _
    rw [f_X11_witness_l2, if_pos (inB_nI hf (by decide)), nI_clamp (show f < 2 ^ 31 by omega), h.2.1.1 6 (by omega) (by omega), hy.2.2.1, if_pos (Int32.le_refl _)]
  · intro n j N hj h
    obtain ⟨g1, g2, g3, g4, g5⟩ := h
    left
    have hyN : QY N f c q := QY_ag hy (g2.1 6 (by omega) (by omega)) (g2.1 7 (by omega) (by omega))
    obtain ⟨r, r1, r2⟩ := wit_l3 (s := q i &&& q j) (and_lt16 (hq j hj)) (nI f) (nI i) (nI j) N
    refine ⟨sI (sI N 12 (n0 + (j - i - 1)) (lv (q i &&& q j))) 0 18 (nI (n0 + (j + 1 - i - 1))), ⟨by omega, ⟨fun d q1 q2 => ?_, fun x hx => ?_⟩, ?_, fun x hx => ?_, fun j' h1 h2 => ?_⟩, ?_⟩
    · rw [sI_off _ _ _ _ q1, sI_off _ _ _ _ q2]; exact g2.1 d q1 q2
    · rw [sI_1, if_neg (by omega), sI_off _ _ _ _ (by decide)]; exact g2.2 x hx
    · rw [sI_1, if_pos ⟨rfl, rfl⟩]
    · rw [sI_off _ _ _ _ (by decide), sI_1, if_neg (by omega)]; exact g4 x hx
    · rw [sI_off _ _ _ _ (by decide), sI_1]
      by_cases e : j' = j
      · rw [if_pos ⟨rfl, by rw [e]⟩, e]
      · rw [if_neg (by omega)]; exact g5 j' h1 (by omega)
    · show f_X11_witness_l2 (nI f) (nI i) (n + 1) (nI j) N = _
      rw [f_X11_witness_l2, if_pos (inB_nI hf (by decide)), nI_clamp (show f < 2 ^ 31 by omega), hyN.2.2.1, if_neg (ifle_no hj (by omega)), hyN.at hi, hyN.at hj, Option.bind_some, Option.bind_some, nx_and, r1, Option.bind_some, r2, Option.bind_some, g3, if_pos (inB_nI (show n0 + (j - i - 1) < 7140 by omega) (by decide)), nI_clamp (show n0 + (j - i - 1) < 2 ^ 31 by omega), nI_1, nI_1, show n0 + (j - i - 1) + 1 = n0 + (j + 1 - i - 1) by omega]
theorem writeY {M : Mem} {f c : Nat} {q : Nat → Nat} (hy : QY M f c q) (hq : ∀ i, i < c → q i < 65536) (h0 : M.1 0 18 = 0) :
    ∃ N, f_X11_witness_l1 (nI f) fuelN 0 M = some N ∧ ((∀ d, d ≠ 0 → d ≠ 12 → N.1 d = M.1 d) ∧ ∀ x, x ≠ 18 → N.1 0 x = M.1 0 x) ∧ N.1 0 18 = nI (pr c c) ∧ ∀ i j, i < j → j < c → N.1 12 (pr c i + (j - i - 1)) = lv (q i &&& q j) := by
  have hc := hy.2.1
  have hf := hy.1
  have HH := loop_go (F := fun n v N => f_X11_witness_l1 (nI f) n v N) c (by omega) (fun i N => ((∀ d, d ≠ 0 → d ≠ 12 → N.1 d = M.1 d) ∧ ∀ x, x ≠ 18 → N.1 0 x = M.1 0 x) ∧ N.1 0 18 = nI (pr c i) ∧ ∀ i' j, i' < i → i' < j → j < c → N.1 12 (pr c i' + (j - i' - 1)) = lv (q i' &&& q j))
    (fun N => ((∀ d, d ≠ 0 → d ≠ 12 → N.1 d = M.1 d) ∧ ∀ x, x ≠ 18 → N.1 0 x = M.1 0 x) ∧ N.1 0 18 = nI (pr c c) ∧ ∀ i j, i < j → j < c → N.1 12 (pr c i + (j - i - 1)) = lv (q i &&& q j)) ?_ ?_ 0 M (by omega) ⟨⟨fun _ _ _ => rfl, fun _ _ => rfl⟩, h0, fun i' j h1 h2 => by omega⟩
  · exact HH
  · intro n N h
    refine ⟨N, ?_, h.1, h.2.1, fun i j h1 h2 => h.2.2 i j (by omega) h1 h2⟩
    show f_X11_witness_l1 (nI f) (n + 1) (nI c) N = _
    rw [f_X11_witness_l1, if_pos (inB_nI hf (by decide)), nI_clamp (show f < 2 ^ 31 by omega), h.1.1 6 (by omega) (by omega), hy.2.2.1, if_pos (Int32.le_refl _)]
  · intro n i N hi h
    left
    have hyN : QY N f c q := QY_ag hy (h.1.1 6 (by omega) (by omega)) (h.1.1 7 (by omega) (by omega))
    obtain ⟨P, p1, p2, p3, p4, p5⟩ := wy_l2 hyN hq hi h.2.1 (pr_b hc hi)
    refine ⟨P, ⟨⟨fun d q1 q2 => by rw [p2.1 d q1 q2, h.1.1 d q1 q2], fun x hx => by rw [p2.2 x hx, h.1.2 x hx]⟩, by rw [p3, pr_s], fun i' j h1 h2 h3 => ?_⟩, ?_⟩
    · by_cases e : i' = i
      · rw [e] at h2 ⊢; exact p5 j h2 h3
      · have hm : pr c (i' + 1) ≤ pr c i := psum_mono (by omega)
        rw [pr_s] at hm
        rw [p4 _ (by omega)]
        exact h.2.2 i' j (by omega) h2 h3
    · show f_X11_witness_l1 (nI f) (n + 1) (nI i) N = _
      rw [f_X11_witness_l1, if_pos (inB_nI hf (by decide)), nI_clamp (show f < 2 ^ 31 by omega), hyN.2.2.1, if_neg (ifle_no hi (by omega)), nI_1, p1]
      rfl
theorem step_witness : St_witness Rel := by
  intro a M1 M2 H
  have Hn := Rel_no H 1
  obtain ⟨z, h, hC, hL, hS, hs⟩ := id H
  obtain ⟨h1, h2, h3, h4, -⟩ := id hC
  have hI := h4.inv
  have hf := hI.2.1
  unfold f_X10_witness f_X11_witness
  rcases pk_ix a (n := zFn z) (by omega) with ha | ha | ⟨f, hfz, rfl⟩
  · rw [famAt_no h1.2.1.1 (Or.inl ha), isFam_no (by rw [fn5]; exact h2.2.1.1) hf.1 (Or.inl ha)]; exact ⟨_, _, rfl, rfl, rfl, Hn⟩
  · rw [famAt_no h1.2.1.1 (Or.inr ha), isFam_no (by rw [fn5]; exact h2.2.1.1) hf.1 (Or.inr ha)]; exact ⟨_, _, rfl, rfl, rfl, Hn⟩
  rw [famAt_yes h1.2.1.1 hf.1 hfz, isFam_yes (by rw [fn5]; exact h2.2.1.1) hf.1 hfz]
  obtain ⟨-, c1, c2, c3⟩ := hf.2 f hfz
  have hq : ∀ i, i < zCnt (zFm z) f → zSet (zFm z) f i < 65536 := fun i hi => by
    have := (c3 i hi).2
    have := p16 hI.1.1
    omega
  have qx := QX_of hI h1.2.1 hfz
  have qy : QY (sI (sI (sI M2 0 5 0) 0 4 0) 0 18 0) f (zCnt (zFm z) f) (zSet (zFm z) f) := QY_ag (QY_of hI h2.2.1 hfz) (by rw [sI_off _ _ _ _ (by decide), sI_off _ _ _ _ (by decide), sI_off _ _ _ _ (by decide)]) (by rw [sI_off _ _ _ _ (by decide), sI_off _ _ _ _ (by decide), sI_off _ _ _ _ (by decide)])
  obtain ⟨N, n1, n2, n3, n4⟩ := writeX qx hq
  obtain ⟨P, p1, p2, p3, p4⟩ := writeY qy hq (by rw [sI_1, if_pos ⟨rfl, rfl⟩])
  simp only [Option.bind_some, oel, if_pos (kX_fam qx.1), if_neg one_ne, n1, p1, f_X10_accept]
  refine ⟨_, _, rfl, rfl, by show N.1 252 0 = P.1 0 18; rw [n3, p3], ?_⟩
  have P0 : ∀ x, x ≠ 4 → x ≠ 5 → x ≠ 18 → P.1 0 x = M2.1 0 x := fun x a b c => by rw [p2.2 x c, sI_1, if_neg (by omega), sI_1, if_neg (by omega), sI_1, if_neg (by omega)]
  have PO : ∀ d, d ≠ 0 → d ≠ 12 → P.1 d = M2.1 d := fun d a b => by rw [p2.1 d a b, sI_off _ _ _ _ a, sI_off _ _ _ _ a, sI_off _ _ _ _ a]
  refine ⟨z, h, Core_ag hC ⟨?_, fun c hc => ?_⟩ ⟨⟨P0 3 (by decide) (by decide) (by decide), P0 11 (by decide) (by decide) (by decide), P0 13 (by decide) (by decide) (by decide), P0 20 (by decide) (by decide) (by decide)⟩, fun c hc => PO c (by omega) (by omega)⟩, ListR_ag hL ?_ ?_ (P0 7 (by decide) (by decide) (by decide)) (PO 4 (by decide) (by decide)), ⟨pr (zCnt (zFm z) f) (zCnt (zFm z) f), (pr_all _ c2).1, ?_, p3, fun x hx => ?_⟩, ?_⟩
  · rw [sI_1, if_neg (by decide), n2 0 (by decide) (by decide)]
  · rw [sI_off _ _ _ _ (by omega), n2 c (by omega) (by omega)]
  · rw [sI_1, if_neg (by decide), n2 0 (by decide) (by decide)]
  · rw [sI_off _ _ _ _ (by decide), n2 6 (by decide) (by decide)]
  · rw [sI_off _ _ _ _ (by decide)]; exact n3
  · obtain ⟨i, j, g1, g2, -, rfl⟩ := pr_ix _ x (Nat.le_refl _) hx
    rw [sI_off _ _ _ _ (by decide), n4 i j g1 g2, p4 i j g1 g2]
  · rw [st_X, p2.2 4 (by decide), sI_1, if_neg (by decide), sI_1, if_pos ⟨rfl, rfl⟩]
