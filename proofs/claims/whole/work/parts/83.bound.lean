def ws (w : Nat → Nat) (s : Nat) : Nat → Nat := fun k => if s.testBit k then w k else 0
theorem ws_le {w : Nat → Nat} {kn s : Nat} (hkn : kn ≤ 16) (hw : ∀ k, k < kn → w k ≤ 1000) : psum (ws w s) kn ≤ 16000 := by
  have h1 := psum_le (p := ws w s) (b := 1000) kn (fun i hi => by
    unfold ws
    have := hw i hi
    split <;> omega)
  omega
theorem sumOfX {M : Mem} {t kn s : Nat} {w : Nat → Nat} (ht : kX t = 1016) (hkn : kn ≤ 16) (hs : s < 2 ^ kn) (hw : ∀ k, k < kn → M.1 t k = nI (w k)) : f_X5_sumOf t (nI s) M = some (nI (psum (ws w s) kn)) := by
  have hp := p16 hkn
  have e16 : psum (ws w s) 16 = psum (ws w s) kn := psum_stop hkn (fun k h1 h2 => by
    unfold ws
    rw [tb_hi hs h1]; rfl)
  rw [← e16]
  have HH := loop_go (F := fun n v x => f_X5_sumOf_l1 t (nI s) M n x v) 16 (by omega) (fun i x => x = nI (psum (ws w s) i)) (fun r => r = nI (psum (ws w s) 16)) ?_ ?_ 0 0 (by omega) rfl
  · obtain ⟨r, e, rfl⟩ := HH
    have e : f_X5_sumOf_l1 t (nI s) M fuelN 0 0 = _ := e
    unfold f_X5_sumOf
    rw [if_pos ht, e]
    rfl
  · intro n x hx
    refine ⟨x, ?_, hx⟩
    show f_X5_sumOf_l1 t (nI s) M (n + 1) x (nI 16) = _
    rw [f_X5_sumOf_l1, if_pos (by decide)]
  · intro n i x hi hx
    left
    refine ⟨nI (psum (ws w s) (i + 1)), rfl, ?_⟩
    show f_X5_sumOf_l1 t (nI s) M (n + 1) x (nI i) = _
    have es : psum (ws w s) (i + 1) = psum (ws w s) i + ws w s i := rfl
    have h16 : ¬ (16 : Int32) ≤ nI i := ifle_no hi (by decide)
    rw [f_X5_sumOf_l1, if_neg h16, if_neg h16, bit_ (by omega) (by omega), hx, nI_1, es]
    unfold ws
    by_cases hb : s.testBit i
    · have hik : i < kn := Nat.not_le.mp fun h => by rw [tb_hi hs h] at hb; cases hb
      rw [if_pos hb, if_pos hb, if_neg one_ne, if_pos (inB_nI hi (by decide)), nI_clamp (show i < 2 ^ 31 by omega), hw i hik, Option.bind_some, nI_add]
    · rw [if_neg hb, if_neg hb, if_pos rfl, Option.bind_some]; rfl
theorem weightOfX {M : Mem} {kn s : Nat} {w : Nat → Nat} (hkn : kn ≤ 16) (hs : s < 2 ^ kn) (hw : ∀ k, k < kn → M.1 4 k = nI (w k)) : f_X5_weightOf (nI s) M = some (nI (psum (ws w s) kn)) := by
  unfold f_X5_weightOf
  rw [sumOfX (t := 4) rfl hkn hs hw, Option.bind_some]
theorem wtsX {M : Mem} {kn : Nat} {w s : Nat → Nat} (hkn : kn ≤ 16) (h0 : M.1 1 0 = nI kn) (hw : ∀ k, k < kn → M.1 4 k = nI (w k)) (hs : ∀ k, k < kn → M.1 2 k = nI (s k)) : f_X5_weightTimesStrength M = some (nI (psum (fun k => w k * s k) kn)) := by
  have HH := loop_go (F := fun n v x => f_X5_weightTimesStrength_l1 M n x v) kn (by omega) (fun i x => x = nI (psum (fun k => w k * s k) i)) (fun r => r = nI (psum (fun k => w k * s k) kn)) ?_ ?_ 0 0 (by omega) rfl
  · obtain ⟨r, e, rfl⟩ := HH
    have e : f_X5_weightTimesStrength_l1 M fuelN 0 0 = _ := e
    unfold f_X5_weightTimesStrength
    rw [e]
    rfl
  · intro n x hx
    refine ⟨x, ?_, hx⟩
    show f_X5_weightTimesStrength_l1 M (n + 1) x (nI kn) = _
    rw [f_X5_weightTimesStrength_l1, h0, if_pos (Int32.le_refl _)]
  · intro n i x hi hx
    left
    refine ⟨nI (psum (fun k => w k * s k) (i + 1)), rfl, ?_⟩
    show f_X5_weightTimesStrength_l1 M (n + 1) x (nI i) = _
    rw [f_X5_weightTimesStrength_l1, h0, if_neg (ifle_no hi (by omega)), if_neg (show ¬ (16 : Int32) ≤ nI i from ifle_no (show i < 16 by omega) (by decide)), if_pos (inB_nI (show i < 16 by omega) (by decide)), if_pos (inB_nI (show i < 16 by omega) (by decide)), nI_clamp (show i < 2 ^ 31 by omega), hw i hi, hs i hi, pk_mul, hx, nI_add, nI_1]
    rfl
theorem wtsY {M : Mem} {kn : Nat} {w s : Nat → Nat} (a : Int32) (hkn : kn ≤ 16) (h0 : M.1 0 3 = nI kn) (hw : ∀ k, k < kn → M.1 3 k = nI (w k)) (hs : ∀ k, k < kn → M.1 1 k = nI (s k)) : f_X11_boundOf_l1 a M fuelN 0 0 = some (nI (psum (fun k => w k * s k) kn)) := by
  have HH := loop_go (F := fun n v x => f_X11_boundOf_l1 a M n x v) kn (by omega) (fun i x => x = nI (psum (fun k => w k * s k) i)) (fun r => r = nI (psum (fun k => w k * s k) kn)) ?_ ?_ 0 0 (by omega) rfl
  · obtain ⟨r, e, rfl⟩ := HH
    exact e
  · intro n x hx
    refine ⟨x, ?_, hx⟩
    show f_X11_boundOf_l1 a M (n + 1) x (nI kn) = _
    rw [f_X11_boundOf_l1, h0, if_pos (Int32.le_refl _)]
  · intro n i x hi hx
    left
    refine ⟨nI (psum (fun k => w k * s k) (i + 1)), rfl, ?_⟩
    show f_X11_boundOf_l1 a M (n + 1) x (nI i) = _
    rw [f_X11_boundOf_l1, h0, if_neg (ifle_no hi (by omega)), if_pos (inB_nI (show i < 16 by omega) (by decide)), if_pos (inB_nI (show i < 16 by omega) (by decide)), nI_clamp (show i < 2 ^ 31 by omega), hw i hi, hs i hi, pk_mul, hx, nI_add, nI_1]
    rfl
theorem bl3 {M : Mem} {f c kn j : Nat} {q w : Nat → Nat} (a2 a3 : Int32) (hy : QY M f c q) (hkn : kn ≤ 16) (h0 : M.1 0 3 = nI kn) (hw : ∀ k, k < kn → M.1 3 k = nI (w k)) (hj : j < c) (hq : q j < 2 ^ kn) : f_X11_boundOf_l3 (nI f) a2 a3 (nI j) M fuelN 0 0 = some (nI (psum (ws w (q j)) kn)) := by
  have hp := p16 hkn
  have HH := loop_go (F := fun n v x => f_X11_boundOf_l3 (nI f) a2 a3 (nI j) M n x v) kn (by omega) (fun i x => x = nI (psum (ws w (q j)) i)) (fun r => r = nI (psum (ws w (q j)) kn)) ?_ ?_ 0 0 (by omega) rfl
  · obtain ⟨r, e, rfl⟩ := HH
    exact e
  · intro n x hx
    refine ⟨x, ?_, hx⟩
    show f_X11_boundOf_l3 (nI f) a2 a3 (nI j) M (n + 1) x (nI kn) = _
    rw [f_X11_boundOf_l3, h0, if_pos (Int32.le_refl _)]
  · intro n i x hi hx
    left
    refine ⟨nI (psum (ws w (q j)) (i + 1)), rfl, ?_⟩
    show f_X11_boundOf_l3 (nI f) a2 a3 (nI j) M (n + 1) x (nI i) = _
    have es : psum (ws w (q j)) (i + 1) = psum (ws w (q j)) i + ws w (q j) i := rfl
    rw [f_X11_boundOf_l3, h0, if_neg (ifle_no hi (by omega)), hy.at hj, Option.bind_some, bit_ (by omega) (by omega), hx, nI_1, es]
    unfold ws
    by_cases hb : (q j).testBit i
    · rw [if_pos hb, if_pos hb, if_pos rfl, if_pos (inB_nI (show i < 16 by omega) (by decide)), nI_clamp (show i < 2 ^ 31 by omega), hw i hi, Option.bind_some, nI_add]
    · rw [if_neg hb, if_neg hb, if_neg (by decide), Option.bind_some, show (0 : Int32) = nI 0 from rfl, nI_add]
def mnf (W : Nat → Nat) : Nat → Nat
  | 0 => 16000
  | i + 1 => if mnf W i ≤ W i then mnf W i else W i
theorem mnf_le (W : Nat → Nat) : ∀ i, mnf W i ≤ 16000 := by
  intro i
  induction i with
  | zero => exact Nat.le_refl _
  | succ i ih =>
    show (if mnf W i ≤ W i then mnf W i else W i) ≤ 16000
    split <;> omega
theorem boundsX {M : Mem} {f c kn : Nat} {q w s : Nat → Nat} (hx : QX M f c q) (hc : 1 ≤ c) (hkn : kn ≤ 16) (h0 : M.1 1 0 = nI kn) (hw : ∀ k, k < kn → M.1 4 k = nI (w k) ∧ w k ≤ 1000) (hs : ∀ k, k < kn → M.1 2 k = nI (s k) ∧ s k ≤ 100) (hq : ∀ i, i < c → q i < 2 ^ kn) :
    ∃ N, f_X10_reckonBound (264 + 2 * f) M = some N ∧ KeepX M N ∧ N.1 0 11 = M.1 0 11 ∧ (0 < psum (fun k => w k * s k) kn → N.1 263 0 = nI (frN (mnf (fun i => psum (ws w (q i)) kn) c) (psum (fun k => w k * s k) kn)) ∧ N.1 263 1 = nI (frD (mnf (fun i => psum (ws w (q i)) kn) c) (psum (fun k => w k * s k) kn))) ∧ (psum (fun k => w k * s k) kn = 0 → N.1 263 0 = 0 ∧ N.1 263 1 = 1) := by
  have hc120 := hx.2.1
  have hW : ∀ i, psum (ws w (q i)) kn ≤ 16000 := fun i => ws_le hkn (fun k hk => (hw k hk).2)
  have hT : psum (fun k => w k * s k) kn ≤ 1600000 := by
    have h1 := psum_le (p := fun k => w k * s k) (b := 100000) kn (fun k hk => Nat.mul_le_mul (hw k hk).2 (hs k hk).2)
    omega
  have HH := loop_go (F := fun n v x => f_X10_reckonBound_l1 (264 + 2 * f) M n x v) c (by omega) (fun i x => 1 ≤ i ∧ x = nI (mnf (fun i => psum (ws w (q i)) kn) i)) (fun r => r = nI (mnf (fun i => psum (ws w (q i)) kn) c)) ?_ ?_ 1 (nI (psum (ws w (q 0)) kn)) hc ⟨Nat.le_refl _, ?_⟩
  · obtain ⟨r, e, rfl⟩ := HH
    have e : f_X10_reckonBound_l1 (264 + 2 * f) M fuelN (nI (psum (ws w (q 0)) kn)) 1 = _ := e
    have hm := mnf_le (fun i => psum (ws w (q i)) kn) c
    obtain ⟨N, e2, r⟩ := becomeX (M := M) (l := mnf (fun i => psum (ws w (q i)) kn) c) (t := psum (fun k => w k * s k) kn) (by omega) (by omega)
    unfold f_X10_reckonBound
    rw [if_pos (kX_fam hx.1), hx.2.2.2 0 (by omega), weightOfX hkn (hq 0 (by omega)) (fun k hk => (hw k hk).1), Option.bind_some, e, Option.bind_some, wtsX hkn h0 (fun k hk => (hw k hk).1) (fun k hk => (hs k hk).1), Option.bind_some, e2]
    exact ⟨N, rfl, r⟩
  · intro n x hx2
    refine ⟨x, ?_, hx2.2⟩
    show f_X10_reckonBound_l1 (264 + 2 * f) M (n + 1) x (nI c) = _
    rw [f_X10_reckonBound_l1, hx.2.2.1, if_pos (Int32.le_refl _)]
  · intro n i x hi hx2
    left
    refine ⟨nI (mnf (fun i => psum (ws w (q i)) kn) (i + 1)), ⟨by omega, rfl⟩, ?_⟩
    show f_X10_reckonBound_l1 (264 + 2 * f) M (n + 1) x (nI i) = _
    have hm := mnf_le (fun i => psum (ws w (q i)) kn) i
    have hWi := hW i
    rw [f_X10_reckonBound_l1, hx.2.2.1, if_neg (ifle_no hi (by omega)), if_pos (inB_nI (show i < 120 by omega) (by decide)), nI_clamp (show i < 2 ^ 31 by omega), hx.2.2.2 i hi, weightOfX hkn (hq i hi) (fun k hk => (hw k hk).1), Option.bind_some, hx2.2, nI_1]
    congr 1
    show imin _ _ = nI (if mnf (fun i => psum (ws w (q i)) kn) i ≤ psum (ws w (q i)) kn then mnf (fun i => psum (ws w (q i)) kn) i else psum (ws w (q i)) kn)
    unfold imin
    by_cases hlt : mnf (fun i => psum (ws w (q i)) kn) i ≤ psum (ws w (q i)) kn
    · rw [if_pos hlt, if_neg (nI_nlt hlt (by omega))]
    · rw [if_neg hlt, if_pos (nI_lt (by omega) (by omega))]
  · show nI _ = nI (if 16000 ≤ psum (ws w (q 0)) kn then 16000 else psum (ws w (q 0)) kn)
    have := hW 0
    congr 1
    split <;> omega
theorem boundsY {M : Mem} {f c kn : Nat} {q w s : Nat → Nat} (hy : QY M f c q) (hkn : kn ≤ 16) (h0 : M.1 0 3 = nI kn) (hw : ∀ k, k < kn → M.1 3 k = nI (w k) ∧ w k ≤ 1000) (hs : ∀ k, k < kn → M.1 1 k = nI (s k) ∧ s k ≤ 100) (hq : ∀ i, i < c → q i < 2 ^ kn) :
    ∃ N, f_X11_boundOf (nI f) M = some N ∧ KeepY M N ∧ N.1 0 4 = M.1 0 4 ∧ (0 < psum (fun k => w k * s k) kn → N.1 0 33 = nI (frN (mnf (fun i => psum (ws w (q i)) kn) c) (psum (fun k => w k * s k) kn)) ∧ N.1 0 34 = nI (frD (mnf (fun i => psum (ws w (q i)) kn) c) (psum (fun k => w k * s k) kn))) ∧ (psum (fun k => w k * s k) kn = 0 → N.1 0 33 = 0 ∧ N.1 0 34 = 1) := by
  have hc120 := hy.2.1
  have hf := hy.1
  have hW : ∀ i, psum (ws w (q i)) kn ≤ 16000 := fun i => ws_le hkn (fun k hk => (hw k hk).2)
  have hT : psum (fun k => w k * s k) kn ≤ 1600000 := by
    have h1 := psum_le (p := fun k => w k * s k) (b := 100000) kn (fun k hk => Nat.mul_le_mul (hw k hk).2 (hs k hk).2)
    omega
  have HH := loop_go (F := fun n v x => f_X11_boundOf_l2 (nI f) (nI (psum (fun k => w k * s k) kn)) M n x v) c (by omega) (fun i x => x = nI (mnf (fun i => psum (ws w (q i)) kn) i)) (fun r => r = nI (mnf (fun i => psum (ws w (q i)) kn) c)) ?_ ?_ 0 16000 (by omega) rfl
  · obtain ⟨r, e, rfl⟩ := HH
    have e : f_X11_boundOf_l2 (nI f) (nI (psum (fun k => w k * s k) kn)) M fuelN 16000 0 = _ := e
    have hm := mnf_le (fun i => psum (ws w (q i)) kn) c
    unfold f_X11_boundOf
    rw [wtsY (nI f) hkn h0 (fun k hk => (hw k hk).1) (fun k hk => (hs k hk).1), Option.bind_some, e, Option.bind_some]
    by_cases t0 : psum (fun k => w k * s k) kn = 0
    · obtain ⟨N, e2, r1, r2, r3, r4⟩ := fractionY (M := M) (l := 0) (t := 1) (by decide) (by decide) (by decide)
      have e2 : f_X11_fraction 0 1 M = some N := e2
      rw [t0, if_pos (show nI 0 = 0 from rfl), e2]
      refine ⟨N, rfl, r1, r2, fun h => absurd h (by omega), fun _ => ?_⟩
      rw [r3, r4, (fr0 (by decide)).1, (fr0 (by decide)).2]
      exact ⟨rfl, rfl⟩
    · obtain ⟨N, e2, r1, r2, r3, r4⟩ := fractionY (M := M) (l := mnf (fun i => psum (ws w (q i)) kn) c) (t := psum (fun k => w k * s k) kn) (by omega) (by omega) (by omega)
      rw [if_neg (show ¬ nI (psum (fun k => w k * s k) kn) = 0 from fun h => t0 ((nI_eq (a := psum (fun k => w k * s k) kn) (b := 0) (by omega) (by decide)).mp h)), e2]
      exact ⟨N, rfl, r1, r2, fun _ => ⟨r3, r4⟩, fun h => absurd h t0⟩
  · intro n x hx2
    refine ⟨x, ?_, hx2⟩
    show f_X11_boundOf_l2 (nI f) (nI (psum (fun k => w k * s k) kn)) M (n + 1) x (nI c) = _
    rw [f_X11_boundOf_l2, if_pos (inB_nI hf (by decide)), nI_clamp (show f < 2 ^ 31 by omega), hy.2.2.1, if_pos (Int32.le_refl _)]
  · intro n i x hi hx2
    left
    refine ⟨nI (mnf (fun i => psum (ws w (q i)) kn) (i + 1)), rfl, ?_⟩
    show f_X11_boundOf_l2 (nI f) (nI (psum (fun k => w k * s k) kn)) M (n + 1) x (nI i) = _
    have hm := mnf_le (fun i => psum (ws w (q i)) kn) i
    have hWi := hW i
    rw [f_X11_boundOf_l2, if_pos (inB_nI hf (by decide)), nI_clamp (show f < 2 ^ 31 by omega), hy.2.2.1, if_neg (ifle_no hi (by omega)), bl3 _ _ hy hkn h0 (fun k hk => (hw k hk).1) hi (hq i hi), Option.bind_some, hx2, nI_1]
    have es : mnf (fun i => psum (ws w (q i)) kn) (i + 1) = if mnf (fun i => psum (ws w (q i)) kn) i ≤ psum (ws w (q i)) kn then mnf (fun i => psum (ws w (q i)) kn) i else psum (ws w (q i)) kn := rfl
    rw [es]
    by_cases hlt : mnf (fun i => psum (ws w (q i)) kn) i ≤ psum (ws w (q i)) kn
    · rw [if_pos hlt, if_pos (nI_le hlt (by omega)), Option.bind_some]
    · rw [if_neg hlt, if_neg (nI_ge (by omega) (by omega)), Option.bind_some]
