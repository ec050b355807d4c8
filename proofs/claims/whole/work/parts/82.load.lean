/-! loads -/
def ldw (q p : Nat → Nat) (k : Nat) : Nat → Nat := fun i => if (q i).testBit k then p i else 0
def NumOk (c : Nat) (q p : Nat → Nat) (kn : Nat) (s : Nat → Nat) : Prop := c ≤ 120 ∧ (1 ≤ kn ∧ kn ≤ 16) ∧ (∀ i, i < c → q i < 2 ^ kn ∧ p i ≤ 1000) ∧ (∀ k, k < kn → 1 ≤ s k ∧ s k ≤ 100) ∧ 0 < psum p c
def PlnX (M : Mem) (f c : Nat) (q p : Nat → Nat) (kn : Nat) (s : Nat → Nat) : Prop := QX M f c q ∧ M.1 7 1 = nI c ∧ (∀ i, i < c → M.1 8 i = nI (p i)) ∧ M.1 1 0 = nI kn ∧ ∀ k, k < kn → M.1 2 k = nI (s k)
def PlnY (M : Mem) (f c : Nat) (q p : Nat → Nat) (kn : Nat) (s : Nat → Nat) : Prop := QY M f c q ∧ M.1 8 0 = nI f ∧ (∀ i, i < c → M.1 8 (1 + i) = nI (p i)) ∧ M.1 0 3 = nI kn ∧ ∀ k, k < kn → M.1 1 k = nI (s k)
theorem PlnX_k {M N : Mem} {f c : Nat} {q p : Nat → Nat} {kn : Nat} {s : Nat → Nat} (h : PlnX M f c q p kn s) (k : KeepX M N) : PlnX N f c q p kn s := by
  refine ⟨QX_k h.1 k, ?_⟩
  rw [k.1.2 7 (by omega), k.1.2 8 (by omega), k.1.2 1 (by omega), k.1.2 2 (by omega)]
  exact h.2
theorem PlnY_k {M N : Mem} {f c : Nat} {q p : Nat → Nat} {kn : Nat} {s : Nat → Nat} (h : PlnY M f c q p kn s) (k : KeepY M N) : PlnY N f c q p kn s := by
  refine ⟨QY_k h.1 k, ?_⟩
  rw [k.1.2 8 (by omega), k.1.2 1 (by omega), k.1.1.1]
  exact h.2
theorem p16 {kn : Nat} (h : kn ≤ 16) : 2 ^ kn ≤ 65536 := pow16 h
theorem ld_le {c : Nat} {q p : Nat → Nat} {kn : Nat} {s : Nat → Nat} (h : NumOk c q p kn s) (k : Nat) : psum (ldw q p k) c ≤ 120000 := by
  have h1 := psum_le (p := ldw q p k) (b := 1000) c (fun i hi => by
    unfold ldw
    have := (h.2.2.1 i hi).2
    split <;> omega)
  have := h.1
  omega
theorem all_le {c : Nat} {q p : Nat → Nat} {kn : Nat} {s : Nat → Nat} (h : NumOk c q p kn s) : psum p c ≤ 120000 := by
  have h1 := psum_le (p := p) (b := 1000) c (fun i hi => (h.2.2.1 i hi).2)
  have := h.1
  omega
theorem partsWithX {M : Mem} {f c : Nat} {q p : Nat → Nat} {kn : Nat} {s : Nat → Nat} (hx : PlnX M f c q p kn s) (hn : NumOk c q p kn s) {k : Nat} (hk : k < 16) : f_X6_partsWith 7 (264 + 2 * f) (nI k) M = some (nI (psum (ldw q p k) c)) := by
  have hc := hn.1
  have HH := loop_go (F := fun n v w => f_X6_partsWith_l1 7 (264 + 2 * f) (nI k) M n w v) c (by omega) (fun i w => w = nI (psum (ldw q p k) i)) (fun r => r = nI (psum (ldw q p k) c)) ?_ ?_ 0 0 (by omega) rfl
  · obtain ⟨r, e, rfl⟩ := HH
    have e : f_X6_partsWith_l1 7 (264 + 2 * f) (nI k) M fuelN 0 0 = _ := e
    unfold f_X6_partsWith
    rw [if_pos (show kX 7 = 6 from rfl), if_pos (kX_fam hx.1.1), e]
    rfl
  · intro n w hw
    refine ⟨w, ?_, hw⟩
    show f_X6_partsWith_l1 7 (264 + 2 * f) (nI k) M (n + 1) w (nI c) = _
    rw [f_X6_partsWith_l1, hx.2.1, if_pos (Int32.le_refl _)]
  · intro n i w hi hw
    left
    have hq := (hn.2.2.1 i hi).1
    have := p16 hn.2.1.2
    refine ⟨nI (psum (ldw q p k) (i + 1)), rfl, ?_⟩
    show f_X6_partsWith_l1 7 (264 + 2 * f) (nI k) M (n + 1) w (nI i) = _
    rw [f_X6_partsWith_l1, hx.2.1, hx.1.2.2.1, if_neg (ifle_no hi (by omega)), if_neg (ifle_no hi (by omega)), if_pos (inB_nI (show i < 120 by omega) (by decide)), if_pos (inB_nI (show i < 120 by omega) (by decide)), nI_clamp (show i < 2 ^ 31 by omega), hx.1.2.2.2 i hi, show (7 : Nat) + 1 = 8 from rfl, hx.2.2.1 i hi, bit_ (by omega) (by omega), hw, nI_1]
    have es : psum (ldw q p k) (i + 1) = psum (ldw q p k) i + ldw q p k i := rfl
    rw [es]
    unfold ldw
    by_cases hb : (q i).testBit k
    · rw [if_pos hb, if_pos hb, if_neg one_ne, Option.bind_some, nI_add]
    · rw [if_neg hb, if_neg hb, if_pos rfl, Option.bind_some]; rfl
theorem loadsY {M : Mem} {f c : Nat} {q p : Nat → Nat} {kn : Nat} {s : Nat → Nat} (hy : PlnY M f c q p kn s) (hn : NumOk c q p kn s) {k : Nat} (hk : k < 16) : f_X11_loadsOf_l1 (nI k) M fuelN 0 0 = some (nI (psum (ldw q p k) c)) := by
  have hc := hn.1
  have hf := hy.1.1
  have HH := loop_go (F := fun n v w => f_X11_loadsOf_l1 (nI k) M n w v) c (by omega) (fun i w => w = nI (psum (ldw q p k) i)) (fun r => r = nI (psum (ldw q p k) c)) ?_ ?_ 0 0 (by omega) rfl
  · obtain ⟨r, e, rfl⟩ := HH
    exact e
  · intro n w hw
    refine ⟨w, ?_, hw⟩
    show f_X11_loadsOf_l1 (nI k) M (n + 1) w (nI c) = _
    rw [f_X11_loadsOf_l1, hy.2.1, if_pos (inB_nI hf (by decide)), nI_clamp (show f < 2 ^ 31 by omega), hy.1.2.2.1, if_pos (Int32.le_refl _)]
  · intro n i w hi hw
    left
    have hq := (hn.2.2.1 i hi).1
    have := p16 hn.2.1.2
    refine ⟨nI (psum (ldw q p k) (i + 1)), rfl, ?_⟩
    show f_X11_loadsOf_l1 (nI k) M (n + 1) w (nI i) = _
    rw [f_X11_loadsOf_l1, hy.2.1, if_pos (inB_nI hf (by decide)), nI_clamp (show f < 2 ^ 31 by omega), hy.1.2.2.1, if_neg (ifle_no hi (by omega)), hy.1.at hi, Option.bind_some, show (1 : Int32) + nI i = nI (1 + i) from nI_add 1 i, if_pos (inB_nI (show 1 + i < 121 by omega) (by decide)), nI_clamp (show 1 + i < 2 ^ 31 by omega), hy.2.2.1 i hi, bit_ (by omega) (by omega), hw, nI_1]
    have es : psum (ldw q p k) (i + 1) = psum (ldw q p k) i + ldw q p k i := rfl
    rw [es]
    unfold ldw
    by_cases hb : (q i).testBit k
    · rw [if_pos hb, if_pos hb, if_pos rfl, Option.bind_some, nI_add]
    · rw [if_neg hb, if_neg hb, if_neg (by decide), Option.bind_some, show (0 : Int32) = nI 0 from rfl, nI_add]
theorem loadsOfY {M : Mem} {f c : Nat} {q p : Nat → Nat} {kn : Nat} {s : Nat → Nat} (hy : PlnY M f c q p kn s) (hn : NumOk c q p kn s) {k : Nat} (hk : k < kn) :
    ∃ N, f_X11_loadsOf (nI k) M = some N ∧ KeepY M N ∧ N.1 0 4 = M.1 0 4 ∧ N.1 0 33 = nI (frN (psum (ldw q p k) c) (psum p c * s k)) ∧ N.1 0 34 = nI (frD (psum (ldw q p k) c) (psum p c * s k)) := by
  have hk16 : k < 16 := by have := hn.2.1.2; omega
  unfold f_X11_loadsOf
  have hs := hn.2.2.2.1 k hk
  have h1 := ld_le hn k
  have h2 := all_le hn
  have h3 : psum p c * s k ≤ 120000 * 100 := Nat.mul_le_mul h2 hs.2
  have h4 : 0 < psum p c * s k := Nat.mul_pos hn.2.2.2.2 (by omega)
  rw [loadsY hy hn hk16, Option.bind_some, allY hy.1.1 hn.1 hy.2.1 hy.1.2.2.1 hy.2.2.1, Option.bind_some, if_pos (inB_nI hk16 (by decide)), nI_clamp (show k < 2 ^ 31 by omega), hy.2.2.2.2 k hk, pk_mul]
  obtain ⟨N, e, r⟩ := fractionY (M := M) (l := psum (ldw q p k) c) (t := psum p c * s k) (by omega) (by omega) h4
  rw [e]
  exact ⟨N, rfl, r⟩
theorem reckonX {M : Mem} {f c : Nat} {q p : Nat → Nat} {kn : Nat} {s : Nat → Nat} (hx : PlnX M f c q p kn s) (hn : NumOk c q p kn s) {k : Nat} (hk : k < kn) :
    ∃ N, f_X10_reckonLoad (264 + 2 * f) (nI k) M = some N ∧ KeepX M N ∧ N.1 0 11 = M.1 0 11 ∧ N.1 263 0 = nI (frN (psum (ldw q p k) c) (psum p c * s k)) ∧ N.1 263 1 = nI (frD (psum (ldw q p k) c) (psum p c * s k)) := by
  have hk16 : k < 16 := by have := hn.2.1.2; omega
  unfold f_X10_reckonLoad
  have hs := hn.2.2.2.1 k hk
  have h1 := ld_le hn k
  have h2 := all_le hn
  have h3 : psum p c * s k ≤ 120000 * 100 := Nat.mul_le_mul h2 hs.2
  have h4 : 0 < psum p c * s k := Nat.mul_pos hn.2.2.2.2 (by omega)
  obtain ⟨N, e, r1, r2, r3, -⟩ := becomeX (M := M) (l := psum (ldw q p k) c) (t := psum p c * s k) (by omega) (by omega)
  rw [if_pos (kX_fam hx.1.1), isThere_yes hx.2.2.2.1 hn.2.1.2 hk, Option.bind_some, if_neg one_ne, if_pos (inB_nI hk16 (by decide)), nI_clamp (show k < 2 ^ 31 by omega), hx.2.2.2.2 k hk, Option.bind_some, partsWithX hx hn hk16, Option.bind_some, allX (t := 7) rfl hn.1 hx.2.1 hx.2.2.1, Option.bind_some, pk_mul, e]
  exact ⟨N, rfl, r1, r2, (r3 h4).1, (r3 h4).2⟩
def bk (L s : Nat → Nat) : Nat → Nat
  | 0 => 0
  | i + 1 => if L i * s (bk L s i) ≤ L (bk L s i) * s i then bk L s i else i
theorem bk_1 (L s : Nat → Nat) : bk L s 1 = 0 := by
  show (if L 0 * s 0 ≤ L 0 * s 0 then 0 else 0) = 0
  simp
theorem bk_lt (L s : Nat → Nat) : ∀ i, 1 ≤ i → bk L s i < i := by
  intro i
  induction i with
  | zero => intro h; omega
  | succ i ih =>
    intro _
    show (if L i * s (bk L s i) ≤ L (bk L s i) * s i then bk L s i else i) < i + 1
    by_cases e : i = 0
    · subst e
      split
      · show 0 < 1; omega
      · omega
    · have := ih (by omega)
      split <;> omega
theorem mostX {M : Mem} {f c : Nat} {q p : Nat → Nat} {kn : Nat} {s : Nat → Nat} (hx : PlnX M f c q p kn s) (hn : NumOk c q p kn s) : f_X10_mostLoaded (264 + 2 * f) M = some (nI (bk (fun k => psum (ldw q p k) c) s kn)) := by
  have hkn := hn.2.1
  have h16 : (16 : Int32) = nI 16 := rfl
  have HH := loop_go (F := fun n v w => f_X10_mostLoaded_l1 (264 + 2 * f) M n w.1 w.2 v) kn (by omega) (fun i w => 1 ≤ i ∧ w = (nI (bk (fun k => psum (ldw q p k) c) s i), nI (psum (ldw q p (bk (fun k => psum (ldw q p k) c) s i)) c))) (fun r => r = nI (bk (fun k => psum (ldw q p k) c) s kn)) ?_ ?_ 1 (0, nI (psum (ldw q p 0) c)) hkn.1 ⟨Nat.le_refl _, by rw [bk_1]; rfl⟩
  · obtain ⟨r, e, rfl⟩ := HH
    have e : f_X10_mostLoaded_l1 (264 + 2 * f) M fuelN 0 (nI (psum (ldw q p 0) c)) 1 = _ := e
    unfold f_X10_mostLoaded
    have e2 := partsWithX hx hn (k := 0) (by decide)
    rw [if_pos (kX_fam hx.1.1), show (0 : Int32) = nI 0 from rfl, e2, Option.bind_some]
    rw [show nI 0 = (0 : Int32) from rfl, e]
    rfl
  · intro n w hw
    refine ⟨w.1, ?_, by rw [hw.2]⟩
    show f_X10_mostLoaded_l1 (264 + 2 * f) M (n + 1) w.1 w.2 (nI kn) = _
    rw [f_X10_mostLoaded_l1, hx.2.2.2.1, if_pos (Int32.le_refl _)]
  · intro n i w hi hw
    obtain ⟨hi1, rfl⟩ := hw
    left
    have hb := bk_lt (fun k => psum (ldw q p k) c) s i hi1
    generalize hbk : bk (fun k => psum (ldw q p k) c) s i = b at hb
    have hsb := hn.2.2.2.1 b (by omega)
    have hsi := hn.2.2.2.1 i hi
    have lb := ld_le hn b
    have li := ld_le hn i
    have m1 : psum (ldw q p i) c * s b ≤ 120000 * 100 := Nat.mul_le_mul li hsb.2
    have m2 : psum (ldw q p b) c * s i ≤ 120000 * 100 := Nat.mul_le_mul lb hsi.2
    have es : bk (fun k => psum (ldw q p k) c) s (i + 1) = if psum (ldw q p i) c * s b ≤ psum (ldw q p b) c * s i then b else i := by
      show (if psum (ldw q p i) c * s (bk (fun k => psum (ldw q p k) c) s i) ≤ psum (ldw q p (bk (fun k => psum (ldw q p k) c) s i)) c * s i then bk (fun k => psum (ldw q p k) c) s i else i) = _
      rw [hbk]
    have hbody : f_X10_mostLoaded_l1 (264 + 2 * f) M (n + 1) (nI b) (nI (psum (ldw q p b) c)) (nI i) = Option.bind (if nI (psum (ldw q p i) c * s b) ≤ nI (psum (ldw q p b) c * s i) then some (nI b, nI (psum (ldw q p b) c)) else some (nI i, nI (psum (ldw q p i) c))) (fun q9 => f_X10_mostLoaded_l1 (264 + 2 * f) M n q9.1 q9.2 (nI (i + 1))) := by
      rw [f_X10_mostLoaded_l1, hx.2.2.2.1, if_neg (ifle_no hi (by omega)), if_neg (show ¬ (16 : Int32) ≤ nI i from ifle_no (show i < 16 by omega) (by decide)), partsWithX hx hn (show i < 16 by omega), Option.bind_some, if_pos (inB_nI (show b < 16 by omega) (by decide)), if_pos (inB_nI (show i < 16 by omega) (by decide)), nI_clamp (show b < 2 ^ 31 by omega), nI_clamp (show i < 2 ^ 31 by omega), hx.2.2.2.2 b (by omega), hx.2.2.2.2 i hi, pk_mul, pk_mul, nI_1]
    by_cases hle : psum (ldw q p i) c * s b ≤ psum (ldw q p b) c * s i
    · rw [if_pos hle] at es
      refine ⟨(nI b, nI (psum (ldw q p b) c)), ⟨by omega, by rw [es]⟩, ?_⟩
      rw [if_pos (nI_le hle (by omega)), Option.bind_some] at hbody
      exact hbody
    · rw [if_neg hle] at es
      refine ⟨(nI i, nI (psum (ldw q p i) c)), ⟨by omega, by rw [es]⟩, ?_⟩
      rw [if_neg (show ¬ nI (psum (ldw q p i) c * s b) ≤ nI (psum (ldw q p b) c * s i) from nI_ge (by omega) (by omega)), Option.bind_some] at hbody
      exact hbody
theorem cmp_pos {a b : Nat} (ha : a < 2 ^ 63) (hb : b < 2 ^ 63) : (0 : Int32) < lg_cmp (lN a) (lN b) ↔ b < a := by
  unfold lg_cmp
  by_cases h : b < a
  · rw [if_pos (show lN a > lN b from (pk_lLT hb ha).mpr h)]
    exact ⟨fun _ => h, fun _ => by decide⟩
  · rw [if_neg (show ¬ lN a > lN b from fun q => h ((pk_lLT hb ha).mp q))]
    constructor
    · intro q
      split at q
      · exact absurd q (by decide)
      · exact absurd q (by decide)
    · exact fun q => absurd q h
theorem loadedY {M : Mem} {f c : Nat} {q p : Nat → Nat} {kn : Nat} {s : Nat → Nat} (hy : PlnY M f c q p kn s) (hn : NumOk c q p kn s) :
    ∃ N, f_X11_loaded M = some (nI (bk (fun k => psum (ldw q p k) c) s kn), N) ∧ KeepY M N ∧ N.1 0 4 = M.1 0 4 ∧ N.1 0 33 = nI (frN (psum (ldw q p (bk (fun k => psum (ldw q p k) c) s kn)) c) (psum p c * s (bk (fun k => psum (ldw q p k) c) s kn))) ∧ N.1 0 34 = nI (frD (psum (ldw q p (bk (fun k => psum (ldw q p k) c) s kn)) c) (psum p c * s (bk (fun k => psum (ldw q p k) c) s kn))) := by
  have hkn := hn.2.1
  have hS := all_le hn
  have hT : ∀ k, k < kn → 0 < psum p c * s k ∧ psum p c * s k ≤ 12000000 := fun k hk => by
    have hs := hn.2.2.2.1 k hk
    exact ⟨Nat.mul_pos hn.2.2.2.2 (by omega), Nat.mul_le_mul hS hs.2⟩
  have HH := loop_go (F := fun n v (w : Int32 × Int32 × Int32 × Mem) => f_X11_loaded_l1 n w.1 w.2.1 w.2.2.1 v w.2.2.2) kn (by omega) (fun i w => ∃ N u t, w = (nI (bk (fun k => psum (ldw q p k) c) s i), nI u, nI t, N) ∧ KeepY M N ∧ N.1 0 4 = M.1 0 4 ∧ ((i = 0 ∧ u = 0 ∧ t = 1) ∨ (1 ≤ i ∧ u = frN (psum (ldw q p (bk (fun k => psum (ldw q p k) c) s i)) c) (psum p c * s (bk (fun k => psum (ldw q p k) c) s i)) ∧ t = frD (psum (ldw q p (bk (fun k => psum (ldw q p k) c) s i)) c) (psum p c * s (bk (fun k => psum (ldw q p k) c) s i)))))
    (fun w => ∃ N, w = (nI (bk (fun k => psum (ldw q p k) c) s kn), nI (frN (psum (ldw q p (bk (fun k => psum (ldw q p k) c) s kn)) c) (psum p c * s (bk (fun k => psum (ldw q p k) c) s kn))), nI (frD (psum (ldw q p (bk (fun k => psum (ldw q p k) c) s kn)) c) (psum p c * s (bk (fun k => psum (ldw q p k) c) s kn))), N) ∧ KeepY M N ∧ N.1 0 4 = M.1 0 4) ?_ ?_ 0 (0, 0, 1, M) (by omega) ⟨M, 0, 1, rfl, KeepY.refl M, rfl, Or.inl ⟨rfl, rfl, rfl⟩⟩
  · obtain ⟨r, e, N, rfl, k1, k2⟩ := HH
    have e : f_X11_loaded_l1 fuelN 0 0 1 0 M = _ := e
    unfold f_X11_loaded
    rw [e, Option.bind_some]
    refine ⟨_, rfl, (k1.trans (keepY_f N _ (by omega))).trans (keepY_f _ _ (by omega)), ?_, ?_, ?_⟩
    · rw [sI_1, if_neg (by omega), sI_1, if_neg (by omega)]; exact k2
    · rw [sI_1, if_neg (by omega), sI_1, if_pos ⟨rfl, rfl⟩]
    · rw [sI_1, if_pos ⟨rfl, rfl⟩]
  · intro n w hw
    obtain ⟨N, u, t, rfl, k1, k2, hh⟩ := hw
    refine ⟨(nI (bk (fun k => psum (ldw q p k) c) s kn), nI u, nI t, N), ?_, ?_⟩
    · show f_X11_loaded_l1 (n + 1) _ _ _ (nI kn) N = _
      rw [f_X11_loaded_l1, (PlnY_k hy k1).2.2.2.1, if_pos (Int32.le_refl _)]
    · rcases hh with ⟨h0, -⟩ | ⟨-, rfl, rfl⟩
      · omega
      · exact ⟨N, rfl, k1, k2⟩
  · intro n i w hi hw
    obtain ⟨N, u, t, rfl, k1, k2, hh⟩ := hw
    left
    have hyN := PlnY_k hy k1
    obtain ⟨P, e, j1, j2, j3, j4⟩ := loadsOfY hyN hn hi
    have lsm := fr_sm (l := psum (ldw q p i) c) (t := psum p c * s i)
    have li := ld_le hn i
    have hTi := hT i hi
    have hut : u ≤ 120000 ∧ t ≤ 12000000 := by
      rcases hh with ⟨-, rfl, rfl⟩ | ⟨h1, rfl, rfl⟩
      · omega
      · have hb := bk_lt (fun k => psum (ldw q p k) c) s i h1
        have := fr_sm (l := psum (ldw q p (bk (fun k => psum (ldw q p k) c) s i)) c) (t := psum p c * s (bk (fun k => psum (ldw q p k) c) s i))
        have := ld_le hn (bk (fun k => psum (ldw q p k) c) s i)
        have := hT (bk (fun k => psum (ldw q p k) c) s i) (by omega)
        omega
    have m1 : frN (psum (ldw q p i) c) (psum p c * s i) * t ≤ 120000 * 12000000 := Nat.mul_le_mul (by omega) hut.2
    have m2 : u * frD (psum (ldw q p i) c) (psum p c * s i) ≤ 120000 * 12000000 := Nat.mul_le_mul hut.1 (by omega)
    have hcmp : ((0 : Int32) < lg_cmp ((nI (frN (psum (ldw q p i) c) (psum p c * s i))).toInt64 * (nI t).toInt64) ((nI u).toInt64 * (nI (frD (psum (ldw q p i) c) (psum p c * s i))).toInt64)) ↔ u * frD (psum (ldw q p i) c) (psum p c * s i) < frN (psum (ldw q p i) c) (psum p c * s i) * t := by
      rw [nI_l (by omega), nI_l (by omega), nI_l (by omega), nI_l (by omega), lN_mul, lN_mul]
      exact cmp_pos (by omega) (by omega)
    -- what is best then
    have hbest : (u * frD (psum (ldw q p i) c) (psum p c * s i) < frN (psum (ldw q p i) c) (psum p c * s i) * t ∧ bk (fun k => psum (ldw q p k) c) s (i + 1) = i) ∨ (¬ u * frD (psum (ldw q p i) c) (psum p c * s i) < frN (psum (ldw q p i) c) (psum p c * s i) * t ∧ bk (fun k => psum (ldw q p k) c) s (i + 1) = bk (fun k => psum (ldw q p k) c) s i ∧ (i = 0 → u = frN (psum (ldw q p 0) c) (psum p c * s 0) ∧ t = frD (psum (ldw q p 0) c) (psum p c * s 0))) := by
      rcases hh with ⟨rfl, rfl, rfl⟩ | ⟨h1, rfl, rfl⟩
      · rw [Nat.zero_mul, Nat.mul_one]
        by_cases l0 : psum (ldw q p 0) c = 0
        · right
          rw [l0, (fr0 hTi.1).1, (fr0 hTi.1).2]
          exact ⟨by omega, bk_1 _ _, fun _ => ⟨rfl, rfl⟩⟩
        · left
          refine ⟨?_, bk_1 _ _⟩
          have := (fr_eq (l := psum (ldw q p 0) c) (t := psum p c * s 0)).1
          refine Nat.pos_of_ne_zero fun q => ?_
          rw [q, Nat.mul_zero] at this
          exact l0 this
      · have hb := bk_lt (fun k => psum (ldw q p k) c) s i h1
        have es : bk (fun k => psum (ldw q p k) c) s (i + 1) = if psum (ldw q p i) c * s (bk (fun k => psum (ldw q p k) c) s i) ≤ psum (ldw q p (bk (fun k => psum (ldw q p k) c) s i)) c * s i then bk (fun k => psum (ldw q p k) c) s i else i := rfl
        generalize bk (fun k => psum (ldw q p k) c) s i = b at hb es ⊢
        have hTb := hT b (by omega)
        have hle : frN (psum (ldw q p i) c) (psum p c * s i) * frD (psum (ldw q p b) c) (psum p c * s b) ≤ frN (psum (ldw q p b) c) (psum p c * s b) * frD (psum (ldw q p i) c) (psum p c * s i) ↔ psum (ldw q p i) c * s b ≤ psum (ldw q p b) c * s i := by
          rw [fr_le hTi.1 hTb.1, show psum (ldw q p i) c * (psum p c * s b) = psum p c * (psum (ldw q p i) c * s b) by simp only [Nat.mul_left_comm], show psum (ldw q p b) c * (psum p c * s i) = psum p c * (psum (ldw q p b) c * s i) by simp only [Nat.mul_left_comm]]
          exact ⟨fun h => Nat.le_of_mul_le_mul_left h hn.2.2.2.2, fun h => Nat.mul_le_mul_left _ h⟩
        by_cases hc : psum (ldw q p i) c * s b ≤ psum (ldw q p b) c * s i
        · right
          rw [if_pos hc] at es
          exact ⟨Nat.not_lt.mpr (hle.mpr hc), es, fun h0 => by omega⟩
        · left
          rw [if_neg hc] at es
          exact ⟨Nat.not_le.mp fun h => hc (hle.mp h), es⟩
    have hbody : f_X11_loaded_l1 (n + 1) (nI (bk (fun k => psum (ldw q p k) c) s i)) (nI u) (nI t) (nI i) N = Option.bind (if u * frD (psum (ldw q p i) c) (psum p c * s i) < frN (psum (ldw q p i) c) (psum p c * s i) * t then some (nI i, nI (frN (psum (ldw q p i) c) (psum p c * s i)), nI (frD (psum (ldw q p i) c) (psum p c * s i))) else some (nI (bk (fun k => psum (ldw q p k) c) s i), nI u, nI t)) (fun q4 => f_X11_loaded_l1 n q4.1 q4.2.1 q4.2.2 (nI (i + 1)) P) := by
      rw [f_X11_loaded_l1, hyN.2.2.2.1, if_neg (ifle_no hi (by omega)), e, Option.bind_some, j3, j4, nI_1]
      by_cases hc : u * frD (psum (ldw q p i) c) (psum p c * s i) < frN (psum (ldw q p i) c) (psum p c * s i) * t
      · rw [if_pos hc, if_pos (hcmp.mpr hc)]
      · rw [if_neg hc, if_neg (fun h => hc (hcmp.mp h))]
    rcases hbest with ⟨hc, eb⟩ | ⟨hc, eb, h0⟩
    · rw [if_pos hc, Option.bind_some] at hbody
      exact ⟨_, ⟨P, _, _, rfl, k1.trans j1, by rw [j2]; exact k2, Or.inr ⟨by omega, by rw [eb], by rw [eb]⟩⟩, by rw [eb]; exact hbody⟩
    · rw [if_neg hc, Option.bind_some] at hbody
      refine ⟨_, ⟨P, u, t, rfl, k1.trans j1, by rw [j2]; exact k2, Or.inr ⟨by omega, ?_, ?_⟩⟩, by rw [eb]; exact hbody⟩
      · rcases hh with ⟨rfl, -, -⟩ | ⟨h1, h2, h3⟩
        · rw [bk_1]; exact (h0 rfl).1
        · rw [eb]; exact h2
      · rcases hh with ⟨rfl, -, -⟩ | ⟨h1, h2, h3⟩
        · rw [bk_1]; exact (h0 rfl).2
        · rw [eb]; exact h3
