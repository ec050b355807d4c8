theorem sub_lt' {a b c : Nat} (h : a < c) : a - b < c := Nat.lt_of_le_of_lt (Nat.sub_le _ _) h
/-! words by their bits -/
def lb (x : Int64) (j : Nat) : Bool := x.toBitVec.getLsbD j
theorem lb_or (x y : Int64) (j : Nat) : lb (x ||| y) j = (lb x j || lb y j) := by unfold lb; rw [Int64.toBitVec_or, BitVec.getLsbD_or]
theorem lb_and (x y : Int64) (j : Nat) : lb (x &&& y) j = (lb x j && lb y j) := by unfold lb; rw [Int64.toBitVec_and, BitVec.getLsbD_and]
theorem lb_xor (x y : Int64) (j : Nat) : lb (x ^^^ y) j = (lb x j ^^ lb y j) := by unfold lb; rw [Int64.toBitVec_xor, BitVec.getLsbD_xor]
theorem lb_m1 : ∀ j, j < 64 → lb (-1) j = true := by decide +kernel
theorem lb_0 (j : Nat) : lb 0 j = false := BitVec.getLsbD_zero
theorem lb_not (x : Int64) {j : Nat} (hj : j < 64) : lb (x ^^^ (-1 : Int64)) j = !(lb x j) := by rw [lb_xor, lb_m1 j hj, Bool.xor_true]
theorem lb_ext {x y : Int64} (h : ∀ j, j < 64 → lb x j = lb y j) : x = y := Int64.toBitVec_inj.mp (BitVec.eq_of_getLsbD_eq (fun i hi => h i hi))
theorem lb_shl (x : Int64) {k j : Nat} (hk : k < 64) (hj : j < 64) : lb (lshl x (nI k)) j = (decide (k ≤ j) && lb x (j - k)) := by
  unfold lb lshl
  rw [wb_c k hk, Int64.toBitVec_shiftLeft]
  show (x.toBitVec <<< ((BitVec.ofNat 64 k).smod 64).toNat).getLsbD j = _
  rw [wb_sm k hk, BitVec.toNat_ofNat, Nat.mod_eq_of_lt (by omega), BitVec.getLsbD_shiftLeft]
  rcases Nat.lt_or_ge j k with h | h
  · simp [h, Nat.not_le.mpr h]
  · simp [hj, h, Nat.not_lt.mpr h]
theorem lb_ushr (x : Int64) {k j : Nat} (hk : k < 64) : lb (lushr x (nI k)) j = lb x (k + j) := by
  unfold lb lushr
  rw [wb_cu k hk]
  show (x.toUInt64 >>> UInt64.ofNat k).toBitVec.getLsbD j = x.toUInt64.toBitVec.getLsbD (k + j)
  rw [UInt64.toBitVec_shiftRight]
  show (x.toUInt64.toBitVec >>> ((UInt64.ofNat k).toBitVec % 64).toNat).getLsbD j = _
  rw [show ((UInt64.ofNat k).toBitVec % 64).toNat = k from (by decide +kernel : ∀ k, k < 64 → ((UInt64.ofNat k).toBitVec % 64).toNat = k) k hk, BitVec.getLsbD_ushiftRight]
theorem lb_WL : ∀ k, k < 6 → ∀ i, i < 64 → lb (WL k) i = !(i.testBit k) := by decide +kernel
theorem wl_j : ∀ k, k < 6 → ∀ j, j < 64 → (decide (2 ^ k ≤ j) && !((j - 2 ^ k).testBit k)) = j.testBit k := by decide +kernel
theorem pw6 : ∀ k, k < 6 → 2 ^ k < 64 := by decide
theorem one_shl : ∀ k, k < 31 → (1 : Int32) <<< (nI k &&& 31) = nI (2 ^ k) := by decide +kernel
theorem grow_bit (v : Int64) {k j : Nat} (hk : k < 6) (hj : j < 64) : lb (lshl (v &&& WL k) ((1 : Int32) <<< (nI k &&& 31))) j = (j.testBit k && lb v (j - 2 ^ k)) := by
  rw [one_shl k (by omega), lb_shl _ (pw6 k hk) hj, lb_and, lb_WL k hk (j - 2 ^ k) (sub_lt' hj), ← wl_j k hk j hj]
  cases lb v (j - 2 ^ k) <;> simp
theorem closedW (w : Int64) : ∃ r, f_X7_closedWord w = some r ∧ ∀ j, j < 64 → (lb r j = true ↔ upI 6 (fun t => lb w t = true) j) := by
  have HH := loop_go (F := fun n v s => f_X7_closedWord_l1 n s v) 6 (by decide) (fun i s => ∀ j, j < 64 → (lb s j = true ↔ upI i (fun t => lb w t = true) j)) (fun r => ∀ j, j < 64 → (lb r j = true ↔ upI 6 (fun t => lb w t = true) j))
    (fun n s h => ⟨s, by show f_X7_closedWord_l1 (n + 1) s (nI 6) = _; rw [f_X7_closedWord_l1, if_pos (by decide)], h⟩)
    (fun n i s hi h => Or.inl ⟨s ||| lshl (s &&& WL i) ((1 : Int32) <<< (nI i &&& 31)), fun j hj => by
      rw [lb_or, grow_bit s hi hj, Bool.or_eq_true_iff, Bool.and_eq_true_iff, h j hj, h (j - 2 ^ i) (sub_lt' hj)]
      rfl, by
      show f_X7_closedWord_l1 (n + 1) s (nI i) = f_X7_closedWord_l1 n _ (nI (i + 1))
      rw [f_X7_closedWord_l1, if_neg (show ¬ (6 : Int32) ≤ nI i from ifle_no hi (by decide)), if_pos (inB_nI hi (by decide)), nI_clamp (by omega), nI_1]⟩) 0 w (by omega) (fun j hj => Iff.rfl)
  obtain ⟨r, e, hr⟩ := HH
  refine ⟨r, ?_, hr⟩
  unfold f_X7_closedWord
  have e : f_X7_closedWord_l1 fuelN w 0 = _ := e
  rw [e, Option.bind_some]
/-! the pot -/
def wb (M : Mem) (i j : Nat) : Bool := lb (M.2 256 i) j
def pb (M : Mem) (s : Nat) : Bool := lb (M.2 256 (s / 64)) (s % 64)
theorem pb_ij (M : Mem) {i j : Nat} (hj : j < 64) : pb M (64 * i + j) = wb M i j := by
  unfold pb wb
  rw [show (64 * i + j) / 64 = i by omega, show (64 * i + j) % 64 = j by omega]
theorem pb_of (M : Mem) (s : Nat) : pb M s = wb M (s / 64) (s % 64) := rfl
def PS (M : Mem) (m : Nat) : Prop := 6 ≤ m ∧ m ≤ 16 ∧ M.1 255 2 = nI (2 ^ (m - 6))
theorem ps_u : ∀ m, 6 ≤ m → m ≤ 16 → 64 * 2 ^ (m - 6) = 2 ^ m ∧ 2 ^ (m - 6) ≤ 1024 ∧ 1 ≤ 2 ^ (m - 6) := by
  intro m h1 h2
  have : ∀ d, d < 11 → 64 * 2 ^ d = 2 ^ (d + 6) ∧ 2 ^ d ≤ 1024 ∧ 1 ≤ 2 ^ d := by decide
  have := this (m - 6) (by omega)
  rwa [show m - 6 + 6 = m by omega] at this
theorem PS.keep {M N : Mem} {m : Nat} (h : PS M m) (e : N.1 = M.1) : PS N m := by unfold PS at *; rw [e]; exact h
theorem tb_ij {i j n : Nat} (hj : j < 64) (hn : n < 6) : (64 * i + j).testBit n = j.testBit n := by
  have := Nat.testBit_two_pow_mul_add (i := 6) i hj n
  rw [show 2 ^ 6 = 64 from rfl, if_pos hn] at this
  exact this
theorem tb_ij2 {i j n : Nat} (hj : j < 64) : (64 * i + j).testBit (n + 6) = i.testBit n := by
  have := Nat.testBit_two_pow_mul_add (i := 6) i hj (n + 6)
  rw [show 2 ^ 6 = 64 from rfl, if_neg (by omega), show n + 6 - 6 = n by omega] at this
  exact this
theorem upI_ij {P : Nat → Prop} {i : Nat} : ∀ n, n ≤ 6 → ∀ j, j < 64 → (upI n (fun t => P (64 * i + t)) j ↔ upI n P (64 * i + j)) := by
  intro n
  induction n with
  | zero => intro _ j _; exact Iff.rfl
  | succ n ih =>
    intro hn j hj
    show (upI n _ j ∨ (j.testBit n = true ∧ upI n _ (j - 2 ^ n))) ↔ (upI n P (64 * i + j) ∨ ((64 * i + j).testBit n = true ∧ upI n P (64 * i + j - 2 ^ n)))
    rw [tb_ij hj (by omega), ih (by omega) j hj, ih (by omega) (j - 2 ^ n) (sub_lt' hj)]
    constructor
    · rintro (h | ⟨h1, h2⟩)
      · exact Or.inl h
      · have := tb_ge h1
        rw [show 64 * i + (j - 2 ^ n) = 64 * i + j - 2 ^ n by omega] at h2
        exact Or.inr ⟨h1, h2⟩
    · rintro (h | ⟨h1, h2⟩)
      · exact Or.inl h
      · have := tb_ge h1
        rw [show 64 * i + j - 2 ^ n = 64 * i + (j - 2 ^ n) by omega] at h2
        exact Or.inr ⟨h1, h2⟩
theorem upI_congr {P Q : Nat → Prop} {b : Nat} : ∀ n s, s < b → (∀ t, t < b → (P t ↔ Q t)) → (upI n P s ↔ upI n Q s) := by
  intro n
  induction n with
  | zero => intro s hs h; exact h s hs
  | succ n ih =>
    intro s hs h
    show (upI n P s ∨ (s.testBit n = true ∧ upI n P (s - 2 ^ n))) ↔ (upI n Q s ∨ (s.testBit n = true ∧ upI n Q (s - 2 ^ n)))
    rw [ih s hs h, ih (s - 2 ^ n) (sub_lt' hs) h]
/-- a loop that comes nearer to its end -/
theorem loop_d {σ ρ : Type} (F : Nat → σ → Option ρ) (I : σ → Prop) (mu : σ → Nat) (Post : ρ → Prop)
    (hs : ∀ n s, I s → (∃ s', I s' ∧ mu s' < mu s ∧ F (n + 1) s = F n s') ∨ ∃ r, F (n + 1) s = some r ∧ Post r)
    (s : σ) (h0 : I s) (hm : mu s < 70000) : ∃ r, F fuelN s = some r ∧ Post r := by
  have key : ∀ k s, mu s ≤ k → I s → ∀ n, k < n → ∃ r, F n s = some r ∧ Post r := by
    intro k
    induction k with
    | zero =>
      intro s h1 hI n hn
      obtain ⟨n, rfl⟩ : ∃ m, n = m + 1 := ⟨n - 1, by omega⟩
      rcases hs n s hI with ⟨s', hI', hlt, e1⟩ | h
      · omega
      · exact h
    | succ k ih =>
      intro s h1 hI n hn
      obtain ⟨n, rfl⟩ : ∃ m, n = m + 1 := ⟨n - 1, by omega⟩
      rcases hs n s hI with ⟨s', hI', hlt, e1⟩ | h
      · rw [e1]
        exact ih s' (by omega) hI' n (by omega)
      · exact h
  exact key (mu s) s (Nat.le_refl _) h0 fuelN (by have := fuel_ge; omega)
theorem closeU1 {M : Mem} {m : Nat} (hp : PS M m) : ∃ N, f_X7_closeUpwards_l1 fuelN 0 M = some N ∧ N.1 = M.1 ∧ ∀ s, s < 2 ^ m → (pb N s = true ↔ upI 6 (fun t => pb M t = true) s) := by
  obtain ⟨h1, h2, h3⟩ := hp
  obtain ⟨u1, u2, u3⟩ := ps_u m h1 h2
  have HH := loop_go (F := fun n v N => f_X7_closeUpwards_l1 n v N) (2 ^ (m - 6)) (by omega)
    (fun i N => N.1 = M.1 ∧ (∀ x, x < i → ∀ j, j < 64 → (wb N x j = true ↔ upI 6 (fun t => wb M x t = true) j)) ∧ ∀ x, i ≤ x → N.2 256 x = M.2 256 x)
    (fun N => N.1 = M.1 ∧ ∀ x, x < 2 ^ (m - 6) → ∀ j, j < 64 → (wb N x j = true ↔ upI 6 (fun t => wb M x t = true) j))
    (fun n N h => ⟨N, by show f_X7_closeUpwards_l1 (n + 1) (nI (2 ^ (m - 6))) N = _; rw [f_X7_closeUpwards_l1, h.1, h3, if_pos (Int32.le_refl _)], h.1, h.2.1⟩)
    (fun n i N hi h => by
      obtain ⟨r, e, hr⟩ := closedW (N.2 256 i)
      refine Or.inl ⟨sL N 256 i r, ⟨h.1, fun x hx j hj => ?_, fun x hx => ?_⟩, ?_⟩
      · by_cases ex : x = i
        · subst ex
          unfold wb
          rw [sL_2, if_pos ⟨rfl, rfl⟩, hr j hj, h.2.2 x (by omega)]
        · have : wb (sL N 256 i r) x j = wb N x j := by unfold wb; rw [sL_2, if_neg (by omega)]
          rw [this]
          exact h.2.1 x (by omega) j hj
      · rw [sL_2, if_neg (by omega)]; exact h.2.2 x (by omega)
      · show f_X7_closeUpwards_l1 (n + 1) (nI i) N = f_X7_closeUpwards_l1 n (nI (i + 1)) _
        rw [f_X7_closeUpwards_l1, h.1, h3, if_neg (ifle_no hi (by omega)), if_pos (inB_nI (show i < 1024 by omega) (by decide)), nI_clamp (by omega), e, Option.bind_some, if_pos (inB_nI (show i < 1024 by omega) (by decide)), nI_1]) 0 M (by omega) ⟨rfl, fun x hx => by omega, fun _ _ => rfl⟩
  obtain ⟨N, e, n1, n2⟩ := HH
  refine ⟨N, e, n1, fun s hs => ?_⟩
  have hx : s / 64 < 2 ^ (m - 6) := by omega
  have hj : s % 64 < 64 := by omega
  have k1 := n2 (s / 64) hx (s % 64) hj
  rw [pb_of, k1]
  have e1 : ∀ t, t < 64 → (wb M (s / 64) t = true ↔ (fun t => pb M (64 * (s / 64) + t) = true) t) := fun t ht => by
    show _ ↔ pb M (64 * (s / 64) + t) = true
    rw [pb_ij M ht]
  rw [upI_congr 6 (s % 64) hj e1, upI_ij (P := fun t => pb M t = true) 6 (Nat.le_refl _) (s % 64) hj, show 64 * (s / 64) + s % 64 = s by omega]
theorem Sb_two {b x : Nat} : Sb (2 ^ b) x ↔ x.testBit b = true := by
  constructor
  · intro h; exact h b (by rw [Nat.testBit_two_pow]; simp)
  · intro h k q
    rw [Nat.testBit_two_pow] at q
    rw [← of_decide_eq_true q]; exact h
theorem closeU3 {M : Mem} {m b : Nat} (hp : PS M m) (hb : b < 10) : ∃ N, f_X7_closeUpwards_l3 (nI (2 ^ b)) fuelN (nI (2 ^ b)) M = some N ∧ N.1 = M.1 ∧ ∀ s, s < 2 ^ m → (pb N s = true ↔ (pb M s = true ∨ (s.testBit (b + 6) = true ∧ pb M (s - 2 ^ (b + 6)) = true))) := by
  obtain ⟨h1, h2, h3⟩ := hp
  obtain ⟨u1, u2, u3⟩ := ps_u m h1 h2
  have hb2 : 2 ^ b < 1024 := Nat.pow_lt_pow_right (by decide) hb
  have HH := loop_d (F := fun n (s : Int32 × Mem) => f_X7_closeUpwards_l3 (nI (2 ^ b)) n s.1 s.2)
    (fun s => ∃ i, s.1 = nI i ∧ i < 2048 ∧ i.testBit b = true ∧ s.2.1 = M.1 ∧ (∀ x, x < i → x < 2 ^ (m - 6) → s.2.2 256 x = if x.testBit b then M.2 256 x ||| M.2 256 (x - 2 ^ b) else M.2 256 x) ∧ ∀ x, i ≤ x → s.2.2 256 x = M.2 256 x)
    (fun s => 2048 - s.1.toNatClampNeg)
    (fun N => N.1 = M.1 ∧ ∀ x, x < 2 ^ (m - 6) → N.2 256 x = if x.testBit b then M.2 256 x ||| M.2 256 (x - 2 ^ b) else M.2 256 x)
    ?_ (nI (2 ^ b), M) ⟨2 ^ b, rfl, by omega, by rw [Nat.testBit_two_pow]; simp, rfl, fun x hx _ => by
      rw [if_neg]
      intro q
      have := tb_ge q
      omega, fun _ _ => rfl⟩ (by show 2048 - _ < 70000; omega)
  · obtain ⟨N, e, n1, n2⟩ := HH
    refine ⟨N, e, n1, fun s hs => ?_⟩
    have hx : s / 64 < 2 ^ (m - 6) := by omega
    have hs2 : s = 64 * (s / 64) + s % 64 := by omega
    have hj : s % 64 < 64 := by omega
    have k := n2 (s / 64) hx
    have et : s.testBit (b + 6) = (s / 64).testBit b := by
      have := tb_ij2 (i := s / 64) (n := b) hj
      rwa [← hs2] at this
    rw [et]
    unfold pb
    rw [k]
    by_cases q : (s / 64).testBit b = true
    · have hge := tb_ge q
      have e1 : (s - 2 ^ (b + 6)) / 64 = s / 64 - 2 ^ b ∧ (s - 2 ^ (b + 6)) % 64 = s % 64 := by
        have : 2 ^ (b + 6) = 64 * 2 ^ b := by rw [Nat.pow_add]; omega
        rw [this]
        omega
      rw [if_pos q, lb_or, e1.1, e1.2, Bool.or_eq_true_iff]
      constructor
      · rintro (h | h)
        · exact Or.inl h
        · exact Or.inr ⟨q, h⟩
      · rintro (h | ⟨-, h⟩)
        · exact Or.inl h
        · exact Or.inr h
    · rw [if_neg q]
      constructor
      · intro h; exact Or.inl h
      · rintro (h | ⟨h, -⟩)
        · exact h
        · exact absurd h q
  · rintro n ⟨v, N⟩ ⟨i, e, hi, hib, g1, g2, g3⟩
    dsimp only at e g1 g2 g3
    subst e
    by_cases hlt : i < 2 ^ (m - 6)
    · left
      have hge := tb_ge hib
      have hsb : Sb (2 ^ b) i := Sb_two.mpr hib
      have hor : (i + 1) ||| 2 ^ b < 2048 := Nat.or_lt_two_pow (n := 11) (by omega) (by omega)
      have hob : ((i + 1) ||| 2 ^ b).testBit b = true := by rw [Nat.testBit_or, Nat.testBit_two_pow]; simp
      have hgt : i + 1 ≤ (i + 1) ||| 2 ^ b := Nat.left_le_or
      have hprev : N.2 256 (i - 2 ^ b) = M.2 256 (i - 2 ^ b) := by
        rw [g2 (i - 2 ^ b) (Nat.sub_lt (Nat.lt_of_lt_of_le (Nat.two_pow_pos b) hge) (Nat.two_pow_pos b)) (sub_lt' hlt), if_neg]
        rw [tb_sub hib]; simp
      refine ⟨(nI ((i + 1) ||| 2 ^ b), sL N 256 i (M.2 256 i ||| M.2 256 (i - 2 ^ b))), ⟨(i + 1) ||| 2 ^ b, rfl, hor, hob, g1, fun x hx hxu => ?_, fun x hx => ?_⟩, ?_, ?_⟩
      · show (sL N 256 i (M.2 256 i ||| M.2 256 (i - 2 ^ b))).2 256 x = _
        rw [sL_2]
        by_cases ex : x = i
        · rw [if_pos ⟨rfl, ex⟩, ex, if_pos hib]
        · rw [if_neg (by omega)]
          by_cases hxi : x < i
          · exact g2 x hxi hxu
          · rw [g3 x (by omega), if_neg]
            intro q
            have := sup_succ (b + 1) (2 ^ b) i x (Nat.pow_lt_pow_right (by decide) (by omega)) hsb (Sb_two.mpr q) (by omega)
            omega
      · show (sL N 256 i (M.2 256 i ||| M.2 256 (i - 2 ^ b))).2 256 x = _
        rw [sL_2, if_neg (by omega)]
        exact g3 x (by omega)
      · show 2048 - (nI ((i + 1) ||| 2 ^ b)).toNatClampNeg < 2048 - (nI i).toNatClampNeg
        rw [nI_clamp (by omega), nI_clamp (by omega)]
        omega
      · show f_X7_closeUpwards_l3 (nI (2 ^ b)) (n + 1) (nI i) N = f_X7_closeUpwards_l3 (nI (2 ^ b)) n (nI ((i + 1) ||| 2 ^ b)) _
        rw [f_X7_closeUpwards_l3, g1, h3, if_neg (ifle_no hlt (by omega)), pk_sub hge, if_pos (inB_nI (show i < 1024 by omega) (by decide)), if_pos (inB_nI (show i - 2 ^ b < 1024 from sub_lt' (by omega)) (by decide)), if_pos (inB_nI (show i < 1024 by omega) (by decide)), nI_clamp (show i < 2 ^ 31 by omega), nI_clamp (show i - 2 ^ b < 2 ^ 31 from sub_lt' (by omega)), nI_1, nx_or, g3 i (Nat.le_refl _), hprev]
    · right
      refine ⟨N, ?_, g1, fun x hx => g2 x (by omega) hx⟩
      show f_X7_closeUpwards_l3 (nI (2 ^ b)) (n + 1) (nI i) N = _
      rw [f_X7_closeUpwards_l3, g1, h3, if_pos (nI_le (by omega) (by omega))]
theorem shl2p : ∀ b, b < 12 → nI (2 ^ b) <<< ((1 : Int32) &&& 31) = nI (2 ^ (b + 1)) := by decide +kernel
theorem closeU {M : Mem} {m : Nat} (hp : PS M m) : ∃ N, f_X7_closeUpwards M = some N ∧ N.1 = M.1 ∧ ∀ s, s < 2 ^ m → (pb N s = true ↔ Up (fun t => pb M t = true) s) := by
  obtain ⟨N1, e1, f1, g1⟩ := closeU1 hp
  obtain ⟨h1, h2, h3⟩ := id hp
  obtain ⟨u1, u2, u3⟩ := ps_u m h1 h2
  have HH := loop_d (F := fun n (s : Int32 × Mem) => f_X7_closeUpwards_l2 n s.1 s.2)
    (fun s => ∃ b, s.1 = nI (2 ^ b) ∧ b ≤ m - 6 ∧ s.2.1 = M.1 ∧ ∀ x, x < 2 ^ m → (pb s.2 x = true ↔ upI (6 + b) (fun t => pb M t = true) x))
    (fun s => 2048 - s.1.toNatClampNeg)
    (fun N => N.1 = M.1 ∧ ∀ s, s < 2 ^ m → (pb N s = true ↔ Up (fun t => pb M t = true) s))
    ?_ (1, N1) ⟨0, rfl, by omega, f1, g1⟩ (by show 2048 - _ < 70000; omega)
  · obtain ⟨N, e, n1, n2⟩ := HH
    refine ⟨N, ?_, n1, n2⟩
    have e : f_X7_closeUpwards_l2 fuelN 1 N1 = _ := e
    unfold f_X7_closeUpwards
    rw [e1, Option.bind_some, e, Option.bind_some]
  · rintro n ⟨v, N⟩ ⟨b, e, hb, i1, i2⟩
    dsimp only at e i1 i2
    subst e
    have hbp : 2 ^ b ≤ 2 ^ (m - 6) := Nat.pow_le_pow_right (by decide) hb
    by_cases hlt : b < m - 6
    · left
      have hbq : 2 ^ b < 2 ^ (m - 6) := Nat.pow_lt_pow_right (by decide) hlt
      obtain ⟨N', e', k1, k2⟩ := closeU3 (PS.keep hp i1) (b := b) (by omega)
      refine ⟨(nI (2 ^ (b + 1)), N'), ⟨b + 1, rfl, by omega, by show N'.1 = M.1; rw [k1, i1], fun x hx => ?_⟩, ?_, ?_⟩
      · show pb N' x = true ↔ (upI (6 + b) _ x ∨ (x.testBit (6 + b) = true ∧ upI (6 + b) _ (x - 2 ^ (6 + b))))
        rw [k2 x hx, i2 x hx, i2 (x - 2 ^ (b + 6)) (sub_lt' hx), Nat.add_comm b 6]
      · show 2048 - (nI (2 ^ (b + 1))).toNatClampNeg < 2048 - (nI (2 ^ b)).toNatClampNeg
        have : 2 ^ (b + 1) = 2 * 2 ^ b := by rw [Nat.pow_succ]; omega
        have := Nat.two_pow_pos b
        rw [nI_clamp (by omega), nI_clamp (by omega)]
        omega
      · show f_X7_closeUpwards_l2 (n + 1) (nI (2 ^ b)) N = f_X7_closeUpwards_l2 n (nI (2 ^ (b + 1))) N'
        rw [f_X7_closeUpwards_l2, i1, h3, if_neg (ifle_no hbq (by omega)), e', Option.bind_some, shl2p b (by omega)]
    · right
      have : b = m - 6 := by omega
      subst this
      refine ⟨N, ?_, i1, fun s hs => ?_⟩
      · show f_X7_closeUpwards_l2 (n + 1) (nI (2 ^ (m - 6))) N = _
        rw [f_X7_closeUpwards_l2, i1, h3, if_pos (Int32.le_refl _)]
      · rw [i2 s hs, show 6 + (m - 6) = m by omega, upI_Up hs]
