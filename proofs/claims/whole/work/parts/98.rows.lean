/-! rows: ways to choose one keeper of each of the last k rows. L k: the length of the k-th row from the end, F k: its first keeper -/
def pk_ (L : Nat → Nat) : Nat → Nat
  | 0 => 1
  | k + 1 => pk_ L k * L k
def Wy (L F : Nat → Nat) : Nat → Nat → Prop
  | 0, s => s = 0
  | k + 1, s => ∃ w, Wy L F k w ∧ ∃ d, d < L k ∧ s = w ||| 2 ^ (F k + d)
def dg (L : Nat → Nat) (n k : Nat) : Nat := (n / pk_ L k) % L k
def ov (L F : Nat → Nat) (n : Nat) : Nat → Nat
  | 0 => 0
  | k + 1 => ov L F n k ||| 2 ^ (F k + dg L n k)
theorem pk_pos {L : Nat → Nat} : ∀ k, (∀ i, i < k → 1 ≤ L i) → 1 ≤ pk_ L k := by
  intro k
  induction k with
  | zero => intro _; exact Nat.le_refl 1
  | succ k ih =>
    intro h
    exact Nat.mul_pos (ih (fun i hi => h i (by omega))) (h k (by omega))
theorem pk_dvd {L : Nat → Nat} : ∀ k i, i < k → ∃ c, pk_ L k = pk_ L i * L i * c := by
  intro k
  induction k with
  | zero => intro i hi; omega
  | succ k ih =>
    intro i hi
    by_cases e : i = k
    · subst e; exact ⟨1, by rw [Nat.mul_one]; rfl⟩
    · obtain ⟨c, hc⟩ := ih i (by omega)
      refine ⟨c * L k, ?_⟩
      show pk_ L k * L k = _
      rw [hc, Nat.mul_assoc]
theorem ov_W {L F : Nat → Nat} (n : Nat) : ∀ k, (∀ i, i < k → 1 ≤ L i) → Wy L F k (ov L F n k) := by
  intro k
  induction k with
  | zero => intro _; exact rfl
  | succ k ih =>
    intro h
    exact ⟨ov L F n k, ih (fun i hi => h i (by omega)), dg L n k, Nat.mod_lt _ (h k (by omega)), rfl⟩
theorem dg_add {L : Nat → Nat} {k i d n : Nat} (hL : ∀ i, i < k → 1 ≤ L i) (hi : i < k) : dg L (d * pk_ L k + n) i = dg L n i := by
  obtain ⟨c, hc⟩ := pk_dvd k i hi
  have hp := pk_pos (L := L) i (fun j hj => hL j (by omega))
  unfold dg
  rw [hc, show d * (pk_ L i * L i * c) + n = pk_ L i * (L i * (c * d)) + n by rw [Nat.mul_comm d, Nat.mul_assoc, Nat.mul_assoc], Nat.mul_add_div hp, Nat.mul_add_mod]
theorem ov_add {L F : Nat → Nat} {k d n : Nat} (hL : ∀ i, i < k → 1 ≤ L i) : ∀ j, j ≤ k → ov L F (d * pk_ L k + n) j = ov L F n j := by
  intro j
  induction j with
  | zero => intro _; rfl
  | succ j ih =>
    intro hj
    show ov L F (d * pk_ L k + n) j ||| _ = ov L F n j ||| _
    rw [ih (by omega), dg_add hL (by omega)]
theorem W_ov {L F : Nat → Nat} : ∀ k s, (∀ i, i < k → 1 ≤ L i) → Wy L F k s → ∃ n, n < pk_ L k ∧ s = ov L F n k := by
  intro k
  induction k with
  | zero => intro s _ h; exact ⟨0, Nat.zero_lt_one, h⟩
  | succ k ih =>
    rintro s hL ⟨w, hw, d, hd, rfl⟩
    obtain ⟨n, n1, n2⟩ := ih w (fun i hi => hL i (by omega)) hw
    have hp := pk_pos (L := L) k (fun j hj => hL j (by omega))
    refine ⟨d * pk_ L k + n, ?_, ?_⟩
    · show _ < pk_ L k * L k
      calc d * pk_ L k + n < d * pk_ L k + pk_ L k := by omega
        _ = pk_ L k * (d + 1) := by rw [Nat.mul_add, Nat.mul_one, Nat.mul_comm]
        _ ≤ pk_ L k * L k := Nat.mul_le_mul_left _ hd
    · show w ||| _ = ov L F (d * pk_ L k + n) k ||| 2 ^ (F k + dg L (d * pk_ L k + n) k)
      rw [ov_add (fun i hi => hL i (by omega)) k (Nat.le_refl _), n2]
      have : dg L (d * pk_ L k + n) k = d := by
        unfold dg
        rw [Nat.mul_comm d, Nat.mul_add_div hp, Nat.div_eq_of_lt n1, Nat.add_zero, Nat.mod_eq_of_lt hd]
      rw [this]
/-- one more: rows whose digit is at its end go back to the first, the next one goes on -/
theorem dg_zero {L : Nat → Nat} {k n : Nat} (hL : ∀ i, i < k → 1 ≤ L i) (h : (n + 1) % pk_ L k = 0) {i : Nat} (hi : i < k) : dg L (n + 1) i = 0 := by
  have e : n + 1 = ((n + 1) / pk_ L k) * pk_ L k + 0 := by
    have := Nat.div_add_mod (n + 1) (pk_ L k)
    rw [h, Nat.mul_comm] at this
    exact this.symm
  rw [e, dg_add hL hi]
  unfold dg
  simp
theorem dg_next {L : Nat → Nat} {k n : Nat} (hL : ∀ i, i ≤ k → 1 ≤ L i) (h : (n + 1) % pk_ L k = 0) (hd : dg L n k + 1 < L k) : dg L (n + 1) k = dg L n k + 1 := by
  have hp := pk_pos (L := L) k (fun j hj => hL j (by omega))
  have e : (n + 1) / pk_ L k = n / pk_ L k + 1 := by
    have h1 := Nat.div_add_mod (n + 1) (pk_ L k)
    rw [h, Nat.add_zero] at h1
    have h2 := Nat.div_add_mod n (pk_ L k)
    have h3 := Nat.mod_lt n hp
    generalize hx : (n + 1) / pk_ L k = x at h1 ⊢
    generalize hy : n / pk_ L k = y at h2 ⊢
    rcases Nat.lt_trichotomy x (y + 1) with q | q | q
    · have : pk_ L k * x ≤ pk_ L k * y := Nat.mul_le_mul_left _ (by omega)
      omega
    · exact q
    · have : pk_ L k * (y + 2) ≤ pk_ L k * x := Nat.mul_le_mul_left _ (by omega)
      rw [Nat.mul_add] at this
      omega
  unfold dg at hd ⊢
  rw [e]
  rw [Nat.add_mod, Nat.mod_eq_of_lt (show 1 < L k by omega)]
  exact Nat.mod_eq_of_lt hd
theorem dg_same {L : Nat → Nat} {k n : Nat} (hL : ∀ i, i ≤ k → 1 ≤ L i) (hd : dg L n k + 1 < L k) (h : (n + 1) % pk_ L k = 0) {i : Nat} (hi : k < i) : dg L (n + 1) i = dg L n i := by
  have hp := pk_pos (L := L) k (fun j hj => hL j (by omega))
  have e : (n + 1) / pk_ L (k + 1) = n / pk_ L (k + 1) := by
    show (n + 1) / (pk_ L k * L k) = n / (pk_ L k * L k)
    rw [← Nat.div_div_eq_div_mul, ← Nat.div_div_eq_div_mul]
    have e1 : (n + 1) / pk_ L k = n / pk_ L k + 1 := by
      have h1 := Nat.div_add_mod (n + 1) (pk_ L k)
      rw [h, Nat.add_zero] at h1
      have h2 := Nat.div_add_mod n (pk_ L k)
      have h3 := Nat.mod_lt n hp
      generalize hx : (n + 1) / pk_ L k = x at h1 ⊢
      generalize hy : n / pk_ L k = y at h2 ⊢
      rcases Nat.lt_trichotomy x (y + 1) with q | q | q
      · have : pk_ L k * x ≤ pk_ L k * y := Nat.mul_le_mul_left _ (by omega)
        omega
      · exact q
      · have : pk_ L k * (y + 2) ≤ pk_ L k * x := Nat.mul_le_mul_left _ (by omega)
        rw [Nat.mul_add] at this
        omega
    rw [e1]
    unfold dg at hd
    generalize n / pk_ L k = y at hd ⊢
    have h2 := Nat.div_add_mod y (L k)
    have h3 : y + 1 = L k * (y / L k) + (y % L k + 1) := by omega
    rw [h3, Nat.mul_add_div (by omega), Nat.div_eq_of_lt hd, Nat.add_zero]
  have hc : ∃ c, pk_ L i = pk_ L (k + 1) * c := by
    by_cases q : i = k + 1
    · exact ⟨1, by rw [q, Nat.mul_one]⟩
    · obtain ⟨c, hc⟩ := pk_dvd (L := L) i (k + 1) (by omega)
      exact ⟨L (k + 1) * c, by rw [hc, Nat.mul_assoc]⟩
  obtain ⟨c, hc⟩ := hc
  unfold dg
  rw [hc, ← Nat.div_div_eq_div_mul, ← Nat.div_div_eq_div_mul, e]
theorem dg_end {L : Nat → Nat} {k n : Nat} (hL : ∀ i, i ≤ k → 1 ≤ L i) (h : (n + 1) % pk_ L k = 0) (hd : dg L n k + 1 = L k) : (n + 1) % pk_ L (k + 1) = 0 := by
  have hp := pk_pos (L := L) k (fun j hj => hL j (by omega))
  have h1 := Nat.div_add_mod (n + 1) (pk_ L k)
  rw [h, Nat.add_zero] at h1
  have e : (n + 1) / pk_ L k = n / pk_ L k + 1 := by
    have h2 := Nat.div_add_mod n (pk_ L k)
    have h3 := Nat.mod_lt n hp
    generalize hx : (n + 1) / pk_ L k = x at h1 ⊢
    generalize hy : n / pk_ L k = y at h2 ⊢
    rcases Nat.lt_trichotomy x (y + 1) with q | q | q
    · have : pk_ L k * x ≤ pk_ L k * y := Nat.mul_le_mul_left _ (by omega)
      omega
    · exact q
    · have : pk_ L k * (y + 2) ≤ pk_ L k * x := Nat.mul_le_mul_left _ (by omega)
      rw [Nat.mul_add] at this
      omega
  rw [e] at h1
  unfold dg at hd
  have h4 := Nat.div_add_mod (n / pk_ L k) (L k)
  have h5 : n / pk_ L k + 1 = L k * (n / pk_ L k / L k + 1) := by rw [Nat.mul_add, Nat.mul_one]; omega
  rw [← h1, h5, ← Nat.mul_assoc]
  show _ % (pk_ L k * L k) = 0
  exact Nat.mul_mod_right _ _
theorem cube3 : ∀ l, l < 17 → l * l * l ≤ 3 ^ l := by decide
theorem pk_cube {L : Nat → Nat} : ∀ k, (∀ i, i < k → L i < 17) → pk_ L k * pk_ L k * pk_ L k ≤ 3 ^ psum L k := by
  intro k
  induction k with
  | zero => intro _; exact Nat.le_refl 1
  | succ k ih =>
    intro hL
    have h1 := ih (fun i hi => hL i (by omega))
    have h3 := cube3 (L k) (hL k (by omega))
    show pk_ L k * L k * (pk_ L k * L k) * (pk_ L k * L k) ≤ 3 ^ (psum L k + L k)
    rw [Nat.pow_add]
    calc pk_ L k * L k * (pk_ L k * L k) * (pk_ L k * L k) = (pk_ L k * pk_ L k * pk_ L k) * (L k * L k * L k) := by
          ac_rfl
      _ ≤ 3 ^ psum L k * 3 ^ L k := Nat.mul_le_mul h1 h3
theorem cube_b {p t : Nat} (h : p * p * p ≤ 3 ^ t) (ht : t ≤ 15) : p ≤ 243 := by
  have h2 : 3 ^ t ≤ 3 ^ 15 := Nat.pow_le_pow_right (by decide) ht
  apply Classical.byContradiction
  intro q
  have h3 : 244 * 244 * 244 ≤ p * p * p := Nat.mul_le_mul (Nat.mul_le_mul (by omega) (by omega)) (by omega)
  have : (244 * 244 * 244 : Nat) ≤ 3 ^ 15 := by omega
  exact absurd this (by decide)
theorem cube_b2 {p t : Nat} (h : p * p * p ≤ 3 ^ t) (ht : t ≤ 16) : p ≤ 350 := by
  have h2 : 3 ^ t ≤ 3 ^ 16 := Nat.pow_le_pow_right (by decide) ht
  apply Classical.byContradiction
  intro q
  have h3 : 351 * 351 * 351 ≤ p * p * p := Nat.mul_le_mul (Nat.mul_le_mul (by omega) (by omega)) (by omega)
  have : (351 * 351 * 351 : Nat) ≤ 3 ^ 16 := by omega
  exact absurd this (by decide)
theorem W_lt {L F : Nat → Nat} {m : Nat} : ∀ k, (∀ i, i < k → F i + L i ≤ m) → ∀ s, Wy L F k s → s < 2 ^ m := by
  intro k
  induction k with
  | zero => rintro _ s rfl; exact Nat.two_pow_pos m
  | succ k ih =>
    rintro h s ⟨w, hw, d, hd, rfl⟩
    refine Nat.or_lt_two_pow (ih (fun i hi => h i (by omega)) w hw) (Nat.pow_lt_pow_right (by decide) ?_)
    have := h k (by omega)
    omega
/-! the rows as both sides keep them -/
def Lr (len : Nat → Nat) (R k : Nat) : Nat := len (R - 1 - k)
def Fr (len : Nat → Nat) (base R k : Nat) : Nat := base + psum len (R - 1 - k)
def Fl (len : Nat → Nat) (base r : Nat) : Nat := (2 ^ len r - 1) * 2 ^ (base + psum len r)
/-- a whole row, and one of each row behind it -/
def Gr (len : Nat → Nat) (base R s : Nat) : Prop := ∃ r, r < R ∧ ∃ w, Wy (Lr len R) (Fr len base R) (R - 1 - r) w ∧ s = Fl len base r ||| w
def RowOk (len : Nat → Nat) (base R kn : Nat) : Prop := 1 ≤ R ∧ R ≤ 16 ∧ (∀ j, j < R → 1 ≤ len j) ∧ base + psum len R ≤ kn ∧ kn ≤ 16
theorem RowOk.len {len : Nat → Nat} {base R kn j : Nat} (h : RowOk len base R kn) (hj : j < R) : 1 ≤ len j ∧ base + psum len j + len j ≤ kn ∧ len j ≤ 16 := by
  obtain ⟨h1, h2, h3, h4, h5⟩ := h
  have : psum len (j + 1) ≤ psum len R := psum_mono hj
  have e : psum len (j + 1) = psum len j + len j := rfl
  exact ⟨h3 j hj, by omega, by omega⟩
theorem sum_L {len : Nat → Nat} {R : Nat} : ∀ k, k ≤ R → psum (Lr len R) k + psum len (R - k) = psum len R := by
  intro k
  induction k with
  | zero => intro _; show 0 + psum len (R - 0) = _; rw [Nat.sub_zero, Nat.zero_add]
  | succ k ih =>
    intro hk
    have := ih (by omega)
    show psum (Lr len R) k + len (R - 1 - k) + psum len (R - (k + 1)) = _
    have e : psum len (R - k) = psum len (R - (k + 1)) + len (R - (k + 1)) := by
      rw [show R - k = R - (k + 1) + 1 by omega]; rfl
    rw [show R - 1 - k = R - (k + 1) by omega]
    omega
theorem RowOk.cnt {len : Nat → Nat} {base R kn k : Nat} (h : RowOk len base R kn) (hk : k < R) : pk_ (Lr len R) k ≤ 243 := by
  obtain ⟨h1, h2, h3, h4, h5⟩ := id h
  have hc := pk_cube (L := Lr len R) k (fun i hi => by have := (h.len (j := R - 1 - i) (by omega)).2.2; show len (R - 1 - i) < 17; omega)
  have hs := sum_L (len := len) (R := R) k (by omega)
  have : psum len 1 ≤ psum len (R - k) := psum_mono (by omega)
  have e1 : psum len 1 = 0 + len 0 := rfl
  have := h3 0 (by omega)
  exact cube_b hc (by omega)
theorem Lr_pos {len : Nat → Nat} {base R kn : Nat} (h : RowOk len base R kn) {i : Nat} (hi : i < R) : 1 ≤ Lr len R i := (h.len (j := R - 1 - i) (by omega)).1
theorem Fr_le {len : Nat → Nat} {base R kn : Nat} (h : RowOk len base R kn) {i : Nat} (hi : i < R) : Fr len base R i + Lr len R i ≤ kn := (h.len (j := R - 1 - i) (by omega)).2.1
theorem Fl_b {len : Nat → Nat} {base R kn r : Nat} (h : RowOk len base R kn) (hr : r < R) : 1 ≤ Fl len base r ∧ Fl len base r < 2 ^ kn := by
  obtain ⟨h1, h2, h3⟩ := h.len hr
  have hp : 2 ≤ 2 ^ len r := Nat.le_trans (Nat.le_refl (2 ^ 1)) (Nat.pow_le_pow_right (by decide) h1)
  refine ⟨Nat.mul_pos (by omega) (Nat.two_pow_pos _), ?_⟩
  calc Fl len base r < 2 ^ len r * 2 ^ (base + psum len r) := Nat.mul_lt_mul_of_pos_right (by omega) (Nat.two_pow_pos _)
    _ = 2 ^ (len r + (base + psum len r)) := (Nat.pow_add _ _ _).symm
    _ ≤ 2 ^ kn := Nat.pow_le_pow_right (by decide) (by omega)
theorem Gr_b {len : Nat → Nat} {base R kn s : Nat} (h : RowOk len base R kn) (hs : Gr len base R s) : 1 ≤ s ∧ s < 2 ^ kn := by
  obtain ⟨r, hr, w, hw, rfl⟩ := hs
  have hF := Fl_b h hr
  exact ⟨Nat.le_trans hF.1 Nat.left_le_or, Nat.or_lt_two_pow hF.2 (W_lt _ (fun i hi => Fr_le h (by omega)) w hw)⟩
theorem Gr_ex {len : Nat → Nat} {base R kn : Nat} (h : RowOk len base R kn) : ∃ s, Gr len base R s := ⟨_, R - 1, by have := h.1; omega, 0, by rw [Nat.sub_self]; rfl, rfl⟩
theorem full_ {len : Nat → Nat} {base R kn r : Nat} (h : RowOk len base R kn) (hr : r < R) : (((1 : Int32) <<< (nI (len r) &&& 31)) - (1 : Int32)) <<< (nI (base + psum len r) &&& 31) = nI (Fl len base r) := by
  obtain ⟨h1, h2, h3⟩ := h.len hr
  have hkn := h.2.2.2.2
  have hF := (Fl_b h hr).2
  have hk := p16 hkn
  have hp := Nat.two_pow_pos (len r)
  rw [one_shl _ (by omega), show (1 : Int32) = nI 1 from rfl, pk_sub hp]
  exact shl_ (by omega) (by show Fl len base r < _; omega)
def G2 (M N : Mem) (c : Nat) (S : Nat → Prop) : Prop := (∀ d, d ≠ c → N.1 d = M.1 d) ∧ ∀ s, (pb N s = true ↔ (pb M s = true ∨ S s))
theorem rowsX_sum {M : Mem} {len : Nat → Nat} {R : Nat} (hR : R ≤ 16) (h4 : M.1 254 4 = nI R) (h : ∀ j, j < R → M.1 260 j = nI (len j)) : f_X3_keepersOfRows M = some (nI (psum len R)) := by
  obtain ⟨r, e, rfl⟩ := loop_go (F := fun n v s => f_X3_keepersOfRows_l1 M n s v) R (by omega) (fun i s => s = nI (psum len i)) (fun r => r = nI (psum len R))
    (fun n s hs => ⟨s, by show f_X3_keepersOfRows_l1 M (n + 1) s (nI R) = _; rw [f_X3_keepersOfRows_l1, h4, if_pos (Int32.le_refl _)], hs⟩)
    (fun n i s hi hs => Or.inl ⟨_, rfl, by
      show f_X3_keepersOfRows_l1 M (n + 1) s (nI i) = f_X3_keepersOfRows_l1 M n _ (nI (i + 1))
      rw [f_X3_keepersOfRows_l1, h4, if_neg (ifle_no hi (by omega)), if_pos (inB_nI (show i < 16 by omega) (by decide)), nI_clamp (by omega), h i hi, hs, nI_add, nI_1]
      rfl⟩) 0 (nI 0) (by omega) rfl
  unfold f_X3_keepersOfRows
  have e : f_X3_keepersOfRows_l1 M fuelN 0 0 = _ := e
  rw [e, Option.bind_some]
theorem rowsX_l2 {M : Mem} {m cnt full : Nat} {wv : Nat → Nat} (hp : PS M m) (hc : cnt ≤ 243) (hw : ∀ i, i < cnt → M.1 258 i = nI (wv i)) (hb : ∀ i, i < cnt → full ||| wv i < 2 ^ m) (a b c : Int32) : ∃ N, f_X3_gatherRows_l2 a (nI cnt) b c (nI full) fuelN 0 M = some N ∧ GX M N (fun s => ∃ i, i < cnt ∧ s = full ||| wv i) := by
  exact loopGX (fun n v N => f_X3_gatherRows_l2 a (nI cnt) b c (nI full) n v N) cnt (by omega) (fun i s => s = full ||| wv i) M (fun k N hN => by
      show f_X3_gatherRows_l2 a (nI cnt) b c (nI full) (k + 1) (nI cnt) N = _
      rw [f_X3_gatherRows_l2, if_pos (Int32.le_refl _)]) (fun k i N hi hN => by
      obtain ⟨N', e, g⟩ := putG (PS.keep hp hN) (hb i hi)
      refine ⟨N', g, ?_⟩
      show f_X3_gatherRows_l2 a (nI cnt) b c (nI full) (k + 1) (nI i) N = f_X3_gatherRows_l2 a (nI cnt) b c (nI full) k (nI (i + 1)) N'
      rw [f_X3_gatherRows_l2, if_neg (ifle_no hi (by omega)), if_pos (inB_nI (show i < 320 by omega) (by decide)), nI_clamp (by omega), hN, hw i hi, nx_or, e, Option.bind_some, nI_1])
theorem chooseX {M : Mem} {cnt fr l : Nat} {wv : Nat → Nat} (hl : 1 ≤ l) (hc : cnt * l ≤ 243) (hfr : fr + l ≤ 16) (hw : ∀ i, i < cnt → M.1 258 i = nI (wv i)) : ∃ N, f_X3_chooseOne (nI cnt) (nI fr) (nI l) M = some (nI (cnt * l), N) ∧ N.2 = M.2 ∧ (∀ d, d ≠ 258 → N.1 d = M.1 d) ∧ ∀ i, i < cnt * l → N.1 258 i = nI (wv (i / l) ||| 2 ^ (fr + i % l)) := by
  have hcl : cnt ≤ cnt * l := Nat.le_mul_of_pos_right _ hl
  have HH := loop_d (F := fun n (s : Int32 × Mem) => f_X3_chooseOne_l1 (nI fr) (nI l) (nI (cnt * l)) n s.1 s.2)
    (fun s => ∃ x, s.1 = nI x - 1 ∧ x ≤ cnt * l ∧ s.2.2 = M.2 ∧ (∀ d, d ≠ 258 → s.2.1 d = M.1 d) ∧ (∀ i, i < x → s.2.1 258 i = M.1 258 i) ∧ ∀ i, x ≤ i → i < cnt * l → s.2.1 258 i = nI (wv (i / l) ||| 2 ^ (fr + i % l)))
    (fun s => (s.1 + 1).toNatClampNeg)
    (fun N => N.2 = M.2 ∧ (∀ d, d ≠ 258 → N.1 d = M.1 d) ∧ ∀ i, i < cnt * l → N.1 258 i = nI (wv (i / l) ||| 2 ^ (fr + i % l)))
    ?_ (nI (cnt * l) - 1, M) ⟨cnt * l, rfl, Nat.le_refl _, rfl, fun _ _ => rfl, fun _ _ => rfl, fun i q1 q2 => by omega⟩ (by
      show (nI (cnt * l) - 1 + 1).toNatClampNeg < 70000
      rw [show nI (cnt * l) - 1 + 1 = nI (cnt * l) from Int32.sub_add_cancel _ _, nI_clamp (by omega)]
      omega)
  · obtain ⟨N, e, hN⟩ := HH
    refine ⟨N, ?_, hN⟩
    have e : f_X3_chooseOne_l1 (nI fr) (nI l) (nI (cnt * l)) fuelN (nI (cnt * l) - 1) M = some N := e
    unfold f_X3_chooseOne
    rw [if_neg (nI_pos (by omega)), if_neg (nI_nle hl (by omega)), pk_mul, if_pos (show nI (cnt * l) ≤ (320 : Int32) from nI_le (b := 320) (by omega) (by decide)), e, Option.bind_some]
  · rintro n ⟨v, N⟩ ⟨x, e, hx, g0, g1, g2, g3⟩
    dsimp only at e g0 g1 g2 g3
    subst e
    cases x with
    | zero =>
      right
      refine ⟨N, ?_, g0, g1, fun i hi => g3 i (by omega) hi⟩
      show f_X3_chooseOne_l1 _ _ _ (n + 1) (nI 0 - 1) N = _
      rw [f_X3_chooseOne_l1, if_pos m1_neg]
    | succ x =>
      left
      have hxl : x / l < cnt := (Nat.div_lt_iff_lt_mul (by omega)).mpr (by omega)
      have hxx : x / l ≤ x := Nat.div_le_self _ _
      have hml : x % l < l := Nat.mod_lt _ (by omega)
      refine ⟨(nI x - 1, sI N 258 x (nI (wv (x / l) ||| 2 ^ (fr + x % l)))), ⟨x, rfl, by omega, g0, fun d hd => ?_, fun i hi => ?_, fun i q1 q2 => ?_⟩, ?_, ?_⟩
      · show (sI N 258 x _).1 d = _
        rw [sI_off _ _ _ _ hd]; exact g1 d hd
      · show (sI N 258 x _).1 258 i = _
        rw [sI_1, if_neg (by omega)]; exact g2 i (by omega)
      · show (sI N 258 x _).1 258 i = _
        rw [sI_1]
        by_cases e : i = x
        · rw [if_pos ⟨rfl, e⟩, e]
        · rw [if_neg (by omega)]; exact g3 i (by omega) q2
      · show (nI x - 1 + 1).toNatClampNeg < (nI (x + 1) - 1 + 1).toNatClampNeg
        rw [show nI x - 1 + 1 = nI x from Int32.sub_add_cancel _ _, show nI (x + 1) - 1 + 1 = nI (x + 1) from Int32.sub_add_cancel _ _, nI_clamp (by omega), nI_clamp (by omega)]
        omega
      · show f_X3_chooseOne_l1 (nI fr) (nI l) (nI (cnt * l)) (n + 1) (nI (x + 1) - 1) N = f_X3_chooseOne_l1 (nI fr) (nI l) (nI (cnt * l)) n (nI x - 1) _
        have hl0 : ¬ nI l = 0 := nI_ne0 hl (by omega)
        rw [nI_pred, f_X3_chooseOne_l1, if_neg (nI_pos (by omega)), if_pos hl0, pk_rem (by omega) hl (by omega), pk_div (by omega) hl (by omega), if_pos (inB_nI (show x / l < 320 by omega) (by decide)), if_pos hl0, if_pos (inB_nI (show x < 320 by omega) (by decide)), nI_clamp (show x / l < 2 ^ 31 by omega), nI_clamp (show x < 2 ^ 31 by omega), nI_add, one_shl _ (show fr + x % l < 31 by omega), g2 (x / l) (by omega), hw _ hxl, nx_or, show nI x + (-1 : Int32) = nI x - 1 from (Int32.sub_eq_add_neg _ _).symm]
def RwI (M : Mem) (len : Nat → Nat) (base R : Nat) (s : Int32 × Int32 × Int32 × Mem) : Prop :=
  ∃ x, x ≤ R ∧ s.2.2.1 = nI x - 1 ∧ s.1 = nI (base + psum len x) ∧ (∀ d, d ≠ 258 → s.2.2.2.1 d = M.1 d) ∧ (∀ t, (pb s.2.2.2 t = true ↔ (pb M t = true ∨ ∃ r, x ≤ r ∧ r < R ∧ ∃ w, Wy (Lr len R) (Fr len base R) (R - 1 - r) w ∧ t = Fl len base r ||| w))) ∧
    (1 ≤ x → s.2.1 = nI (pk_ (Lr len R) (R - x)) ∧ ∃ wv : Nat → Nat, (∀ i, i < pk_ (Lr len R) (R - x) → s.2.2.2.1 258 i = nI (wv i)) ∧ ∀ t, (∃ i, i < pk_ (Lr len R) (R - x) ∧ t = wv i) ↔ Wy (Lr len R) (Fr len base R) (R - x) t)
theorem rowsX {M : Mem} {m : Nat} {len : Nat → Nat} {base R kn : Nat} (hp : PS M m) (hkm : kn ≤ m) (h : RowOk len base R kn) (h4 : M.1 254 4 = nI R) (h260 : ∀ j, j < R → M.1 260 j = nI (len j)) :
    ∃ N, f_X3_gatherRows (nI base) M = some N ∧ G2 M N 258 (Gr len base R) := by
  obtain ⟨r1, r2, r3, r4, r5⟩ := id h
  have HH := loop_d (F := fun n (s : Int32 × Int32 × Int32 × Mem) => f_X3_gatherRows_l1 n s.1 s.2.1 s.2.2.1 s.2.2.2) (RwI M len base R) (fun s => (s.2.2.1 + 1).toNatClampNeg) (fun N => G2 M N 258 (Gr len base R))
    ?_ (nI (base + psum len R), 1, nI R - 1, sI M 258 0 0) ⟨R, Nat.le_refl _, rfl, rfl, fun d hd => sI_off _ _ _ _ hd, fun t => ?_, fun _ => ⟨?_, fun _ => 0, fun i hi => ?_, fun t => ?_⟩⟩ ?_
  · obtain ⟨N, e, hN⟩ := HH
    refine ⟨N, ?_, hN⟩
    have e : f_X3_gatherRows_l1 fuelN (nI (base + psum len R)) 1 (nI R - 1) (sI M 258 0 0) = some N := e
    unfold f_X3_gatherRows
    rw [rowsX_sum r2 h4 h260, Option.bind_some, nI_add, h4, e, Option.bind_some]
  · rintro n ⟨v2, v3, v4, N⟩ ⟨x, hx, e4, e2, g1, g2, g3⟩
    dsimp only at e4 e2 g1 g2 g3
    subst e4 e2
    cases x with
    | zero =>
      right
      refine ⟨N, ?_, g1, fun t => ?_⟩
      · show f_X3_gatherRows_l1 (n + 1) _ _ (nI 0 - 1) N = _
        rw [f_X3_gatherRows_l1, if_pos m1_neg]
      · rw [g2 t]
        constructor
        · rintro (q | ⟨r, -, q1, q2⟩)
          · exact Or.inl q
          · exact Or.inr ⟨r, q1, q2⟩
        · rintro (q | ⟨r, q1, q2⟩)
          · exact Or.inl q
          · exact Or.inr ⟨r, Nat.zero_le _, q1, q2⟩
    | succ r =>
      left
      obtain ⟨e3, wv, w1, w2⟩ := g3 (by omega)
      subst e3
      have hr : r < R := by omega
      obtain ⟨l1, l2, l3⟩ := h.len hr
      have hcnt := h.cnt (k := R - (r + 1)) (by omega)
      have N260 : N.1 260 r = nI (len r) := by rw [g1 260 (by decide)]; exact h260 r hr
      have hpN : PS N m := PS.keep2 hp (g1 255 (by decide))
      have hFl := (Fl_b h hr).2
      have e1 : nI (base + psum len (r + 1)) - nI (len r) = nI (base + psum len r) := by
        rw [pk_sub (by show len r ≤ base + (psum len r + len r); omega)]
        congr 1
        show base + (psum len r + len r) - len r = _
        omega
      have hW : ∀ i, i < pk_ (Lr len R) (R - (r + 1)) → wv i < 2 ^ kn := fun i hi => W_lt _ (fun k hk => Fr_le h (by omega)) _ ((w2 (wv i)).mp ⟨i, hi, rfl⟩)
      have hkm2 : 2 ^ kn ≤ 2 ^ m := Nat.pow_le_pow_right (by decide) hkm
      obtain ⟨A, a1, a2⟩ := rowsX_l2 (M := N) (full := Fl len base r) hpN hcnt w1 (fun i hi => Nat.lt_of_lt_of_le (Nat.or_lt_two_pow hFl (hW i hi)) hkm2) (nI (base + psum len r)) (nI r) (nI (len r))
      have A258 : A.1 = N.1 := a2.1
      have hstep : ∀ (q : Int32 × Mem), (if nI r ≤ 0 then some (nI (pk_ (Lr len R) (R - (r + 1))), A) else (Option.bind (f_X3_chooseOne (nI (pk_ (Lr len R) (R - (r + 1)))) (nI (base + psum len r)) (nI (len r)) A) (fun q11 => some (q11.1, q11.2)))) = some q → f_X3_gatherRows_l1 (n + 1) (nI (base + psum len (r + 1))) (nI (pk_ (Lr len R) (R - (r + 1)))) (nI (r + 1) - 1) N = f_X3_gatherRows_l1 n (nI (base + psum len r)) q.1 (nI r - 1) q.2 := by
        intro q hq
        rw [nI_pred, f_X3_gatherRows_l1, if_neg (nI_pos (by omega)), if_pos (inB_nI (show r < 16 by omega) (by decide)), nI_clamp (by omega), N260, e1, full_ h hr, a1, Option.bind_some, hq, Option.bind_some, show nI r + (-1 : Int32) = nI r - 1 from (Int32.sub_eq_add_neg _ _).symm]
      have gA : ∀ (Q : Mem), (∀ t, pb Q t = pb A t) → ∀ t, (pb Q t = true ↔ (pb M t = true ∨ ∃ r', r ≤ r' ∧ r' < R ∧ ∃ w, Wy (Lr len R) (Fr len base R) (R - 1 - r') w ∧ t = Fl len base r' ||| w)) := by
        intro Q hQ t
        rw [hQ t, a2.2 t, g2 t]
        constructor
        · rintro ((q | ⟨r', q1, q2⟩) | ⟨i, i1, i2⟩)
          · exact Or.inl q
          · exact Or.inr ⟨r', by omega, q2⟩
          · refine Or.inr ⟨r, Nat.le_refl _, hr, wv i, ?_, i2⟩
            rw [show R - 1 - r = R - (r + 1) by omega]
            exact (w2 (wv i)).mp ⟨i, i1, rfl⟩
        · rintro (q | ⟨r', q1, q2, w, q3, q4⟩)
          · exact Or.inl (Or.inl q)
          · by_cases e : r' = r
            · subst e
              rw [show R - 1 - r' = R - (r' + 1) by omega] at q3
              obtain ⟨i, i1, i2⟩ := (w2 w).mpr q3
              exact Or.inr ⟨i, i1, by rw [q4, i2]⟩
            · exact Or.inl (Or.inr ⟨r', by omega, q2, w, q3, q4⟩)
      have hmu : (nI r - 1 + 1).toNatClampNeg < (nI (r + 1) - 1 + 1).toNatClampNeg := by
        rw [show nI r - 1 + 1 = nI r from Int32.sub_add_cancel _ _, show nI (r + 1) - 1 + 1 = nI (r + 1) from Int32.sub_add_cancel _ _, nI_clamp (by omega), nI_clamp (by omega)]
        omega
      by_cases hr0 : r = 0
      · subst hr0
        refine ⟨(nI (base + psum len 0), nI (pk_ (Lr len R) (R - (0 + 1))), nI 0 - 1, A), ⟨0, Nat.zero_le _, rfl, rfl, fun d hd => by show A.1 d = _; rw [A258]; exact g1 d hd, gA A (fun _ => rfl), fun q => by omega⟩, hmu, hstep (_, A) (by rw [if_pos (by decide)])⟩
      · have hpk : pk_ (Lr len R) (R - (r + 1)) * len r = pk_ (Lr len R) (R - r) := by
          rw [show R - r = R - (r + 1) + 1 by omega]
          show _ = pk_ (Lr len R) (R - (r + 1)) * len (R - 1 - (R - (r + 1)))
          rw [show R - 1 - (R - (r + 1)) = r by omega]
        have hcnt2 := h.cnt (k := R - r) (by omega)
        obtain ⟨C, c1, c2, c3, c4⟩ := chooseX (M := A) (cnt := pk_ (Lr len R) (R - (r + 1))) (fr := base + psum len r) (l := len r) (wv := wv) l1 (by rw [hpk]; exact hcnt2) (by omega) (fun i hi => by rw [A258]; exact w1 i hi)
        rw [hpk] at c1 c4
        refine ⟨(nI (base + psum len r), nI (pk_ (Lr len R) (R - r)), nI r - 1, C), ⟨r, by omega, rfl, rfl, fun d hd => by show C.1 d = _; rw [c3 d hd, A258]; exact g1 d hd, gA C (fun t => pb_keep c2 t), fun _ => ⟨rfl, fun i => wv (i / len r) ||| 2 ^ (base + psum len r + i % len r), c4, fun t => ?_⟩⟩, hmu, hstep (_, C) (by rw [if_neg (nI_nle (by omega) (by omega)), c1, Option.bind_some])⟩
        have eW : Wy (Lr len R) (Fr len base R) (R - r) t ↔ ∃ w, Wy (Lr len R) (Fr len base R) (R - (r + 1)) w ∧ ∃ d, d < len r ∧ t = w ||| 2 ^ (base + psum len r + d) := by
          rw [show R - r = R - (r + 1) + 1 by omega]
          show (∃ w, Wy (Lr len R) (Fr len base R) (R - (r + 1)) w ∧ ∃ d, d < len (R - 1 - (R - (r + 1))) ∧ t = w ||| 2 ^ (base + psum len (R - 1 - (R - (r + 1))) + d)) ↔ _
          rw [show R - 1 - (R - (r + 1)) = r by omega]
        rw [eW, ← hpk]
        constructor
        · rintro ⟨i, i1, i2⟩
          refine ⟨wv (i / len r), (w2 _).mp ⟨i / len r, (Nat.div_lt_iff_lt_mul (by omega)).mpr i1, rfl⟩, i % len r, Nat.mod_lt _ (by omega), i2⟩
        · rintro ⟨w, q1, d, q2, q3⟩
          obtain ⟨i, i1, i2⟩ := (w2 w).mpr q1
          have e1 : (i * len r + d) / len r = i := by rw [Nat.mul_comm, Nat.mul_add_div (by omega), Nat.div_eq_of_lt q2, Nat.add_zero]
          have e2 : (i * len r + d) % len r = d := by rw [Nat.mul_comm, Nat.mul_add_mod, Nat.mod_eq_of_lt q2]
          refine ⟨i * len r + d, ?_, by show t = wv ((i * len r + d) / len r) ||| 2 ^ (base + psum len r + (i * len r + d) % len r); rw [e1, e2, q3, i2]⟩
          calc i * len r + d < i * len r + len r := by omega
            _ = (i + 1) * len r := by rw [Nat.add_mul, Nat.one_mul]
            _ ≤ pk_ (Lr len R) (R - (r + 1)) * len r := Nat.mul_le_mul_right _ i1
  · show pb (sI M 258 0 0) t = true ↔ _
    rw [pb_keep (N := sI M 258 0 0) (M := M) rfl t]
    constructor
    · intro q; exact Or.inl q
    · rintro (q | ⟨r, q1, q2, -⟩)
      · exact q
      · omega
  · rw [Nat.sub_self]; rfl
  · rw [Nat.sub_self] at hi
    have hi : i < 1 := hi
    show (sI M 258 0 0).1 258 i = nI 0
    rw [sI_1, if_pos ⟨rfl, by omega⟩]; rfl
  · rw [Nat.sub_self]
    show (∃ i, i < 1 ∧ t = 0) ↔ t = 0
    constructor
    · rintro ⟨i, -, q⟩; exact q
    · intro q; exact ⟨0, by omega, q⟩
  · show (nI R - 1 + 1).toNatClampNeg < 70000
    rw [show nI R - 1 + 1 = nI R from Int32.sub_add_cancel _ _, nI_clamp (by omega)]
    omega
