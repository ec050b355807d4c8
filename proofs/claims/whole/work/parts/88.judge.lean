/-- two loops that count up to e side by side -/
theorem loop2 {σ τ ρ π : Type} (F : Nat → Int32 → σ → Option ρ) (G : Nat → Int32 → τ → Option π) (e : Nat) (he : e < 66000) (I : Nat → σ → τ → Prop) (Post : ρ → π → Prop)
    (hx : ∀ n s t, I e s t → ∃ r p, F (n + 1) (nI e) s = some r ∧ G (n + 1) (nI e) t = some p ∧ Post r p)
    (hs : ∀ n i s t, i < e → I i s t → (∃ s' t', I (i + 1) s' t' ∧ F (n + 1) (nI i) s = F n (nI (i + 1)) s' ∧ G (n + 1) (nI i) t = G n (nI (i + 1)) t') ∨ ∃ r p, F (n + 1) (nI i) s = some r ∧ G (n + 1) (nI i) t = some p ∧ Post r p)
    (i : Nat) (s : σ) (t : τ) (hi : i ≤ e) (h0 : I i s t) : ∃ r p, F fuelN (nI i) s = some r ∧ G fuelN (nI i) t = some p ∧ Post r p := by
  have key : ∀ k i s t, e - i = k → i ≤ e → I i s t → ∀ n, k < n → ∃ r p, F n (nI i) s = some r ∧ G n (nI i) t = some p ∧ Post r p := by
    intro k
    induction k with
    | zero =>
      intro i s t h1 h2 hI n hn
      have : i = e := by omega
      subst this
      obtain ⟨n, rfl⟩ : ∃ m, n = m + 1 := ⟨n - 1, by omega⟩
      exact hx n s t hI
    | succ k ih =>
      intro i s t h1 h2 hI n hn
      obtain ⟨n, rfl⟩ : ∃ m, n = m + 1 := ⟨n - 1, by omega⟩
      rcases hs n i s t (by omega) hI with ⟨s', t', hI', e1, e2⟩ | h
      · rw [e1, e2]
        exact ih (i + 1) s' t' (by omega) (by omega) hI' n (by omega)
      · exact h
  exact key (e - i) i s t rfl hi h0 fuelN (by have := fuel_ge; omega)
/-! judge -/
theorem jd_l2 {M1 M2 : Mem} {f c i : Nat} {q : Nat → Nat} (hx : QX M1 f c q) (hy : QY M2 f c q) (hi : i < c) (n1 : M1.1 252 0 = nI (pr c c)) (hcell : ∀ x, x < pr c c → M1.1 253 x = M2.1 12 x) :
    ∃ r p, f_X8_firstFalsePair_l2 (264 + 2 * f) (nI i) M1 fuelN (nI (pr c i)) (nI (i + 1)) = some r ∧ f_X11_judge_l2 (nI f) (nI i) M2 fuelN (nI (pr c i)) (nI (i + 1)) = some p ∧ ((r = .inl (nI (pr c (i + 1))) ∧ p = .inl (nI (pr c (i + 1)))) ∨ ∃ v, r = .inr v ∧ p = .inr (v, M2)) := by
  have hc := hx.2.1
  have hf := hx.1
  have hm : pr c (i + 1) ≤ pr c c := psum_mono (by omega)
  have hps := pr_s c i
  have hpa := (pr_all c hc).1
  refine loop2 (F := fun n v s => f_X8_firstFalsePair_l2 (264 + 2 * f) (nI i) M1 n s v) (G := fun n v s => f_X11_judge_l2 (nI f) (nI i) M2 n s v) c (by omega) (fun j s t => i < j ∧ s = nI (pr c i + (j - i - 1)) ∧ t = s) _ ?_ ?_ (i + 1) _ _ (by omega) ⟨by omega, by congr 1; omega, rfl⟩
  · rintro n s t ⟨h1, rfl, rfl⟩
    refine ⟨_, _, ?_, ?_, Or.inl ⟨rfl, rfl⟩⟩
    · show f_X8_firstFalsePair_l2 (264 + 2 * f) (nI i) M1 (n + 1) _ (nI c) = _
      rw [f_X8_firstFalsePair_l2, hx.2.2.1, if_pos (Int32.le_refl _), show pr c i + (c - i - 1) = pr c (i + 1) by omega]
    · show f_X11_judge_l2 (nI f) (nI i) M2 (n + 1) _ (nI c) = _
      rw [f_X11_judge_l2, if_pos (inB_nI hf (by decide)), nI_clamp (show f < 2 ^ 31 by omega), hy.2.2.1, if_pos (Int32.le_refl _), show pr c i + (c - i - 1) = pr c (i + 1) by omega]
  · rintro n j s t hj ⟨h1, rfl, rfl⟩
    have hlt : pr c i + (j - i - 1) < pr c c := by omega
    show (∃ s' t', _ ∧ f_X8_firstFalsePair_l2 (264 + 2 * f) (nI i) M1 (n + 1) (nI (pr c i + (j - i - 1))) (nI j) = f_X8_firstFalsePair_l2 (264 + 2 * f) (nI i) M1 n s' (nI (j + 1)) ∧ f_X11_judge_l2 (nI f) (nI i) M2 (n + 1) (nI (pr c i + (j - i - 1))) (nI j) = f_X11_judge_l2 (nI f) (nI i) M2 n t' (nI (j + 1))) ∨ ∃ r p, f_X8_firstFalsePair_l2 (264 + 2 * f) (nI i) M1 (n + 1) (nI (pr c i + (j - i - 1))) (nI j) = some r ∧ f_X11_judge_l2 (nI f) (nI i) M2 (n + 1) (nI (pr c i + (j - i - 1))) (nI j) = some p ∧ _
    rw [f_X8_firstFalsePair_l2, f_X11_judge_l2, hx.2.2.1, if_neg (ifle_no hj (by omega)), n1, if_neg (ifle_no hlt (by omega)), if_pos (inB_nI (show pr c i + (j - i - 1) < 7140 by omega) (by decide)), if_pos (inB_nI (show i < 120 by omega) (by decide)), if_pos (inB_nI (show j < 120 by omega) (by decide)), nI_clamp (show pr c i + (j - i - 1) < 2 ^ 31 by omega), nI_clamp (show i < 2 ^ 31 by omega), nI_clamp (show j < 2 ^ 31 by omega), hx.2.2.2 i hi, hx.2.2.2 j hj,
      if_pos (inB_nI hf (by decide)), nI_clamp (show f < 2 ^ 31 by omega), hy.2.2.1, if_neg (ifle_no hj (by omega)), hy.at hi, hy.at hj, Option.bind_some, Option.bind_some, if_pos (inB_nI (show pr c i + (j - i - 1) < 7140 by omega) (by decide)), hcell _ hlt]
    generalize M2.1 12 (pr c i + (j - i - 1)) = w
    unfold f_X8_isKeeperOf
    rcases pk_ix w (n := 16) (by decide) with hw | hw | ⟨k, hk, rfl⟩
    · rw [if_pos hw, show f_X11_in w 0 15 = some 0 from in_no2 (n := 15) (by decide) (Or.inl hw), Option.bind_some, if_pos rfl, Option.bind_some, if_pos rfl]
      exact Or.inr ⟨_, _, rfl, rfl, Or.inr ⟨_, rfl, rfl⟩⟩
    · have hw0 : ¬ w < 0 := fun h => by
        rw [Int32.lt_iff_toInt_lt] at h
        rw [Int32.le_iff_toInt_le] at hw
        have : (nI 16).toInt = 16 := rfl
        have : (0 : Int32).toInt = 0 := rfl
        omega
      rw [if_neg hw0, if_pos (show (16 : Int32) ≤ w from hw), show f_X11_in w 0 15 = some 0 from in_no2 (n := 15) (by decide) (Or.inr hw), Option.bind_some, if_pos rfl, Option.bind_some, if_pos rfl]
      exact Or.inr ⟨_, _, rfl, rfl, Or.inr ⟨_, rfl, rfl⟩⟩
    · rw [if_neg (nI_pos (by omega)), if_neg (show ¬ (16 : Int32) ≤ nI k from ifle_no hk (by decide)), show f_X11_in (nI k) 0 15 = some 1 from in_yes2 (n := 15) hk (by decide), Option.bind_some, if_neg one_ne, if_pos (inB_nI (show pr c i + (j - i - 1) < 7140 by omega) (by decide))]
      by_cases hb : ((nI (q i) &&& nI (q j)) >>> (nI k &&& 31)) &&& (1 : Int32) = 0
      · rw [if_pos hb, if_pos hb, Option.bind_some, if_pos rfl]
        exact Or.inr ⟨_, _, rfl, rfl, Or.inr ⟨_, rfl, rfl⟩⟩
      · rw [if_neg hb, if_neg hb, Option.bind_some, if_neg one_ne, nI_1, nI_1]
        refine Or.inl ⟨_, _, ⟨by omega, ?_, rfl⟩, rfl, rfl⟩
        congr 1
        omega
theorem jd_l1 {M1 M2 : Mem} {f c : Nat} {q : Nat → Nat} (hx : QX M1 f c q) (hy : QY M2 f c q) (n1 : M1.1 252 0 = nI (pr c c)) (hcell : ∀ x, x < pr c c → M1.1 253 x = M2.1 12 x) :
    ∃ r p, f_X8_firstFalsePair_l1 (264 + 2 * f) M1 fuelN 0 0 = some r ∧ f_X11_judge_l1 (nI f) M2 fuelN 0 0 = some p ∧ ((r = .inl () ∧ p = .inl ()) ∨ ∃ v, r = .inr v ∧ p = .inr (v, M2)) := by
  have hc := hx.2.1
  have hf := hx.1
  refine loop2 (F := fun n v s => f_X8_firstFalsePair_l1 (264 + 2 * f) M1 n s v) (G := fun n v s => f_X11_judge_l1 (nI f) M2 n s v) c (by omega) (fun j s t => s = nI (pr c j) ∧ t = s) _ ?_ ?_ 0 _ _ (by omega) ⟨rfl, rfl⟩
  · rintro n s t ⟨rfl, rfl⟩
    refine ⟨_, _, ?_, ?_, Or.inl ⟨rfl, rfl⟩⟩
    · show f_X8_firstFalsePair_l1 (264 + 2 * f) M1 (n + 1) _ (nI c) = _
      rw [f_X8_firstFalsePair_l1, hx.2.2.1, if_pos (Int32.le_refl _)]
    · show f_X11_judge_l1 (nI f) M2 (n + 1) _ (nI c) = _
      rw [f_X11_judge_l1, if_pos (inB_nI hf (by decide)), nI_clamp (show f < 2 ^ 31 by omega), hy.2.2.1, if_pos (Int32.le_refl _)]
  · rintro n i s t hi ⟨rfl, rfl⟩
    show (∃ s' t', _ ∧ f_X8_firstFalsePair_l1 (264 + 2 * f) M1 (n + 1) (nI (pr c i)) (nI i) = f_X8_firstFalsePair_l1 (264 + 2 * f) M1 n s' (nI (i + 1)) ∧ f_X11_judge_l1 (nI f) M2 (n + 1) (nI (pr c i)) (nI i) = f_X11_judge_l1 (nI f) M2 n t' (nI (i + 1))) ∨ ∃ r p, f_X8_firstFalsePair_l1 (264 + 2 * f) M1 (n + 1) (nI (pr c i)) (nI i) = some r ∧ f_X11_judge_l1 (nI f) M2 (n + 1) (nI (pr c i)) (nI i) = some p ∧ _
    obtain ⟨r, p, e1, e2, hr⟩ := jd_l2 hx hy hi n1 hcell
    rw [f_X8_firstFalsePair_l1, f_X11_judge_l1, hx.2.2.1, if_neg (ifle_no hi (by omega)), if_pos (inB_nI hf (by decide)), nI_clamp (show f < 2 ^ 31 by omega), hy.2.2.1, if_neg (ifle_no hi (by omega)), nI_1, e1, e2, Option.bind_some, Option.bind_some]
    rcases hr with ⟨rfl, rfl⟩ | ⟨v, rfl, rfl⟩
    · exact Or.inl ⟨_, _, ⟨rfl, rfl⟩, rfl, rfl⟩
    · exact Or.inr ⟨_, _, rfl, rfl, Or.inr ⟨v, rfl, rfl⟩⟩
theorem pr_div {c : Nat} (hc : c ≤ 120) (h1 : 1 ≤ c) : nI c * (nI c - 1) / (2 : Int32) = nI (pr c c) := by
  obtain ⟨c, rfl⟩ : ∃ d, c = d + 1 := ⟨c - 1, by omega⟩
  have hp := (pr_all (c + 1) hc).2
  have hb := (pr_all (c + 1) hc).1
  rw [nI_pred, pk_mul, show (2 : Int32) = nI 2 from rfl]
  rw [show c + 1 - 1 = c by omega] at hp
  rw [← hp, pk_div (by omega) (by decide) (by decide)]
  congr 1
  omega
theorem step_judge : St_judge Rel := by
  intro a M1 M2 H
  have Hn := Rel_no H 1
  have Hy := Rel_no H 0
  obtain ⟨z, h, hC, hL, ⟨n2, s1, s2, s3, s4⟩, hs⟩ := id H
  obtain ⟨h1, h2, h3, h4, -⟩ := id hC
  have hI := h4.inv
  have hf := hI.2.1
  unfold f_X10_judge f_X11_judge
  rcases pk_ix a (n := zFn z) (by omega) with ha | ha | ⟨f, hfz, rfl⟩
  · rw [famAt_no h1.2.1.1 (Or.inl ha), isFam_no (by rw [fn5]; exact h2.2.1.1) hf.1 (Or.inl ha)]; exact ⟨_, _, rfl, rfl, rfl, Hn⟩
  · rw [famAt_no h1.2.1.1 (Or.inr ha), isFam_no (by rw [fn5]; exact h2.2.1.1) hf.1 (Or.inr ha)]; exact ⟨_, _, rfl, rfl, rfl, Hn⟩
  rw [famAt_yes h1.2.1.1 hf.1 hfz, isFam_yes (by rw [fn5]; exact h2.2.1.1) hf.1 hfz]
  obtain ⟨-, c1, c2, c3⟩ := hf.2 f hfz
  have qx := QX_of hI h1.2.1 hfz
  have qy := QY_of hI h2.2.1 hfz
  have qy4 := QY_k qy (k54 M2 0)
  have hp := (pr_all _ c2).1
  simp only [Option.bind_some, oel, if_pos (kX_fam qx.1), if_neg one_ne, f_X1_countPairs, qx.2.2.1, inB_nI qx.1 (show 24 < 2 ^ 31 by decide), if_true, nI_clamp (show f < 2 ^ 31 by have := qx.1; omega), qy.2.2.1, pr_div c2 c1, s2, s3]
  by_cases hn : n2 = pr (zCnt (zFm z) f) (zCnt (zFm z) f)
  · subst hn
    obtain ⟨r, p, e1, e2, hr⟩ := jd_l1 qx qy4 s2 (fun x hx => by rw [s4 x hx, sI_off _ _ _ _ (by decide), sI_off _ _ _ _ (by decide)])
    unfold f_X8_firstFalsePair
    rw [if_pos rfl, if_pos rfl, if_pos (kX_fam qx.1), e1, e2, Option.bind_some, Option.bind_some]
    rcases hr with ⟨rfl, rfl⟩ | ⟨v, rfl, rfl⟩
    · exact ⟨_, _, rfl, rfl, rfl, Hy⟩
    · exact ⟨_, _, rfl, rfl, rfl, Hy⟩
  · have hne : ¬ nI n2 = nI (pr (zCnt (zFm z) f) (zCnt (zFm z) f)) := fun q => hn ((nI_eq (by omega) (by omega)).mp q)
    rw [if_neg hne, if_neg hne]
    exact ⟨_, _, rfl, rfl, rfl, Hy⟩
/-! family, liars -/
theorem imin_nI {a b : Nat} (ha : a < 2 ^ 31) (hb : b < 2 ^ 31) : imin (nI a) (nI b) = nI (min a b) := by
  unfold imin
  by_cases h : b < a
  · rw [if_pos (nI_lt h ha), Nat.min_eq_right (by omega)]
  · rw [if_neg (nI_nlt (by omega) hb), Nat.min_eq_left (by omega)]
theorem imax_nI {a b : Nat} (ha : a < 2 ^ 31) (hb : b < 2 ^ 31) : imax (nI a) (nI b) = nI (max a b) := by
  unfold imax
  by_cases h : a < b
  · rw [if_pos (nI_lt h hb), Nat.max_eq_right (by omega)]
  · rw [if_neg (nI_nlt (by omega) ha), Nat.max_eq_left (by omega)]
theorem ifmin {a b : Nat} (ha : a < 2 ^ 31) (hb : b < 2 ^ 31) : (if nI a ≤ nI b then some (nI a) else some (nI b)) = some (nI (min a b)) := by
  by_cases h : a ≤ b
  · rw [if_pos (nI_le h hb), Nat.min_eq_left h]
  · rw [if_neg (nI_ge (by omega) ha), Nat.min_eq_right (by omega)]
theorem ifmax {a b : Nat} (ha : a < 2 ^ 31) (hb : b < 2 ^ 31) : (if nI b ≤ nI a then some (nI a) else some (nI b)) = some (nI (max a b)) := by
  by_cases h : b ≤ a
  · rw [if_pos (nI_le h ha), Nat.max_eq_left h]
  · rw [if_neg (nI_ge (by omega) hb), Nat.max_eq_right (by omega)]
def mnF (g : Nat → Nat) : Nat → Nat
  | 0 => 16
  | n + 1 => min (mnF g n) (g n)
def mxF (g : Nat → Nat) : Nat → Nat
  | 0 => 0
  | n + 1 => max (mxF g n) (g n)
def orF (g : Nat → Nat) : Nat → Nat
  | 0 => 0
  | n + 1 => orF g n ||| g n
theorem mnF_le (g : Nat → Nat) : ∀ n, mnF g n ≤ 16
  | 0 => Nat.le_refl _
  | n + 1 => Nat.le_trans (Nat.min_le_left _ _) (mnF_le g n)
theorem mxF_le {g : Nat → Nat} (hg : ∀ i, g i ≤ 16) : ∀ n, mxF g n ≤ 16
  | 0 => Nat.zero_le _
  | n + 1 => Nat.max_le.mpr ⟨mxF_le hg n, hg n⟩
theorem orF_lt {g : Nat → Nat} {m : Nat} : ∀ n, (∀ i, i < n → g i < 2 ^ m) → orF g n < 2 ^ m
  | 0, _ => Nat.two_pow_pos m
  | n + 1, h => Nat.or_lt_two_pow (orF_lt n (fun i hi => h i (by omega))) (h n (by omega))
theorem nx_or (a b : Nat) : nI a ||| nI b = nI (a ||| b) := by
  apply Int32.toBitVec_inj.1
  show BitVec.ofNat 32 a ||| BitVec.ofNat 32 b = BitVec.ofNat 32 (a ||| b)
  apply BitVec.eq_of_getLsbD_eq
  intro i hi
  simp [hi]
theorem fewX {M : Mem} {f c : Nat} {q : Nat → Nat} (hx : QX M f c q) (hq : ∀ i, i < c → q i < 65536) : f_X1_fewestKeepers (264 + 2 * f) M = some (nI (mnF (fun i => pcn (q i) 16) c)) := by
  have hc := hx.2.1
  obtain ⟨r, e, rfl⟩ := loop_go (F := fun n v s => f_X1_fewestKeepers_l1 (264 + 2 * f) M n s v) c (by omega) (fun i s => s = nI (mnF (fun i => pcn (q i) 16) i)) (fun r => r = nI (mnF (fun i => pcn (q i) 16) c))
    (fun n s h => ⟨s, by show f_X1_fewestKeepers_l1 _ M (n + 1) s (nI c) = _; rw [f_X1_fewestKeepers_l1, hx.2.2.1, if_pos (Int32.le_refl _)], h⟩)
    (fun n i s hi h => Or.inl ⟨_, rfl, by
      show f_X1_fewestKeepers_l1 _ M (n + 1) s (nI i) = f_X1_fewestKeepers_l1 _ M n _ (nI (i + 1))
      have := mnF_le (fun i => pcn (q i) 16) i
      have := pcn_le (q i) 16
      rw [f_X1_fewestKeepers_l1, hx.2.2.1, if_neg (ifle_no hi (by omega)), if_pos (inB_nI (show i < 120 by omega) (by decide)), nI_clamp (show i < 2 ^ 31 by omega), hx.2.2.2 i hi, bitCount16 (hq i hi), Option.bind_some, h, imin_nI (by omega) (by omega), nI_1]
      rfl⟩) 0 (nI 16) (by omega) rfl
  unfold f_X1_fewestKeepers
  have e : f_X1_fewestKeepers_l1 (264 + 2 * f) M fuelN 16 0 = _ := e
  rw [if_pos (kX_fam hx.1), e, Option.bind_some]
theorem mostKX {M : Mem} {f c : Nat} {q : Nat → Nat} (hx : QX M f c q) (hq : ∀ i, i < c → q i < 65536) : f_X1_mostKeepers (264 + 2 * f) M = some (nI (mxF (fun i => pcn (q i) 16) c)) := by
  have hc := hx.2.1
  obtain ⟨r, e, rfl⟩ := loop_go (F := fun n v s => f_X1_mostKeepers_l1 (264 + 2 * f) M n s v) c (by omega) (fun i s => s = nI (mxF (fun i => pcn (q i) 16) i)) (fun r => r = nI (mxF (fun i => pcn (q i) 16) c))
    (fun n s h => ⟨s, by show f_X1_mostKeepers_l1 _ M (n + 1) s (nI c) = _; rw [f_X1_mostKeepers_l1, hx.2.2.1, if_pos (Int32.le_refl _)], h⟩)
    (fun n i s hi h => Or.inl ⟨_, rfl, by
      show f_X1_mostKeepers_l1 _ M (n + 1) s (nI i) = f_X1_mostKeepers_l1 _ M n _ (nI (i + 1))
      have := mxF_le (g := fun i => pcn (q i) 16) (fun i => pcn_le (q i) 16) i
      have := pcn_le (q i) 16
      rw [f_X1_mostKeepers_l1, hx.2.2.1, if_neg (ifle_no hi (by omega)), if_pos (inB_nI (show i < 120 by omega) (by decide)), nI_clamp (show i < 2 ^ 31 by omega), hx.2.2.2 i hi, bitCount16 (hq i hi), Option.bind_some, h, imax_nI (by omega) (by omega), nI_1]
      rfl⟩) 0 (nI 0) (by omega) rfl
  unfold f_X1_mostKeepers
  have e : f_X1_mostKeepers_l1 (264 + 2 * f) M fuelN 0 0 = _ := e
  rw [if_pos (kX_fam hx.1), e, Option.bind_some]
theorem allKX {M : Mem} {f c : Nat} {q : Nat → Nat} (hx : QX M f c q) : f_X1_allKeepers (264 + 2 * f) M = some (nI (orF q c)) := by
  have hc := hx.2.1
  obtain ⟨r, e, rfl⟩ := loop_go (F := fun n v s => f_X1_allKeepers_l1 (264 + 2 * f) M n s v) c (by omega) (fun i s => s = nI (orF q i)) (fun r => r = nI (orF q c))
    (fun n s h => ⟨s, by show f_X1_allKeepers_l1 _ M (n + 1) s (nI c) = _; rw [f_X1_allKeepers_l1, hx.2.2.1, if_pos (Int32.le_refl _)], h⟩)
    (fun n i s hi h => Or.inl ⟨_, rfl, by
      show f_X1_allKeepers_l1 _ M (n + 1) s (nI i) = f_X1_allKeepers_l1 _ M n _ (nI (i + 1))
      rw [f_X1_allKeepers_l1, hx.2.2.1, if_neg (ifle_no hi (by omega)), if_pos (inB_nI (show i < 120 by omega) (by decide)), nI_clamp (show i < 2 ^ 31 by omega), hx.2.2.2 i hi, h, nx_or, nI_1]
      rfl⟩) 0 (nI 0) (by omega) rfl
  unfold f_X1_allKeepers
  have e : f_X1_allKeepers_l1 (264 + 2 * f) M fuelN 0 0 = _ := e
  rw [if_pos (kX_fam hx.1), e, Option.bind_some]
theorem allOfY {M : Mem} {f c : Nat} {q : Nat → Nat} (hy : QY M f c q) : f_X11_allOf (nI f) M = some (nI (orF q c)) := by
  have hc := hy.2.1
  have hf := hy.1
  obtain ⟨r, e, rfl⟩ := loop_go (F := fun n v s => f_X11_allOf_l1 (nI f) M n s v) c (by omega) (fun i s => s = nI (orF q i)) (fun r => r = nI (orF q c))
    (fun n s h => ⟨s, by show f_X11_allOf_l1 _ M (n + 1) s (nI c) = _; rw [f_X11_allOf_l1, if_pos (inB_nI hf (by decide)), nI_clamp (show f < 2 ^ 31 by omega), hy.2.2.1, if_pos (Int32.le_refl _)], h⟩)
    (fun n i s hi h => Or.inl ⟨_, rfl, by
      show f_X11_allOf_l1 _ M (n + 1) s (nI i) = f_X11_allOf_l1 _ M n _ (nI (i + 1))
      rw [f_X11_allOf_l1, if_pos (inB_nI hf (by decide)), nI_clamp (show f < 2 ^ 31 by omega), hy.2.2.1, if_neg (ifle_no hi (by omega)), hy.at hi, Option.bind_some, h, nx_or, nI_1]
      rfl⟩) 0 (nI 0) (by omega) rfl
  unfold f_X11_allOf
  have e : f_X11_allOf_l1 (nI f) M fuelN 0 0 = _ := e
  rw [e, Option.bind_some]
theorem famY_l {M : Mem} {f c : Nat} {q : Nat → Nat} (hy : QY M f c q) (hq : ∀ i, i < c → q i < 65536) (b : Int32) : f_X11_family_l1 (nI f) b M fuelN 16 0 0 = some (nI (mnF (fun i => pcn (q i) 16) c), nI (mxF (fun i => pcn (q i) 16) c)) := by
  have hc := hy.2.1
  have hf := hy.1
  obtain ⟨r, e, rfl⟩ := loop_go (F := fun n v (s : Int32 × Int32) => f_X11_family_l1 (nI f) b M n s.1 s.2 v) c (by omega) (fun i s => s = (nI (mnF (fun i => pcn (q i) 16) i), nI (mxF (fun i => pcn (q i) 16) i))) (fun r => r = (nI (mnF (fun i => pcn (q i) 16) c), nI (mxF (fun i => pcn (q i) 16) c)))
    (fun n s h => ⟨s, by show f_X11_family_l1 _ b M (n + 1) s.1 s.2 (nI c) = _; rw [f_X11_family_l1, if_pos (inB_nI hf (by decide)), nI_clamp (show f < 2 ^ 31 by omega), hy.2.2.1, if_pos (Int32.le_refl _)], h⟩)
    (fun n i s hi h => Or.inl ⟨_, rfl, by
      show f_X11_family_l1 _ b M (n + 1) s.1 s.2 (nI i) = f_X11_family_l1 _ b M n _ _ (nI (i + 1))
      have := mxF_le (g := fun i => pcn (q i) 16) (fun i => pcn_le (q i) 16) i
      have := mnF_le (fun i => pcn (q i) 16) i
      have := pcn_le (q i) 16
      rw [f_X11_family_l1, if_pos (inB_nI hf (by decide)), nI_clamp (show f < 2 ^ 31 by omega), hy.2.2.1, if_neg (ifle_no hi (by omega)), hy.at hi, Option.bind_some, bitsOf_ (hq i hi), Option.bind_some, h, ifmin (by omega) (by omega), ifmax (by omega) (by omega), Option.bind_some, Option.bind_some, nI_1]
      rfl⟩) 0 (nI 16, nI 0) (by omega) rfl
  exact e
theorem step_family : St_family Rel := by
  intro a b M1 M2 H
  have H5 := Rel_5 H
  obtain ⟨z, h, hC, hL, hS, hs⟩ := id H
  obtain ⟨h1, h2, h3, h4, -⟩ := id hC
  have hI := h4.inv
  have hf := hI.2.1
  unfold f_X10_family f_X11_family
  rcases pk_ix a (n := zFn z) (by omega) with ha | ha | ⟨f, hfz, rfl⟩
  · rw [famAt_no h1.2.1.1 (Or.inl ha), isFam_no (by rw [fn5]; exact h2.2.1.1) hf.1 (Or.inl ha)]; exact ⟨_, _, rfl, rfl, rfl, H5⟩
  · rw [famAt_no h1.2.1.1 (Or.inr ha), isFam_no (by rw [fn5]; exact h2.2.1.1) hf.1 (Or.inr ha)]; exact ⟨_, _, rfl, rfl, rfl, H5⟩
  rw [famAt_yes h1.2.1.1 hf.1 hfz, isFam_yes (by rw [fn5]; exact h2.2.1.1) hf.1 hfz]
  obtain ⟨-, c1, c2, c3⟩ := hf.2 f hfz
  have hq : ∀ i, i < zCnt (zFm z) f → zSet (zFm z) f i < 65536 := fun i hi => by
    have := (c3 i hi).2
    have := p16 hI.1.1
    omega
  have qx := QX_of hI h1.2.1 hfz
  have qy := QY_of hI h2.2.1 hfz
  have qy5 := QY_k qy (k5 M2)
  simp only [Option.bind_some, oel, if_pos (kX_fam qx.1), if_neg one_ne, famY_l qy5 hq, inB_nI qx.1 (show 24 < 2 ^ 31 by decide), if_true, nI_clamp (show f < 2 ^ 31 by have := qx.1; omega)]
  by_cases b0 : b = 0
  · rw [if_pos b0, if_pos b0, (h1.2.1.2 f hfz).1, (h2.2.1.2 f hfz).1]; exact ⟨_, _, rfl, rfl, rfl, H5⟩
  by_cases b1 : b = 1
  · rw [if_neg b0, if_pos b1, if_neg b0, if_pos b1, (h1.2.1.2 f hfz).2.1, (h2.2.1.2 f hfz).2.1]; exact ⟨_, _, rfl, rfl, rfl, H5⟩
  by_cases b2 : b = 2
  · rw [if_neg b0, if_neg b1, if_pos b2, if_neg b0, if_neg b1, if_pos b2, allKX qx, allOfY qy5]; exact ⟨_, _, rfl, rfl, rfl, H5⟩
  by_cases b3 : b = 3
  · rw [if_neg b0, if_neg b1, if_neg b2, if_pos b3, if_neg b0, if_neg b1, if_neg b2, if_pos b3, fewX qx hq]; exact ⟨_, _, rfl, rfl, rfl, H5⟩
  by_cases b4 : b = 4
  · rw [if_neg b0, if_neg b1, if_neg b2, if_neg b3, if_pos b4, if_neg b0, if_neg b1, if_neg b2, if_neg b3, if_pos b4, mostKX qx hq]; exact ⟨_, _, rfl, rfl, rfl, H5⟩
  · rw [if_neg b0, if_neg b1, if_neg b2, if_neg b3, if_neg b4, if_neg b0, if_neg b1, if_neg b2, if_neg b3, if_neg b4]; exact ⟨_, _, rfl, rfl, rfl, H5⟩
/-- the least of a start and of what comes for j from i on -/
def isMin (r b : Nat) (P : Nat → Prop) : Prop := r ≤ b ∧ (∀ v, P v → r ≤ v) ∧ (r = b ∨ P r)
theorem isMin_step {r b v : Nat} {P Q : Nat → Prop} (h : isMin r b P) (hq : ∀ x, Q x ↔ P x ∨ x = v) : isMin (min r v) b Q := by
  obtain ⟨h1, h2, h3⟩ := h
  refine ⟨by omega, fun x hx => ?_, ?_⟩
  · rcases (hq x).mp hx with h | h
    · have := h2 x h; omega
    · omega
  · by_cases e : r ≤ v
    · rw [Nat.min_eq_left e]
      rcases h3 with h | h
      · exact Or.inl h
      · exact Or.inr ((hq r).mpr (Or.inl h))
    · rw [Nat.min_eq_right (by omega)]
      exact Or.inr ((hq v).mpr (Or.inr rfl))
/-- the pairs that came before (i, j), of c sets -/
def Pv (c : Nat) (q : Nat → Nat) (i j x : Nat) : Prop := ∃ i' j', i' < j' ∧ (i' < i ∨ (i' = i ∧ j' < j)) ∧ j' < c ∧ x = pcn (q i' &&& q j') 16
theorem Pv_step {c : Nat} {q : Nat → Nat} {i j : Nat} (hi : i < j) (hj : j < c) (x : Nat) : Pv c q i (j + 1) x ↔ Pv c q i j x ∨ x = pcn (q i &&& q j) 16 := by
  constructor
  · rintro ⟨i', j', h1, h2, h3, h4⟩
    by_cases e : i' = i ∧ j' = j
    · obtain ⟨rfl, rfl⟩ := e
      exact Or.inr h4
    · exact Or.inl ⟨i', j', h1, by omega, h3, h4⟩
  · rintro (⟨i', j', h1, h2, h3, h4⟩ | h2)
    · exact ⟨i', j', h1, by omega, h3, h4⟩
    · exact ⟨i, j, hi, by omega, hj, h2⟩
theorem Pv_row {c : Nat} {q : Nat → Nat} {i x : Nat} : Pv c q i c x ↔ Pv c q (i + 1) (i + 2) x := by
  constructor
  · rintro ⟨i', j', h1, h2, h3, h4⟩
    exact ⟨i', j', h1, by omega, h3, h4⟩
  · rintro ⟨i', j', h1, h2, h3, h4⟩
    exact ⟨i', j', h1, by omega, h3, h4⟩
theorem Pv_le {c : Nat} {q : Nat → Nat} {i j x : Nat} (h : Pv c q i j x) : x ≤ 16 := by
  obtain ⟨i', j', h1, h2, h3, rfl⟩ := h
  exact pcn_le _ _
theorem isMin_iff {r b : Nat} {P Q : Nat → Prop} (h : isMin r b P) (e : ∀ x, P x ↔ Q x) : isMin r b Q := by
  have : P = Q := funext fun x => propext (e x)
  rw [← this]; exact h
theorem shX_l2 {M : Mem} {f c i : Nat} {q : Nat → Nat} (hx : QX M f c q) (hq : ∀ i, i < c → q i < 65536) (hi : i < c) {v b : Nat} (hb : b ≤ 16) (hv : isMin v b (Pv c q i (i + 1))) : ∃ w, f_X1_fewestShared_l2 (264 + 2 * f) (nI i) M fuelN (nI v) (nI (i + 1)) = some (nI w) ∧ isMin w b (Pv c q (i + 1) (i + 2)) := by
  have hc := hx.2.1
  have HH := loop_go (F := fun n v s => f_X1_fewestShared_l2 (264 + 2 * f) (nI i) M n s v) c (by omega) (fun j s => i < j ∧ ∃ w, s = nI w ∧ isMin w b (Pv c q i j)) (fun r => ∃ w, r = nI w ∧ isMin w b (Pv c q (i + 1) (i + 2)))
    (fun n s h => ⟨s, by show f_X1_fewestShared_l2 _ _ M (n + 1) s (nI c) = _; rw [f_X1_fewestShared_l2, hx.2.2.1, if_pos (Int32.le_refl _)], by
      obtain ⟨_, w, rfl, hw⟩ := h
      exact ⟨w, rfl, isMin_iff hw (fun _ => Pv_row)⟩⟩)
    (fun n j s hj h => by
      obtain ⟨hij, w, rfl, hw⟩ := h
      refine Or.inl ⟨_, ⟨by omega, min w (pcn (q i &&& q j) 16), rfl, isMin_step hw (Pv_step hij hj)⟩, ?_⟩
      show f_X1_fewestShared_l2 _ _ M (n + 1) (nI w) (nI j) = f_X1_fewestShared_l2 _ _ M n _ (nI (j + 1))
      have := hw.1
      have := pcn_le (q i &&& q j) 16
      rw [f_X1_fewestShared_l2, hx.2.2.1, if_neg (ifle_no hj (by omega)), if_pos (inB_nI (show i < 120 by omega) (by decide)), if_pos (inB_nI (show j < 120 by omega) (by decide)), nI_clamp (show i < 2 ^ 31 by omega), nI_clamp (show j < 2 ^ 31 by omega), hx.2.2.2 i hi, hx.2.2.2 j hj, nx_and, bitCount16 (and_lt16 (hq j hj)), Option.bind_some, imin_nI (by omega) (by omega), nI_1]) (i + 1) (nI v) (by omega) ⟨by omega, v, rfl, hv⟩
  obtain ⟨r, e, w, rfl, hw⟩ := HH
  exact ⟨w, e, hw⟩
theorem lshX {M : Mem} {f c : Nat} {q : Nat → Nat} (hx : QX M f c q) (hq : ∀ i, i < c → q i < 65536) (h1 : 1 ≤ c) (h2 : c ≠ 1) : ∃ w, f_X1_fewestShared (264 + 2 * f) M = some (nI w) ∧ isMin w 16 (Pv c q c (c + 1)) := by
  have hc := hx.2.1
  have HH := loop_go (F := fun n v s => f_X1_fewestShared_l1 (264 + 2 * f) M n s v) c (by omega) (fun j s => ∃ w, s = nI w ∧ isMin w 16 (Pv c q j (j + 1))) (fun r => ∃ w, r = nI w ∧ isMin w 16 (Pv c q c (c + 1)))
    (fun n s h => ⟨s, by show f_X1_fewestShared_l1 _ M (n + 1) s (nI c) = _; rw [f_X1_fewestShared_l1, hx.2.2.1, if_pos (Int32.le_refl _)], h⟩)
    (fun n j s hj h => by
      obtain ⟨w, rfl, hw⟩ := h
      obtain ⟨w', e, hw'⟩ := shX_l2 hx hq hj (Nat.le_refl 16) hw
      refine Or.inl ⟨_, ⟨w', rfl, hw'⟩, ?_⟩
      show f_X1_fewestShared_l1 _ M (n + 1) (nI w) (nI j) = f_X1_fewestShared_l1 _ M n _ (nI (j + 1))
      rw [f_X1_fewestShared_l1, hx.2.2.1, if_neg (ifle_no hj (by omega)), nI_1, e, Option.bind_some]) 0 (nI 16) (by omega) ⟨16, rfl, Nat.le_refl _, fun v hv => by
        obtain ⟨i', j', h1, h2, h3, -⟩ := hv
        omega, Or.inl rfl⟩
  obtain ⟨r, e, w, rfl, hw⟩ := HH
  refine ⟨w, ?_, hw⟩
  unfold f_X1_fewestShared
  have e : f_X1_fewestShared_l1 (264 + 2 * f) M fuelN 16 0 = _ := e
  rw [if_pos (kX_fam hx.1), hx.2.2.1, if_neg (show ¬ nI c = (1 : Int32) from fun q => h2 ((nI_eq (a := c) (b := 1) (by omega) (by decide)).mp q)), e, Option.bind_some]
theorem shY_l2 {M : Mem} {f c i : Nat} {q : Nat → Nat} (hy : QY M f c q) (hq : ∀ i, i < c → q i < 65536) (hi : i < c) (a : Int32) {v b : Nat} (hb : b ≤ 16) (hv : isMin v b (Pv c q i (i + 1))) : ∃ w, f_X11_liars_l2 (nI f) a (nI i) M fuelN (nI v) (nI (i + 1)) = some (nI w) ∧ isMin w b (Pv c q (i + 1) (i + 2)) := by
  have hc := hy.2.1
  have hf := hy.1
  have HH := loop_go (F := fun n v s => f_X11_liars_l2 (nI f) a (nI i) M n s v) c (by omega) (fun j s => i < j ∧ ∃ w, s = nI w ∧ isMin w b (Pv c q i j)) (fun r => ∃ w, r = nI w ∧ isMin w b (Pv c q (i + 1) (i + 2)))
    (fun n s h => ⟨s, by show f_X11_liars_l2 _ _ _ M (n + 1) s (nI c) = _; rw [f_X11_liars_l2, if_pos (inB_nI hf (by decide)), nI_clamp (show f < 2 ^ 31 by omega), hy.2.2.1, if_pos (Int32.le_refl _)], by
      obtain ⟨_, w, rfl, hw⟩ := h
      exact ⟨w, rfl, isMin_iff hw (fun _ => Pv_row)⟩⟩)
    (fun n j s hj h => by
      obtain ⟨hij, w, rfl, hw⟩ := h
      refine Or.inl ⟨_, ⟨by omega, min w (pcn (q i &&& q j) 16), rfl, isMin_step hw (Pv_step hij hj)⟩, ?_⟩
      show f_X11_liars_l2 _ _ _ M (n + 1) (nI w) (nI j) = f_X11_liars_l2 _ _ _ M n _ (nI (j + 1))
      have := hw.1
      have := pcn_le (q i &&& q j) 16
      rw [f_X11_liars_l2, if_pos (inB_nI hf (by decide)), nI_clamp (show f < 2 ^ 31 by omega), hy.2.2.1, if_neg (ifle_no hj (by omega)), hy.at hi, hy.at hj, Option.bind_some, Option.bind_some, nx_and, bitsOf_ (and_lt16 (hq j hj)), Option.bind_some, ifmin (by omega) (by omega), Option.bind_some, nI_1]) (i + 1) (nI v) (by omega) ⟨by omega, v, rfl, hv⟩
  obtain ⟨r, e, w, rfl, hw⟩ := HH
  exact ⟨w, e, hw⟩
theorem lshY {M : Mem} {f c : Nat} {q : Nat → Nat} (hy : QY M f c q) (hq : ∀ i, i < c → q i < 65536) (a : Int32) {b : Nat} (hb : b ≤ 16) : ∃ w, f_X11_liars_l1 (nI f) a M fuelN (nI b) 0 = some (nI w) ∧ isMin w b (Pv c q c (c + 1)) := by
  have hc := hy.2.1
  have hf := hy.1
  have HH := loop_go (F := fun n v s => f_X11_liars_l1 (nI f) a M n s v) c (by omega) (fun j s => ∃ w, s = nI w ∧ isMin w b (Pv c q j (j + 1))) (fun r => ∃ w, r = nI w ∧ isMin w b (Pv c q c (c + 1)))
    (fun n s h => ⟨s, by show f_X11_liars_l1 _ _ M (n + 1) s (nI c) = _; rw [f_X11_liars_l1, if_pos (inB_nI hf (by decide)), nI_clamp (show f < 2 ^ 31 by omega), hy.2.2.1, if_pos (Int32.le_refl _)], h⟩)
    (fun n j s hj h => by
      obtain ⟨w, rfl, hw⟩ := h
      obtain ⟨w', e, hw'⟩ := shY_l2 hy hq hj a hb hw
      refine Or.inl ⟨_, ⟨w', rfl, hw'⟩, ?_⟩
      show f_X11_liars_l1 _ _ M (n + 1) (nI w) (nI j) = f_X11_liars_l1 _ _ M n _ (nI (j + 1))
      rw [f_X11_liars_l1, if_pos (inB_nI hf (by decide)), nI_clamp (show f < 2 ^ 31 by omega), hy.2.2.1, if_neg (ifle_no hj (by omega)), nI_1, e, Option.bind_some]) 0 (nI b) (by omega) ⟨b, rfl, Nat.le_refl _, fun v hv => by
        obtain ⟨i', j', h1, h2, h3, -⟩ := hv
        omega, Or.inl rfl⟩
  obtain ⟨r, e, w, rfl, hw⟩ := HH
  exact ⟨w, e, hw⟩
theorem pcn_and (a b n : Nat) : pcn (a &&& b) n ≤ pcn a n := by
  unfold pcn
  induction n with
  | zero => exact Nat.le_refl _
  | succ n ih =>
    show psum (bi (a &&& b)) n + bi (a &&& b) n ≤ psum (bi a) n + bi a n
    have : bi (a &&& b) n ≤ bi a n := by
      unfold bi
      rw [Nat.testBit_and]
      cases a.testBit n <;> cases b.testBit n <;> decide
    omega
theorem shared {M1 M2 : Mem} {f c : Nat} {q : Nat → Nat} (hx : QX M1 f c q) (hy : QY M2 f c q) (hq : ∀ i, i < c → q i < 65536) (h1 : 1 ≤ c) (a : Int32) : ∃ w, w ≤ 16 ∧ f_X1_fewestShared (264 + 2 * f) M1 = some (nI w) ∧ f_X11_liars_l1 (nI f) a M2 fuelN (nI (pcn (q 0) 16)) 0 = some (nI w) := by
  obtain ⟨w', e', hw'⟩ := lshY hy hq a (b := pcn (q 0) 16) (pcn_le _ _)
  by_cases h2 : c = 1
  · subst h2
    have hw : w' = pcn (q 0) 16 := by
      rcases hw'.2.2 with h | ⟨i, j, g1, g2, g3, -⟩
      · exact h
      · omega
    subst hw
    refine ⟨_, pcn_le _ _, ?_, e'⟩
    unfold f_X1_fewestShared
    rw [if_pos (kX_fam hx.1), hx.2.2.1, if_pos (show nI 1 = (1 : Int32) from rfl), hx.2.2.2 0 (by omega), bitCount16 (hq 0 (by omega)), Option.bind_some]
  · obtain ⟨w, e, hw⟩ := lshX hx hq h1 h2
    have hp : Pv c q c (c + 1) (pcn (q 0 &&& q 1) 16) := ⟨0, 1, by omega, by omega, by omega, rfl⟩
    have : w = w' := by
      have a1 : w' ≤ w := by
        rcases hw.2.2 with h | h
        · have := hw'.2.1 _ hp; have := pcn_le (q 0 &&& q 1) 16; omega
        · exact hw'.2.1 _ h
      have a2 : w ≤ w' := by
        rcases hw'.2.2 with h | h
        · have := hw.2.1 _ hp; have := pcn_and (q 0) (q 1) 16; omega
        · exact hw.2.1 _ h
      omega
    subst this
    exact ⟨w, hw.1, e, e'⟩
theorem step_liars : St_liars Rel := by
  intro a b M1 M2 hb H
  have Hn := Rel_no H 1
  have Hy := Rel_no H 0
  obtain ⟨z, h, hC, hL, hS, hs⟩ := id H
  obtain ⟨h1, h2, h3, h4, -⟩ := id hC
  have hI := h4.inv
  have hf := hI.2.1
  unfold f_X10_liars f_X11_liars
  rcases pk_ix a (n := zFn z) (by omega) with ha | ha | ⟨f, hfz, rfl⟩
  · rw [famAt_no h1.2.1.1 (Or.inl ha), isFam_no (by rw [fn5]; exact h2.2.1.1) hf.1 (Or.inl ha)]; exact ⟨_, _, rfl, rfl, rfl, Hn⟩
  · rw [famAt_no h1.2.1.1 (Or.inr ha), isFam_no (by rw [fn5]; exact h2.2.1.1) hf.1 (Or.inr ha)]; exact ⟨_, _, rfl, rfl, rfl, Hn⟩
  rw [famAt_yes h1.2.1.1 hf.1 hfz, isFam_yes (by rw [fn5]; exact h2.2.1.1) hf.1 hfz]
  obtain ⟨-, c1, c2, c3⟩ := hf.2 f hfz
  have hq : ∀ i, i < zCnt (zFm z) f → zSet (zFm z) f i < 65536 := fun i hi => by
    have := (c3 i hi).2
    have := p16 hI.1.1
    omega
  have qx := QX_of hI h1.2.1 hfz
  have qy := QY_k (QY_of hI h2.2.1 hfz) (k54 M2 0)
  obtain ⟨w, hw, e1, e2⟩ := shared qx qy hq c1 b
  have q0 : f_X11_quorumOf (nI f) 0 (sI (sI M2 0 5 0) 0 4 0) = _ := qy.at (i := 0) (by omega)
  simp only [Option.bind_some, oel, if_pos (kX_fam qx.1), if_neg one_ne, q0, bitsOf_ (hq 0 (by omega)), e1, e2, f_X10_accept]
  by_cases w0 : nI w = 0
  · rw [if_pos w0, if_pos w0]; exact ⟨_, _, rfl, rfl, rfl, Hy⟩
  · rw [if_neg w0, if_neg w0]
    by_cases b0 : b = 0
    · rw [if_pos b0, if_pos b0]; exact ⟨_, _, rfl, rfl, rfl, Hy⟩
    · rw [if_neg b0, if_neg b0]; exact ⟨_, _, rfl, rfl, rfl, Hy⟩
