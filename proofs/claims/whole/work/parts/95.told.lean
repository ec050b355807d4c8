/-! gathering, side by side -/
def GX (M N : Mem) (S : Nat → Prop) : Prop := N.1 = M.1 ∧ ∀ s, (pb N s = true ↔ (pb M s = true ∨ S s))
def GY (M N : Mem) (S : Nat → Prop) : Prop := (∀ d, d ≠ 14 → N.1 d = M.1 d) ∧ ∀ s, s < 65536 → (N.1 14 s = 0 ↔ (M.1 14 s = 0 ∧ ¬ S s))
theorem GX.keep {M N : Mem} {S : Nat → Prop} (h : GX M N S) : KeepX M N := by
  unfold KeepX AgX
  rw [h.1]
  exact KeepX.refl M
theorem keepY_14 {M N : Mem} (h : ∀ d, d ≠ 14 → N.1 d = M.1 d) : KeepY M N := by
  refine ⟨⟨⟨?_, ?_, ?_, ?_⟩, fun c hc => h c (by omega)⟩, ?_, h 4 (by decide), ?_, h 12 (by decide)⟩ <;> rw [h 0 (by decide)]
theorem GX.congr {M N : Mem} {S T : Nat → Prop} (h : GX M N S) (e : ∀ s, S s ↔ T s) : GX M N T := ⟨h.1, fun s => by rw [h.2 s, e s]⟩
theorem GY.congr {M N : Mem} {S T : Nat → Prop} (h : GY M N S) (e : ∀ s, S s ↔ T s) : GY M N T := ⟨h.1, fun s hs => by rw [h.2 s hs, e s]⟩
theorem GX.none (M : Mem) : GX M M (fun _ => False) := ⟨rfl, fun s => by simp⟩
theorem GY.none (M : Mem) : GY M M (fun _ => False) := ⟨fun _ _ => rfl, fun s hs => by simp⟩
theorem GX.trans {A B C : Mem} {S T : Nat → Prop} (h : GX A B S) (k : GX B C T) : GX A C (fun s => S s ∨ T s) := ⟨k.1.trans h.1, fun s => by rw [k.2 s, h.2 s, or_assoc]⟩
theorem GY.trans {A B C : Mem} {S T : Nat → Prop} (h : GY A B S) (k : GY B C T) : GY A C (fun s => S s ∨ T s) := ⟨fun d hd => (k.1 d hd).trans (h.1 d hd), fun s hs => by rw [k.2 s hs, h.2 s hs, and_assoc, not_or]⟩
theorem putG {M : Mem} {m s : Nat} (hp : PS M m) (hs : s < 2 ^ m) : ∃ N, f_X7_put (nI s) M = some N ∧ GX M N (fun t => t = s) := by
  obtain ⟨N, e, n1, n2⟩ := putP hp hs
  exact ⟨N, e, n1, n2⟩
theorem markG (M : Mem) (s : Nat) : GY M (sI M 14 s 1) (fun t => t = s) := by
  refine ⟨fun d hd => sI_off _ _ _ _ hd, fun t ht => ?_⟩
  rw [sI_1]
  by_cases e : t = s
  · rw [if_pos ⟨rfl, e⟩]
    constructor
    · intro q; exact absurd q (by decide)
    · rintro ⟨-, q⟩; exact absurd e q
  · rw [if_neg (by omega)]
    constructor
    · intro q; exact ⟨q, e⟩
    · rintro ⟨q, -⟩; exact q
theorem loopGX (F : Nat → Int32 → Mem → Option Mem) (e : Nat) (he : e < 66000) (S : Nat → Nat → Prop) (M : Mem)
    (hx : ∀ n N, N.1 = M.1 → F (n + 1) (nI e) N = some N) (hs : ∀ n i N, i < e → N.1 = M.1 → ∃ N', GX N N' (S i) ∧ F (n + 1) (nI i) N = F n (nI (i + 1)) N') :
    ∃ N, F fuelN 0 M = some N ∧ GX M N (fun s => ∃ i, i < e ∧ S i s) := by
  refine loop_go (F := F) e he (fun i N => GX M N (fun s => ∃ j, j < i ∧ S j s)) _ (fun n N h => ⟨N, hx n N h.1, h⟩) (fun n i N hi h => ?_) 0 M (by omega) ((GX.none M).congr (fun s => ⟨fun q => q.elim, fun ⟨j, hj, _⟩ => by omega⟩))
  obtain ⟨N', h1, h2⟩ := hs n i N hi h.1
  refine Or.inl ⟨N', (h.trans h1).congr (fun s => ?_), h2⟩
  constructor
  · rintro (⟨j, j1, j2⟩ | q)
    · exact ⟨j, by omega, j2⟩
    · exact ⟨i, by omega, q⟩
  · rintro ⟨j, j1, j2⟩
    by_cases e : j = i
    · rw [e] at j2; exact Or.inr j2
    · exact Or.inl ⟨j, by omega, j2⟩
theorem loopGY (F : Nat → Int32 → Mem → Option Mem) (e : Nat) (he : e < 66000) (S : Nat → Nat → Prop) (M : Mem)
    (hx : ∀ n N, (∀ d, d ≠ 14 → N.1 d = M.1 d) → F (n + 1) (nI e) N = some N) (hs : ∀ n i N, i < e → (∀ d, d ≠ 14 → N.1 d = M.1 d) → ∃ N', GY N N' (S i) ∧ F (n + 1) (nI i) N = F n (nI (i + 1)) N') :
    ∃ N, F fuelN 0 M = some N ∧ GY M N (fun s => ∃ i, i < e ∧ S i s) := by
  refine loop_go (F := F) e he (fun i N => GY M N (fun s => ∃ j, j < i ∧ S j s)) _ (fun n N h => ⟨N, hx n N h.1, h⟩) (fun n i N hi h => ?_) 0 M (by omega) ((GY.none M).congr (fun s => ⟨fun q => q.elim, fun ⟨j, hj, _⟩ => by omega⟩))
  obtain ⟨N', h1, h2⟩ := hs n i N hi h.1
  refine Or.inl ⟨N', (h.trans h1).congr (fun s => ?_), h2⟩
  constructor
  · rintro (⟨j, j1, j2⟩ | q)
    · exact ⟨j, by omega, j2⟩
    · exact ⟨i, by omega, q⟩
  · rintro ⟨j, j1, j2⟩
    by_cases e : j = i
    · rw [e] at j2; exact Or.inr j2
    · exact Or.inl ⟨j, by omega, j2⟩
theorem Up_congr {P Q : Nat → Prop} {b s : Nat} (h : ∀ t, t < b → (P t ↔ Q t)) (hs : s < b) : Up P s ↔ Up Q s := by
  constructor
  · rintro ⟨t, t1, t2⟩; exact ⟨t, t1, (h t (by have := Sb_le t1; omega)).mp t2⟩
  · rintro ⟨t, t1, t2⟩; exact ⟨t, t1, (h t (by have := Sb_le t1; omega)).mpr t2⟩
theorem room_yes {M : Mem} {fn : Nat} (h : M.1 0 2 = nI fn) (hf : fn < 24) : f_X10_roomForFamily M = some 1 := by
  unfold f_X10_roomForFamily
  rw [h, if_neg (nI_pos (by omega)), if_neg (show ¬ (24 : Int32) ≤ nI fn from nI_ge (b := 24) hf (by decide))]
theorem room_no {M : Mem} (h : M.1 0 2 = nI 24) : f_X10_roomForFamily M = some 0 := by
  unfold f_X10_roomForFamily
  rw [h, if_neg (by decide), if_pos (by decide)]
theorem fin {M1 M2 A B : Mem} {z : Sg} {h : List Ac} {G : Nat → Prop} {kd : Nat} (H : Core M1 M2 z h) (hL : ListR M1 M2 (zKn z)) (hS : SheetR M1 M2) (hf : zFn z < 24) (hkd : kd ≤ 10) (kA : KeepX M1 A) (pA : PS A (max (zKn z) 6)) (hA : ∀ s, s < 2 ^ (max (zKn z) 6) → (pb A s = true ↔ G s))
    (kB : KeepY M2 B) (hG : ∀ s, s < 65536 → (B.1 14 s = 0 ↔ ¬ G s)) (hG2 : ∀ s, G s → 1 ≤ s ∧ s < 2 ^ zKn z) (hne : ∃ s, G s) :
    ∃ r N1 N2, f_X10_settleGathered (nI kd) A = some (r, N1) ∧ f_X11_made (nI kd) B = some (r, N2) ∧ Rel N1 N2 := by
  obtain ⟨C, c1, c2, c3⟩ := closeU pA
  have kC : KeepX M1 C := kA.trans (by unfold KeepX AgX; rw [c2]; exact KeepX.refl A)
  obtain ⟨r, N1, N2, e1, e2, hr⟩ := settle_rel (G := G) (kd := kd) (Core_ag H kC.1 kB.1) (ListR_ag hL kC.2.1 kC.2.2.1 kB.2.1 kB.2.2.1) (SheetR_ag hS kC.2.2.2.1 kC.2.2.2.2 kB.2.2.2.1 kB.2.2.2.2) hf hkd (PS.keep pA c2) (fun s hs => by rw [c3 s hs]; exact Up_congr hA hs) hG hG2 hne
  refine ⟨r, N1, N2, ?_, e2, hr⟩
  unfold f_X10_settleGathered
  rw [c1, Option.bind_some, e1, Option.bind_some]
theorem full {M1 M2 B : Mem} (H : Rel M1 M2) (kB : KeepY M2 B) (h : M2.1 0 11 = nI 24) (kd : Int32) : f_X11_made kd B = some (-1, sI B 0 4 4) ∧ Rel (sI M1 0 11 4) (sI B 0 4 4) :=
  ⟨made_full (by rw [kB.1.1.2.1]; exact h) kd, Rel_keep H (keepX_st _ _) (kB.trans (keepY_f _ _ (by omega))) (by rw [st_X, st_Y])⟩
theorem begun {M : Mem} {kn : Nat} (hk : kn ≤ 16) (h : M.1 1 0 = nI kn) : ∃ N, f_X3_begin (M.1 1 0) M = some N ∧ PS N (max kn 6) ∧ (∀ d, d ≠ 255 → N.1 d = M.1 d) ∧ KeepX M N ∧ ∀ s, s < 2 ^ (max kn 6) → pb N s = false := by
  rw [h]; exact clearP hk
theorem gotX {N A : Mem} {m : Nat} {S : Nat → Prop} (h0 : ∀ s, s < 2 ^ m → pb N s = false) (g : GX N A S) : ∀ s, s < 2 ^ m → (pb A s = true ↔ S s) := fun s hs => by
  rw [g.2 s, h0 s hs]
  constructor
  · rintro (q | q)
    · cases q
    · exact q
  · intro q; exact Or.inr q
theorem gotY {N A : Mem} {S : Nat → Prop} (h0 : ∀ s, s < 65536 → N.1 14 s = 0) (g : GY N A S) : ∀ s, s < 65536 → (A.1 14 s = 0 ↔ ¬ S s) := fun s hs => by
  rw [g.2 s hs]
  constructor
  · intro q; exact q.2
  · intro q; exact ⟨h0 s hs, q⟩
theorem k2m {kn s : Nat} (h : s < 2 ^ kn) : s < 2 ^ (max kn 6) := Nat.lt_of_lt_of_le h (Nat.pow_le_pow_right (by decide) (by omega))
/-! told -/
theorem cnt_small {K : Nat → Bool} {ts : Nat → Nat} {n : Nat} : ∀ N, (∀ s, s < N → K s = true → ∃ i, i < n ∧ s = ts i) → cnt K N ≤ n := by
  -- each counted set has its own number in the list
  have key : ∀ n N (K : Nat → Bool), (∀ s, s < N → K s = true → ∃ i, i < n ∧ s = ts i) → cnt K N ≤ n := by
    intro n
    induction n with
    | zero =>
      intro N K hh
      apply Classical.byContradiction
      intro q
      obtain ⟨s, s1, s2, -⟩ := cnt_surj (K := K) N 0 (by omega)
      obtain ⟨i, hi, -⟩ := hh s s1 s2
      omega
    | succ n ih =>
      intro N K hh
      have h1 := ih N (fun s => K s && decide (s ≠ ts n)) (fun s hs hk => by
        have hk := Bool.and_eq_true_iff.mp hk
        obtain ⟨i, i1, i2⟩ := hh s hs hk.1
        refine ⟨i, ?_, i2⟩
        have := of_decide_eq_true hk.2
        by_cases e : i = n
        · rw [e] at i2; exact absurd i2 this
        · omega)
      have h2 : ∀ N, cnt K N ≤ cnt (fun s => K s && decide (s ≠ ts n)) N + if ts n < N then 1 else 0 := by
        intro N
        induction N with
        | zero => exact Nat.zero_le _
        | succ N ihN =>
          rw [cnt_s, cnt_s]
          by_cases e : N = ts n
          · have i1 : (if ts n < N then 1 else 0) = 0 := if_neg (by omega)
            have i2 : (if ts n < N + 1 then 1 else 0) = 1 := if_pos (by omega)
            have i3 : (if (K N && decide (N ≠ ts n)) = true then 1 else 0) = 0 := by rw [decide_eq_false (by simp [e]), Bool.and_false]; rfl
            have i4 : (if K N = true then 1 else 0) ≤ 1 := by split <;> omega
            rw [i1] at ihN
            rw [i2, i3]
            omega
          · have : (K N && decide (N ≠ ts n)) = K N := by rw [decide_eq_true e, Bool.and_true]
            rw [this]
            have : (if ts n < N then 1 else 0) ≤ if ts n < N + 1 then 1 else 0 := by
              by_cases q : ts n < N
              · rw [if_pos q, if_pos (by omega)]; exact Nat.le_refl _
              · rw [if_neg q]; exact Nat.zero_le _
            omega
      have h3 := h2 N
      have : (if ts n < N then 1 else 0) ≤ 1 := by split <;> omega
      omega
  exact fun N hh => key n N K hh
set_option maxRecDepth 10000 in
theorem step_told : St_told Rel := by
  intro M1 M2 H
  have Hn5 := Rel_no H 5
  obtain ⟨z, h, hC, ⟨n, ts, l1, l2, l3, l4⟩, hS, hs⟩ := id H
  obtain ⟨h1, h2, h3, h4, -⟩ := id hC
  have hI := h4.inv
  have hf := hI.2.1
  unfold f_X10_told f_X11_told
  rw [l2, l3]
  by_cases hn : n = 0
  · rw [if_pos (show nI n = 0 by rw [hn]; rfl), if_pos (show nI n = 0 by rw [hn]; rfl)]
    exact ⟨_, _, rfl, rfl, rfl, Hn5⟩
  have hn0 : ¬ nI n = 0 := nI_ne0 (by omega) (by omega)
  rw [if_neg hn0, if_neg hn0]
  have hts : ∀ i, i < n → ts i < 65536 := fun i hi => by have := (l4 i hi).2.1; have := p16 hI.1.1; omega
  obtain ⟨B0, b1, b2, b3⟩ := noSetsY (sI M2 0 5 0)
  have B07 : B0.1 0 7 = nI n := by rw [b2 0 (by decide), sI_1, if_neg (by decide), l3]
  have B0c : ∀ d, d ≠ 0 → d ≠ 14 → B0.1 d = M2.1 d := fun d q1 q2 => by rw [b2 d q2, sI_off _ _ _ _ q1]
  obtain ⟨B, b4, b5⟩ := loopGY (fun n v N => f_X11_told_l1 n v N) n (by omega) (fun i s => s = ts i) B0 (fun k N hN => by
      show f_X11_told_l1 (k + 1) (nI n) N = _
      rw [f_X11_told_l1, hN 0 (by decide), B07, if_pos (Int32.le_refl _)]) (fun k i N hi hN => by
      refine ⟨sI N 14 (ts i) 1, markG N (ts i), ?_⟩
      show f_X11_told_l1 (k + 1) (nI i) N = f_X11_told_l1 k (nI (i + 1)) _
      rw [f_X11_told_l1, hN 0 (by decide), B07, if_neg (ifle_no hi (by omega)), if_pos (inB_nI (show i < 120 by omega) (by decide)), nI_clamp (by omega), hN 4 (by decide), B0c 4 (by decide) (by decide), (l4 i hi).2.2.2, if_pos (inB_nI (hts i hi) (by decide)), nI_clamp (by have := hts i hi; omega), nI_1])
  have b4 : f_X11_told_l1 fuelN 0 B0 = some B := b4
  have kB : KeepY M2 B := (k5 M2).trans ((keepY_14 b2).trans (keepY_14 b5.1))
  have hGY := gotY b3 b5
  rw [b1, Option.bind_some, b4, Option.bind_some]
  by_cases hfn : zFn z < 24
  · obtain ⟨A0, a1, a2, a3, a4, a5⟩ := begun hI.1.1 h1.1.1
    have A04 : A0.1 0 4 = nI n := by rw [a3 0 (by decide)]; exact l2
    obtain ⟨A, a6, a7⟩ := loopGX (fun n v N => f_X10_told_l1 n v N) n (by omega) (fun i s => s = ts i) A0 (fun k N hN => by
        show f_X10_told_l1 (k + 1) (nI n) N = _
        rw [f_X10_told_l1, hN, A04, if_pos (Int32.le_refl _)]) (fun k i N hi hN => by
        obtain ⟨N', e, g⟩ := putG (PS.keep a2 hN) (k2m (l4 i hi).2.1)
        refine ⟨N', g, ?_⟩
        show f_X10_told_l1 (k + 1) (nI i) N = f_X10_told_l1 k (nI (i + 1)) N'
        rw [f_X10_told_l1, hN, A04, if_neg (ifle_no hi (by omega)), if_neg (show ¬ (120 : Int32) ≤ nI i from ifle_no (c := 120) (by omega) (by decide)), if_pos (inB_nI (show i < 120 by omega) (by decide)), nI_clamp (by omega), a3 6 (by decide), (l4 i hi).2.2.1, e, Option.bind_some, nI_1])
    have a6 : f_X10_told_l1 fuelN 0 A0 = some A := a6
    have aG := gotX a5 a7
    -- the list is dropped before the settling
    obtain ⟨C, c1, c2, c3⟩ := closeU (M := sI A 0 4 0) (m := max (zKn z) 6) (PS.keep2 (PS.keep a2 a7.1) (by rw [sI_off _ _ _ _ (by decide)]))
    have kA := a4.trans a7.keep
    have C0 : ∀ x, x ≠ 4 → C.1 0 x = M1.1 0 x := fun x hx => by rw [c2, sI_1, if_neg (by omega), a7.1, a3 0 (by decide)]
    have CO : ∀ d, d ≠ 0 → d ≠ 255 → C.1 d = M1.1 d := fun d q1 q2 => by rw [c2, sI_off _ _ _ _ q1, a7.1, a3 d q2]
    have hCC : Core C B z h := Core_ag hC ⟨C0 2 (by decide), fun c hc => CO c (by omega) (by omega)⟩ kB.1
    obtain ⟨r, N1, N2, e1, e2, hst, hr⟩ := settle (G := fun s => ∃ i, i < n ∧ s = ts i) (kd := 0) hCC hfn (by omega) (PS.keep2 (PS.keep a2 a7.1) (by rw [c2, sI_off _ _ _ _ (by decide)])) (fun s hs => by rw [c3 s hs]; exact Up_congr (fun t ht => aG t ht) hs) hGY (fun s ⟨i, hi, e⟩ => by rw [e]; exact ⟨(l4 i hi).1, (l4 i hi).2.1⟩) ⟨ts 0, 0, by omega, rfl⟩
    have hX : f_X10_settleGathered 0 (sI A 0 4 0) = some (r, N1) := by
      unfold f_X10_settleGathered
      rw [c1, Option.bind_some, show (0 : Int32) = nI 0 from rfl, e1, Option.bind_some]
    have e2 : f_X11_made 0 B = some (r, N2) := e2
    rw [room_yes h1.2.1.1 hfn, Option.bind_some, if_neg one_ne, a1, Option.bind_some, a6, Option.bind_some, hX, e2, Option.bind_some, Option.bind_some]
    rcases hr with ⟨rfl, hc, -⟩ | ⟨hne, ⟨z', h', hC', hk⟩, ⟨x1, x2, x3, x4⟩, y1, y2, y3, y4⟩
    · exfalso
      have := cnt_small (K := kb (Ls fun s => ∃ i, i < n ∧ s = ts i)) (ts := ts) (n := n) 65536 (fun s _ hk => (kb_t.mp hk).1)
      omega
    · rw [if_neg hne, Option.bind_some]
      refine ⟨_, _, rfl, rfl, rfl, z', h', Core_ag hC' (AgX.refl _) ⟨⟨?_, ?_, ?_, ?_⟩, fun c hc => sI_off _ _ _ _ (by omega)⟩, ⟨0, fun _ => 0, by omega, ?_, ?_, fun i hi => by omega⟩, SheetR_ag hS ?_ ?_ ?_ ?_, ?_⟩
      · simp [sI]
      · simp [sI]
      · simp [sI]
      · simp [sI]
      · show N1.1 0 4 = _
        rw [x1, c2, sI_1, if_pos ⟨rfl, rfl⟩]; rfl
      · show (sI N2 0 7 0).1 0 7 = _
        rw [sI_1, if_pos ⟨rfl, rfl⟩]; rfl
      · show N1.1 252 0 = _
        rw [x3, CO 252 (by decide) (by decide)]
      · show N1.1 253 = _
        rw [x4, CO 253 (by decide) (by decide)]
      · show (sI N2 0 7 0).1 0 18 = _
        rw [sI_1, if_neg (by decide), y3, kB.2.2.2.1]
      · show (sI N2 0 7 0).1 12 = _
        rw [sI_off _ _ _ _ (by decide), y4, kB.2.2.2.2]
      · show N1.1 0 11 = (sI N2 0 7 0).1 0 4
        rw [sI_1, if_neg (by decide)]; exact hst
  · have h24 : zFn z = 24 := by omega
    obtain ⟨e2, hR⟩ := full H kB (by rw [h2.2.1.1, h24]) 0
    rw [room_no (by rw [h1.2.1.1, h24]), e2]
    exact ⟨_, _, rfl, rfl, rfl, hR⟩
