/-! plans are copied -/
theorem become_spec {M : Mem} {t0 t1 c : Nat} (k0 : kX t0 = 6) (k1 : kX t1 = 6) (hne : t0 ≠ t1) (hc : M.1 t1 1 = nI c) (hc2 : c ≤ 120) :
    ∃ N, f_X6_become t0 t1 M = some N ∧ N.1 t0 0 = M.1 t1 0 ∧ N.1 t0 1 = nI c ∧ (∀ i, i < c → N.1 (t0 + 1) i = M.1 (t1 + 1) i) ∧ ∀ d, d ≠ t0 → d ≠ t0 + 1 → N.1 d = M.1 d := by
  have j0 := kX_s6 k0
  have j1 := kX_s6 k1
  have n1 : t0 + 1 ≠ t1 := fun e => by rw [e, k1] at j0; cases j0
  have n2 : t1 + 1 ≠ t0 := fun e => by rw [e, k0] at j1; cases j1
  have HH := loop_go (F := fun n v N => f_X6_become_l1 t0 t1 n v N) c (by omega) (fun i N => N.1 t0 0 = M.1 t1 0 ∧ N.1 t0 1 = nI c ∧ (∀ j, j < i → N.1 (t0 + 1) j = M.1 (t1 + 1) j) ∧ ∀ d, d ≠ t0 → d ≠ t0 + 1 → N.1 d = M.1 d)
    (fun N => N.1 t0 0 = M.1 t1 0 ∧ N.1 t0 1 = nI c ∧ (∀ i, i < c → N.1 (t0 + 1) i = M.1 (t1 + 1) i) ∧ ∀ d, d ≠ t0 → d ≠ t0 + 1 → N.1 d = M.1 d) ?_ ?_ 0 (sI (sI M t0 0 (M.1 t1 0)) t0 1 ((sI M t0 0 (M.1 t1 0)).1 t1 1)) (by omega) ⟨?_, ?_, fun j hj => by omega, fun d h1 h2 => ?_⟩
  · obtain ⟨N, e, h⟩ := HH
    have e : f_X6_become_l1 t0 t1 fuelN 0 (sI (sI M t0 0 (M.1 t1 0)) t0 1 ((sI M t0 0 (M.1 t1 0)).1 t1 1)) = some N := e
    refine ⟨N, ?_, h⟩
    unfold f_X6_become
    rw [if_pos k0, if_pos k1, e]
    rfl
  · intro n N h
    refine ⟨N, ?_, h⟩
    show f_X6_become_l1 t0 t1 (n + 1) (nI c) N = _
    rw [f_X6_become_l1, h.2.1, if_pos (Int32.le_refl _)]
  · intro n i N hi h
    left
    refine ⟨sI N (t0 + 1) i (M.1 (t1 + 1) i), ⟨?_, ?_, fun j hj => ?_, fun d h1 h2 => ?_⟩, ?_⟩
    · rw [sI_off _ _ _ _ (by omega)]; exact h.1
    · rw [sI_off _ _ _ _ (by omega)]; exact h.2.1
    · rw [sI_1]
      by_cases e : j = i
      · rw [if_pos ⟨rfl, e⟩, e]
      · rw [if_neg (fun q => e q.2)]; exact h.2.2.1 j (by omega)
    · rw [sI_off _ _ _ _ h2]; exact h.2.2.2 d h1 h2
    · show f_X6_become_l1 t0 t1 (n + 1) (nI i) N = _
      rw [f_X6_become_l1, h.2.1, if_neg (ifle_no hi (by omega)), if_pos (inB_nI (show i < 120 by omega) (by decide)), if_pos (inB_nI (show i < 120 by omega) (by decide)), nI_clamp (show i < 2 ^ 31 by omega), h.2.2.2 (t1 + 1) (by omega) (by omega), nI_1]
  · rw [sI_1, if_neg (by omega), sI_1, if_pos ⟨rfl, rfl⟩]
  · rw [sI_1, if_pos ⟨rfl, rfl⟩, sI_off _ _ _ _ (by omega)]; exact hc
  · rw [sI_off _ _ _ _ h1, sI_off _ _ _ _ h1]
theorem become_po {M : Mem} {t0 t1 : Nat} {fm : Nat → Fm} {o : Option Pl} (k0 : kX t0 = 6) (k1 : kX t1 = 6) (hne : t0 ≠ t1) (h : PoX fm M t1 o) (hc : ∀ p, o = some p → zCnt fm p.1 ≤ 120) :
    ∃ N, f_X6_become t0 t1 M = some N ∧ PoX fm N t0 o ∧ ∀ d, d ≠ t0 → d ≠ t0 + 1 → N.1 d = M.1 d := by
  cases o with
  | none =>
    obtain ⟨N, e, h1, h2, -, h4⟩ := become_spec (c := 0) k0 k1 hne h.2 (by omega)
    exact ⟨N, e, ⟨by rw [h1]; exact h.1, h2⟩, h4⟩
  | some p =>
    have h : PlX fm M t1 p := h
    obtain ⟨N, e, h1, h2, h3, h4⟩ := become_spec k0 k1 hne h.2.1 (hc p rfl)
    exact ⟨N, e, ⟨by rw [h1]; exact h.1, h2, fun i hi => by rw [h3 i hi]; exact h.2.2 i hi⟩, h4⟩
theorem thing_become {M : Mem} {t0 t1 : Nat} {fm : Nat → Fm} {t : Th} (k0 : kX t0 = 9) (k1 : kX t1 = 9) (hne : t0 ≠ t1) (h : ThX fm M t1 t) (h3 : t.1 ≤ 3) (hc : t.1 = 3 → zCnt fm t.2.2.1 ≤ 120) :
    ∃ N, f_X9_become t0 t1 M = some N ∧ ThX fm N t0 t ∧ ∀ d, d ≠ t0 → d ≠ t0 + 1 → d ≠ t0 + 2 → N.1 d = M.1 d := by
  have j0 := kX_s9 k0
  have j1 := kX_s9 k1
  have n1 : t0 + 1 ≠ t1 := fun e => by rw [e, k1] at j0; cases j0
  have n2 : t1 + 1 ≠ t0 := fun e => by rw [e, k0] at j1; cases j1
  have n3 : t1 + 2 ≠ t0 := fun e => by have := kX_s6 j1; rw [show t1 + 1 + 1 = t1 + 2 from rfl, e, k0] at this; cases this
  unfold f_X9_become
  rw [if_pos k0, if_pos k1]
  have e0 : (sI (sI M t0 0 (M.1 t1 0)) t0 1 ((sI M t0 0 (M.1 t1 0)).1 t1 1)).1 t0 0 = nI t.1 := by rw [sI_1, if_neg (by omega), sI_1, if_pos ⟨rfl, rfl⟩]; exact h.1
  have e1 : (sI (sI M t0 0 (M.1 t1 0)) t0 1 ((sI M t0 0 (M.1 t1 0)).1 t1 1)).1 t0 1 = M.1 t1 1 := by rw [sI_1, if_pos ⟨rfl, rfl⟩, sI_off _ _ _ _ (fun e => hne e.symm)]
  have eo : ∀ d, d ≠ t0 → (sI (sI M t0 0 (M.1 t1 0)) t0 1 ((sI M t0 0 (M.1 t1 0)).1 t1 1)).1 d = M.1 d := fun d hd => by rw [sI_off _ _ _ _ hd, sI_off _ _ _ _ hd]
  rw [e0]
  by_cases ht : t.1 = 3
  · rw [ht, if_pos (show nI 3 = (3 : Int32) from rfl)]
    have hp : PoX fm (sI (sI M t0 0 (M.1 t1 0)) t0 1 ((sI M t0 0 (M.1 t1 0)).1 t1 1)) (t1 + 1) (some t.2.2) := PoX_ag (M := M) (h.2.2 ht) (eo _ (by omega)) (eo _ (by omega))
    obtain ⟨N, e, q1, q2⟩ := become_po (t0 := t0 + 1) (t1 := t1 + 1) j0 j1 (by omega) hp (fun p hp => by cases hp; exact hc ht)
    rw [e]
    refine ⟨N, rfl, ⟨?_, ?_, fun _ => q1⟩, fun d h4 h5 h6 => ?_⟩
    · rw [q2 t0 (by omega) (by omega)]; exact e0
    · intro hh; rw [q2 t0 (by omega) (by omega), e1]; exact h.2.1 hh
    · rw [q2 d h5 (by omega), eo d h4]
  · rw [if_neg (show ¬ nI t.1 = (3 : Int32) from fun q => ht ((nI_eq (a := t.1) (b := 3) (by omega) (by decide)).mp q))]
    refine ⟨_, rfl, ⟨e0, fun hh => by rw [e1]; exact h.2.1 hh, fun hh => absurd hh ht⟩, fun d h4 h5 h6 => eo d h4⟩
def SvY (fm : Nat → Fm) (N : Mem) (u : Nat) (o : Option Pl) : Prop := match o with
  | none => N.1 13 (u + 2) = 0
  | some p => N.1 13 (u + 2) = 1 ∧ PlY fm N 13 (u + 3) p
theorem SvY_ag {fm : Nat → Fm} {M N : Mem} {u : Nat} {o : Option Pl} (h : SvY fm M u o) (e : N.1 13 = M.1 13) : SvY fm N u o := by
  unfold SvY PlY at *
  rw [e]
  exact h
/-- planActs(): what was is kept -/
theorem planActs_spec {M : Mem} {n : Nat} {fm : Nat → Fm} {o : Option Pl} (h2 : M.1 0 20 = nI n) (hn : n ≤ 60) (hpo : PoY fm M o) (hc : ∀ p, o = some p → zCnt fm p.1 ≤ 120) :
    ∃ (u : Nat) (N : Mem), f_X11_planActs M = some N ∧ u = 126 * min n 59 ∧ N.1 13 u = 4 ∧ SvY fm N u o ∧ N.1 0 4 = 0 ∧ N.1 0 20 = nI (min n 59 + 1) ∧ (∀ i, i ≠ 4 → i ≠ 20 → N.1 0 i = M.1 0 i) ∧ (∀ d, d ≠ 0 → d ≠ 13 → N.1 d = M.1 d) ∧
    ∀ N' : Mem, (∀ j, j < u → N'.1 13 j = N.1 13 j) → ∀ (h : List Ac) (z z' : Sg) (e : Ac), h.length = n → InvH h z → HY M h z → undoA e z' = z → AcY N' u e z' → HY N' (e :: hp h) z' := by
  have hv : ∃ v : Int32, (if (M.1 0 13) = 0 then some (0 : Int32) else some (1 : Int32)) = some v ∧ (o = none → v = 0) ∧ (o ≠ none → v = 1) := by
    cases o with
    | none => have hpo : M.1 0 13 = 0 := hpo; exact ⟨0, by rw [if_pos hpo], fun _ => rfl, fun q => absurd rfl q⟩
    | some p => have hpo : M.1 0 13 = 1 := hpo.1; exact ⟨1, by rw [hpo, if_neg one_ne], (fun q => by cases q), fun _ => rfl⟩
  obtain ⟨v, ev, hv⟩ := hv
  obtain ⟨u, P, p1, p2, p3, p4, p5, p6, p7, p8, p9, p10, p11⟩ := act_spec h2 hn 4 0 v
  have hm : min n 59 ≤ 59 := by omega
  have HH := loop_go (F := fun n v N => f_X11_planActs_l1 n v N) 121 (by decide) (fun i N => (∀ d, d ≠ 13 → N.1 d = P.1 d) ∧ (∀ j, (j < u + 3 ∨ u + 3 + i ≤ j) → N.1 13 j = P.1 13 j) ∧ ∀ j, j < i → N.1 13 (u + 3 + j) = P.1 8 j)
    (fun N => (∀ d, d ≠ 13 → N.1 d = P.1 d) ∧ (∀ j, j < u + 3 → N.1 13 j = P.1 13 j) ∧ ∀ j, j < 121 → N.1 13 (u + 3 + j) = P.1 8 j) ?_ ?_ 0 P (by decide) ⟨fun _ _ => rfl, fun _ _ => rfl, fun j hj => by omega⟩
  · obtain ⟨N, e, q1, q2, q3⟩ := HH
    have e : f_X11_planActs_l1 fuelN 0 P = some N := e
    refine ⟨u, N, ?_, p3, by rw [q2 u (by omega)]; exact p4, ?_, by rw [q1 0 (by decide)]; exact p7, by rw [q1 0 (by decide)]; exact p8, fun i h3 h4 => by rw [q1 0 (by decide)]; exact p9 i h3 h4, fun d h3 h4 => by rw [q1 d h4]; exact p10 d h3 h4, ?_⟩
    · unfold f_X11_planActs
      rw [ev, Option.bind_some, p1, Option.bind_some, e]
      rfl
    · have q6 : N.1 13 (u + 2) = v := by rw [q2 (u + 2) (by omega)]; exact p6
      cases o with
      | none => show N.1 13 (u + 2) = 0; rw [q6]; exact hv.1 rfl
      | some p =>
        refine ⟨by rw [q6]; exact hv.2 (by intro q; cases q), ?_, fun i hi => ?_⟩
        · have := q3 0 (by decide)
          rw [Nat.add_zero] at this
          rw [this, p10 8 (by decide) (by decide)]
          exact hpo.2.1
        · have hb := hc p rfl
          have := q3 (1 + i) (by omega)
          rw [← Nat.add_assoc] at this
          rw [this, p10 8 (by decide) (by decide)]
          have h8 := hpo.2.2 i hi
          rw [Nat.zero_add] at h8
          exact h8
    · intro N' e1 h z z' ee hl hI H hu hA
      refine p11 N' (fun j hj => ?_) h z z' ee hl hI H hu hA
      rw [e1 j hj, q2 j (by omega)]
  · intro n N hI
    refine ⟨N, ?_, hI.1, fun j hj => hI.2.1 j (Or.inl hj), hI.2.2⟩
    show f_X11_planActs_l1 (n + 1) (nI 121) N = _
    rw [f_X11_planActs_l1, if_pos (by decide)]
  · intro n2 i N hi hI
    left
    refine ⟨sI N 13 (u + 3 + i) (P.1 8 i), ⟨fun d hd => ?_, fun j hj => ?_, fun j hj => ?_⟩, ?_⟩
    · rw [sI_off _ _ _ _ hd]; exact hI.1 d hd
    · rw [sI_1, if_neg (by omega)]; exact hI.2.1 j (by omega)
    · rw [sI_1]
      by_cases e : j = i
      · rw [if_pos ⟨rfl, by rw [e]⟩, e]
      · rw [if_neg (by omega)]; exact hI.2.2 j (by omega)
    · show f_X11_planActs_l1 (n2 + 1) (nI i) N = _
      rw [f_X11_planActs_l1, if_neg (show ¬ (121 : Int32) ≤ nI i from ifle_no hi (by decide)), hI.1 0 (by decide), p8, nI_pred, show (126 : Int32) = nI 126 from rfl, pk_mul, show (3 : Int32) = nI 3 from rfl, nI_add, nI_add, if_pos (inB_nI hi (by decide)), if_pos (inB_nI (by omega) (by decide)), nI_clamp (show i < 2 ^ 31 by omega), nI_clamp (by omega), hI.1 8 (by decide), nI_1, ← p3]
