/-! the reference's gathering -/
theorem cp_loop2 (F : Nat → Int32 → Mem → Option Mem) (e : Nat) (he : e < 66000) (d o : Nat) (g : Nat → Int32) (M : Mem)
    (hx : ∀ n N, (∀ c, c ≠ d → N.1 c = M.1 c) → F (n + 1) (nI e) N = some N) (hs : ∀ n i N, i < e → (∀ c, c ≠ d → N.1 c = M.1 c) → F (n + 1) (nI i) N = F n (nI (i + 1)) (sI N d (o + i) (g i))) :
    ∃ N, F fuelN 0 M = some N ∧ (∀ c, c ≠ d → N.1 c = M.1 c) ∧ (∀ j, ¬ (o ≤ j ∧ j < o + e) → N.1 d j = M.1 d j) ∧ ∀ i, i < e → N.1 d (o + i) = g i := by
  have HH := loop_go (F := F) e he (fun i N => (∀ c, c ≠ d → N.1 c = M.1 c) ∧ (∀ j, ¬ (o ≤ j ∧ j < o + e) → N.1 d j = M.1 d j) ∧ ∀ j, j < i → N.1 d (o + j) = g j)
    (fun N => (∀ c, c ≠ d → N.1 c = M.1 c) ∧ (∀ j, ¬ (o ≤ j ∧ j < o + e) → N.1 d j = M.1 d j) ∧ ∀ i, i < e → N.1 d (o + i) = g i) ?_ ?_ 0 M (by omega) ⟨fun _ _ => rfl, fun _ _ => rfl, fun j hj => by omega⟩
  · exact HH
  · intro n N h
    exact ⟨N, hx n N h.1, h⟩
  · intro n i N hi h
    left
    refine ⟨sI N d (o + i) (g i), ⟨fun c hc => ?_, fun j hj => ?_, fun j hj => ?_⟩, hs n i N hi h.1⟩
    · rw [sI_off _ _ _ _ hc]; exact h.1 c hc
    · rw [sI_1, if_neg (by omega)]; exact h.2.1 j hj
    · rw [sI_1]
      by_cases q : j = i
      · rw [if_pos ⟨rfl, by rw [q]⟩, q]
      · rw [if_neg (by omega)]; exact h.2.2 j (by omega)
theorem noSetsY (M : Mem) : ∃ N, f_X11_noSets M = some N ∧ (∀ d, d ≠ 14 → N.1 d = M.1 d) ∧ ∀ s, s < 65536 → N.1 14 s = 0 := by
  obtain ⟨N, e, n1, -, n3⟩ := cp_loop (fun n v N => f_X11_noSets_l1 n v N) 65536 (by decide) 14 0 (fun _ => 0) M (fun n N => by
      show f_X11_noSets_l1 (n + 1) (nI 65536) N = _
      rw [f_X11_noSets_l1, if_pos (by decide)]) (fun n i N hi h => by
      show f_X11_noSets_l1 (n + 1) (nI i) N = _
      rw [f_X11_noSets_l1, if_neg (show ¬ (65536 : Int32) ≤ nI i from ifle_no hi (by decide)), if_pos (inB_nI hi (by decide)), nI_clamp (by omega), nI_1, Nat.zero_add])
  refine ⟨N, ?_, n1, fun s hs => ?_⟩
  · unfold f_X11_noSets
    have e : f_X11_noSets_l1 fuelN 0 M = _ := e
    rw [e, Option.bind_some]
  · have := n3 s hs
    rwa [Nat.zero_add] at this
theorem xor_bit {v k : Nat} (h : v.testBit k = true) : v ^^^ 2 ^ k = v - 2 ^ k := by
  apply Nat.eq_of_testBit_eq
  intro i
  rw [Nat.testBit_xor, tb_sub h, Nat.testBit_two_pow]
  by_cases e : k = i
  · subst e; simp [h]
  · simp [e, Ne.symm e]
theorem belowY {M : Mem} {v : Nat} (hv : v < 65536) {P : Nat → Prop} (hP : ∀ t, t < v → (M.1 15 t = 0 ↔ ¬ P t)) : ∃ r, f_X11_isBelow (nI v) M = some r ∧ ((r = 1 ∧ ∃ k, v.testBit k = true ∧ P (v - 2 ^ k)) ∨ (r = 0 ∧ ∀ k, v.testBit k = true → ¬ P (v - 2 ^ k))) := by
  have HH := loop_go (F := fun n w (_ : Unit) => f_X11_isBelow_l1 (nI v) M n w) 16 (by decide) (fun i _ => ∀ k, k < i → v.testBit k = true → ¬ P (v - 2 ^ k))
    (fun r => (r = .inr 1 ∧ ∃ k, v.testBit k = true ∧ P (v - 2 ^ k)) ∨ (r = .inl () ∧ ∀ k, v.testBit k = true → ¬ P (v - 2 ^ k))) ?_ ?_ 0 () (by omega) (fun k hk => by omega)
  · obtain ⟨r, e, hr⟩ := HH
    have e : f_X11_isBelow_l1 (nI v) M fuelN 0 = _ := e
    unfold f_X11_isBelow
    rw [e, Option.bind_some]
    rcases hr with ⟨rfl, h⟩ | ⟨rfl, h⟩
    · exact ⟨1, rfl, Or.inl ⟨rfl, h⟩⟩
    · exact ⟨0, rfl, Or.inr ⟨rfl, h⟩⟩
  · intro n _ h
    refine ⟨.inl (), ?_, Or.inr ⟨rfl, fun k hk => ?_⟩⟩
    · show f_X11_isBelow_l1 (nI v) M (n + 1) (nI 16) = _
      rw [f_X11_isBelow_l1, if_pos (by decide)]
    · refine h k ?_ hk
      apply Classical.byContradiction
      intro q
      rw [tb_hi (show v < 2 ^ 16 from hv) (by omega)] at hk
      cases hk
  · intro n i _ hi h
    show (∃ s', _ ∧ f_X11_isBelow_l1 (nI v) M (n + 1) (nI i) = f_X11_isBelow_l1 (nI v) M n (nI (i + 1))) ∨ ∃ r, f_X11_isBelow_l1 (nI v) M (n + 1) (nI i) = some r ∧ _
    rw [f_X11_isBelow_l1, if_neg (show ¬ (16 : Int32) ≤ nI i from ifle_no hi (by decide)), bit_ (by omega) (by omega), nI_1]
    cases hb : v.testBit i with
    | false =>
      left
      refine ⟨(), fun k hk hkb => ?_, by rw [if_neg (show ¬ (if false = true then (1 : Int32) else 0) = 1 by decide)]⟩
      by_cases e : k = i
      · rw [e, hb] at hkb; cases hkb
      · exact h k (by omega) hkb
    | true =>
      have hge := tb_ge hb
      have h0 := Nat.two_pow_pos i
      have hlt : v - 2 ^ i < v := Nat.sub_lt (by omega) h0
      rw [if_pos (show (if true = true then (1 : Int32) else 0) = 1 from rfl), one_shl i (by omega), nx_xor, xor_bit hb, if_pos (inB_nI (show v - 2 ^ i < 65536 from sub_lt' hv) (by decide)), nI_clamp (show v - 2 ^ i < 2 ^ 31 from sub_lt' (by omega))]
      by_cases hp : P (v - 2 ^ i)
      · right
        rw [if_neg (fun q => (hP _ hlt).mp q hp)]
        exact ⟨_, rfl, Or.inl ⟨rfl, i, hb, hp⟩⟩
      · left
        rw [if_pos ((hP _ hlt).mpr hp)]
        refine ⟨(), fun k hk hkb => ?_, rfl⟩
        by_cases e : k = i
        · rw [e]; exact hp
        · exact h k (by omega) hkb
noncomputable def kb (P : Nat → Prop) (s : Nat) : Bool := @decide (P s) (Classical.propDecidable _)
theorem kb_t {P : Nat → Prop} {s : Nat} : kb P s = true ↔ P s := @decide_eq_true_iff (P s) (Classical.propDecidable _)
theorem kb_f {P : Nat → Prop} {s : Nat} : kb P s = false ↔ ¬ P s := @decide_eq_false_iff_not (P s) (Classical.propDecidable _)
theorem Up_step {P : Nat → Prop} {v : Nat} : Up P v ↔ (P v ∨ ∃ k, v.testBit k = true ∧ Up P (v - 2 ^ k)) := by
  constructor
  · rintro ⟨t, t1, t2⟩
    by_cases e : t = v
    · rw [e] at t2; exact Or.inl t2
    · obtain ⟨k, k1, k2⟩ := Sb_ne t1 e
      exact Or.inr ⟨k, k1, t, Sb_drop t1 k1 k2, t2⟩
  · rintro (h | ⟨k, k1, h⟩)
    · exact ⟨v, Sb.refl v, h⟩
    · exact h.mono (Sb_sub k1)
def LsI (M : Mem) (G : Nat → Prop) (v : Nat) (s : Int32 × Mem) : Prop :=
  (∀ d, d ≠ 0 → d ≠ 15 → d ≠ 16 → s.2.1 d = M.1 d) ∧ (∀ x, x ≠ 24 → s.2.1 0 x = M.1 0 x) ∧ (∀ t, t < v → (s.2.1 15 t = 0 ∨ s.2.1 15 t = 1) ∧ (s.2.1 15 t = 0 ↔ ¬ Up G t)) ∧ s.2.1 0 24 = nI (cnt (kb (Ls G)) v) ∧ (s.1 = if cnt (kb (Ls G)) v ≤ 120 then 1 else 0) ∧ ∀ t, t < v → Ls G t → cnt (kb (Ls G)) t < 120 → s.2.1 16 (cnt (kb (Ls G)) t) = nI t
theorem leastY {M : Mem} {G : Nat → Prop} (hG : ∀ s, s < 65536 → (M.1 14 s = 0 ↔ ¬ G s)) : ∃ r, f_X11_least M = some r ∧ LsI M G 65536 r := by
  have HH := loop_go (F := fun n v (s : Int32 × Mem) => f_X11_least_l1 n s.1 v s.2) 65536 (by decide) (fun v s => LsI M G v s) (fun r => LsI M G 65536 r) ?_ ?_ 0 (1, sI M 0 24 0) (by omega) ?_
  · obtain ⟨r, e, hr⟩ := HH
    refine ⟨r, ?_, hr⟩
    have e : f_X11_least_l1 fuelN 1 0 (sI M 0 24 0) = _ := e
    unfold f_X11_least
    rw [e, Option.bind_some, if_pos]
    rw [hr.2.2.2.2.1]
    split
    · exact Or.inr rfl
    · exact Or.inl rfl
  · intro n s h
    refine ⟨s, ?_, h⟩
    show f_X11_least_l1 (n + 1) s.1 (nI 65536) s.2 = _
    rw [f_X11_least_l1, if_pos (by decide)]
  · rintro n v ⟨fl, N⟩ hv ⟨g1, g2, g3, g4, g5, g6⟩
    dsimp only at g1 g2 g3 g4 g5 g6
    left
    obtain ⟨r, e, hr⟩ := belowY (M := N) hv (P := Up G) (fun t ht => (g3 t ht).2)
    have h14 : N.1 14 v = M.1 14 v := by rw [g1 14 (by decide) (by decide) (by decide)]
    have hcv : cnt (kb (Ls G)) v ≤ 65536 := Nat.le_trans (cnt_le _ _) (by omega)
    have e0 : f_X11_least_l1 (n + 1) fl (nI v) N = (Option.bind (if (M.1 14 v) = 0 then (if r = 0 then some (0 : Int32) else some (1 : Int32)) else some (1 : Int32)) (fun q5 => (if q5 = 0 ∨ q5 = 1 then (Option.bind (if (M.1 14 v) = 0 then some (fl, (sI N 15 v q5)) else (if r = 0 then (Option.bind (if (120 : Int32) ≤ nI (cnt (kb (Ls G)) v) then some ((0 : Int32), (sI N 15 v q5)) else (if inB (nI (cnt (kb (Ls G)) v)) 120 = true then some (fl, (sI (sI N 15 v q5) 16 (nI (cnt (kb (Ls G)) v)).toNatClampNeg (nI v))) else none)) (fun q16 => some (q16.1, (sI q16.2 0 24 ((q16.2.1 0 24) + (1 : Int32)))))) else some (fl, (sI N 15 v q5)))) (fun q11 => f_X11_least_l1 n q11.1 (nI (v + 1)) q11.2)) else none))) := by
      rw [f_X11_least_l1, if_neg (show ¬ (65536 : Int32) ≤ nI v from ifle_no hv (by decide)), e, Option.bind_some, if_pos (inB_nI hv (by decide)), nI_clamp (by omega), h14, g4, nI_1]
      simp only [inB_nI hv (show 65536 < 2 ^ 31 by decide), if_true]
    -- the four cases
    have up15 : ∀ q5 : Int32, (q5 = 0 ∨ q5 = 1) → (q5 = 0 ↔ ¬ Up G v) → ∀ t, t < v + 1 → ((sI N 15 v q5).1 15 t = 0 ∨ (sI N 15 v q5).1 15 t = 1) ∧ ((sI N 15 v q5).1 15 t = 0 ↔ ¬ Up G t) := by
      intro q5 h01 hq t ht
      rw [sI_1]
      by_cases et : t = v
      · rw [if_pos ⟨rfl, et⟩, et]; exact ⟨h01, hq⟩
      · rw [if_neg (by omega)]; exact g3 t (by omega)
    have stay : ∀ q5 : Int32, (q5 = 0 ∨ q5 = 1) → (q5 = 0 ↔ ¬ Up G v) → ¬ Ls G v → LsI M G (v + 1) (fl, sI N 15 v q5) := by
      intro q5 h01 hq hl
      have ec : cnt (kb (Ls G)) (v + 1) = cnt (kb (Ls G)) v := by rw [cnt_s, kb_f.mpr hl]; rfl
      refine ⟨fun d q1 q2 q3 => ?_, fun x hx => ?_, up15 q5 h01 hq, ?_, ?_, fun t ht hlt hc => ?_⟩
      · show (sI N 15 v q5).1 d = _
        rw [sI_off _ _ _ _ q2]; exact g1 d q1 q2 q3
      · show (sI N 15 v q5).1 0 x = _
        rw [sI_off _ _ _ _ (by decide)]; exact g2 x hx
      · show (sI N 15 v q5).1 0 24 = _
        rw [sI_off _ _ _ _ (by decide), ec]; exact g4
      · rw [ec]; exact g5
      · show (sI N 15 v q5).1 16 _ = _
        rw [sI_off _ _ _ _ (by decide)]
        by_cases et : t = v
        · rw [et] at hlt; exact absurd hlt hl
        · exact g6 t (by omega) hlt hc
    by_cases hgv : G v
    · have h14n : ¬ M.1 14 v = 0 := fun q => (hG v hv).mp q hgv
      have hup : Up G v := ⟨v, Sb.refl v, hgv⟩
      rcases hr with ⟨rfl, hb⟩ | ⟨rfl, hb⟩
      · refine ⟨_, stay 1 (Or.inr rfl) ⟨fun q => absurd q (by decide), fun q => absurd hup q⟩ (fun hl => ?_), ?_⟩
        · obtain ⟨k, k1, k2⟩ := hb
          exact hl.2 k k1 k2
        · show f_X11_least_l1 (n + 1) fl (nI v) N = f_X11_least_l1 n fl (nI (v + 1)) (sI N 15 v 1)
          rw [e0, if_neg h14n, Option.bind_some, if_pos (Or.inr rfl), if_neg h14n, if_neg one_ne, Option.bind_some]
      · have hl : Ls G v := ⟨hgv, hb⟩
        have ec : cnt (kb (Ls G)) (v + 1) = cnt (kb (Ls G)) v + 1 := by rw [cnt_s, kb_t.mpr hl]; rfl
        by_cases hc : cnt (kb (Ls G)) v < 120
        · refine ⟨(fl, sI (sI (sI N 15 v 1) 16 (cnt (kb (Ls G)) v) (nI v)) 0 24 (nI (cnt (kb (Ls G)) v + 1))), ⟨fun d q1 q2 q3 => ?_, fun x hx => ?_, fun t ht => ?_, ?_, ?_, fun t ht hlt hct => ?_⟩, ?_⟩
          · show (sI (sI (sI N 15 v 1) 16 _ (nI v)) 0 24 _).1 d = _
            rw [sI_off _ _ _ _ q1, sI_off _ _ _ _ q3, sI_off _ _ _ _ q2]; exact g1 d q1 q2 q3
          · show (sI (sI (sI N 15 v 1) 16 _ (nI v)) 0 24 _).1 0 x = _
            rw [sI_1, if_neg (by omega), sI_off _ _ _ _ (by decide), sI_off _ _ _ _ (by decide)]; exact g2 x hx
          · show ((sI (sI (sI N 15 v 1) 16 _ (nI v)) 0 24 _).1 15 t = 0 ∨ _) ∧ ((sI (sI (sI N 15 v 1) 16 _ (nI v)) 0 24 _).1 15 t = 0 ↔ _)
            rw [sI_off _ _ _ _ (by decide), sI_off _ _ _ _ (by decide)]
            exact up15 1 (Or.inr rfl) ⟨fun q => absurd q (by decide), fun q => absurd hup q⟩ t ht
          · show (sI (sI (sI N 15 v 1) 16 _ (nI v)) 0 24 _).1 0 24 = _
            rw [sI_1, if_pos ⟨rfl, rfl⟩, ec]
          · show fl = _
            rw [g5, ec, if_pos (by omega), if_pos (by omega)]
          · show (sI (sI (sI N 15 v 1) 16 _ (nI v)) 0 24 _).1 16 _ = _
            rw [sI_off _ _ _ _ (by decide), sI_1]
            by_cases et : t = v
            · rw [if_pos ⟨rfl, by rw [et]⟩, et]
            · rw [if_neg (fun q => et (cnt_inj (kb_t.mpr hlt) (kb_t.mpr hl) q.2)), sI_off _ _ _ _ (by decide)]
              exact g6 t (by omega) hlt hct
          · show f_X11_least_l1 (n + 1) fl (nI v) N = f_X11_least_l1 n fl (nI (v + 1)) _
            rw [e0, if_neg h14n, Option.bind_some, if_pos (Or.inr rfl), if_neg h14n, if_pos rfl, if_neg (show ¬ (120 : Int32) ≤ nI (cnt (kb (Ls G)) v) from ifle_no (c := 120) hc (by decide)), if_pos (inB_nI hc (by decide)), nI_clamp (by omega), Option.bind_some, Option.bind_some, sI_off _ _ _ _ (by decide), sI_off _ _ _ _ (by decide), g4, nI_1]
        · refine ⟨(0, sI (sI N 15 v 1) 0 24 (nI (cnt (kb (Ls G)) v + 1))), ⟨fun d q1 q2 q3 => ?_, fun x hx => ?_, fun t ht => ?_, ?_, ?_, fun t ht hlt hct => ?_⟩, ?_⟩
          · show (sI (sI N 15 v 1) 0 24 _).1 d = _
            rw [sI_off _ _ _ _ q1, sI_off _ _ _ _ q2]; exact g1 d q1 q2 q3
          · show (sI (sI N 15 v 1) 0 24 _).1 0 x = _
            rw [sI_1, if_neg (by omega), sI_off _ _ _ _ (by decide)]; exact g2 x hx
          · show ((sI (sI N 15 v 1) 0 24 _).1 15 t = 0 ∨ _) ∧ ((sI (sI N 15 v 1) 0 24 _).1 15 t = 0 ↔ _)
            rw [sI_off _ _ _ _ (by decide)]
            exact up15 1 (Or.inr rfl) ⟨fun q => absurd q (by decide), fun q => absurd hup q⟩ t ht
          · show (sI (sI N 15 v 1) 0 24 _).1 0 24 = _
            rw [sI_1, if_pos ⟨rfl, rfl⟩, ec]
          · show (0 : Int32) = _
            rw [ec, if_neg (by omega)]
          · show (sI (sI N 15 v 1) 0 24 _).1 16 _ = _
            rw [sI_off _ _ _ _ (by decide), sI_off _ _ _ _ (by decide)]
            by_cases et : t = v
            · rw [et] at hct; exact absurd hct hc
            · exact g6 t (by omega) hlt hct
          · show f_X11_least_l1 (n + 1) fl (nI v) N = f_X11_least_l1 n 0 (nI (v + 1)) _
            rw [e0, if_neg h14n, Option.bind_some, if_pos (Or.inr rfl), if_neg h14n, if_pos rfl, if_pos (show (120 : Int32) ≤ nI (cnt (kb (Ls G)) v) from nI_le (a := 120) (by omega) (by omega)), Option.bind_some, Option.bind_some, sI_off _ _ _ _ (by decide), g4, nI_1]
    · have h140 : M.1 14 v = 0 := (hG v hv).mpr hgv
      have hl : ¬ Ls G v := fun q => hgv q.1
      rcases hr with ⟨rfl, hb⟩ | ⟨rfl, hb⟩
      · have hup : Up G v := Up_step.mpr (Or.inr hb)
        refine ⟨_, stay 1 (Or.inr rfl) ⟨fun q => absurd q (by decide), fun q => absurd hup q⟩ hl, ?_⟩
        show f_X11_least_l1 (n + 1) fl (nI v) N = f_X11_least_l1 n fl (nI (v + 1)) (sI N 15 v 1)
        rw [e0, if_pos h140, if_neg one_ne, Option.bind_some, if_pos (Or.inr rfl), if_pos h140, Option.bind_some]
      · have hup : ¬ Up G v := fun q => by
          rcases Up_step.mp q with q | ⟨k, k1, k2⟩
          · exact hgv q
          · exact hb k k1 k2
        refine ⟨_, stay 0 (Or.inl rfl) ⟨fun _ => hup, fun _ => rfl⟩ hl, ?_⟩
        show f_X11_least_l1 (n + 1) fl (nI v) N = f_X11_least_l1 n fl (nI (v + 1)) (sI N 15 v 0)
        rw [e0, if_pos h140, if_pos rfl, Option.bind_some, if_pos (Or.inl rfl), if_pos h140, Option.bind_some]
  · refine ⟨fun d q1 q2 q3 => ?_, fun x hx => ?_, fun t ht => by omega, ?_, rfl, fun t ht => by omega⟩
    · show (sI M 0 24 0).1 d = _
      rw [sI_off _ _ _ _ q1]
    · show (sI M 0 24 0).1 0 x = _
      rw [sI_1, if_neg (by omega)]
    · show (sI M 0 24 0).1 0 24 = _
      rw [sI_1, if_pos ⟨rfl, rfl⟩]; rfl
theorem made_full {M : Mem} (h : M.1 0 11 = nI 24) (kd : Int32) : f_X11_made kd M = some (-1, sI M 0 4 4) := by
  unfold f_X11_made f_X11_no
  rw [if_pos (by rw [h]; rfl), Option.bind_some]
theorem fn_ne {fn : Nat} (h : fn < 24) : ¬ nI fn = (24 : Int32) := fun q => by have := (nI_eq (a := fn) (b := 24) (by omega) (by decide)).mp q; omega
theorem made_many {M : Mem} {G : Nat → Prop} {fn : Nat} (h : M.1 0 11 = nI fn) (hf : fn < 24) (kd : Int32) (hG : ∀ s, s < 65536 → (M.1 14 s = 0 ↔ ¬ G s)) (hc : 120 < cnt (kb (Ls G)) 65536) : ∃ N, f_X11_made kd M = some (-1, sI N 0 4 3) ∧ KeepY M N := by
  obtain ⟨r, e, g1, g2, g3, g4, g5, g6⟩ := leastY hG
  refine ⟨r.2, ?_, ⟨⟨g2 3 (by decide), g2 11 (by decide), g2 13 (by decide), g2 20 (by decide)⟩, fun c hc => g1 c (by omega) (by omega) (by omega)⟩, g2 7 (by decide), g1 4 (by omega) (by omega) (by omega), g2 18 (by decide), g1 12 (by omega) (by omega) (by omega)⟩
  unfold f_X11_made f_X11_no
  rw [h, if_neg (fn_ne hf), e, Option.bind_some, if_pos (by rw [g5, if_neg (by omega)]), Option.bind_some]
theorem made_ok {M : Mem} {G : Nat → Prop} {fn n : Nat} (h : M.1 0 11 = nI fn) (hf : fn < 24) (kd : Int32) (hG : ∀ s, s < 65536 → (M.1 14 s = 0 ↔ ¬ G s)) (hc : cnt (kb (Ls G)) 65536 ≤ 120) (h20 : M.1 0 20 = nI n) (hn : n ≤ 60) :
    ∃ u N, f_X11_made kd M = some (nI fn, N) ∧ u = 126 * min n 59 ∧ N.1 0 11 = nI (fn + 1) ∧ N.1 5 fn = kd ∧ N.1 6 fn = nI (cnt (kb (Ls G)) 65536) ∧ (∀ s, s < 65536 → Ls G s → N.1 7 (120 * fn + cnt (kb (Ls G)) s) = nI s) ∧ (∀ f, f ≠ fn → N.1 5 f = M.1 5 f ∧ N.1 6 f = M.1 6 f) ∧ (∀ j, j < 120 * fn → N.1 7 j = M.1 7 j) ∧ (∀ d, d ≠ 0 → d ≠ 5 → d ≠ 6 → d ≠ 7 → d ≠ 13 → d < 14 → N.1 d = M.1 d) ∧ (∀ i, i ≠ 4 → i ≠ 11 → i ≠ 20 → i ≠ 24 → N.1 0 i = M.1 0 i) ∧ N.1 0 4 = 0 ∧ N.1 0 20 = nI (min n 59 + 1) ∧ N.1 13 u = 2 ∧
    ∀ (h : List Ac) (z z' : Sg) (e : Ac), h.length = n → InvH h z → HY M h z → undoA e z' = z → AcY N u e z' → HY N (e :: hp h) z' := by
  obtain ⟨r, e, g1, g2, g3, g4, g5, g6⟩ := leastY hG
  have hx : f_X11_made_l1 kd fuelN 0 r.2 = f_X11_made_l1 kd fuelN 0 r.2 := rfl
  obtain ⟨A, a1, a2, a3, a4⟩ := cp_loop2 (fun n v N => f_X11_made_l1 kd n v N) (cnt (kb (Ls G)) 65536) (by omega) 7 (120 * fn) (fun i => r.2.1 16 i) r.2 (fun n N hN => by
      show f_X11_made_l1 kd (n + 1) (nI _) N = _
      rw [f_X11_made_l1, hN 0 (by decide), g4, if_pos (Int32.le_refl _)]) (fun n i N hi hN => by
      show f_X11_made_l1 kd (n + 1) (nI i) N = _
      rw [f_X11_made_l1, hN 0 (by decide), g4, if_neg (ifle_no hi (by omega)), if_pos (inB_nI (show i < 120 by omega) (by decide)), g2 11 (by decide), h, show (120 : Int32) * nI fn = nI (120 * fn) from pk_mul 120 fn, nI_add, if_pos (inB_nI (show 120 * fn + i < 2880 by omega) (by decide)), nI_clamp (show 120 * fn + i < 2 ^ 31 by omega), nI_clamp (show i < 2 ^ 31 by omega), hN 16 (by decide), nI_1])
  have a1 : f_X11_made_l1 kd fuelN 0 r.2 = some A := a1
  have A11 : A.1 0 11 = nI fn := by rw [a2 0 (by decide), g2 11 (by decide), h]
  have A24 : A.1 0 24 = nI (cnt (kb (Ls G)) 65536) := by rw [a2 0 (by decide), g4]
  let B := sI (sI (sI A 5 fn kd) 6 fn (nI (cnt (kb (Ls G)) 65536))) 0 11 (nI (fn + 1))
  have B20 : B.1 0 20 = nI n := by
    show (sI (sI (sI A 5 fn kd) 6 fn _) 0 11 (nI (fn + 1))).1 0 20 = _
    rw [sI_1, if_neg (by decide), sI_off _ _ _ _ (by decide), sI_off _ _ _ _ (by decide), a2 0 (by decide), g2 20 (by decide), h20]
  obtain ⟨o, N, b1, b2, b3, b4, b5, b6, b7, b8, b9, b10, b11⟩ := act_spec B20 hn 2 0 0
  have N11 : N.1 0 11 = nI (fn + 1) := by
    rw [b9 11 (by decide) (by decide)]
    show (sI (sI (sI A 5 fn kd) 6 fn _) 0 11 (nI (fn + 1))).1 0 11 = _
    rw [sI_1, if_pos ⟨rfl, rfl⟩]
  have B13 : B.1 13 = M.1 13 := by
    show (sI (sI (sI A 5 fn kd) 6 fn _) 0 11 (nI (fn + 1))).1 13 = _
    rw [sI_off _ _ _ _ (by decide), sI_off _ _ _ _ (by decide), sI_off _ _ _ _ (by decide), a2 13 (by decide), g1 13 (by decide) (by decide) (by decide)]
  refine ⟨o, N, ?_, b3, N11, ?_, ?_, fun s hs hl => ?_, fun f hff => ?_, fun j hj => ?_, fun d q0 q5 q6 q7 q13 q14 => ?_, fun i q4 q11 q20 q24 => ?_, b7, b8, b4, fun h z z' e hl hI hH hu hA => b11 N (fun _ _ => rfl) h z z' e hl hI (HY_ag B13 hH) hu hA⟩
  · unfold f_X11_made
    have b1 : f_X11_act 2 0 0 (sI (sI (sI A 5 fn kd) 6 fn (nI (cnt (kb (Ls G)) 65536))) 0 11 (nI (fn + 1))) = some N := b1
    rw [h, if_neg (fn_ne hf), e, Option.bind_some, if_neg (by rw [g5, if_pos hc]; decide), a1, Option.bind_some, A11, if_pos (inB_nI hf (by decide)), if_pos (inB_nI hf (by decide)), nI_clamp (show fn < 2 ^ 31 by omega), A24, nI_1, b1, Option.bind_some, N11, nI_pred]
  · rw [b10 5 (by decide) (by decide)]
    show (sI (sI (sI A 5 fn kd) 6 fn _) 0 11 (nI (fn + 1))).1 5 fn = _
    rw [sI_off _ _ _ _ (by decide), sI_off _ _ _ _ (by decide), sI_1, if_pos ⟨rfl, rfl⟩]
  · rw [b10 6 (by decide) (by decide)]
    show (sI (sI (sI A 5 fn kd) 6 fn _) 0 11 (nI (fn + 1))).1 6 fn = _
    rw [sI_off _ _ _ _ (by decide), sI_1, if_pos ⟨rfl, rfl⟩]
  · have hlt : cnt (kb (Ls G)) s < cnt (kb (Ls G)) 65536 := cnt_lt hs (kb_t.mpr hl)
    rw [b10 7 (by decide) (by decide)]
    show (sI (sI (sI A 5 fn kd) 6 fn _) 0 11 (nI (fn + 1))).1 7 _ = _
    rw [sI_off _ _ _ _ (by decide), sI_off _ _ _ _ (by decide), sI_off _ _ _ _ (by decide), a4 _ hlt]
    exact g6 s hs hl (by omega)
  · rw [b10 5 (by decide) (by decide), b10 6 (by decide) (by decide)]
    show (sI (sI (sI A 5 fn kd) 6 fn _) 0 11 (nI (fn + 1))).1 5 f = _ ∧ (sI (sI (sI A 5 fn kd) 6 fn _) 0 11 (nI (fn + 1))).1 6 f = _
    constructor
    · rw [sI_off _ _ _ _ (by decide), sI_off _ _ _ _ (by decide), sI_1, if_neg (by omega), a2 5 (by decide), g1 5 (by decide) (by decide) (by decide)]
    · rw [sI_off _ _ _ _ (by decide), sI_1, if_neg (by omega), sI_off _ _ _ _ (by decide), a2 6 (by decide), g1 6 (by decide) (by decide) (by decide)]
  · rw [b10 7 (by decide) (by decide)]
    show (sI (sI (sI A 5 fn kd) 6 fn _) 0 11 (nI (fn + 1))).1 7 j = _
    rw [sI_off _ _ _ _ (by decide), sI_off _ _ _ _ (by decide), sI_off _ _ _ _ (by decide), a3 j (by omega), g1 7 (by decide) (by decide) (by decide)]
  · rw [b10 d q0 q13]
    show (sI (sI (sI A 5 fn kd) 6 fn _) 0 11 (nI (fn + 1))).1 d = _
    rw [sI_off _ _ _ _ q0, sI_off _ _ _ _ q6, sI_off _ _ _ _ q5, a2 d q7, g1 d q0 (by omega) (by omega)]
  · rw [b9 i q4 q20]
    show (sI (sI (sI A 5 fn kd) 6 fn _) 0 11 (nI (fn + 1))).1 0 i = _
    rw [sI_1, if_neg (by omega), sI_off _ _ _ _ (by decide), sI_off _ _ _ _ (by decide), a2 0 (by decide), g2 i q24]
