def hp (h : List Ac) : List Ac := if h.length < 60 then h else h.dropLast
theorem hp_len {h : List Ac} (hl : h.length ≤ 60) : (hp h).length = min h.length 59 := by
  unfold hp
  split
  · omega
  · rw [List.length_dropLast]; omega
theorem InvH_hp {h : List Ac} {z : Sg} (H : InvH h z) : InvH (hp h) z := by
  unfold hp
  split
  · exact H
  · exact InvH_drop H
theorem rem60 {n : Nat} (h : n < 2 ^ 31) : nI n - nI n / (60 : Int32) * (60 : Int32) = nI (n % 60) := pk_rem (d := 60) h (by decide) (by decide)
set_option maxRecDepth 10000 in
theorem open_spec {M : Mem} {fr n : Nat} (h1 : M.1 10 1 = nI fr) (hfr : fr < 60) (h2 : M.1 10 2 = nI n) (hn : n ≤ 60) (a b c : Int32) :
    ∃ (t : Nat) (N : Mem), f_X4_open a b c M = some (some t, N) ∧ kX t = 0 ∧ 12 ≤ t ∧ t + 3 < 252 ∧ N.1 t 0 = a ∧ N.1 t 1 = b ∧ N.1 t 2 = c ∧ (∀ d, d ≠ 10 → d ≠ t → N.1 d = M.1 d) ∧
    ∀ N' : Mem, N'.1 10 = N.1 10 → (∀ d, 12 ≤ d → d < 252 → ¬ (t ≤ d ∧ d ≤ t + 3) → N'.1 d = N.1 d) → ∀ (h : List Ac) (z z' : Sg) (e : Ac), h.length = n → HX M fr h z → undoA e z' = z → AcX N' t e z' → ∃ fr', fr' < 60 ∧ N'.1 10 1 = nI fr' ∧ N'.1 10 2 = nI (e :: hp h).length ∧ HX N' fr' (e :: hp h) z' := by
  by_cases h60 : n < 60
  · -- room
    have hs : (fr + n) % 60 < 60 := Nat.mod_lt _ (by decide)
    have hx : (12 + 4 * ((fr + n) % 60)) % 4 = 0 := by omega
    have q1 : (sI M 10 2 (nI n + 1)).1 10 1 = nI fr := by rw [sI_1, if_neg (by decide)]; exact h1
    have q2 : (sI M 10 2 (nI n + 1)).1 10 2 = nI (n + 1) := by rw [sI_1, if_pos ⟨rfl, rfl⟩, nI_1]
    refine ⟨12 + 4 * ((fr + n) % 60), sI (sI (sI (sI M 10 2 (nI n + 1)) (12 + 4 * ((fr + n) % 60)) 0 a) (12 + 4 * ((fr + n) % 60)) 1 b) (12 + 4 * ((fr + n) % 60)) 2 c, ?_, kX_act hs, by omega, by omega, ?_, ?_, ?_, fun d h3 h4 => ?_, ?_⟩
    · unfold f_X4_open
      rw [h2, if_neg (show ¬ (60 : Int32) ≤ nI n from nI_ge h60 (by decide)), Option.bind_some]
      rw [q1, q2, nI_add, show nI (fr + (n + 1)) - 1 = nI (fr + n) from nI_pred (fr + n), rem60 (by omega), if_pos (inB_nI hs (by decide)), nI_clamp (by omega)]
    · simp [sI]
    · simp [sI]
    · simp [sI]
    · rw [sI_off _ _ _ _ h4, sI_off _ _ _ _ h4, sI_off _ _ _ _ h4, sI_off _ _ _ _ h3]
    · intro N' e10 eo h z z' e hl H hu hA
      have hph : hp h = h := by unfold hp; rw [if_pos (by omega)]
      rw [hph]
      refine ⟨fr, hfr, ?_, ?_, ?_, ?_⟩
      · rw [e10, sI_off _ _ _ _ (by omega), sI_off _ _ _ _ (by omega), sI_off _ _ _ _ (by omega)]; exact q1
      · rw [e10, sI_off _ _ _ _ (by omega), sI_off _ _ _ _ (by omega), sI_off _ _ _ _ (by omega), List.length_cons, hl]; exact q2
      · rw [hl]; exact hA
      · rw [hu]
        refine HX_ag2 (fun m hm k hk => ?_) H
        have hb : (fr + m) % 60 < 60 := Nat.mod_lt _ (by decide)
        have hne : (fr + m) % 60 ≠ (fr + n) % 60 := by omega
        rw [eo _ (by omega) (by omega) (by omega), sI_off _ _ _ _ (by omega), sI_off _ _ _ _ (by omega), sI_off _ _ _ _ (by omega), sI_off _ _ _ _ (by omega)]
  · have hn60 : n = 60 := by omega
    subst hn60
    have hs : ((fr + 1) % 60 + 59) % 60 < 60 := Nat.mod_lt _ (by decide)
    have hf1 : (fr + 1) % 60 < 60 := Nat.mod_lt _ (by decide)
    have q1 : (sI M 10 1 (nI ((fr + 1) % 60))).1 10 1 = nI ((fr + 1) % 60) := by rw [sI_1, if_pos ⟨rfl, rfl⟩]
    have q2 : (sI M 10 1 (nI ((fr + 1) % 60))).1 10 2 = nI 60 := by rw [sI_1, if_neg (by decide)]; exact h2
    refine ⟨12 + 4 * (((fr + 1) % 60 + 59) % 60), sI (sI (sI (sI M 10 1 (nI ((fr + 1) % 60))) (12 + 4 * (((fr + 1) % 60 + 59) % 60)) 0 a) (12 + 4 * (((fr + 1) % 60 + 59) % 60)) 1 b) (12 + 4 * (((fr + 1) % 60 + 59) % 60)) 2 c, ?_, kX_act hs, by omega, by omega, ?_, ?_, ?_, fun d h3 h4 => ?_, ?_⟩
    · unfold f_X4_open
      rw [h2, if_pos (by decide), Option.bind_some, h1, nI_1, rem60 (by omega)]
      rw [q1, q2, nI_add, show nI ((fr + 1) % 60 + 60) - 1 = nI ((fr + 1) % 60 + 59) from nI_pred ((fr + 1) % 60 + 59), rem60 (by omega), if_pos (inB_nI hs (by decide)), nI_clamp (by omega)]
    · simp [sI]
    · simp [sI]
    · simp [sI]
    · rw [sI_off _ _ _ _ h4, sI_off _ _ _ _ h4, sI_off _ _ _ _ h4, sI_off _ _ _ _ h3]
    · intro N' e10 eo h z z' e hl H hu hA
      have hph : hp h = h.dropLast := by unfold hp; rw [if_neg (by omega)]
      have hdl : h.dropLast.length = 59 := by rw [List.length_dropLast]; omega
      rw [hph]
      refine ⟨(fr + 1) % 60, hf1, ?_, ?_, ?_, ?_⟩
      · rw [e10, sI_off _ _ _ _ (by omega), sI_off _ _ _ _ (by omega), sI_off _ _ _ _ (by omega)]; exact q1
      · rw [e10, sI_off _ _ _ _ (by omega), sI_off _ _ _ _ (by omega), sI_off _ _ _ _ (by omega), List.length_cons, hdl]; exact q2
      · rw [hdl]; exact hA
      · rw [hu]
        refine HX_ag2 (fun m hm k hk => ?_) (HX_drop H)
        rw [hdl] at hm
        have hb : ((fr + 1) % 60 + m) % 60 < 60 := Nat.mod_lt _ (by decide)
        have hne : ((fr + 1) % 60 + m) % 60 ≠ ((fr + 1) % 60 + 59) % 60 := by omega
        rw [eo _ (by omega) (by omega) (by omega), sI_off _ _ _ _ (by omega), sI_off _ _ _ _ (by omega), sI_off _ _ _ _ (by omega), sI_off _ _ _ _ (by omega)]
set_option maxRecDepth 10000 in
theorem act_spec {M : Mem} {n : Nat} (h2 : M.1 0 20 = nI n) (hn : n ≤ 60) (a b c : Int32) :
    ∃ (o : Nat) (N : Mem), f_X11_act a b c M = some N ∧ o + 126 ≤ 7560 ∧ o = 126 * min n 59 ∧ N.1 13 o = a ∧ N.1 13 (o + 1) = b ∧ N.1 13 (o + 2) = c ∧ N.1 0 4 = 0 ∧ N.1 0 20 = nI (min n 59 + 1) ∧ (∀ i, i ≠ 4 → i ≠ 20 → N.1 0 i = M.1 0 i) ∧ (∀ d, d ≠ 0 → d ≠ 13 → N.1 d = M.1 d) ∧
    ∀ N' : Mem, (∀ j, j < o → N'.1 13 j = N.1 13 j) → ∀ (h : List Ac) (z z' : Sg) (e : Ac), h.length = n → InvH h z → HY M h z → undoA e z' = z → AcY N' o e z' → HY N' (e :: hp h) z' := by
  have key : ∀ (M1 : Mem) (m : Nat), m ≤ 59 → M1.1 0 20 = nI m → ∃ N, (fun q1 : Mem => (if inB ((126 : Int32) * (q1.1 0 20)) 7560 = true then (if inB (((126 : Int32) * (q1.1 0 20)) + (1 : Int32)) 7560 = true then (if inB (((126 : Int32) * (q1.1 0 20)) + (2 : Int32)) 7560 = true then some (sI (sI (sI (sI (sI q1 13 ((126 : Int32) * (q1.1 0 20)).toNatClampNeg a) 13 (((126 : Int32) * (q1.1 0 20)) + (1 : Int32)).toNatClampNeg b) 13 (((126 : Int32) * (q1.1 0 20)) + (2 : Int32)).toNatClampNeg c) 0 20 ((q1.1 0 20) + (1 : Int32))) 0 4 (0 : Int32)) else none) else none) else none)) M1 = some N ∧ N.1 13 (126 * m) = a ∧ N.1 13 (126 * m + 1) = b ∧ N.1 13 (126 * m + 2) = c ∧ N.1 0 4 = 0 ∧ N.1 0 20 = nI (m + 1) ∧ (∀ i, i ≠ 4 → i ≠ 20 → N.1 0 i = M1.1 0 i) ∧ (∀ d, d ≠ 0 → d ≠ 13 → N.1 d = M1.1 d) ∧ ∀ j, j < 126 * m → N.1 13 j = M1.1 13 j := by
    intro M1 m hm e
    refine ⟨sI (sI (sI (sI (sI M1 13 (126 * m) a) 13 (126 * m + 1) b) 13 (126 * m + 2) c) 0 20 (nI (m + 1))) 0 4 0, ?_, ?_, ?_, ?_, ?_, ?_, ?_, ?_, ?_⟩
    · dsimp only
      rw [e, show (126 : Int32) = nI 126 from rfl, pk_mul, show (2 : Int32) = nI 2 from rfl, nI_add, nI_1, nI_1, if_pos (inB_nI (by omega) (by decide)), if_pos (inB_nI (by omega) (by decide)), if_pos (inB_nI (by omega) (by decide)), nI_clamp (by omega), nI_clamp (by omega), nI_clamp (by omega)]
    · simp [sI]
    · simp [sI]
    · simp [sI]
    · simp [sI]
    · simp [sI]
    · intro i h3 h4
      rw [sI_1, if_neg (by omega), sI_1, if_neg (by omega), sI_off _ _ _ _ (by decide), sI_off _ _ _ _ (by decide), sI_off _ _ _ _ (by decide)]
    · intro d h3 h4
      rw [sI_off _ _ _ _ h3, sI_off _ _ _ _ h3, sI_off _ _ _ _ h4, sI_off _ _ _ _ h4, sI_off _ _ _ _ h4]
    · intro j hj
      rw [sI_off _ _ _ _ (by decide), sI_off _ _ _ _ (by decide), sI_1, if_neg (by omega), sI_1, if_neg (by omega), sI_1, if_neg (by omega)]
  by_cases h60 : n < 60
  · have hmin : min n 59 = n := by omega
    obtain ⟨N, k1, k2, k3, k4, k5, k6, k7, k8, k9⟩ := key M n (by omega) h2
    refine ⟨126 * n, N, ?_, by omega, by rw [hmin], k2, k3, k4, k5, by rw [hmin]; exact k6, k7, k8, ?_⟩
    · unfold f_X11_act
      rw [h2, if_neg (fun q => by have := (nI_eq (a := n) (b := 60) (by omega) (by decide)).mp q; omega), Option.bind_some]
      exact k1
    · intro N' e1 h z z' e hl hI H hu hA
      have hph : hp h = h := by unfold hp; rw [if_pos (by omega)]
      rw [hph]
      refine ⟨by rw [hl]; exact hA, ?_⟩
      rw [hu]
      exact HY_ag2 hI (fun j hj => by rw [e1 j (by omega), k9 j (by omega)]) H
  · have hn60 : n = 60 := by omega
    subst hn60
    obtain ⟨L, l1, l2, l3⟩ := act_l1 a b c M
    have hL : (sI L 0 20 (nI 59)).1 0 20 = nI 59 := by simp [sI]
    obtain ⟨N, k1, k2, k3, k4, k5, k6, k7, k8, k9⟩ := key (sI L 0 20 (nI 59)) 59 (by decide) hL
    refine ⟨126 * 59, N, ?_, by decide, rfl, k2, k3, k4, k5, k6, fun i h3 h4 => ?_, fun d h3 h4 => ?_, ?_⟩
    · unfold f_X11_act
      rw [if_pos (by rw [h2]; rfl), l1, Option.bind_some, Option.bind_some, l2 0 (by decide), h2, show nI 60 - 1 = nI 59 from nI_pred 59]
      exact k1
    · rw [k7 i h3 h4, sI_1, if_neg (by omega), l2 0 (by decide)]
    · rw [k8 d h3 h4, sI_off _ _ _ _ h3, l2 d h4]
    · intro N' e1 h z z' e hl hI H hu hA
      have hph : hp h = h.dropLast := by unfold hp; rw [if_neg (by omega)]
      have hdl : h.dropLast.length = 59 := by rw [List.length_dropLast]; omega
      rw [hph]
      refine ⟨by rw [hdl]; exact hA, ?_⟩
      rw [hu]
      refine HY_drop hI (fun j hj => ?_) H
      rw [hl] at hj
      rw [e1 j (by omega), k9 j (by omega), sI_off _ _ _ _ (by decide), l3 j (by omega)]
