def fiX4 (ca : Nat → ClassId) (B i : Nat) : Nat → va_E := fun c => match c with
  | 0 => .inr (4, [.ref (B + 1), .int 0, .int 0])
  | 1 => .inl (ca 5, 60, .inr (.inr (.inr (.inr (fun j => if j < i then some (B + 2 + 4 * j) else none)))))
  | c + 2 => fiX0 ca (B + 2 + 4 * (c / 4)) (c % 4)
theorem up_if {i : Nat} (hi : i < 1000) (f : Nat → Nat) : va_up (fun j => if j < i then some (f j) else none) (nI i).toNatClampNeg (some (f i)) = fun j => if j < i + 1 then some (f j) else none := by
  rw [nI_clamp (by omega)]
  funext j
  unfold va_up
  by_cases h1 : j = i
  · subst h1
    rw [if_pos rfl, if_pos (by omega)]
  · rw [if_neg h1]
    show (if j < i then some (f j) else none) = _
    by_cases h2 : j < i
    · rw [if_pos h2, if_pos (by omega)]
    · rw [if_neg h2, if_neg (by omega)]
set_option maxRecDepth 100000 in
set_option maxHeartbeats 1000000 in
theorem c_X4_loop (D : va_G) (ca : Nat → ClassId) {x : Cx} (B : Nat) (g : Gn D ca x RX4 cX4_init 2 4 241 7860) : ∀ (k i : Nat), i + k = 60 → V D x B (242, fiX4 ca B 60) 241 7860 (2 + 4 * i) (fiX4 ca B i) (1 + 4 * i) (60 + 130 * i) 25 [(1, .int (nI i)), (0, .ref B)] [] := by
  intro k
  induction k with
  | zero =>
    intro i hi
    have hi : i = 60 := by omega
    subst hi
    refine v_iload_n g 0 dX4_init_25 rfl ?_
    refine v_bipush g (v := 60) dX4_init_26 rfl ?_
    refine v_icmp_ge g 50 dX4_init_28 (by decide) (fun b => ?_) (fun b => ?_)
    · exact v_vret g dX4_init_50 (by decide) (by decide) rfl (fun c hc => rfl)
    · exact absurd (show (60 : Int32) ≤ nI 60 by decide) b
  | succ k ih =>
    intro i hi
    refine v_iload_n g 0 dX4_init_25 rfl ?_
    refine v_bipush g (v := 60) dX4_init_26 rfl ?_
    refine v_icmp_ge g 50 dX4_init_28 (by decide) (fun b => ?_) (fun b => ?_)
    · exact absurd b (nI_ge (show i < 60 by omega) (by decide))
    · refine v_aload_n g 1 dX4_init_31 rfl ?_
      refine v_get g (c := 0) (fs := [.ref (B + 1), .int 0, .int 0]) (by omega) rfl rfl inX4 0 (by decide) wf_X4_11 rfl rfl dX4_init_32 ?_
      refine v_iload_n g 0 dX4_init_35 rfl ?_
      refine v_new g (ci := 0) (fs := [.int 0, .int 0, .int 0, .null]) rfl inX0 tyX0 tyX0_ok (tbG_of (List.mem_of_getElem? (i := 136) (by decide +kernel)) (by decide +kernel)) (tbG_of (List.mem_of_getElem? (i := 138) (by decide +kernel)) (by decide +kernel)) (tbG_of (List.mem_of_getElem? (i := 63) (by decide +kernel)) (by decide +kernel)) (fun j hj => by match j, hj with | 0, _ => rfl | 1, _ => rfl | 2, _ => rfl | 3, _ => rfl | q + 4, h => exact absurd h (by omega)) (by omega) (by omega) dX4_init_36 ?_
      refine v_dup g dX4_init_39 rfl ?_
      refine v_callN (N := 2 + 4 * i) (st := [.ref (B + (2 + 4 * i)), .int (nI i), .ref (B + 1)]) (ce' := cj (fiX4 ca B i) (2 + 4 * i) (fiX0 ca (B + (2 + 4 * i)))) g (by decide +kernel) (tbG_of (List.mem_of_getElem? (i := 63) (by decide +kernel)) (by decide +kernel)) (tbG_of (List.mem_of_getElem? (i := 141) (by decide +kernel)) (by decide +kernel)) (tbG_of (List.mem_of_getElem? (i := 140) (by decide +kernel)) (by decide +kernel)) (by decide +kernel) rfl (c_X0_init D ca x.2.1 (B + (2 + 4 * i))) (cu_s _ _ _) (by decide) (by decide) (by omega) (by omega) (Nat.le_of_ble_eq_true rfl) dX4_init_40 (fun c hc => by rw [cj_lo _ _ _ c hc, cu_n _ _ (by omega)]) (cj_hi _ _ _ _) (N1 := 2 + 4 * i + 4) rfl ?_
      refine v_aast g (c := 1) (c2 := 2 + 4 * i) 5 (K := 60) (f := fun j => if j < i then some (B + 2 + 4 * j) else none) (by omega) (by rw [cj_lo _ _ _ 1 (by omega)]; rfl) rfl (by omega) (vs := [.int 0, .int 0, .int 0, .ref (B + (2 + 4 * i) + 1)]) (ci := 0) (by rw [show 2 + 4 * i = 2 + 4 * i + 0 from rfl, cj_hi _ _ _ 1 0 (by decide)]; rfl) rfl (vp_in_nI (by omega) (by decide)) rfl rfl dX4_init_43 ?_
      refine v_iinc g 0 [(1, .int (nI i + 1)), (0, .ref B)] dX4_init_44 rfl rfl (by decide) rfl ?_
      refine v_goto g 25 dX4_init_47 (by decide) ?_
      rw [nI_1]
      refine v_eq (by omega) (by omega) (by omega) (fun c hc => ?_) (ih (i + 1) (by omega))
      by_cases h1 : c = 1
      · subst h1
        rw [cu_s, show B + (2 + 4 * i) = B + 2 + 4 * i by omega, up_if (by omega) (fun j => B + 2 + 4 * j)]
        rfl
      · rw [cu_n _ _ h1]
        by_cases h2 : c < 2 + 4 * i
        · rw [cj_lo _ _ _ c h2]
          match c, h1 with
          | 0, _ => rfl
          | c + 2, _ => rfl
        · obtain ⟨e, rfl⟩ : ∃ e, c = 2 + 4 * i + e := ⟨c - (2 + 4 * i), by omega⟩
          rw [cj_hi _ _ _ 4 e (by omega)]
          have h3 : 2 + 4 * i + e = (4 * i + e) + 2 := by omega
          rw [h3]
          show fiX0 ca (B + (2 + 4 * i)) e = fiX0 ca (B + 2 + 4 * ((4 * i + e) / 4)) ((4 * i + e) % 4)
          rw [show (4 * i + e) / 4 = i by omega, show (4 * i + e) % 4 = e by omega, show B + (2 + 4 * i) = B + 2 + 4 * i by omega]
set_option maxRecDepth 100000 in
set_option maxHeartbeats 1000000 in
theorem c_X4_init (D : va_G) (ca : Nat → ClassId) (l : Launch) (B : Nat) : Cn D ca l yX4_init cX4_init 2 4 241 7860 B (.inr (4, [.null, .int 0, .int 0])) (242, fiX4 ca B 60) := by
  refine cn_of (by decide) rfl (by decide) (fun x hx g => ?_)
  subst hx
  have g : Gn D ca x RX4 cX4_init 2 4 241 7860 := g
  refine v_aload_n g 0 dX4_init_0 rfl ?_
  refine v_objInit g (tbG_of (List.mem_of_getElem? (i := 135) (by decide +kernel)) (by decide +kernel)) (tbG_of (List.mem_of_getElem? (i := 80) (by decide +kernel)) (by decide +kernel)) (tbG_of (List.mem_of_getElem? (i := 81) (by decide +kernel)) (by decide +kernel)) (by decide) (by decide) dX4_init_1 ?_
  refine v_aload_n g 0 dX4_init_4 rfl ?_
  refine v_bipush g (v := 60) dX4_init_5 rfl ?_
  refine v_newq g 5 (K := 60) rfl (tbG_of (List.mem_of_getElem? (i := 136) (by decide +kernel)) (by decide +kernel)) g.2.2.2.2.2.2.2.2.2.2.2.2.2 (by decide) (by decide) (by decide) (by decide) (by decide) dX4_init_7 ?_
  refine v_putF g (c := 0) (fs := [.null, .int 0, .int 0]) (Nat.le_of_ble_eq_true rfl) rfl rfl inX4 tyX4 tyX4_ok nmX4 0 (by decide) wf_X4_11 rfl rfl rfl rfl (Nat.le_of_ble_eq_true rfl) (fs' := [.ref (B + 1), .int 0, .int 0]) rfl rfl dX4_init_10 ?_
  refine v_aload_n g 0 dX4_init_13 rfl ?_
  refine v_iconst g (v := 0) dX4_init_14 rfl ?_
  refine v_put g (c := 0) (fs := [.ref (B + 1), .int 0, .int 0]) (Nat.le_of_ble_eq_true rfl) rfl rfl inX4 tyX4 tyX4_ok nmX4 1 (by decide) wf_X4_17 rfl rfl rfl (Nat.le_of_ble_eq_true rfl) (fs' := [.ref (B + 1), .int 0, .int 0]) rfl rfl dX4_init_15 ?_
  refine v_aload_n g 0 dX4_init_18 rfl ?_
  refine v_iconst g (v := 0) dX4_init_19 rfl ?_
  refine v_put g (c := 0) (fs := [.ref (B + 1), .int 0, .int 0]) (Nat.le_of_ble_eq_true rfl) rfl rfl inX4 tyX4 tyX4_ok nmX4 2 (by decide) wf_X4_21 rfl rfl rfl (Nat.le_of_ble_eq_true rfl) (fs' := [.ref (B + 1), .int 0, .int 0]) rfl rfl dX4_init_20 ?_
  refine v_iconst g (v := 0) dX4_init_23 rfl ?_
  refine v_istore_n g [(1, .int 0), (0, .ref B)] dX4_init_24 (by decide) rfl ?_
  refine v_eq (N' := 2 + 4 * 0) (ck' := 1 + 4 * 0) (cs' := 60 + 130 * 0) rfl rfl rfl (fun c hc => ?_) (c_X4_loop D ca B g 60 0 rfl)
  match c, hc with
  | 0, _ => rfl
  | 1, _ => rfl
  | q + 2, h => exact absurd h (by omega)
