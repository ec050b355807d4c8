def cj (ce : Nat → va_E) (N : Nat) (f : Nat → va_E) : Nat → va_E := fun c => if c < N then ce c else f (c - N)
theorem cj_lo (ce : Nat → va_E) (N : Nat) (f : Nat → va_E) : ∀ c, c < N → cj ce N f c = ce c := fun c h => by simp [cj, h]
theorem cj_hi (ce : Nat → va_E) (N : Nat) (f : Nat → va_E) (K : Nat) : ∀ c, c < K → cj ce N f (N + c) = f c := fun c _ => by unfold cj; rw [if_neg (by omega), Nat.add_sub_cancel_left]
theorem hra_int (s : State) : ∀ cA : ClassId, va_RA s cA .int = (s.vm.findClass ("[" ++ FieldType.int.toString) = some cA) := fun _ => rfl
theorem hra_long (s : State) : ∀ cA : ClassId, va_RA s cA .long = (s.vm.findClass ("[" ++ FieldType.long.toString) = some cA) := fun _ => rfl
theorem hra_boolean (s : State) : ∀ cA : ClassId, va_RA s cA .boolean = (s.vm.findClass ("[" ++ FieldType.boolean.toString) = some cA) := fun _ => rfl
theorem arr0_int (K : Nat) : ∀ cA : ClassId, vp_cell cA (K, .inl (fun _ => 0)) = arrV cA K (fun _ => defaultValue .int) := fun _ => rfl
theorem arr0_boolean (K : Nat) : ∀ cA : ClassId, vp_cell cA (K, .inl (fun _ => 0)) = arrV cA K (fun _ => defaultValue .boolean) := fun _ => rfl
theorem arr0_long (K : Nat) : ∀ cA : ClassId, vp_cell cA (K, .inr (.inl (fun _ => 0))) = arrV cA K (fun _ => defaultValue .long) := fun _ => rfl
theorem v_eq {D : va_G} {x : Cx} {B : Nat} {fin : Nat × (Nat → va_E)} {mc ms N N' : Nat} {ce ce' : Nat → va_E} {ck cs ck' cs' pc : Nat} {L : List (Nat × Value)} {st : List Value} (hN : N = N') (hk : ck = ck') (hs : cs = cs') (h : ∀ c, c < N → ce c = ce' c) (kk : V D x B fin mc ms N' ce' ck' cs' pc L st) : V D x B fin mc ms N ce ck cs pc L st := by
  subst hN; subst hk; subst hs
  intro H locs ls hz hP hS hl
  rw [gw_eq h] at hP
  exact kk H locs ls hz hP hS hl
def fiX6 (ca : Nat → ClassId) (B : Nat) : Nat → va_E := fun c => match c with
  | 0 => .inr (6, [.int (-1), .int 0, .ref (B + 1)])
  | _ => .inl (ca 0, 120, .inl (fun _ => 0))
set_option maxRecDepth 100000 in
set_option maxHeartbeats 400000 in
theorem c_X6_init (D : va_G) (ca : Nat → ClassId) (l : Launch) (B : Nat) : Cn D ca l yX6_init cX6_init 1 1 1 120 B (.inr (6, [.int 0, .int 0, .null])) (2, fiX6 ca B) := by
  refine cn_of (by decide) rfl (by decide) (fun x hx g => ?_)
  subst hx
  have g : Gn D ca x RX6 cX6_init 1 1 1 120 := g
  refine v_aload_n g 0 dX6_init_0 rfl ?_
  refine v_objInit g (tbG_of (List.mem_of_getElem? (i := 115) (by decide +kernel)) (by decide +kernel)) (tbG_of (List.mem_of_getElem? (i := 80) (by decide +kernel)) (by decide +kernel)) (tbG_of (List.mem_of_getElem? (i := 81) (by decide +kernel)) (by decide +kernel)) (by decide) (by decide) dX6_init_1 ?_
  refine v_aload_n g 0 dX6_init_4 rfl ?_
  refine v_iconst g (v := -1) dX6_init_5 rfl ?_
  refine v_put g (c := 0) (fs := [.int 0, .int 0, .null]) (Nat.le_of_ble_eq_true rfl) rfl rfl inX6 tyX6 tyX6_ok nmX6 0 (by decide) wf_X6_9 rfl rfl rfl (Nat.le_of_ble_eq_true rfl) (fs' := [.int (-1), .int 0, .null]) rfl rfl dX6_init_6 ?_
  refine v_aload_n g 0 dX6_init_9 rfl ?_
  refine v_iconst g (v := 0) dX6_init_10 rfl ?_
  refine v_put g (c := 0) (fs := [.int (-1), .int 0, .null]) (Nat.le_of_ble_eq_true rfl) rfl rfl inX6 tyX6 tyX6_ok nmX6 1 (by decide) wf_X6_15 rfl rfl rfl (Nat.le_of_ble_eq_true rfl) (fs' := [.int (-1), .int 0, .null]) rfl rfl dX6_init_11 ?_
  refine v_aload_n g 0 dX6_init_14 rfl ?_
  refine v_bipush g (v := 120) dX6_init_15 rfl ?_
  refine v_newa g (atype := .int) (ty := .int) 0 (K := 120) (a0 := (120, .inl (fun _ => 0))) rfl (hra_int _) rfl (tbG_of (List.mem_of_getElem? (i := 107) (by decide +kernel)) (by decide +kernel)) (arr0_int 120) (by decide) (by decide) (by decide) (by decide) (by decide) dX6_init_17 ?_
  refine v_putF g (c := 0) (fs := [.int (-1), .int 0, .null]) (Nat.le_of_ble_eq_true rfl) rfl rfl inX6 tyX6 tyX6_ok nmX6 2 (by decide) wf_X6_18 rfl rfl rfl rfl (Nat.le_of_ble_eq_true rfl) (fs' := [.int (-1), .int 0, .ref (B + 1)]) rfl rfl dX6_init_19 ?_
  exact v_vret g dX6_init_22 (by decide) (by decide) rfl (fun c hc => by match c, hc with | 0, _ => rfl | 1, _ => rfl | q + 2, h => exact absurd h (by omega))
def fiX9 (ca : Nat → ClassId) (B : Nat) : Nat → va_E := fun c => match c with
  | 0 => .inr (9, [.int 0, .int 0, .ref (B + 1)])
  | c + 1 => fiX6 ca (B + 1) c
set_option maxRecDepth 100000 in
set_option maxHeartbeats 400000 in
theorem c_X9_init (D : va_G) (ca : Nat → ClassId) (l : Launch) (B : Nat) : Cn D ca l yX9_init cX9_init 1 2 2 123 B (.inr (9, [.int 0, .int 0, .null])) (3, fiX9 ca B) := by
  refine cn_of (by decide) rfl (by decide) (fun x hx g => ?_)
  subst hx
  have g : Gn D ca x RX9 cX9_init 1 2 2 123 := g
  refine v_aload_n g 0 dX9_init_0 rfl ?_
  refine v_objInit g (tbG_of (List.mem_of_getElem? (i := 148) (by decide +kernel)) (by decide +kernel)) (tbG_of (List.mem_of_getElem? (i := 80) (by decide +kernel)) (by decide +kernel)) (tbG_of (List.mem_of_getElem? (i := 81) (by decide +kernel)) (by decide +kernel)) (by decide) (by decide) dX9_init_1 ?_
  refine v_aload_n g 0 dX9_init_4 rfl ?_
  refine v_iconst g (v := 0) dX9_init_5 rfl ?_
  refine v_put g (c := 0) (fs := [.int 0, .int 0, .null]) (Nat.le_of_ble_eq_true rfl) rfl rfl inX9 tyX9 tyX9_ok nmX9 0 (by decide) wf_X9_9 rfl rfl rfl (Nat.le_of_ble_eq_true rfl) (fs' := [.int 0, .int 0, .null]) rfl rfl dX9_init_6 ?_
  refine v_aload_n g 0 dX9_init_9 rfl ?_
  refine v_iconst g (v := 0) dX9_init_10 rfl ?_
  refine v_put g (c := 0) (fs := [.int 0, .int 0, .null]) (Nat.le_of_ble_eq_true rfl) rfl rfl inX9 tyX9 tyX9_ok nmX9 1 (by decide) wf_X9_15 rfl rfl rfl (Nat.le_of_ble_eq_true rfl) (fs' := [.int 0, .int 0, .null]) rfl rfl dX9_init_11 ?_
  refine v_aload_n g 0 dX9_init_14 rfl ?_
  refine v_new g (ci := 6) (fs := [.int 0, .int 0, .null]) rfl inX6 tyX6 tyX6_ok (tbG_of (List.mem_of_getElem? (i := 149) (by decide +kernel)) (by decide +kernel)) (tbG_of (List.mem_of_getElem? (i := 111) (by decide +kernel)) (by decide +kernel)) (tbG_of (List.mem_of_getElem? (i := 61) (by decide +kernel)) (by decide +kernel)) (fun j hj => by match j, hj with | 0, _ => rfl | 1, _ => rfl | 2, _ => rfl | q + 3, h => exact absurd h (by omega)) (by decide) (by decide) dX9_init_15 ?_
  refine v_dup g dX9_init_18 rfl ?_
  refine v_callN (N := 1) (st := [.ref (B + 1), .ref B]) (ce' := (cj (cu (cu (cu (fun _ => (.inr (9, [.int 0, .int 0, .null]))) 0 (.inr (9, [.int 0, .int 0, .null]))) 0 (.inr (9, [.int 0, .int 0, .null]))) 1 (.inr (6, [.int 0, .int 0, .null]))) 1 (fiX6 ca (B + 1)))) g (by decide +kernel) (tbG_of (List.mem_of_getElem? (i := 61) (by decide +kernel)) (by decide +kernel)) (tbG_of (List.mem_of_getElem? (i := 114) (by decide +kernel)) (by decide +kernel)) (tbG_of (List.mem_of_getElem? (i := 113) (by decide +kernel)) (by decide +kernel)) (by decide +kernel) rfl (c_X6_init D ca x.2.1 (B + 1)) rfl (by decide) (by decide) (by decide) (by decide) (Nat.le_of_ble_eq_true rfl) dX9_init_19 (cj_lo _ _ _) (cj_hi _ _ _ _) (N1 := 3) rfl ?_
  refine v_putF g (c := 0) (fs := [.int 0, .int 0, .null]) (Nat.le_of_ble_eq_true rfl) rfl rfl inX9 tyX9 tyX9_ok nmX9 2 (by decide) wf_X9_21 rfl rfl rfl rfl (Nat.le_of_ble_eq_true rfl) (fs' := [.int 0, .int 0, .ref (B + 1)]) rfl rfl dX9_init_22 ?_
  exact v_vret g dX9_init_25 (by decide) (by decide) rfl (fun c hc => by match c, hc with | 0, _ => rfl | 1, _ => rfl | 2, _ => rfl | q + 3, h => exact absurd h (by omega))
def fiX0 (ca : Nat → ClassId) (B : Nat) : Nat → va_E := fun c => match c with
  | 0 => .inr (0, [.int 0, .int 0, .int 0, .ref (B + 1)])
  | c + 1 => fiX9 ca (B + 1) c
set_option maxRecDepth 100000 in
set_option maxHeartbeats 400000 in
theorem c_X0_init (D : va_G) (ca : Nat → ClassId) (l : Launch) (B : Nat) : Cn D ca l yX0_init cX0_init 1 3 3 126 B (.inr (0, [.int 0, .int 0, .int 0, .null])) (4, fiX0 ca B) := by
  refine cn_of (by decide) rfl (by decide) (fun x hx g => ?_)
  subst hx
  have g : Gn D ca x RX0 cX0_init 1 3 3 126 := g
  refine v_aload_n g 0 dX0_init_0 rfl ?_
  refine v_objInit g (tbG_of (List.mem_of_getElem? (i := 142) (by decide +kernel)) (by decide +kernel)) (tbG_of (List.mem_of_getElem? (i := 80) (by decide +kernel)) (by decide +kernel)) (tbG_of (List.mem_of_getElem? (i := 81) (by decide +kernel)) (by decide +kernel)) (by decide) (by decide) dX0_init_1 ?_
  refine v_aload_n g 0 dX0_init_4 rfl ?_
  refine v_iconst g (v := 0) dX0_init_5 rfl ?_
  refine v_put g (c := 0) (fs := [.int 0, .int 0, .int 0, .null]) (Nat.le_of_ble_eq_true rfl) rfl rfl inX0 tyX0 tyX0_ok nmX0 0 (by decide) wf_X0_9 rfl rfl rfl (Nat.le_of_ble_eq_true rfl) (fs' := [.int 0, .int 0, .int 0, .null]) rfl rfl dX0_init_6 ?_
  refine v_aload_n g 0 dX0_init_9 rfl ?_
  refine v_iconst g (v := 0) dX0_init_10 rfl ?_
  refine v_put g (c := 0) (fs := [.int 0, .int 0, .int 0, .null]) (Nat.le_of_ble_eq_true rfl) rfl rfl inX0 tyX0 tyX0_ok nmX0 1 (by decide) wf_X0_15 rfl rfl rfl (Nat.le_of_ble_eq_true rfl) (fs' := [.int 0, .int 0, .int 0, .null]) rfl rfl dX0_init_11 ?_
  refine v_aload_n g 0 dX0_init_14 rfl ?_
  refine v_iconst g (v := 0) dX0_init_15 rfl ?_
  refine v_put g (c := 0) (fs := [.int 0, .int 0, .int 0, .null]) (Nat.le_of_ble_eq_true rfl) rfl rfl inX0 tyX0 tyX0_ok nmX0 2 (by decide) wf_X0_18 rfl rfl rfl (Nat.le_of_ble_eq_true rfl) (fs' := [.int 0, .int 0, .int 0, .null]) rfl rfl dX0_init_16 ?_
  refine v_aload_n g 0 dX0_init_19 rfl ?_
  refine v_new g (ci := 9) (fs := [.int 0, .int 0, .null]) rfl inX9 tyX9 tyX9_ok (tbG_of (List.mem_of_getElem? (i := 143) (by decide +kernel)) (by decide +kernel)) (tbG_of (List.mem_of_getElem? (i := 144) (by decide +kernel)) (by decide +kernel)) (tbG_of (List.mem_of_getElem? (i := 64) (by decide +kernel)) (by decide +kernel)) (fun j hj => by match j, hj with | 0, _ => rfl | 1, _ => rfl | 2, _ => rfl | q + 3, h => exact absurd h (by omega)) (by decide) (by decide) dX0_init_20 ?_
  refine v_dup g dX0_init_23 rfl ?_
  refine v_callN (N := 1) (st := [.ref (B + 1), .ref B]) (ce' := (cj (cu (cu (cu (cu (fun _ => (.inr (0, [.int 0, .int 0, .int 0, .null]))) 0 (.inr (0, [.int 0, .int 0, .int 0, .null]))) 0 (.inr (0, [.int 0, .int 0, .int 0, .null]))) 0 (.inr (0, [.int 0, .int 0, .int 0, .null]))) 1 (.inr (9, [.int 0, .int 0, .null]))) 1 (fiX9 ca (B + 1)))) g (by decide +kernel) (tbG_of (List.mem_of_getElem? (i := 64) (by decide +kernel)) (by decide +kernel)) (tbG_of (List.mem_of_getElem? (i := 147) (by decide +kernel)) (by decide +kernel)) (tbG_of (List.mem_of_getElem? (i := 146) (by decide +kernel)) (by decide +kernel)) (by decide +kernel) rfl (c_X9_init D ca x.2.1 (B + 1)) rfl (by decide) (by decide) (by decide) (by decide) (Nat.le_of_ble_eq_true rfl) dX0_init_24 (cj_lo _ _ _) (cj_hi _ _ _ _) (N1 := 4) rfl ?_
  refine v_putF g (c := 0) (fs := [.int 0, .int 0, .int 0, .null]) (Nat.le_of_ble_eq_true rfl) rfl rfl inX0 tyX0 tyX0_ok nmX0 3 (by decide) wf_X0_24 rfl rfl rfl rfl (Nat.le_of_ble_eq_true rfl) (fs' := [.int 0, .int 0, .int 0, .ref (B + 1)]) rfl rfl dX0_init_27 ?_
  exact v_vret g dX0_init_30 (by decide) (by decide) rfl (fun c hc => by match c, hc with | 0, _ => rfl | 1, _ => rfl | 2, _ => rfl | 3, _ => rfl | q + 4, h => exact absurd h (by omega))
def fiX1 (ca : Nat → ClassId) (B : Nat) : Nat → va_E := fun c => match c with
  | 0 => .inr (1, [.int 0, .int 0, .ref (B + 1)])
  | _ => .inl (ca 0, 120, .inl (fun _ => 0))
set_option maxRecDepth 100000 in
set_option maxHeartbeats 400000 in
theorem c_X1_init (D : va_G) (ca : Nat → ClassId) (l : Launch) (B : Nat) : Cn D ca l yX1_init cX1_init 1 1 1 120 B (.inr (1, [.int 0, .int 0, .null])) (2, fiX1 ca B) := by
  refine cn_of (by decide) rfl (by decide) (fun x hx g => ?_)
  subst hx
  have g : Gn D ca x RX1 cX1_init 1 1 1 120 := g
  refine v_aload_n g 0 dX1_init_0 rfl ?_
  refine v_objInit g (tbG_of (List.mem_of_getElem? (i := 284) (by decide +kernel)) (by decide +kernel)) (tbG_of (List.mem_of_getElem? (i := 80) (by decide +kernel)) (by decide +kernel)) (tbG_of (List.mem_of_getElem? (i := 81) (by decide +kernel)) (by decide +kernel)) (by decide) (by decide) dX1_init_1 ?_
  refine v_aload_n g 0 dX1_init_4 rfl ?_
  refine v_iconst g (v := 0) dX1_init_5 rfl ?_
  refine v_put g (c := 0) (fs := [.int 0, .int 0, .null]) (Nat.le_of_ble_eq_true rfl) rfl rfl inX1 tyX1 tyX1_ok nmX1 0 (by decide) wf_X1_9 rfl rfl rfl (Nat.le_of_ble_eq_true rfl) (fs' := [.int 0, .int 0, .null]) rfl rfl dX1_init_6 ?_
  refine v_aload_n g 0 dX1_init_9 rfl ?_
  refine v_iconst g (v := 0) dX1_init_10 rfl ?_
  refine v_put g (c := 0) (fs := [.int 0, .int 0, .null]) (Nat.le_of_ble_eq_true rfl) rfl rfl inX1 tyX1 tyX1_ok nmX1 1 (by decide) wf_X1_15 rfl rfl rfl (Nat.le_of_ble_eq_true rfl) (fs' := [.int 0, .int 0, .null]) rfl rfl dX1_init_11 ?_
  refine v_aload_n g 0 dX1_init_14 rfl ?_
  refine v_bipush g (v := 120) dX1_init_15 rfl ?_
  refine v_newa g (atype := .int) (ty := .int) 0 (K := 120) (a0 := (120, .inl (fun _ => 0))) rfl (hra_int _) rfl (tbG_of (List.mem_of_getElem? (i := 107) (by decide +kernel)) (by decide +kernel)) (arr0_int 120) (by decide) (by decide) (by decide) (by decide) (by decide) dX1_init_17 ?_
  refine v_putF g (c := 0) (fs := [.int 0, .int 0, .null]) (Nat.le_of_ble_eq_true rfl) rfl rfl inX1 tyX1 tyX1_ok nmX1 2 (by decide) wf_X1_18 rfl rfl rfl rfl (Nat.le_of_ble_eq_true rfl) (fs' := [.int 0, .int 0, .ref (B + 1)]) rfl rfl dX1_init_19 ?_
  exact v_vret g dX1_init_22 (by decide) (by decide) rfl (fun c hc => by match c, hc with | 0, _ => rfl | 1, _ => rfl | q + 2, h => exact absurd h (by omega))
def fiX2 (ca : Nat → ClassId) (B : Nat) : Nat → va_E := fun c => match c with
  | _ => .inr (2, [.int 0, .int 1])
set_option maxRecDepth 100000 in
set_option maxHeartbeats 400000 in
theorem c_X2_init (D : va_G) (ca : Nat → ClassId) (l : Launch) (B : Nat) : Cn D ca l yX2_init cX2_init 1 1 0 0 B (.inr (2, [.int 0, .int 0])) (1, fiX2 ca B) := by
  refine cn_of (by decide) rfl (by decide) (fun x hx g => ?_)
  subst hx
  have g : Gn D ca x RX2 cX2_init 1 1 0 0 := g
  refine v_aload_n g 0 dX2_init_0 rfl ?_
  refine v_objInit g (tbG_of (List.mem_of_getElem? (i := 270) (by decide +kernel)) (by decide +kernel)) (tbG_of (List.mem_of_getElem? (i := 80) (by decide +kernel)) (by decide +kernel)) (tbG_of (List.mem_of_getElem? (i := 81) (by decide +kernel)) (by decide +kernel)) (by decide) (by decide) dX2_init_1 ?_
  refine v_aload_n g 0 dX2_init_4 rfl ?_
  refine v_iconst g (v := 0) dX2_init_5 rfl ?_
  refine v_put g (c := 0) (fs := [.int 0, .int 0]) (Nat.le_of_ble_eq_true rfl) rfl rfl inX2 tyX2 tyX2_ok nmX2 0 (by decide) wf_X2_7 rfl rfl rfl (Nat.le_of_ble_eq_true rfl) (fs' := [.int 0, .int 0]) rfl rfl dX2_init_6 ?_
  refine v_aload_n g 0 dX2_init_9 rfl ?_
  refine v_iconst g (v := 1) dX2_init_10 rfl ?_
  refine v_put g (c := 0) (fs := [.int 0, .int 0]) (Nat.le_of_ble_eq_true rfl) rfl rfl inX2 tyX2 tyX2_ok nmX2 1 (by decide) wf_X2_13 rfl rfl rfl (Nat.le_of_ble_eq_true rfl) (fs' := [.int 0, .int 1]) rfl rfl dX2_init_11 ?_
  exact v_vret g dX2_init_14 (by decide) (by decide) rfl (fun c hc => by match c, hc with | 0, _ => rfl | q + 1, h => exact absurd h (by omega))
def fiX5 (ca : Nat → ClassId) (B : Nat) : Nat → va_E := fun c => match c with
  | 0 => .inr (5, [.int 0, .ref (B + 1), .ref (B + 2), .ref (B + 3)])
  | _ => .inl (ca 0, 16, .inl (fun _ => 0))
set_option maxRecDepth 100000 in
set_option maxHeartbeats 400000 in
theorem c_X5_init (D : va_G) (ca : Nat → ClassId) (l : Launch) (B : Nat) : Cn D ca l yX5_init cX5_init 1 1 3 48 B (.inr (5, [.int 0, .null, .null, .null])) (4, fiX5 ca B) := by
  refine cn_of (by decide) rfl (by decide) (fun x hx g => ?_)
  subst hx
  have g : Gn D ca x RX5 cX5_init 1 1 3 48 := g
  refine v_aload_n g 0 dX5_init_0 rfl ?_
  refine v_objInit g (tbG_of (List.mem_of_getElem? (i := 87) (by decide +kernel)) (by decide +kernel)) (tbG_of (List.mem_of_getElem? (i := 80) (by decide +kernel)) (by decide +kernel)) (tbG_of (List.mem_of_getElem? (i := 81) (by decide +kernel)) (by decide +kernel)) (by decide) (by decide) dX5_init_1 ?_
  refine v_aload_n g 0 dX5_init_4 rfl ?_
  refine v_iconst g (v := 0) dX5_init_5 rfl ?_
  refine v_put g (c := 0) (fs := [.int 0, .null, .null, .null]) (Nat.le_of_ble_eq_true rfl) rfl rfl inX5 tyX5 tyX5_ok nmX5 0 (by decide) wf_X5_9 rfl rfl rfl (Nat.le_of_ble_eq_true rfl) (fs' := [.int 0, .null, .null, .null]) rfl rfl dX5_init_6 ?_
  refine v_aload_n g 0 dX5_init_9 rfl ?_
  refine v_bipush g (v := 16) dX5_init_10 rfl ?_
  refine v_newa g (atype := .int) (ty := .int) 0 (K := 16) (a0 := (16, .inl (fun _ => 0))) rfl (hra_int _) rfl (tbG_of (List.mem_of_getElem? (i := 107) (by decide +kernel)) (by decide +kernel)) (arr0_int 16) (by decide) (by decide) (by decide) (by decide) (by decide) dX5_init_12 ?_
  refine v_putF g (c := 0) (fs := [.int 0, .null, .null, .null]) (Nat.le_of_ble_eq_true rfl) rfl rfl inX5 tyX5 tyX5_ok nmX5 1 (by decide) wf_X5_15 rfl rfl rfl rfl (Nat.le_of_ble_eq_true rfl) (fs' := [.int 0, .ref (B + 1), .null, .null]) rfl rfl dX5_init_14 ?_
  refine v_aload_n g 0 dX5_init_17 rfl ?_
  refine v_bipush g (v := 16) dX5_init_18 rfl ?_
  refine v_newa g (atype := .int) (ty := .int) 0 (K := 16) (a0 := (16, .inl (fun _ => 0))) rfl (hra_int _) rfl (tbG_of (List.mem_of_getElem? (i := 107) (by decide +kernel)) (by decide +kernel)) (arr0_int 16) (by decide) (by decide) (by decide) (by decide) (by decide) dX5_init_20 ?_
  refine v_putF g (c := 0) (fs := [.int 0, .ref (B + 1), .null, .null]) (Nat.le_of_ble_eq_true rfl) rfl rfl inX5 tyX5 tyX5_ok nmX5 2 (by decide) wf_X5_19 rfl rfl rfl rfl (Nat.le_of_ble_eq_true rfl) (fs' := [.int 0, .ref (B + 1), .ref (B + 2), .null]) rfl rfl dX5_init_22 ?_
  refine v_aload_n g 0 dX5_init_25 rfl ?_
  refine v_bipush g (v := 16) dX5_init_26 rfl ?_
  refine v_newa g (atype := .int) (ty := .int) 0 (K := 16) (a0 := (16, .inl (fun _ => 0))) rfl (hra_int _) rfl (tbG_of (List.mem_of_getElem? (i := 107) (by decide +kernel)) (by decide +kernel)) (arr0_int 16) (by decide) (by decide) (by decide) (by decide) (by decide) dX5_init_28 ?_
  refine v_putF g (c := 0) (fs := [.int 0, .ref (B + 1), .ref (B + 2), .null]) (Nat.le_of_ble_eq_true rfl) rfl rfl inX5 tyX5 tyX5_ok nmX5 3 (by decide) wf_X5_22 rfl rfl rfl rfl (Nat.le_of_ble_eq_true rfl) (fs' := [.int 0, .ref (B + 1), .ref (B + 2), .ref (B + 3)]) rfl rfl dX5_init_30 ?_
  exact v_vret g dX5_init_33 (by decide) (by decide) rfl (fun c hc => by match c, hc with | 0, _ => rfl | 1, _ => rfl | 2, _ => rfl | 3, _ => rfl | q + 4, h => exact absurd h (by omega))
def fiX7 (ca : Nat → ClassId) (B : Nat) : Nat → va_E := fun c => match c with
  | 0 => .inr (7, [.ref (B + 1), .ref (B + 2), .int 1])
  | 1 => .inl (ca 1, 1024, .inr (.inl (fun _ => 0)))
  | _ => .inl (ca 1, 64, .inr (.inl (fun _ => 0)))
set_option maxRecDepth 100000 in
set_option maxHeartbeats 400000 in
theorem c_X7_init (D : va_G) (ca : Nat → ClassId) (l : Launch) (B : Nat) : Cn D ca l yX7_init cX7_init 1 1 2 1088 B (.inr (7, [.null, .null, .int 0])) (3, fiX7 ca B) := by
  refine cn_of (by decide) rfl (by decide) (fun x hx g => ?_)
  subst hx
  have g : Gn D ca x RX7 cX7_init 1 1 2 1088 := g
  refine v_aload_n g 0 dX7_init_0 rfl ?_
  refine v_objInit g (tbG_of (List.mem_of_getElem? (i := 221) (by decide +kernel)) (by decide +kernel)) (tbG_of (List.mem_of_getElem? (i := 80) (by decide +kernel)) (by decide +kernel)) (tbG_of (List.mem_of_getElem? (i := 81) (by decide +kernel)) (by decide +kernel)) (by decide) (by decide) dX7_init_1 ?_
  refine v_aload_n g 0 dX7_init_4 rfl ?_
  refine v_sipush g (v := 1024) dX7_init_5 rfl ?_
  refine v_newa g (atype := .long) (ty := .long) 1 (K := 1024) (a0 := (1024, .inr (.inl (fun _ => 0)))) rfl (hra_long _) rfl (tbG_of (List.mem_of_getElem? (i := 232) (by decide +kernel)) (by decide +kernel)) (arr0_long 1024) (by decide) (by decide) (by decide) (by decide) (by decide) dX7_init_8 ?_
  refine v_putF g (c := 0) (fs := [.null, .null, .int 0]) (Nat.le_of_ble_eq_true rfl) rfl rfl inX7 tyX7 tyX7_ok nmX7 0 (by decide) wf_X7_11 rfl rfl rfl rfl (Nat.le_of_ble_eq_true rfl) (fs' := [.ref (B + 1), .null, .int 0]) rfl rfl dX7_init_10 ?_
  refine v_aload_n g 0 dX7_init_13 rfl ?_
  refine v_bipush g (v := 64) dX7_init_14 rfl ?_
  refine v_newa g (atype := .long) (ty := .long) 1 (K := 64) (a0 := (64, .inr (.inl (fun _ => 0)))) rfl (hra_long _) rfl (tbG_of (List.mem_of_getElem? (i := 232) (by decide +kernel)) (by decide +kernel)) (arr0_long 64) (by decide) (by decide) (by decide) (by decide) (by decide) dX7_init_16 ?_
  refine v_putF g (c := 0) (fs := [.ref (B + 1), .null, .int 0]) (Nat.le_of_ble_eq_true rfl) rfl rfl inX7 tyX7 tyX7_ok nmX7 1 (by decide) wf_X7_15 rfl rfl rfl rfl (Nat.le_of_ble_eq_true rfl) (fs' := [.ref (B + 1), .ref (B + 2), .int 0]) rfl rfl dX7_init_18 ?_
  refine v_aload_n g 0 dX7_init_21 rfl ?_
  refine v_iconst g (v := 1) dX7_init_22 rfl ?_
  refine v_put g (c := 0) (fs := [.ref (B + 1), .ref (B + 2), .int 0]) (Nat.le_of_ble_eq_true rfl) rfl rfl inX7 tyX7 tyX7_ok nmX7 2 (by decide) wf_X7_18 rfl rfl rfl (Nat.le_of_ble_eq_true rfl) (fs' := [.ref (B + 1), .ref (B + 2), .int 1]) rfl rfl dX7_init_23 ?_
  exact v_vret g dX7_init_26 (by decide) (by decide) rfl (fun c hc => by match c, hc with | 0, _ => rfl | 1, _ => rfl | 2, _ => rfl | q + 3, h => exact absurd h (by omega))
def fiX8 (ca : Nat → ClassId) (B : Nat) : Nat → va_E := fun c => match c with
  | 0 => .inr (8, [.int 0, .ref (B + 1)])
  | _ => .inl (ca 0, 7140, .inl (fun _ => 0))
set_option maxRecDepth 100000 in
set_option maxHeartbeats 400000 in
theorem c_X8_init (D : va_G) (ca : Nat → ClassId) (l : Launch) (B : Nat) : Cn D ca l yX8_init cX8_init 1 1 1 7140 B (.inr (8, [.int 0, .null])) (2, fiX8 ca B) := by
  refine cn_of (by decide) rfl (by decide) (fun x hx g => ?_)
  subst hx
  have g : Gn D ca x RX8 cX8_init 1 1 1 7140 := g
  refine v_aload_n g 0 dX8_init_0 rfl ?_
  refine v_objInit g (tbG_of (List.mem_of_getElem? (i := 200) (by decide +kernel)) (by decide +kernel)) (tbG_of (List.mem_of_getElem? (i := 80) (by decide +kernel)) (by decide +kernel)) (tbG_of (List.mem_of_getElem? (i := 81) (by decide +kernel)) (by decide +kernel)) (by decide) (by decide) dX8_init_1 ?_
  refine v_aload_n g 0 dX8_init_4 rfl ?_
  refine v_iconst g (v := 0) dX8_init_5 rfl ?_
  refine v_put g (c := 0) (fs := [.int 0, .null]) (Nat.le_of_ble_eq_true rfl) rfl rfl inX8 tyX8 tyX8_ok nmX8 0 (by decide) wf_X8_9 rfl rfl rfl (Nat.le_of_ble_eq_true rfl) (fs' := [.int 0, .null]) rfl rfl dX8_init_6 ?_
  refine v_aload_n g 0 dX8_init_9 rfl ?_
  refine v_sipush g (v := 7140) dX8_init_10 rfl ?_
  refine v_newa g (atype := .int) (ty := .int) 0 (K := 7140) (a0 := (7140, .inl (fun _ => 0))) rfl (hra_int _) rfl (tbG_of (List.mem_of_getElem? (i := 107) (by decide +kernel)) (by decide +kernel)) (arr0_int 7140) (by decide) (by decide) (by decide) (by decide) (by decide) dX8_init_13 ?_
  refine v_putF g (c := 0) (fs := [.int 0, .null]) (Nat.le_of_ble_eq_true rfl) rfl rfl inX8 tyX8 tyX8_ok nmX8 1 (by decide) wf_X8_15 rfl rfl rfl rfl (Nat.le_of_ble_eq_true rfl) (fs' := [.int 0, .ref (B + 1)]) rfl rfl dX8_init_15 ?_
  exact v_vret g dX8_init_18 (by decide) (by decide) rfl (fun c hc => by match c, hc with | 0, _ => rfl | 1, _ => rfl | q + 2, h => exact absurd h (by omega))
def fiX3 (ca : Nat → ClassId) (B : Nat) : Nat → va_E := fun c => match c with
  | 0 => .inr (3, [.ref (B + 1), .ref (B + 4), .ref (B + 5), .ref (B + 6), .int 0, .int 0, .ref (B + 7), .ref (B + 8), .int 0, .int 0])
  | 1 => fiX7 ca (B + 1) 0
  | 2 => fiX7 ca (B + 1) 1
  | 3 => fiX7 ca (B + 1) 2
  | 4 => .inl (ca 0, 320, .inl (fun _ => 0))
  | _ => .inl (ca 0, 16, .inl (fun _ => 0))
set_option maxRecDepth 100000 in
set_option maxHeartbeats 400000 in
theorem c_X3_init (D : va_G) (ca : Nat → ClassId) (l : Launch) (B : Nat) : Cn D ca l yX3_init cX3_init 1 2 8 1475 B (.inr (3, [.null, .null, .null, .null, .int 0, .int 0, .null, .null, .int 0, .int 0])) (9, fiX3 ca B) := by
  refine cn_of (by decide) rfl (by decide) (fun x hx g => ?_)
  subst hx
  have g : Gn D ca x RX3 cX3_init 1 2 8 1475 := g
  refine v_aload_n g 0 dX3_init_0 rfl ?_
  refine v_objInit g (tbG_of (List.mem_of_getElem? (i := 215) (by decide +kernel)) (by decide +kernel)) (tbG_of (List.mem_of_getElem? (i := 80) (by decide +kernel)) (by decide +kernel)) (tbG_of (List.mem_of_getElem? (i := 81) (by decide +kernel)) (by decide +kernel)) (by decide) (by decide) dX3_init_1 ?_
  refine v_aload_n g 0 dX3_init_4 rfl ?_
  refine v_new g (ci := 7) (fs := [.null, .null, .int 0]) rfl inX7 tyX7 tyX7_ok (tbG_of (List.mem_of_getElem? (i := 216) (by decide +kernel)) (by decide +kernel)) (tbG_of (List.mem_of_getElem? (i := 217) (by decide +kernel)) (by decide +kernel)) (tbG_of (List.mem_of_getElem? (i := 67) (by decide +kernel)) (by decide +kernel)) (fun j hj => by match j, hj with | 0, _ => rfl | 1, _ => rfl | 2, _ => rfl | q + 3, h => exact absurd h (by omega)) (by decide) (by decide) dX3_init_5 ?_
  refine v_dup g dX3_init_8 rfl ?_
  refine v_callN (N := 1) (st := [.ref (B + 1), .ref B]) (ce' := (cj (cu (fun _ => (.inr (3, [.null, .null, .null, .null, .int 0, .int 0, .null, .null, .int 0, .int 0]))) 1 (.inr (7, [.null, .null, .int 0]))) 1 (fiX7 ca (B + 1)))) g (by decide +kernel) (tbG_of (List.mem_of_getElem? (i := 67) (by decide +kernel)) (by decide +kernel)) (tbG_of (List.mem_of_getElem? (i := 220) (by decide +kernel)) (by decide +kernel)) (tbG_of (List.mem_of_getElem? (i := 219) (by decide +kernel)) (by decide +kernel)) (by decide +kernel) rfl (c_X7_init D ca x.2.1 (B + 1)) rfl (by decide) (by decide) (by decide) (by decide) (Nat.le_of_ble_eq_true rfl) dX3_init_9 (cj_lo _ _ _) (cj_hi _ _ _ _) (N1 := 4) rfl ?_
  refine v_putF g (c := 0) (fs := [.null, .null, .null, .null, .int 0, .int 0, .null, .null, .int 0, .int 0]) (Nat.le_of_ble_eq_true rfl) rfl rfl inX3 tyX3 tyX3_ok nmX3 0 (by decide) wf_X3_12 rfl rfl rfl rfl (Nat.le_of_ble_eq_true rfl) (fs' := [.ref (B + 1), .null, .null, .null, .int 0, .int 0, .null, .null, .int 0, .int 0]) rfl rfl dX3_init_12 ?_
  refine v_aload_n g 0 dX3_init_15 rfl ?_
  refine v_sipush g (v := 320) dX3_init_16 rfl ?_
  refine v_newa g (atype := .int) (ty := .int) 0 (K := 320) (a0 := (320, .inl (fun _ => 0))) rfl (hra_int _) rfl (tbG_of (List.mem_of_getElem? (i := 107) (by decide +kernel)) (by decide +kernel)) (arr0_int 320) (by decide) (by decide) (by decide) (by decide) (by decide) dX3_init_19 ?_
  refine v_putF g (c := 0) (fs := [.ref (B + 1), .null, .null, .null, .int 0, .int 0, .null, .null, .int 0, .int 0]) (Nat.le_of_ble_eq_true rfl) rfl rfl inX3 tyX3 tyX3_ok nmX3 1 (by decide) wf_X3_18 rfl rfl rfl rfl (Nat.le_of_ble_eq_true rfl) (fs' := [.ref (B + 1), .ref (B + 4), .null, .null, .int 0, .int 0, .null, .null, .int 0, .int 0]) rfl rfl dX3_init_21 ?_
  refine v_aload_n g 0 dX3_init_24 rfl ?_
  refine v_bipush g (v := 16) dX3_init_25 rfl ?_
  refine v_newa g (atype := .int) (ty := .int) 0 (K := 16) (a0 := (16, .inl (fun _ => 0))) rfl (hra_int _) rfl (tbG_of (List.mem_of_getElem? (i := 107) (by decide +kernel)) (by decide +kernel)) (arr0_int 16) (by decide) (by decide) (by decide) (by decide) (by decide) dX3_init_27 ?_
  refine v_putF g (c := 0) (fs := [.ref (B + 1), .ref (B + 4), .null, .null, .int 0, .int 0, .null, .null, .int 0, .int 0]) (Nat.le_of_ble_eq_true rfl) rfl rfl inX3 tyX3 tyX3_ok nmX3 2 (by decide) wf_X3_22 rfl rfl rfl rfl (Nat.le_of_ble_eq_true rfl) (fs' := [.ref (B + 1), .ref (B + 4), .ref (B + 5), .null, .int 0, .int 0, .null, .null, .int 0, .int 0]) rfl rfl dX3_init_29 ?_
  refine v_aload_n g 0 dX3_init_32 rfl ?_
  refine v_bipush g (v := 16) dX3_init_33 rfl ?_
  refine v_newa g (atype := .int) (ty := .int) 0 (K := 16) (a0 := (16, .inl (fun _ => 0))) rfl (hra_int _) rfl (tbG_of (List.mem_of_getElem? (i := 107) (by decide +kernel)) (by decide +kernel)) (arr0_int 16) (by decide) (by decide) (by decide) (by decide) (by decide) dX3_init_35 ?_
  refine v_putF g (c := 0) (fs := [.ref (B + 1), .ref (B + 4), .ref (B + 5), .null, .int 0, .int 0, .null, .null, .int 0, .int 0]) (Nat.le_of_ble_eq_true rfl) rfl rfl inX3 tyX3 tyX3_ok nmX3 3 (by decide) wf_X3_25 rfl rfl rfl rfl (Nat.le_of_ble_eq_true rfl) (fs' := [.ref (B + 1), .ref (B + 4), .ref (B + 5), .ref (B + 6), .int 0, .int 0, .null, .null, .int 0, .int 0]) rfl rfl dX3_init_37 ?_
  refine v_aload_n g 0 dX3_init_40 rfl ?_
  refine v_iconst g (v := 0) dX3_init_41 rfl ?_
  refine v_put g (c := 0) (fs := [.ref (B + 1), .ref (B + 4), .ref (B + 5), .ref (B + 6), .int 0, .int 0, .null, .null, .int 0, .int 0]) (Nat.le_of_ble_eq_true rfl) rfl rfl inX3 tyX3 tyX3_ok nmX3 4 (by decide) wf_X3_28 rfl rfl rfl (Nat.le_of_ble_eq_true rfl) (fs' := [.ref (B + 1), .ref (B + 4), .ref (B + 5), .ref (B + 6), .int 0, .int 0, .null, .null, .int 0, .int 0]) rfl rfl dX3_init_42 ?_
  refine v_aload_n g 0 dX3_init_45 rfl ?_
  refine v_iconst g (v := 0) dX3_init_46 rfl ?_
  refine v_put g (c := 0) (fs := [.ref (B + 1), .ref (B + 4), .ref (B + 5), .ref (B + 6), .int 0, .int 0, .null, .null, .int 0, .int 0]) (Nat.le_of_ble_eq_true rfl) rfl rfl inX3 tyX3 tyX3_ok nmX3 5 (by decide) wf_X3_32 rfl rfl rfl (Nat.le_of_ble_eq_true rfl) (fs' := [.ref (B + 1), .ref (B + 4), .ref (B + 5), .ref (B + 6), .int 0, .int 0, .null, .null, .int 0, .int 0]) rfl rfl dX3_init_47 ?_
  refine v_aload_n g 0 dX3_init_50 rfl ?_
  refine v_bipush g (v := 16) dX3_init_51 rfl ?_
  refine v_newa g (atype := .int) (ty := .int) 0 (K := 16) (a0 := (16, .inl (fun _ => 0))) rfl (hra_int _) rfl (tbG_of (List.mem_of_getElem? (i := 107) (by decide +kernel)) (by decide +kernel)) (arr0_int 16) (by decide) (by decide) (by decide) (by decide) (by decide) dX3_init_53 ?_
  refine v_putF g (c := 0) (fs := [.ref (B + 1), .ref (B + 4), .ref (B + 5), .ref (B + 6), .int 0, .int 0, .null, .null, .int 0, .int 0]) (Nat.le_of_ble_eq_true rfl) rfl rfl inX3 tyX3 tyX3_ok nmX3 6 (by decide) wf_X3_36 rfl rfl rfl rfl (Nat.le_of_ble_eq_true rfl) (fs' := [.ref (B + 1), .ref (B + 4), .ref (B + 5), .ref (B + 6), .int 0, .int 0, .ref (B + 7), .null, .int 0, .int 0]) rfl rfl dX3_init_55 ?_
  refine v_aload_n g 0 dX3_init_58 rfl ?_
  refine v_bipush g (v := 16) dX3_init_59 rfl ?_
  refine v_newa g (atype := .int) (ty := .int) 0 (K := 16) (a0 := (16, .inl (fun _ => 0))) rfl (hra_int _) rfl (tbG_of (List.mem_of_getElem? (i := 107) (by decide +kernel)) (by decide +kernel)) (arr0_int 16) (by decide) (by decide) (by decide) (by decide) (by decide) dX3_init_61 ?_
  refine v_putF g (c := 0) (fs := [.ref (B + 1), .ref (B + 4), .ref (B + 5), .ref (B + 6), .int 0, .int 0, .ref (B + 7), .null, .int 0, .int 0]) (Nat.le_of_ble_eq_true rfl) rfl rfl inX3 tyX3 tyX3_ok nmX3 7 (by decide) wf_X3_39 rfl rfl rfl rfl (Nat.le_of_ble_eq_true rfl) (fs' := [.ref (B + 1), .ref (B + 4), .ref (B + 5), .ref (B + 6), .int 0, .int 0, .ref (B + 7), .ref (B + 8), .int 0, .int 0]) rfl rfl dX3_init_63 ?_
  refine v_aload_n g 0 dX3_init_66 rfl ?_
  refine v_iconst g (v := 0) dX3_init_67 rfl ?_
  refine v_put g (c := 0) (fs := [.ref (B + 1), .ref (B + 4), .ref (B + 5), .ref (B + 6), .int 0, .int 0, .ref (B + 7), .ref (B + 8), .int 0, .int 0]) (Nat.le_of_ble_eq_true rfl) rfl rfl inX3 tyX3 tyX3_ok nmX3 8 (by decide) wf_X3_42 rfl rfl rfl (Nat.le_of_ble_eq_true rfl) (fs' := [.ref (B + 1), .ref (B + 4), .ref (B + 5), .ref (B + 6), .int 0, .int 0, .ref (B + 7), .ref (B + 8), .int 0, .int 0]) rfl rfl dX3_init_68 ?_
  refine v_aload_n g 0 dX3_init_71 rfl ?_
  refine v_iconst g (v := 0) dX3_init_72 rfl ?_
  refine v_put g (c := 0) (fs := [.ref (B + 1), .ref (B + 4), .ref (B + 5), .ref (B + 6), .int 0, .int 0, .ref (B + 7), .ref (B + 8), .int 0, .int 0]) (Nat.le_of_ble_eq_true rfl) rfl rfl inX3 tyX3 tyX3_ok nmX3 9 (by decide) wf_X3_45 rfl rfl rfl (Nat.le_of_ble_eq_true rfl) (fs' := [.ref (B + 1), .ref (B + 4), .ref (B + 5), .ref (B + 6), .int 0, .int 0, .ref (B + 7), .ref (B + 8), .int 0, .int 0]) rfl rfl dX3_init_73 ?_
  exact v_vret g dX3_init_76 (by decide) (by decide) rfl (fun c hc => by match c, hc with | 0, _ => rfl | 1, _ => rfl | 2, _ => rfl | 3, _ => rfl | 4, _ => rfl | 5, _ => rfl | 6, _ => rfl | 7, _ => rfl | 8, _ => rfl | q + 9, h => exact absurd h (by omega))
def fiX11 (ca : Nat → ClassId) (B : Nat) : Nat → va_E := fun c => match c with
  | 0 => .inr (11, [.ref (B + 1), .ref (B + 2), .ref (B + 3), .int 0, .int 0, .int 0, .ref (B + 4), .int 0, .ref (B + 5), .ref (B + 6), .ref (B + 7), .int 0, .ref (B + 8), .int 0, .ref (B + 9), .ref (B + 10), .ref (B + 11), .ref (B + 12), .int 0, .ref (B + 13), .int 0, .ref (B + 14), .ref (B + 15), .ref (B + 16), .int 0, .ref (B + 17), .ref (B + 18), .int 0, .ref (B + 19), .ref (B + 20), .ref (B + 21), .ref (B + 22), .ref (B + 23), .int 0, .int 0, .ref (B + 24)])
  | 1 => .inl (ca 0, 16, .inl (fun _ => 0))
  | 2 => .inl (ca 0, 16, .inl (fun _ => 0))
  | 3 => .inl (ca 0, 16, .inl (fun _ => 0))
  | 4 => .inl (ca 0, 120, .inl (fun _ => 0))
  | 5 => .inl (ca 0, 24, .inl (fun _ => 0))
  | 6 => .inl (ca 0, 24, .inl (fun _ => 0))
  | 7 => .inl (ca 0, 2880, .inl (fun _ => 0))
  | 8 => .inl (ca 0, 121, .inl (fun _ => 0))
  | 9 => .inl (ca 0, 16, .inl (fun _ => 0))
  | 10 => .inl (ca 0, 16, .inl (fun _ => 0))
  | 11 => .inl (ca 0, 1936, .inl (fun _ => 0))
  | 12 => .inl (ca 0, 7140, .inl (fun _ => 0))
  | 13 => .inl (ca 0, 7560, .inl (fun _ => 0))
  | 14 => .inl (ca 2, 65536, .inl (fun _ => 0))
  | 15 => .inl (ca 2, 65536, .inl (fun _ => 0))
  | 16 => .inl (ca 0, 120, .inl (fun _ => 0))
  | 17 => .inl (ca 0, 17, .inl (fun _ => 0))
  | 18 => .inl (ca 0, 17, .inl (fun _ => 0))
  | 19 => .inl (ca 0, 17, .inl (fun _ => 0))
  | 20 => .inl (ca 0, 4096, .inl (fun _ => 0))
  | 21 => .inl (ca 0, 16, .inl (fun _ => 0))
  | 22 => .inl (ca 2, 65536, .inl (fun _ => 0))
  | 23 => .inl (ca 2, 65536, .inl (fun _ => 0))
  | _ => .inl (ca 0, 120, .inl (fun _ => 0))
set_option maxRecDepth 100000 in
set_option maxHeartbeats 400000 in
theorem c_X11_init (D : va_G) (ca : Nat → ClassId) (l : Launch) (B : Nat) : Cn D ca l yX11_init cX11_init 1 1 24 286432 B (.inr (11, [.null, .null, .null, .int 0, .int 0, .int 0, .null, .int 0, .null, .null, .null, .int 0, .null, .int 0, .null, .null, .null, .null, .int 0, .null, .int 0, .null, .null, .null, .int 0, .null, .null, .int 0, .null, .null, .null, .null, .null, .int 0, .int 0, .null])) (25, fiX11 ca B) := by
  refine cn_of (by decide) rfl (by decide) (fun x hx g => ?_)
  subst hx
  have g : Gn D ca x RX11 cX11_init 1 1 24 286432 := g
  refine v_aload_n g 0 dX11_init_0 rfl ?_
  refine v_objInit g (tbG_of (List.mem_of_getElem? (i := 918) (by decide +kernel)) (by decide +kernel)) (tbG_of (List.mem_of_getElem? (i := 80) (by decide +kernel)) (by decide +kernel)) (tbG_of (List.mem_of_getElem? (i := 81) (by decide +kernel)) (by decide +kernel)) (by decide) (by decide) dX11_init_1 ?_
  refine v_aload_n g 0 dX11_init_4 rfl ?_
  refine v_bipush g (v := 16) dX11_init_5 rfl ?_
  refine v_newa g (atype := .int) (ty := .int) 0 (K := 16) (a0 := (16, .inl (fun _ => 0))) rfl (hra_int _) rfl (tbG_of (List.mem_of_getElem? (i := 107) (by decide +kernel)) (by decide +kernel)) (arr0_int 16) (by decide) (by decide) (by decide) (by decide) (by decide) dX11_init_7 ?_
  refine v_putF g (c := 0) (fs := [.null, .null, .null, .int 0, .int 0, .int 0, .null, .int 0, .null, .null, .null, .int 0, .null, .int 0, .null, .null, .null, .null, .int 0, .null, .int 0, .null, .null, .null, .int 0, .null, .null, .int 0, .null, .null, .null, .null, .null, .int 0, .int 0, .null]) (Nat.le_of_ble_eq_true rfl) rfl rfl inX11 tyX11 tyX11_ok nmX11 0 (by decide) wf_X11_7 rfl rfl rfl rfl (Nat.le_of_ble_eq_true rfl) (fs' := [.ref (B + 1), .null, .null, .int 0, .int 0, .int 0, .null, .int 0, .null, .null, .null, .int 0, .null, .int 0, .null, .null, .null, .null, .int 0, .null, .int 0, .null, .null, .null, .int 0, .null, .null, .int 0, .null, .null, .null, .null, .null, .int 0, .int 0, .null]) rfl rfl dX11_init_9 ?_
  refine v_aload_n g 0 dX11_init_12 rfl ?_
  refine v_bipush g (v := 16) dX11_init_13 rfl ?_
  refine v_newa g (atype := .int) (ty := .int) 0 (K := 16) (a0 := (16, .inl (fun _ => 0))) rfl (hra_int _) rfl (tbG_of (List.mem_of_getElem? (i := 107) (by decide +kernel)) (by decide +kernel)) (arr0_int 16) (by decide) (by decide) (by decide) (by decide) (by decide) dX11_init_15 ?_
  refine v_putF g (c := 0) (fs := [.ref (B + 1), .null, .null, .int 0, .int 0, .int 0, .null, .int 0, .null, .null, .null, .int 0, .null, .int 0, .null, .null, .null, .null, .int 0, .null, .int 0, .null, .null, .null, .int 0, .null, .null, .int 0, .null, .null, .null, .null, .null, .int 0, .int 0, .null]) (Nat.le_of_ble_eq_true rfl) rfl rfl inX11 tyX11 tyX11_ok nmX11 1 (by decide) wf_X11_13 rfl rfl rfl rfl (Nat.le_of_ble_eq_true rfl) (fs' := [.ref (B + 1), .ref (B + 2), .null, .int 0, .int 0, .int 0, .null, .int 0, .null, .null, .null, .int 0, .null, .int 0, .null, .null, .null, .null, .int 0, .null, .int 0, .null, .null, .null, .int 0, .null, .null, .int 0, .null, .null, .null, .null, .null, .int 0, .int 0, .null]) rfl rfl dX11_init_17 ?_
  refine v_aload_n g 0 dX11_init_20 rfl ?_
  refine v_bipush g (v := 16) dX11_init_21 rfl ?_
  refine v_newa g (atype := .int) (ty := .int) 0 (K := 16) (a0 := (16, .inl (fun _ => 0))) rfl (hra_int _) rfl (tbG_of (List.mem_of_getElem? (i := 107) (by decide +kernel)) (by decide +kernel)) (arr0_int 16) (by decide) (by decide) (by decide) (by decide) (by decide) dX11_init_23 ?_
  refine v_putF g (c := 0) (fs := [.ref (B + 1), .ref (B + 2), .null, .int 0, .int 0, .int 0, .null, .int 0, .null, .null, .null, .int 0, .null, .int 0, .null, .null, .null, .null, .int 0, .null, .int 0, .null, .null, .null, .int 0, .null, .null, .int 0, .null, .null, .null, .null, .null, .int 0, .int 0, .null]) (Nat.le_of_ble_eq_true rfl) rfl rfl inX11 tyX11 tyX11_ok nmX11 2 (by decide) wf_X11_16 rfl rfl rfl rfl (Nat.le_of_ble_eq_true rfl) (fs' := [.ref (B + 1), .ref (B + 2), .ref (B + 3), .int 0, .int 0, .int 0, .null, .int 0, .null, .null, .null, .int 0, .null, .int 0, .null, .null, .null, .null, .int 0, .null, .int 0, .null, .null, .null, .int 0, .null, .null, .int 0, .null, .null, .null, .null, .null, .int 0, .int 0, .null]) rfl rfl dX11_init_25 ?_
  refine v_aload_n g 0 dX11_init_28 rfl ?_
  refine v_bipush g (v := 120) dX11_init_29 rfl ?_
  refine v_newa g (atype := .int) (ty := .int) 0 (K := 120) (a0 := (120, .inl (fun _ => 0))) rfl (hra_int _) rfl (tbG_of (List.mem_of_getElem? (i := 107) (by decide +kernel)) (by decide +kernel)) (arr0_int 120) (by decide) (by decide) (by decide) (by decide) (by decide) dX11_init_31 ?_
  refine v_putF g (c := 0) (fs := [.ref (B + 1), .ref (B + 2), .ref (B + 3), .int 0, .int 0, .int 0, .null, .int 0, .null, .null, .null, .int 0, .null, .int 0, .null, .null, .null, .null, .int 0, .null, .int 0, .null, .null, .null, .int 0, .null, .null, .int 0, .null, .null, .null, .null, .null, .int 0, .int 0, .null]) (Nat.le_of_ble_eq_true rfl) rfl rfl inX11 tyX11 tyX11_ok nmX11 6 (by decide) wf_X11_19 rfl rfl rfl rfl (Nat.le_of_ble_eq_true rfl) (fs' := [.ref (B + 1), .ref (B + 2), .ref (B + 3), .int 0, .int 0, .int 0, .ref (B + 4), .int 0, .null, .null, .null, .int 0, .null, .int 0, .null, .null, .null, .null, .int 0, .null, .int 0, .null, .null, .null, .int 0, .null, .null, .int 0, .null, .null, .null, .null, .null, .int 0, .int 0, .null]) rfl rfl dX11_init_33 ?_
  refine v_aload_n g 0 dX11_init_36 rfl ?_
  refine v_bipush g (v := 24) dX11_init_37 rfl ?_
  refine v_newa g (atype := .int) (ty := .int) 0 (K := 24) (a0 := (24, .inl (fun _ => 0))) rfl (hra_int _) rfl (tbG_of (List.mem_of_getElem? (i := 107) (by decide +kernel)) (by decide +kernel)) (arr0_int 24) (by decide) (by decide) (by decide) (by decide) (by decide) dX11_init_39 ?_
  refine v_putF g (c := 0) (fs := [.ref (B + 1), .ref (B + 2), .ref (B + 3), .int 0, .int 0, .int 0, .ref (B + 4), .int 0, .null, .null, .null, .int 0, .null, .int 0, .null, .null, .null, .null, .int 0, .null, .int 0, .null, .null, .null, .int 0, .null, .null, .int 0, .null, .null, .null, .null, .null, .int 0, .int 0, .null]) (Nat.le_of_ble_eq_true rfl) rfl rfl inX11 tyX11 tyX11_ok nmX11 8 (by decide) wf_X11_22 rfl rfl rfl rfl (Nat.le_of_ble_eq_true rfl) (fs' := [.ref (B + 1), .ref (B + 2), .ref (B + 3), .int 0, .int 0, .int 0, .ref (B + 4), .int 0, .ref (B + 5), .null, .null, .int 0, .null, .int 0, .null, .null, .null, .null, .int 0, .null, .int 0, .null, .null, .null, .int 0, .null, .null, .int 0, .null, .null, .null, .null, .null, .int 0, .int 0, .null]) rfl rfl dX11_init_41 ?_
  refine v_aload_n g 0 dX11_init_44 rfl ?_
  refine v_bipush g (v := 24) dX11_init_45 rfl ?_
  refine v_newa g (atype := .int) (ty := .int) 0 (K := 24) (a0 := (24, .inl (fun _ => 0))) rfl (hra_int _) rfl (tbG_of (List.mem_of_getElem? (i := 107) (by decide +kernel)) (by decide +kernel)) (arr0_int 24) (by decide) (by decide) (by decide) (by decide) (by decide) dX11_init_47 ?_
  refine v_putF g (c := 0) (fs := [.ref (B + 1), .ref (B + 2), .ref (B + 3), .int 0, .int 0, .int 0, .ref (B + 4), .int 0, .ref (B + 5), .null, .null, .int 0, .null, .int 0, .null, .null, .null, .null, .int 0, .null, .int 0, .null, .null, .null, .int 0, .null, .null, .int 0, .null, .null, .null, .null, .null, .int 0, .int 0, .null]) (Nat.le_of_ble_eq_true rfl) rfl rfl inX11 tyX11 tyX11_ok nmX11 9 (by decide) wf_X11_25 rfl rfl rfl rfl (Nat.le_of_ble_eq_true rfl) (fs' := [.ref (B + 1), .ref (B + 2), .ref (B + 3), .int 0, .int 0, .int 0, .ref (B + 4), .int 0, .ref (B + 5), .ref (B + 6), .null, .int 0, .null, .int 0, .null, .null, .null, .null, .int 0, .null, .int 0, .null, .null, .null, .int 0, .null, .null, .int 0, .null, .null, .null, .null, .null, .int 0, .int 0, .null]) rfl rfl dX11_init_49 ?_
  refine v_aload_n g 0 dX11_init_52 rfl ?_
  refine v_sipush g (v := 2880) dX11_init_53 rfl ?_
  refine v_newa g (atype := .int) (ty := .int) 0 (K := 2880) (a0 := (2880, .inl (fun _ => 0))) rfl (hra_int _) rfl (tbG_of (List.mem_of_getElem? (i := 107) (by decide +kernel)) (by decide +kernel)) (arr0_int 2880) (by decide) (by decide) (by decide) (by decide) (by decide) dX11_init_56 ?_
  refine v_putF g (c := 0) (fs := [.ref (B + 1), .ref (B + 2), .ref (B + 3), .int 0, .int 0, .int 0, .ref (B + 4), .int 0, .ref (B + 5), .ref (B + 6), .null, .int 0, .null, .int 0, .null, .null, .null, .null, .int 0, .null, .int 0, .null, .null, .null, .int 0, .null, .null, .int 0, .null, .null, .null, .null, .null, .int 0, .int 0, .null]) (Nat.le_of_ble_eq_true rfl) rfl rfl inX11 tyX11 tyX11_ok nmX11 10 (by decide) wf_X11_28 rfl rfl rfl rfl (Nat.le_of_ble_eq_true rfl) (fs' := [.ref (B + 1), .ref (B + 2), .ref (B + 3), .int 0, .int 0, .int 0, .ref (B + 4), .int 0, .ref (B + 5), .ref (B + 6), .ref (B + 7), .int 0, .null, .int 0, .null, .null, .null, .null, .int 0, .null, .int 0, .null, .null, .null, .int 0, .null, .null, .int 0, .null, .null, .null, .null, .null, .int 0, .int 0, .null]) rfl rfl dX11_init_58 ?_
  refine v_aload_n g 0 dX11_init_61 rfl ?_
  refine v_bipush g (v := 121) dX11_init_62 rfl ?_
  refine v_newa g (atype := .int) (ty := .int) 0 (K := 121) (a0 := (121, .inl (fun _ => 0))) rfl (hra_int _) rfl (tbG_of (List.mem_of_getElem? (i := 107) (by decide +kernel)) (by decide +kernel)) (arr0_int 121) (by decide) (by decide) (by decide) (by decide) (by decide) dX11_init_64 ?_
  refine v_putF g (c := 0) (fs := [.ref (B + 1), .ref (B + 2), .ref (B + 3), .int 0, .int 0, .int 0, .ref (B + 4), .int 0, .ref (B + 5), .ref (B + 6), .ref (B + 7), .int 0, .null, .int 0, .null, .null, .null, .null, .int 0, .null, .int 0, .null, .null, .null, .int 0, .null, .null, .int 0, .null, .null, .null, .null, .null, .int 0, .int 0, .null]) (Nat.le_of_ble_eq_true rfl) rfl rfl inX11 tyX11 tyX11_ok nmX11 12 (by decide) wf_X11_31 rfl rfl rfl rfl (Nat.le_of_ble_eq_true rfl) (fs' := [.ref (B + 1), .ref (B + 2), .ref (B + 3), .int 0, .int 0, .int 0, .ref (B + 4), .int 0, .ref (B + 5), .ref (B + 6), .ref (B + 7), .int 0, .ref (B + 8), .int 0, .null, .null, .null, .null, .int 0, .null, .int 0, .null, .null, .null, .int 0, .null, .null, .int 0, .null, .null, .null, .null, .null, .int 0, .int 0, .null]) rfl rfl dX11_init_66 ?_
  refine v_aload_n g 0 dX11_init_69 rfl ?_
  refine v_bipush g (v := 16) dX11_init_70 rfl ?_
  refine v_newa g (atype := .int) (ty := .int) 0 (K := 16) (a0 := (16, .inl (fun _ => 0))) rfl (hra_int _) rfl (tbG_of (List.mem_of_getElem? (i := 107) (by decide +kernel)) (by decide +kernel)) (arr0_int 16) (by decide) (by decide) (by decide) (by decide) (by decide) dX11_init_72 ?_
  refine v_putF g (c := 0) (fs := [.ref (B + 1), .ref (B + 2), .ref (B + 3), .int 0, .int 0, .int 0, .ref (B + 4), .int 0, .ref (B + 5), .ref (B + 6), .ref (B + 7), .int 0, .ref (B + 8), .int 0, .null, .null, .null, .null, .int 0, .null, .int 0, .null, .null, .null, .int 0, .null, .null, .int 0, .null, .null, .null, .null, .null, .int 0, .int 0, .null]) (Nat.le_of_ble_eq_true rfl) rfl rfl inX11 tyX11 tyX11_ok nmX11 14 (by decide) wf_X11_34 rfl rfl rfl rfl (Nat.le_of_ble_eq_true rfl) (fs' := [.ref (B + 1), .ref (B + 2), .ref (B + 3), .int 0, .int 0, .int 0, .ref (B + 4), .int 0, .ref (B + 5), .ref (B + 6), .ref (B + 7), .int 0, .ref (B + 8), .int 0, .ref (B + 9), .null, .null, .null, .int 0, .null, .int 0, .null, .null, .null, .int 0, .null, .null, .int 0, .null, .null, .null, .null, .null, .int 0, .int 0, .null]) rfl rfl dX11_init_74 ?_
  refine v_aload_n g 0 dX11_init_77 rfl ?_
  refine v_bipush g (v := 16) dX11_init_78 rfl ?_
  refine v_newa g (atype := .int) (ty := .int) 0 (K := 16) (a0 := (16, .inl (fun _ => 0))) rfl (hra_int _) rfl (tbG_of (List.mem_of_getElem? (i := 107) (by decide +kernel)) (by decide +kernel)) (arr0_int 16) (by decide) (by decide) (by decide) (by decide) (by decide) dX11_init_80 ?_
  refine v_putF g (c := 0) (fs := [.ref (B + 1), .ref (B + 2), .ref (B + 3), .int 0, .int 0, .int 0, .ref (B + 4), .int 0, .ref (B + 5), .ref (B + 6), .ref (B + 7), .int 0, .ref (B + 8), .int 0, .ref (B + 9), .null, .null, .null, .int 0, .null, .int 0, .null, .null, .null, .int 0, .null, .null, .int 0, .null, .null, .null, .null, .null, .int 0, .int 0, .null]) (Nat.le_of_ble_eq_true rfl) rfl rfl inX11 tyX11 tyX11_ok nmX11 15 (by decide) wf_X11_37 rfl rfl rfl rfl (Nat.le_of_ble_eq_true rfl) (fs' := [.ref (B + 1), .ref (B + 2), .ref (B + 3), .int 0, .int 0, .int 0, .ref (B + 4), .int 0, .ref (B + 5), .ref (B + 6), .ref (B + 7), .int 0, .ref (B + 8), .int 0, .ref (B + 9), .ref (B + 10), .null, .null, .int 0, .null, .int 0, .null, .null, .null, .int 0, .null, .null, .int 0, .null, .null, .null, .null, .null, .int 0, .int 0, .null]) rfl rfl dX11_init_82 ?_
  refine v_aload_n g 0 dX11_init_85 rfl ?_
  refine v_sipush g (v := 1936) dX11_init_86 rfl ?_
  refine v_newa g (atype := .int) (ty := .int) 0 (K := 1936) (a0 := (1936, .inl (fun _ => 0))) rfl (hra_int _) rfl (tbG_of (List.mem_of_getElem? (i := 107) (by decide +kernel)) (by decide +kernel)) (arr0_int 1936) (by decide) (by decide) (by decide) (by decide) (by decide) dX11_init_89 ?_
  refine v_putF g (c := 0) (fs := [.ref (B + 1), .ref (B + 2), .ref (B + 3), .int 0, .int 0, .int 0, .ref (B + 4), .int 0, .ref (B + 5), .ref (B + 6), .ref (B + 7), .int 0, .ref (B + 8), .int 0, .ref (B + 9), .ref (B + 10), .null, .null, .int 0, .null, .int 0, .null, .null, .null, .int 0, .null, .null, .int 0, .null, .null, .null, .null, .null, .int 0, .int 0, .null]) (Nat.le_of_ble_eq_true rfl) rfl rfl inX11 tyX11 tyX11_ok nmX11 16 (by decide) wf_X11_40 rfl rfl rfl rfl (Nat.le_of_ble_eq_true rfl) (fs' := [.ref (B + 1), .ref (B + 2), .ref (B + 3), .int 0, .int 0, .int 0, .ref (B + 4), .int 0, .ref (B + 5), .ref (B + 6), .ref (B + 7), .int 0, .ref (B + 8), .int 0, .ref (B + 9), .ref (B + 10), .ref (B + 11), .null, .int 0, .null, .int 0, .null, .null, .null, .int 0, .null, .null, .int 0, .null, .null, .null, .null, .null, .int 0, .int 0, .null]) rfl rfl dX11_init_91 ?_
  refine v_aload_n g 0 dX11_init_94 rfl ?_
  refine v_sipush g (v := 7140) dX11_init_95 rfl ?_
  refine v_newa g (atype := .int) (ty := .int) 0 (K := 7140) (a0 := (7140, .inl (fun _ => 0))) rfl (hra_int _) rfl (tbG_of (List.mem_of_getElem? (i := 107) (by decide +kernel)) (by decide +kernel)) (arr0_int 7140) (by decide) (by decide) (by decide) (by decide) (by decide) dX11_init_98 ?_
  refine v_putF g (c := 0) (fs := [.ref (B + 1), .ref (B + 2), .ref (B + 3), .int 0, .int 0, .int 0, .ref (B + 4), .int 0, .ref (B + 5), .ref (B + 6), .ref (B + 7), .int 0, .ref (B + 8), .int 0, .ref (B + 9), .ref (B + 10), .ref (B + 11), .null, .int 0, .null, .int 0, .null, .null, .null, .int 0, .null, .null, .int 0, .null, .null, .null, .null, .null, .int 0, .int 0, .null]) (Nat.le_of_ble_eq_true rfl) rfl rfl inX11 tyX11 tyX11_ok nmX11 17 (by decide) wf_X11_43 rfl rfl rfl rfl (Nat.le_of_ble_eq_true rfl) (fs' := [.ref (B + 1), .ref (B + 2), .ref (B + 3), .int 0, .int 0, .int 0, .ref (B + 4), .int 0, .ref (B + 5), .ref (B + 6), .ref (B + 7), .int 0, .ref (B + 8), .int 0, .ref (B + 9), .ref (B + 10), .ref (B + 11), .ref (B + 12), .int 0, .null, .int 0, .null, .null, .null, .int 0, .null, .null, .int 0, .null, .null, .null, .null, .null, .int 0, .int 0, .null]) rfl rfl dX11_init_100 ?_
  refine v_aload_n g 0 dX11_init_103 rfl ?_
  refine v_sipush g (v := 7560) dX11_init_104 rfl ?_
  refine v_newa g (atype := .int) (ty := .int) 0 (K := 7560) (a0 := (7560, .inl (fun _ => 0))) rfl (hra_int _) rfl (tbG_of (List.mem_of_getElem? (i := 107) (by decide +kernel)) (by decide +kernel)) (arr0_int 7560) (by decide) (by decide) (by decide) (by decide) (by decide) dX11_init_107 ?_
  refine v_putF g (c := 0) (fs := [.ref (B + 1), .ref (B + 2), .ref (B + 3), .int 0, .int 0, .int 0, .ref (B + 4), .int 0, .ref (B + 5), .ref (B + 6), .ref (B + 7), .int 0, .ref (B + 8), .int 0, .ref (B + 9), .ref (B + 10), .ref (B + 11), .ref (B + 12), .int 0, .null, .int 0, .null, .null, .null, .int 0, .null, .null, .int 0, .null, .null, .null, .null, .null, .int 0, .int 0, .null]) (Nat.le_of_ble_eq_true rfl) rfl rfl inX11 tyX11 tyX11_ok nmX11 19 (by decide) wf_X11_46 rfl rfl rfl rfl (Nat.le_of_ble_eq_true rfl) (fs' := [.ref (B + 1), .ref (B + 2), .ref (B + 3), .int 0, .int 0, .int 0, .ref (B + 4), .int 0, .ref (B + 5), .ref (B + 6), .ref (B + 7), .int 0, .ref (B + 8), .int 0, .ref (B + 9), .ref (B + 10), .ref (B + 11), .ref (B + 12), .int 0, .ref (B + 13), .int 0, .null, .null, .null, .int 0, .null, .null, .int 0, .null, .null, .null, .null, .null, .int 0, .int 0, .null]) rfl rfl dX11_init_109 ?_
  refine v_aload_n g 0 dX11_init_112 rfl ?_
  refine v_ldc g wk_X11_49 dX11_init_113 ?_
  refine v_newa g (atype := .boolean) (ty := .boolean) 2 (K := 65536) (a0 := (65536, .inl (fun _ => 0))) rfl (hra_boolean _) rfl (tbG_of (List.mem_of_getElem? (i := 1029) (by decide +kernel)) (by decide +kernel)) (arr0_boolean 65536) (by decide) (by decide) (by decide) (by decide) (by decide) dX11_init_115 ?_
  refine v_putF g (c := 0) (fs := [.ref (B + 1), .ref (B + 2), .ref (B + 3), .int 0, .int 0, .int 0, .ref (B + 4), .int 0, .ref (B + 5), .ref (B + 6), .ref (B + 7), .int 0, .ref (B + 8), .int 0, .ref (B + 9), .ref (B + 10), .ref (B + 11), .ref (B + 12), .int 0, .ref (B + 13), .int 0, .null, .null, .null, .int 0, .null, .null, .int 0, .null, .null, .null, .null, .null, .int 0, .int 0, .null]) (Nat.le_of_ble_eq_true rfl) rfl rfl inX11 tyX11 tyX11_ok nmX11 21 (by decide) wf_X11_50 rfl rfl rfl rfl (Nat.le_of_ble_eq_true rfl) (fs' := [.ref (B + 1), .ref (B + 2), .ref (B + 3), .int 0, .int 0, .int 0, .ref (B + 4), .int 0, .ref (B + 5), .ref (B + 6), .ref (B + 7), .int 0, .ref (B + 8), .int 0, .ref (B + 9), .ref (B + 10), .ref (B + 11), .ref (B + 12), .int 0, .ref (B + 13), .int 0, .ref (B + 14), .null, .null, .int 0, .null, .null, .int 0, .null, .null, .null, .null, .null, .int 0, .int 0, .null]) rfl rfl dX11_init_117 ?_
  refine v_aload_n g 0 dX11_init_120 rfl ?_
  refine v_ldc g wk_X11_49 dX11_init_121 ?_
  refine v_newa g (atype := .boolean) (ty := .boolean) 2 (K := 65536) (a0 := (65536, .inl (fun _ => 0))) rfl (hra_boolean _) rfl (tbG_of (List.mem_of_getElem? (i := 1029) (by decide +kernel)) (by decide +kernel)) (arr0_boolean 65536) (by decide) (by decide) (by decide) (by decide) (by decide) dX11_init_123 ?_
  refine v_putF g (c := 0) (fs := [.ref (B + 1), .ref (B + 2), .ref (B + 3), .int 0, .int 0, .int 0, .ref (B + 4), .int 0, .ref (B + 5), .ref (B + 6), .ref (B + 7), .int 0, .ref (B + 8), .int 0, .ref (B + 9), .ref (B + 10), .ref (B + 11), .ref (B + 12), .int 0, .ref (B + 13), .int 0, .ref (B + 14), .null, .null, .int 0, .null, .null, .int 0, .null, .null, .null, .null, .null, .int 0, .int 0, .null]) (Nat.le_of_ble_eq_true rfl) rfl rfl inX11 tyX11 tyX11_ok nmX11 22 (by decide) wf_X11_54 rfl rfl rfl rfl (Nat.le_of_ble_eq_true rfl) (fs' := [.ref (B + 1), .ref (B + 2), .ref (B + 3), .int 0, .int 0, .int 0, .ref (B + 4), .int 0, .ref (B + 5), .ref (B + 6), .ref (B + 7), .int 0, .ref (B + 8), .int 0, .ref (B + 9), .ref (B + 10), .ref (B + 11), .ref (B + 12), .int 0, .ref (B + 13), .int 0, .ref (B + 14), .ref (B + 15), .null, .int 0, .null, .null, .int 0, .null, .null, .null, .null, .null, .int 0, .int 0, .null]) rfl rfl dX11_init_125 ?_
  refine v_aload_n g 0 dX11_init_128 rfl ?_
  refine v_bipush g (v := 120) dX11_init_129 rfl ?_
  refine v_newa g (atype := .int) (ty := .int) 0 (K := 120) (a0 := (120, .inl (fun _ => 0))) rfl (hra_int _) rfl (tbG_of (List.mem_of_getElem? (i := 107) (by decide +kernel)) (by decide +kernel)) (arr0_int 120) (by decide) (by decide) (by decide) (by decide) (by decide) dX11_init_131 ?_
  refine v_putF g (c := 0) (fs := [.ref (B + 1), .ref (B + 2), .ref (B + 3), .int 0, .int 0, .int 0, .ref (B + 4), .int 0, .ref (B + 5), .ref (B + 6), .ref (B + 7), .int 0, .ref (B + 8), .int 0, .ref (B + 9), .ref (B + 10), .ref (B + 11), .ref (B + 12), .int 0, .ref (B + 13), .int 0, .ref (B + 14), .ref (B + 15), .null, .int 0, .null, .null, .int 0, .null, .null, .null, .null, .null, .int 0, .int 0, .null]) (Nat.le_of_ble_eq_true rfl) rfl rfl inX11 tyX11 tyX11_ok nmX11 23 (by decide) wf_X11_57 rfl rfl rfl rfl (Nat.le_of_ble_eq_true rfl) (fs' := [.ref (B + 1), .ref (B + 2), .ref (B + 3), .int 0, .int 0, .int 0, .ref (B + 4), .int 0, .ref (B + 5), .ref (B + 6), .ref (B + 7), .int 0, .ref (B + 8), .int 0, .ref (B + 9), .ref (B + 10), .ref (B + 11), .ref (B + 12), .int 0, .ref (B + 13), .int 0, .ref (B + 14), .ref (B + 15), .ref (B + 16), .int 0, .null, .null, .int 0, .null, .null, .null, .null, .null, .int 0, .int 0, .null]) rfl rfl dX11_init_133 ?_
  refine v_aload_n g 0 dX11_init_136 rfl ?_
  refine v_bipush g (v := 17) dX11_init_137 rfl ?_
  refine v_newa g (atype := .int) (ty := .int) 0 (K := 17) (a0 := (17, .inl (fun _ => 0))) rfl (hra_int _) rfl (tbG_of (List.mem_of_getElem? (i := 107) (by decide +kernel)) (by decide +kernel)) (arr0_int 17) (by decide) (by decide) (by decide) (by decide) (by decide) dX11_init_139 ?_
  refine v_putF g (c := 0) (fs := [.ref (B + 1), .ref (B + 2), .ref (B + 3), .int 0, .int 0, .int 0, .ref (B + 4), .int 0, .ref (B + 5), .ref (B + 6), .ref (B + 7), .int 0, .ref (B + 8), .int 0, .ref (B + 9), .ref (B + 10), .ref (B + 11), .ref (B + 12), .int 0, .ref (B + 13), .int 0, .ref (B + 14), .ref (B + 15), .ref (B + 16), .int 0, .null, .null, .int 0, .null, .null, .null, .null, .null, .int 0, .int 0, .null]) (Nat.le_of_ble_eq_true rfl) rfl rfl inX11 tyX11 tyX11_ok nmX11 25 (by decide) wf_X11_60 rfl rfl rfl rfl (Nat.le_of_ble_eq_true rfl) (fs' := [.ref (B + 1), .ref (B + 2), .ref (B + 3), .int 0, .int 0, .int 0, .ref (B + 4), .int 0, .ref (B + 5), .ref (B + 6), .ref (B + 7), .int 0, .ref (B + 8), .int 0, .ref (B + 9), .ref (B + 10), .ref (B + 11), .ref (B + 12), .int 0, .ref (B + 13), .int 0, .ref (B + 14), .ref (B + 15), .ref (B + 16), .int 0, .ref (B + 17), .null, .int 0, .null, .null, .null, .null, .null, .int 0, .int 0, .null]) rfl rfl dX11_init_141 ?_
  refine v_aload_n g 0 dX11_init_144 rfl ?_
  refine v_bipush g (v := 17) dX11_init_145 rfl ?_
  refine v_newa g (atype := .int) (ty := .int) 0 (K := 17) (a0 := (17, .inl (fun _ => 0))) rfl (hra_int _) rfl (tbG_of (List.mem_of_getElem? (i := 107) (by decide +kernel)) (by decide +kernel)) (arr0_int 17) (by decide) (by decide) (by decide) (by decide) (by decide) dX11_init_147 ?_
  refine v_putF g (c := 0) (fs := [.ref (B + 1), .ref (B + 2), .ref (B + 3), .int 0, .int 0, .int 0, .ref (B + 4), .int 0, .ref (B + 5), .ref (B + 6), .ref (B + 7), .int 0, .ref (B + 8), .int 0, .ref (B + 9), .ref (B + 10), .ref (B + 11), .ref (B + 12), .int 0, .ref (B + 13), .int 0, .ref (B + 14), .ref (B + 15), .ref (B + 16), .int 0, .ref (B + 17), .null, .int 0, .null, .null, .null, .null, .null, .int 0, .int 0, .null]) (Nat.le_of_ble_eq_true rfl) rfl rfl inX11 tyX11 tyX11_ok nmX11 26 (by decide) wf_X11_63 rfl rfl rfl rfl (Nat.le_of_ble_eq_true rfl) (fs' := [.ref (B + 1), .ref (B + 2), .ref (B + 3), .int 0, .int 0, .int 0, .ref (B + 4), .int 0, .ref (B + 5), .ref (B + 6), .ref (B + 7), .int 0, .ref (B + 8), .int 0, .ref (B + 9), .ref (B + 10), .ref (B + 11), .ref (B + 12), .int 0, .ref (B + 13), .int 0, .ref (B + 14), .ref (B + 15), .ref (B + 16), .int 0, .ref (B + 17), .ref (B + 18), .int 0, .null, .null, .null, .null, .null, .int 0, .int 0, .null]) rfl rfl dX11_init_149 ?_
  refine v_aload_n g 0 dX11_init_152 rfl ?_
  refine v_bipush g (v := 17) dX11_init_153 rfl ?_
  refine v_newa g (atype := .int) (ty := .int) 0 (K := 17) (a0 := (17, .inl (fun _ => 0))) rfl (hra_int _) rfl (tbG_of (List.mem_of_getElem? (i := 107) (by decide +kernel)) (by decide +kernel)) (arr0_int 17) (by decide) (by decide) (by decide) (by decide) (by decide) dX11_init_155 ?_
  refine v_putF g (c := 0) (fs := [.ref (B + 1), .ref (B + 2), .ref (B + 3), .int 0, .int 0, .int 0, .ref (B + 4), .int 0, .ref (B + 5), .ref (B + 6), .ref (B + 7), .int 0, .ref (B + 8), .int 0, .ref (B + 9), .ref (B + 10), .ref (B + 11), .ref (B + 12), .int 0, .ref (B + 13), .int 0, .ref (B + 14), .ref (B + 15), .ref (B + 16), .int 0, .ref (B + 17), .ref (B + 18), .int 0, .null, .null, .null, .null, .null, .int 0, .int 0, .null]) (Nat.le_of_ble_eq_true rfl) rfl rfl inX11 tyX11 tyX11_ok nmX11 28 (by decide) wf_X11_66 rfl rfl rfl rfl (Nat.le_of_ble_eq_true rfl) (fs' := [.ref (B + 1), .ref (B + 2), .ref (B + 3), .int 0, .int 0, .int 0, .ref (B + 4), .int 0, .ref (B + 5), .ref (B + 6), .ref (B + 7), .int 0, .ref (B + 8), .int 0, .ref (B + 9), .ref (B + 10), .ref (B + 11), .ref (B + 12), .int 0, .ref (B + 13), .int 0, .ref (B + 14), .ref (B + 15), .ref (B + 16), .int 0, .ref (B + 17), .ref (B + 18), .int 0, .ref (B + 19), .null, .null, .null, .null, .int 0, .int 0, .null]) rfl rfl dX11_init_157 ?_
  refine v_aload_n g 0 dX11_init_160 rfl ?_
  refine v_sipush g (v := 4096) dX11_init_161 rfl ?_
  refine v_newa g (atype := .int) (ty := .int) 0 (K := 4096) (a0 := (4096, .inl (fun _ => 0))) rfl (hra_int _) rfl (tbG_of (List.mem_of_getElem? (i := 107) (by decide +kernel)) (by decide +kernel)) (arr0_int 4096) (by decide) (by decide) (by decide) (by decide) (by decide) dX11_init_164 ?_
  refine v_putF g (c := 0) (fs := [.ref (B + 1), .ref (B + 2), .ref (B + 3), .int 0, .int 0, .int 0, .ref (B + 4), .int 0, .ref (B + 5), .ref (B + 6), .ref (B + 7), .int 0, .ref (B + 8), .int 0, .ref (B + 9), .ref (B + 10), .ref (B + 11), .ref (B + 12), .int 0, .ref (B + 13), .int 0, .ref (B + 14), .ref (B + 15), .ref (B + 16), .int 0, .ref (B + 17), .ref (B + 18), .int 0, .ref (B + 19), .null, .null, .null, .null, .int 0, .int 0, .null]) (Nat.le_of_ble_eq_true rfl) rfl rfl inX11 tyX11 tyX11_ok nmX11 29 (by decide) wf_X11_69 rfl rfl rfl rfl (Nat.le_of_ble_eq_true rfl) (fs' := [.ref (B + 1), .ref (B + 2), .ref (B + 3), .int 0, .int 0, .int 0, .ref (B + 4), .int 0, .ref (B + 5), .ref (B + 6), .ref (B + 7), .int 0, .ref (B + 8), .int 0, .ref (B + 9), .ref (B + 10), .ref (B + 11), .ref (B + 12), .int 0, .ref (B + 13), .int 0, .ref (B + 14), .ref (B + 15), .ref (B + 16), .int 0, .ref (B + 17), .ref (B + 18), .int 0, .ref (B + 19), .ref (B + 20), .null, .null, .null, .int 0, .int 0, .null]) rfl rfl dX11_init_166 ?_
  refine v_aload_n g 0 dX11_init_169 rfl ?_
  refine v_bipush g (v := 16) dX11_init_170 rfl ?_
  refine v_newa g (atype := .int) (ty := .int) 0 (K := 16) (a0 := (16, .inl (fun _ => 0))) rfl (hra_int _) rfl (tbG_of (List.mem_of_getElem? (i := 107) (by decide +kernel)) (by decide +kernel)) (arr0_int 16) (by decide) (by decide) (by decide) (by decide) (by decide) dX11_init_172 ?_
  refine v_putF g (c := 0) (fs := [.ref (B + 1), .ref (B + 2), .ref (B + 3), .int 0, .int 0, .int 0, .ref (B + 4), .int 0, .ref (B + 5), .ref (B + 6), .ref (B + 7), .int 0, .ref (B + 8), .int 0, .ref (B + 9), .ref (B + 10), .ref (B + 11), .ref (B + 12), .int 0, .ref (B + 13), .int 0, .ref (B + 14), .ref (B + 15), .ref (B + 16), .int 0, .ref (B + 17), .ref (B + 18), .int 0, .ref (B + 19), .ref (B + 20), .null, .null, .null, .int 0, .int 0, .null]) (Nat.le_of_ble_eq_true rfl) rfl rfl inX11 tyX11 tyX11_ok nmX11 30 (by decide) wf_X11_72 rfl rfl rfl rfl (Nat.le_of_ble_eq_true rfl) (fs' := [.ref (B + 1), .ref (B + 2), .ref (B + 3), .int 0, .int 0, .int 0, .ref (B + 4), .int 0, .ref (B + 5), .ref (B + 6), .ref (B + 7), .int 0, .ref (B + 8), .int 0, .ref (B + 9), .ref (B + 10), .ref (B + 11), .ref (B + 12), .int 0, .ref (B + 13), .int 0, .ref (B + 14), .ref (B + 15), .ref (B + 16), .int 0, .ref (B + 17), .ref (B + 18), .int 0, .ref (B + 19), .ref (B + 20), .ref (B + 21), .null, .null, .int 0, .int 0, .null]) rfl rfl dX11_init_174 ?_
  refine v_aload_n g 0 dX11_init_177 rfl ?_
  refine v_ldc g wk_X11_49 dX11_init_178 ?_
  refine v_newa g (atype := .boolean) (ty := .boolean) 2 (K := 65536) (a0 := (65536, .inl (fun _ => 0))) rfl (hra_boolean _) rfl (tbG_of (List.mem_of_getElem? (i := 1029) (by decide +kernel)) (by decide +kernel)) (arr0_boolean 65536) (by decide) (by decide) (by decide) (by decide) (by decide) dX11_init_180 ?_
  refine v_putF g (c := 0) (fs := [.ref (B + 1), .ref (B + 2), .ref (B + 3), .int 0, .int 0, .int 0, .ref (B + 4), .int 0, .ref (B + 5), .ref (B + 6), .ref (B + 7), .int 0, .ref (B + 8), .int 0, .ref (B + 9), .ref (B + 10), .ref (B + 11), .ref (B + 12), .int 0, .ref (B + 13), .int 0, .ref (B + 14), .ref (B + 15), .ref (B + 16), .int 0, .ref (B + 17), .ref (B + 18), .int 0, .ref (B + 19), .ref (B + 20), .ref (B + 21), .null, .null, .int 0, .int 0, .null]) (Nat.le_of_ble_eq_true rfl) rfl rfl inX11 tyX11 tyX11_ok nmX11 31 (by decide) wf_X11_75 rfl rfl rfl rfl (Nat.le_of_ble_eq_true rfl) (fs' := [.ref (B + 1), .ref (B + 2), .ref (B + 3), .int 0, .int 0, .int 0, .ref (B + 4), .int 0, .ref (B + 5), .ref (B + 6), .ref (B + 7), .int 0, .ref (B + 8), .int 0, .ref (B + 9), .ref (B + 10), .ref (B + 11), .ref (B + 12), .int 0, .ref (B + 13), .int 0, .ref (B + 14), .ref (B + 15), .ref (B + 16), .int 0, .ref (B + 17), .ref (B + 18), .int 0, .ref (B + 19), .ref (B + 20), .ref (B + 21), .ref (B + 22), .null, .int 0, .int 0, .null]) rfl rfl dX11_init_182 ?_
  refine v_aload_n g 0 dX11_init_185 rfl ?_
  refine v_ldc g wk_X11_49 dX11_init_186 ?_
  refine v_newa g (atype := .boolean) (ty := .boolean) 2 (K := 65536) (a0 := (65536, .inl (fun _ => 0))) rfl (hra_boolean _) rfl (tbG_of (List.mem_of_getElem? (i := 1029) (by decide +kernel)) (by decide +kernel)) (arr0_boolean 65536) (by decide) (by decide) (by decide) (by decide) (by decide) dX11_init_188 ?_
  refine v_putF g (c := 0) (fs := [.ref (B + 1), .ref (B + 2), .ref (B + 3), .int 0, .int 0, .int 0, .ref (B + 4), .int 0, .ref (B + 5), .ref (B + 6), .ref (B + 7), .int 0, .ref (B + 8), .int 0, .ref (B + 9), .ref (B + 10), .ref (B + 11), .ref (B + 12), .int 0, .ref (B + 13), .int 0, .ref (B + 14), .ref (B + 15), .ref (B + 16), .int 0, .ref (B + 17), .ref (B + 18), .int 0, .ref (B + 19), .ref (B + 20), .ref (B + 21), .ref (B + 22), .null, .int 0, .int 0, .null]) (Nat.le_of_ble_eq_true rfl) rfl rfl inX11 tyX11 tyX11_ok nmX11 32 (by decide) wf_X11_78 rfl rfl rfl rfl (Nat.le_of_ble_eq_true rfl) (fs' := [.ref (B + 1), .ref (B + 2), .ref (B + 3), .int 0, .int 0, .int 0, .ref (B + 4), .int 0, .ref (B + 5), .ref (B + 6), .ref (B + 7), .int 0, .ref (B + 8), .int 0, .ref (B + 9), .ref (B + 10), .ref (B + 11), .ref (B + 12), .int 0, .ref (B + 13), .int 0, .ref (B + 14), .ref (B + 15), .ref (B + 16), .int 0, .ref (B + 17), .ref (B + 18), .int 0, .ref (B + 19), .ref (B + 20), .ref (B + 21), .ref (B + 22), .ref (B + 23), .int 0, .int 0, .null]) rfl rfl dX11_init_190 ?_
  refine v_aload_n g 0 dX11_init_193 rfl ?_
  refine v_bipush g (v := 120) dX11_init_194 rfl ?_
  refine v_newa g (atype := .int) (ty := .int) 0 (K := 120) (a0 := (120, .inl (fun _ => 0))) rfl (hra_int _) rfl (tbG_of (List.mem_of_getElem? (i := 107) (by decide +kernel)) (by decide +kernel)) (arr0_int 120) (by decide) (by decide) (by decide) (by decide) (by decide) dX11_init_196 ?_
  refine v_putF g (c := 0) (fs := [.ref (B + 1), .ref (B + 2), .ref (B + 3), .int 0, .int 0, .int 0, .ref (B + 4), .int 0, .ref (B + 5), .ref (B + 6), .ref (B + 7), .int 0, .ref (B + 8), .int 0, .ref (B + 9), .ref (B + 10), .ref (B + 11), .ref (B + 12), .int 0, .ref (B + 13), .int 0, .ref (B + 14), .ref (B + 15), .ref (B + 16), .int 0, .ref (B + 17), .ref (B + 18), .int 0, .ref (B + 19), .ref (B + 20), .ref (B + 21), .ref (B + 22), .ref (B + 23), .int 0, .int 0, .null]) (Nat.le_of_ble_eq_true rfl) rfl rfl inX11 tyX11 tyX11_ok nmX11 35 (by decide) wf_X11_81 rfl rfl rfl rfl (Nat.le_of_ble_eq_true rfl) (fs' := [.ref (B + 1), .ref (B + 2), .ref (B + 3), .int 0, .int 0, .int 0, .ref (B + 4), .int 0, .ref (B + 5), .ref (B + 6), .ref (B + 7), .int 0, .ref (B + 8), .int 0, .ref (B + 9), .ref (B + 10), .ref (B + 11), .ref (B + 12), .int 0, .ref (B + 13), .int 0, .ref (B + 14), .ref (B + 15), .ref (B + 16), .int 0, .ref (B + 17), .ref (B + 18), .int 0, .ref (B + 19), .ref (B + 20), .ref (B + 21), .ref (B + 22), .ref (B + 23), .int 0, .int 0, .ref (B + 24)]) rfl rfl dX11_init_198 ?_
  exact v_vret g dX11_init_201 (by decide) (by decide) rfl (fun c hc => by match c, hc with | 0, _ => rfl | 1, _ => rfl | 2, _ => rfl | 3, _ => rfl | 4, _ => rfl | 5, _ => rfl | 6, _ => rfl | 7, _ => rfl | 8, _ => rfl | 9, _ => rfl | 10, _ => rfl | 11, _ => rfl | 12, _ => rfl | 13, _ => rfl | 14, _ => rfl | 15, _ => rfl | 16, _ => rfl | 17, _ => rfl | 18, _ => rfl | 19, _ => rfl | 20, _ => rfl | 21, _ => rfl | 22, _ => rfl | 23, _ => rfl | 24, _ => rfl | q + 25, h => exact absurd h (by omega))
