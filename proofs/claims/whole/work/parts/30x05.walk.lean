set_option maxRecDepth 100000 in
set_option maxHeartbeats 4000000 in
theorem t_X10_witness (w : Wp) (l : Launch) {a1 : Int32} {M : Mem} {q : Int32 × Mem} (h : f_X10_witness a1 M = some q) : Ct shX w l yX10_witness cX10_witness 3 (some .int) 3 [.ref (w.2.2.1 0), .int a1] M (some (.int q.1), q.2) := by
  rw [f_X10_witness] at h
  refine ct_of shX_loc (by decide) (Nat.le_of_ble_eq_true rfl) rfl (fun x hx g => ?_)
  subst hx
  show U shX w x _ M 0 [(0, .ref (w.2.2.1 0)), (1, .int a1)] []
  generalize hr : ((some (.int q.1), q.2) : Option Value × Mem) = r
  have g : Gd shX w x RX10 cX10_witness 3 (some .int) 3 := g
  refine u_aload_n g 0 dX10_witness_0 rfl ?_
  refine u_iload_n g 1 dX10_witness_1 rfl ?_
  obtain ⟨q1, hq2, h⟩ := ob_bind h
  refine u_callV (st := []) g wv_X10_166 [.int a1] (kX_lt (show kX 0 = 10 from rfl) rfl) (ceX_10 (show kX 0 = 10 from rfl)) rfl rfl (t_X10_familyAt w x.2.1 hq2) (by decide) (by decide) rfl (Nat.le_of_ble_eq_true rfl) rfl dX10_witness_2 ?_
  show U shX w x r M 5 [(0, .ref (w.2.2.1 0)), (1, .int a1)] [rv w q1]
  refine u_astore_nO g [(2, rv w q1), (0, .ref (w.2.2.1 0)), (1, .int a1)] dX10_witness_5 (by decide) rfl ?_
  refine u_aload_nO g 0 dX10_witness_6 rfl ?_
  cases q1 with
  | none =>
    have h := ob_none h
    refine u_nonnullN g dX10_witness_7 ?_
    show U shX w x r M 10 [(2, .null), (0, .ref (w.2.2.1 0)), (1, .int a1)] []
    refine u_aload_n g 1 dX10_witness_10 rfl ?_
    refine u_iconst g (v := (1 : Int32)) dX10_witness_11 rfl ?_
    obtain ⟨q5, hq6, h⟩ := ob_bind h
    refine u_callV (st := []) g wv_X10_83 [.int (1 : Int32)] (kX_lt (show kX 0 = 10 from rfl) rfl) (ceX_10 (show kX 0 = 10 from rfl)) rfl rfl (t_X10_refuse w x.2.1 hq6) (by decide) (by decide) rfl (Nat.le_of_ble_eq_true rfl) rfl dX10_witness_12 ?_
    show U shX w x r q5.2 15 [(2, .null), (0, .ref (w.2.2.1 0)), (1, .int a1)] [.int q5.1]
    exact u_iret g dX10_witness_15 (by rw [← hr]; obtain rfl := Option.some.inj h; rfl)
  | some c3 =>
    have h := ob_some h
    obtain ⟨k4, h⟩ := ob_if h
    refine u_nonnull g 16 dX10_witness_7 (by decide) ?_
    show U shX w x r M 16 [(2, .ref (w.2.2.1 c3)), (0, .ref (w.2.2.1 0)), (1, .int a1)] []
    refine u_aload_n g 1 dX10_witness_16 rfl ?_
    refine gfX10_8 g (c := 0) rfl wf_X10_56 dX10_witness_17 ?_
    refine u_aload_n g 0 dX10_witness_20 rfl ?_
    obtain ⟨q7, hq8, h⟩ := ob_bind h
    refine u_callV (st := []) g wv_X10_319 [.ref (w.2.2.1 c3)] (kX_lt (show kX 252 = 8 from rfl) rfl) (ceX_8 (show kX 252 = 8 from rfl)) rfl rfl (t_X8_write w x.2.1 hq8) (by decide) (by decide) rfl (Nat.le_of_ble_eq_true rfl) rfl dX10_witness_21 ?_
    show U shX w x r q7 24 [(2, .ref (w.2.2.1 c3)), (0, .ref (w.2.2.1 0)), (1, .int a1)] []
    refine u_aload_n g 1 dX10_witness_24 rfl ?_
    refine u_aload_n g 1 dX10_witness_25 rfl ?_
    refine gfX10_8 g (c := 0) rfl wf_X10_56 dX10_witness_26 ?_
    refine gfX8_0 g (c := 252) rfl wf_X10_322 (v := (q7.1 252 0)) rfl dX10_witness_29 ?_
    obtain ⟨q9, hq10, h⟩ := ob_bind h
    refine u_callV (st := []) g wv_X10_103 [.int (q7.1 252 0)] (kX_lt (show kX 0 = 10 from rfl) rfl) (ceX_10 (show kX 0 = 10 from rfl)) rfl rfl (t_X10_accept w x.2.1 hq10) (by decide) (by decide) rfl (Nat.le_of_ble_eq_true rfl) rfl dX10_witness_32 ?_
    show U shX w x r q9.2 35 [(2, .ref (w.2.2.1 c3)), (0, .ref (w.2.2.1 0)), (1, .int a1)] [.int q9.1]
    exact u_iret g dX10_witness_35 (by rw [← hr]; obtain rfl := Option.some.inj h; rfl)
set_option maxRecDepth 100000 in
set_option maxHeartbeats 4000000 in
theorem t_X10_names (w : Wp) (l : Launch) {a1 : Int32} {M : Mem} {q : Int32} (h : f_X10_names a1 M = some q) : Ct shX w l yX10_names cX10_names 2 (some .int) 1 [.ref (w.2.2.1 0), .int a1] M (some (.int q), M) := by
  rw [f_X10_names] at h
  refine ct_of shX_loc (by decide) (Nat.le_of_ble_eq_true rfl) rfl (fun x hx g => ?_)
  subst hx
  show U shX w x _ M 0 [(0, .ref (w.2.2.1 0)), (1, .int a1)] []
  generalize hr : ((some (.int q), M) : Option Value × Mem) = r
  have g : Gd shX w x RX10 cX10_names 2 (some .int) 1 := g
  refine u_aload_n g 0 dX10_names_0 rfl ?_
  refine gfX10_8 g (c := 0) rfl wf_X10_56 dX10_names_1 ?_
  refine u_iload_n g 1 dX10_names_4 rfl ?_
  obtain ⟨q1, hq2, h⟩ := ob_bind h
  refine u_callV (st := []) g wv_X10_323 [.int a1] (kX_lt (show kX 252 = 8 from rfl) rfl) (ceX_8 (show kX 252 = 8 from rfl)) rfl rfl (t_X8_hasPair w x.2.1 hq2) (by decide) (by decide) rfl (Nat.le_of_ble_eq_true rfl) rfl dX10_names_5 ?_
  show U shX w x r M 8 [(0, .ref (w.2.2.1 0)), (1, .int a1)] [.int q1]
  refine u_if_eq g 23 dX10_names_8 (by decide) (fun b3 => ?_) (fun b3 => ?_)
  · have h := ob_pos b3 h
    refine u_bipush g (v := (-2 : Int32)) dX10_names_23 rfl ?_
    exact u_iret g dX10_names_25 (by rw [← hr]; obtain rfl := Option.some.inj h; rfl)
  · have h := ob_neg b3 h
    refine u_aload_n g 0 dX10_names_11 rfl ?_
    refine gfX10_8 g (c := 0) rfl wf_X10_56 dX10_names_12 ?_
    refine gfX8_1 g (c := 252) rfl wf_X10_326 dX10_names_15 ?_
    refine u_iload_n g 1 dX10_names_18 rfl ?_
    obtain ⟨e4, h⟩ := ob_if h
    refine aX_ild g (c := 253) 7140 (by decide) rfl (v := (M.1 253 a1.toNatClampNeg)) (inB_in e4) rfl dX10_names_19 ?_
    refine u_goto g 25 dX10_names_20 (by decide) ?_
    exact u_iret g dX10_names_25 (by rw [← hr]; obtain rfl := Option.some.inj h; rfl)
set_option maxRecDepth 100000 in
set_option maxHeartbeats 4000000 in
theorem t_X10_forge (w : Wp) (l : Launch) {a1 : Int32} {a2 : Int32} {M : Mem} {q : Int32 × Mem} (h : f_X10_forge a1 a2 M = some q) : Ct shX w l yX10_forge cX10_forge 3 (some .boolean) 1 [.ref (w.2.2.1 0), .int a1, .int a2] M (some (.int q.1), q.2) := by
  rw [f_X10_forge] at h
  refine ct_of shX_loc (by decide) (Nat.le_of_ble_eq_true rfl) rfl (fun x hx g => ?_)
  subst hx
  show U shX w x _ M 0 [(0, .ref (w.2.2.1 0)), (1, .int a1), (2, .int a2)] []
  generalize hr : ((some (.int q.1), q.2) : Option Value × Mem) = r
  have g : Gd shX w x RX10 cX10_forge 3 (some .boolean) 1 := g
  refine u_aload_n g 0 dX10_forge_0 rfl ?_
  refine gfX10_8 g (c := 0) rfl wf_X10_56 dX10_forge_1 ?_
  refine u_iload_n g 1 dX10_forge_4 rfl ?_
  obtain ⟨q1, hq2, h⟩ := ob_bind h
  refine u_callV (st := []) g wv_X10_323 [.int a1] (kX_lt (show kX 252 = 8 from rfl) rfl) (ceX_8 (show kX 252 = 8 from rfl)) rfl rfl (t_X8_hasPair w x.2.1 hq2) (by decide) (by decide) rfl (Nat.le_of_ble_eq_true rfl) rfl dX10_forge_5 ?_
  show U shX w x r M 8 [(0, .ref (w.2.2.1 0)), (1, .int a1), (2, .int a2)] [.int q1]
  refine u_if_ne g 17 dX10_forge_8 (by decide) (fun b3 => ?_) (fun b3 => ?_)
  · have h := ob_neg b3 h
    refine u_aload_n g 0 dX10_forge_17 rfl ?_
    refine gfX10_8 g (c := 0) rfl wf_X10_56 dX10_forge_18 ?_
    refine gfX8_1 g (c := 252) rfl wf_X10_326 dX10_forge_21 ?_
    refine u_iload_n g 1 dX10_forge_24 rfl ?_
    refine u_dup2 g dX10_forge_25 rfl rfl ?_
    obtain ⟨e4, h⟩ := ob_if h
    refine aX_ild g (c := 253) 7140 (by decide) rfl (v := (M.1 253 a1.toNatClampNeg)) (inB_in e4) rfl dX10_forge_26 ?_
    refine u_iload_n g 2 dX10_forge_27 rfl ?_
    refine u_ixor g dX10_forge_28 ?_
    obtain ⟨e5, h⟩ := ob_if h
    refine aX_ist g (c := 253) 7140 (by decide) rfl (inB_in e5) (j := a1.toNatClampNeg) rfl dX10_forge_29 ?_
    refine u_aload_n g 0 dX10_forge_30 rfl ?_
    obtain ⟨q6, hq7, h⟩ := ob_bind h
    refine u_callV (st := []) g wv_X10_112 [] (kX_lt (show kX 0 = 10 from rfl) rfl) (ceX_10 (show kX 0 = 10 from rfl)) rfl rfl (t_X10_acceptTrue w x.2.1 hq7) (by decide) (by decide) rfl (Nat.le_of_ble_eq_true rfl) rfl dX10_forge_31 ?_
    show U shX w x r q6.2 34 [(0, .ref (w.2.2.1 0)), (1, .int a1), (2, .int a2)] [.int q6.1]
    obtain ⟨hz, h⟩ := ob_if h
    exact u_zret g hz dX10_forge_34 (by rw [← hr]; obtain rfl := Option.some.inj h; rfl)
  · have h := ob_pos b3 h
    refine u_aload_n g 0 dX10_forge_11 rfl ?_
    refine u_iconst g (v := (1 : Int32)) dX10_forge_12 rfl ?_
    obtain ⟨q8, hq9, h⟩ := ob_bind h
    refine u_callV (st := []) g wv_X10_109 [.int (1 : Int32)] (kX_lt (show kX 0 = 10 from rfl) rfl) (ceX_10 (show kX 0 = 10 from rfl)) rfl rfl (t_X10_refuseFalse w x.2.1 hq9) (by decide) (by decide) rfl (Nat.le_of_ble_eq_true rfl) rfl dX10_forge_13 ?_
    show U shX w x r q8.2 16 [(0, .ref (w.2.2.1 0)), (1, .int a1), (2, .int a2)] [.int q8.1]
    obtain ⟨hz, h⟩ := ob_if h
    exact u_zret g hz dX10_forge_16 (by rw [← hr]; obtain rfl := Option.some.inj h; rfl)
set_option maxRecDepth 100000 in
set_option maxHeartbeats 4000000 in
theorem t_X10_judge (w : Wp) (l : Launch) {a1 : Int32} {M : Mem} {q : Int32 × Mem} (h : f_X10_judge a1 M = some q) : Ct shX w l yX10_judge cX10_judge 3 (some .int) 2 [.ref (w.2.2.1 0), .int a1] M (some (.int q.1), q.2) := by
  rw [f_X10_judge] at h
  refine ct_of shX_loc (by decide) (Nat.le_of_ble_eq_true rfl) rfl (fun x hx g => ?_)
  subst hx
  show U shX w x _ M 0 [(0, .ref (w.2.2.1 0)), (1, .int a1)] []
  generalize hr : ((some (.int q.1), q.2) : Option Value × Mem) = r
  have g : Gd shX w x RX10 cX10_judge 3 (some .int) 2 := g
  refine u_aload_n g 0 dX10_judge_0 rfl ?_
  refine u_iload_n g 1 dX10_judge_1 rfl ?_
  obtain ⟨q1, hq2, h⟩ := ob_bind h
  refine u_callV (st := []) g wv_X10_166 [.int a1] (kX_lt (show kX 0 = 10 from rfl) rfl) (ceX_10 (show kX 0 = 10 from rfl)) rfl rfl (t_X10_familyAt w x.2.1 hq2) (by decide) (by decide) rfl (Nat.le_of_ble_eq_true rfl) rfl dX10_judge_2 ?_
  show U shX w x r M 5 [(0, .ref (w.2.2.1 0)), (1, .int a1)] [rv w q1]
  refine u_astore_nO g [(2, rv w q1), (0, .ref (w.2.2.1 0)), (1, .int a1)] dX10_judge_5 (by decide) rfl ?_
  refine u_aload_nO g 0 dX10_judge_6 rfl ?_
  cases q1 with
  | none =>
    have h := ob_none h
    refine u_nonnullN g dX10_judge_7 ?_
    show U shX w x r M 10 [(2, .null), (0, .ref (w.2.2.1 0)), (1, .int a1)] []
    refine u_aload_n g 1 dX10_judge_10 rfl ?_
    refine u_iconst g (v := (1 : Int32)) dX10_judge_11 rfl ?_
    obtain ⟨q5, hq6, h⟩ := ob_bind h
    refine u_callV (st := []) g wv_X10_83 [.int (1 : Int32)] (kX_lt (show kX 0 = 10 from rfl) rfl) (ceX_10 (show kX 0 = 10 from rfl)) rfl rfl (t_X10_refuse w x.2.1 hq6) (by decide) (by decide) rfl (Nat.le_of_ble_eq_true rfl) rfl dX10_judge_12 ?_
    show U shX w x r q5.2 15 [(2, .null), (0, .ref (w.2.2.1 0)), (1, .int a1)] [.int q5.1]
    exact u_iret g dX10_judge_15 (by rw [← hr]; obtain rfl := Option.some.inj h; rfl)
  | some c3 =>
    have h := ob_some h
    obtain ⟨k4, h⟩ := ob_if h
    refine u_nonnull g 16 dX10_judge_7 (by decide) ?_
    show U shX w x r M 16 [(2, .ref (w.2.2.1 c3)), (0, .ref (w.2.2.1 0)), (1, .int a1)] []
    refine u_aload_n g 1 dX10_judge_16 rfl ?_
    refine gfX10_8 g (c := 0) rfl wf_X10_56 dX10_judge_17 ?_
    refine gfX8_0 g (c := 252) rfl wf_X10_322 (v := (M.1 252 0)) rfl dX10_judge_20 ?_
    refine u_aload_n g 0 dX10_judge_23 rfl ?_
    obtain ⟨q7, hq8, h⟩ := ob_bind h
    refine u_callV (st := [.int (M.1 252 0)]) g wv_X10_329 [] (kX_lt k4 rfl) (ceX_1 k4) rfl rfl (t_X1_countPairs w x.2.1 hq8) (by decide) (by decide) rfl (Nat.le_of_ble_eq_true rfl) rfl dX10_judge_24 ?_
    show U shX w x r M 27 [(2, .ref (w.2.2.1 c3)), (0, .ref (w.2.2.1 0)), (1, .int a1)] [.int q7, .int (M.1 252 0)]
    refine u_icmp_eq g 37 dX10_judge_27 (by decide) (fun b9 => ?_) (fun b9 => ?_)
    · have h := ob_pos b9 h
      refine u_aload_n g 1 dX10_judge_37 rfl ?_
      refine u_aload_n g 1 dX10_judge_38 rfl ?_
      refine gfX10_8 g (c := 0) rfl wf_X10_56 dX10_judge_39 ?_
      refine u_aload_n g 0 dX10_judge_42 rfl ?_
      obtain ⟨q10, hq11, h⟩ := ob_bind h
      refine u_callV (st := [.ref (w.2.2.1 0)]) g wv_X10_332 [.ref (w.2.2.1 c3)] (kX_lt (show kX 252 = 8 from rfl) rfl) (ceX_8 (show kX 252 = 8 from rfl)) rfl rfl (t_X8_firstFalsePair w x.2.1 hq11) (by decide) (by decide) rfl (Nat.le_of_ble_eq_true rfl) rfl dX10_judge_43 ?_
      show U shX w x r M 46 [(2, .ref (w.2.2.1 c3)), (0, .ref (w.2.2.1 0)), (1, .int a1)] [.int q10, .ref (w.2.2.1 0)]
      obtain ⟨q12, hq13, h⟩ := ob_bind h
      refine u_callV (st := []) g wv_X10_103 [.int q10] (kX_lt (show kX 0 = 10 from rfl) rfl) (ceX_10 (show kX 0 = 10 from rfl)) rfl rfl (t_X10_accept w x.2.1 hq13) (by decide) (by decide) rfl (Nat.le_of_ble_eq_true rfl) rfl dX10_judge_46 ?_
      show U shX w x r q12.2 49 [(2, .ref (w.2.2.1 c3)), (0, .ref (w.2.2.1 0)), (1, .int a1)] [.int q12.1]
      exact u_iret g dX10_judge_49 (by rw [← hr]; obtain rfl := Option.some.inj h; rfl)
    · have h := ob_neg b9 h
      refine u_aload_n g 1 dX10_judge_30 rfl ?_
      refine u_bipush g (v := (-3 : Int32)) dX10_judge_31 rfl ?_
      obtain ⟨q14, hq15, h⟩ := ob_bind h
      refine u_callV (st := []) g wv_X10_103 [.int (-3 : Int32)] (kX_lt (show kX 0 = 10 from rfl) rfl) (ceX_10 (show kX 0 = 10 from rfl)) rfl rfl (t_X10_accept w x.2.1 hq15) (by decide) (by decide) rfl (Nat.le_of_ble_eq_true rfl) rfl dX10_judge_33 ?_
      show U shX w x r q14.2 36 [(2, .ref (w.2.2.1 c3)), (0, .ref (w.2.2.1 0)), (1, .int a1)] [.int q14.1]
      exact u_iret g dX10_judge_36 (by rw [← hr]; obtain rfl := Option.some.inj h; rfl)
set_option maxRecDepth 100000 in
set_option maxHeartbeats 4000000 in
theorem t_X10_placeAt (w : Wp) (l : Launch) {a1 : Int32} {M : Mem} {q : Option Nat} (h : f_X10_placeAt a1 M = some q) : Ct shX w l yX10_placeAt cX10_placeAt 2 (some (.object "MeetHouse$Thing")) 0 [.ref (w.2.2.1 0), .int a1] M (some (rv w q), M) := by
  rw [f_X10_placeAt] at h
  refine ct_of shX_loc (by decide) (Nat.le_of_ble_eq_true rfl) rfl (fun x hx g => ?_)
  subst hx
  show U shX w x _ M 0 [(0, .ref (w.2.2.1 0)), (1, .int a1)] []
  generalize hr : ((some (rv w q), M) : Option Value × Mem) = r
  have g : Gd shX w x RX10 cX10_placeAt 2 (some (.object "MeetHouse$Thing")) 0 := g
  refine u_iload_n g 1 dX10_placeAt_0 rfl ?_
  refine u_if_lt g 10 dX10_placeAt_1 (by decide) (fun b1 => ?_) (fun b1 => ?_)
  · have h := ob_pos b1 h
    refine u_null g dX10_placeAt_10 ?_
    exact u_aret (v := none) g dX10_placeAt_11 (by rw [← hr]; obtain rfl := Option.some.inj h; rfl)
  · have h := ob_neg b1 h
    refine u_iload_n g 1 dX10_placeAt_4 rfl ?_
    refine u_bipush g (v := (16 : Int32)) dX10_placeAt_5 rfl ?_
    refine u_icmp_lt g 12 dX10_placeAt_7 (by decide) (fun b2 => ?_) (fun b2 => ?_)
    · have h := ob_pos b2 h
      refine u_aload_n g 0 dX10_placeAt_12 rfl ?_
      refine gfX10_6 g (c := 0) rfl wf_X10_42 dX10_placeAt_13 ?_
      refine u_iload_n g 1 dX10_placeAt_16 rfl ?_
      obtain ⟨e3, h⟩ := ob_if h
      refine aX_pla g (inB_in e3) dX10_placeAt_17 ?_
      exact u_aret (v := some (312 + 3 * a1.toNatClampNeg)) g dX10_placeAt_18 (by rw [← hr]; obtain rfl := Option.some.inj h; rfl)
    · have h := ob_neg b2 h
      refine u_null g dX10_placeAt_10 ?_
      exact u_aret (v := none) g dX10_placeAt_11 (by rw [← hr]; obtain rfl := Option.some.inj h; rfl)
set_option maxRecDepth 100000 in
set_option maxHeartbeats 4000000 in
theorem t_X10_lay (w : Wp) (l : Launch) {a1 : Int32} {a2 : Int32} {a3 : Int32} {M : Mem} {q : Int32 × Mem} (h : f_X10_lay a1 a2 a3 M = some q) : Ct shX w l yX10_lay cX10_lay 5 (some .int) 2 [.ref (w.2.2.1 0), .int a1, .int a2, .int a3] M (some (.int q.1), q.2) := by
  rw [f_X10_lay] at h
  refine ct_of shX_loc (by decide) (Nat.le_of_ble_eq_true rfl) rfl (fun x hx g => ?_)
  subst hx
  show U shX w x _ M 0 [(0, .ref (w.2.2.1 0)), (1, .int a1), (2, .int a2), (3, .int a3)] []
  generalize hr : ((some (.int q.1), q.2) : Option Value × Mem) = r
  have g : Gd shX w x RX10 cX10_lay 5 (some .int) 2 := g
  refine u_aload_n g 0 dX10_lay_0 rfl ?_
  refine u_iload_n g 1 dX10_lay_1 rfl ?_
  obtain ⟨q1, hq2, h⟩ := ob_bind h
  refine u_callV (st := []) g wv_X10_335 [.int a1] (kX_lt (show kX 0 = 10 from rfl) rfl) (ceX_10 (show kX 0 = 10 from rfl)) rfl rfl (t_X10_placeAt w x.2.1 hq2) (by decide) (by decide) rfl (Nat.le_of_ble_eq_true rfl) rfl dX10_lay_2 ?_
  show U shX w x r M 5 [(0, .ref (w.2.2.1 0)), (1, .int a1), (2, .int a2), (3, .int a3)] [rv w q1]
  refine u_astoreO g [(4, rv w q1), (0, .ref (w.2.2.1 0)), (1, .int a1), (2, .int a2), (3, .int a3)] dX10_lay_5 (by decide) rfl ?_
  refine u_aloadO g 0 dX10_lay_7 rfl ?_
  cases q1 with
  | none =>
    have h := ob_none h
    refine u_nonnullN g dX10_lay_9 ?_
    show U shX w x r M 12 [(4, .null), (0, .ref (w.2.2.1 0)), (1, .int a1), (2, .int a2), (3, .int a3)] []
    refine u_aload_n g 1 dX10_lay_12 rfl ?_
    refine u_iconst g (v := (1 : Int32)) dX10_lay_13 rfl ?_
    obtain ⟨q5, hq6, h⟩ := ob_bind h
    refine u_callV (st := []) g wv_X10_83 [.int (1 : Int32)] (kX_lt (show kX 0 = 10 from rfl) rfl) (ceX_10 (show kX 0 = 10 from rfl)) rfl rfl (t_X10_refuse w x.2.1 hq6) (by decide) (by decide) rfl (Nat.le_of_ble_eq_true rfl) rfl dX10_lay_14 ?_
    show U shX w x r q5.2 17 [(4, .null), (0, .ref (w.2.2.1 0)), (1, .int a1), (2, .int a2), (3, .int a3)] [.int q5.1]
    exact u_iret g dX10_lay_17 (by rw [← hr]; obtain rfl := Option.some.inj h; rfl)
  | some c3 =>
    have h := ob_some h
    obtain ⟨k4, h⟩ := ob_if h
    refine u_nonnull g 18 dX10_lay_9 (by decide) ?_
    show U shX w x r M 18 [(4, .ref (w.2.2.1 c3)), (0, .ref (w.2.2.1 0)), (1, .int a1), (2, .int a2), (3, .int a3)] []
    refine u_iload_n g 3 dX10_lay_18 rfl ?_
    refine u_if_lt g 27 dX10_lay_19 (by decide) (fun b7 => ?_) (fun b7 => ?_)
    · have h := ob_pos b7 h
      refine u_aload_n g 1 dX10_lay_27 rfl ?_
      refine u_iconst g (v := (2 : Int32)) dX10_lay_28 rfl ?_
      obtain ⟨q8, hq9, h⟩ := ob_bind h
      refine u_callV (st := []) g wv_X10_83 [.int (2 : Int32)] (kX_lt (show kX 0 = 10 from rfl) rfl) (ceX_10 (show kX 0 = 10 from rfl)) rfl rfl (t_X10_refuse w x.2.1 hq9) (by decide) (by decide) rfl (Nat.le_of_ble_eq_true rfl) rfl dX10_lay_29 ?_
      show U shX w x r q8.2 32 [(4, .ref (w.2.2.1 c3)), (0, .ref (w.2.2.1 0)), (1, .int a1), (2, .int a2), (3, .int a3)] [.int q8.1]
      exact u_iret g dX10_lay_32 (by rw [← hr]; obtain rfl := Option.some.inj h; rfl)
    · have h := ob_neg b7 h
      refine u_iload_n g 3 dX10_lay_22 rfl ?_
      refine u_iconst g (v := (3 : Int32)) dX10_lay_23 rfl ?_
      refine u_icmp_le g 33 dX10_lay_24 (by decide) (fun b10 => ?_) (fun b10 => ?_)
      · have h := ob_pos b10 h
        refine u_iload_n g 3 dX10_lay_33 rfl ?_
        refine u_iconst g (v := (1 : Int32)) dX10_lay_34 rfl ?_
        refine u_icmp_ne g 46 dX10_lay_35 (by decide) (fun b11 => ?_) (fun b11 => ?_)
        · have h := ob_neg b11 h
          refine u_iload_n g 3 dX10_lay_46 rfl ?_
          refine u_iconst g (v := (3 : Int32)) dX10_lay_47 rfl ?_
          refine u_icmp_ne g 67 dX10_lay_48 (by decide) (fun b12 => ?_) (fun b12 => ?_)
          · have h := ob_neg b12 h
            refine u_iload_n g 3 dX10_lay_67 rfl ?_
            refine u_iconst g (v := (2 : Int32)) dX10_lay_68 rfl ?_
            refine u_icmp_ne g 89 dX10_lay_69 (by decide) (fun b13 => ?_) (fun b13 => ?_)
            · have h := ob_neg b13 h
              refine u_aload_n g 1 dX10_lay_89 rfl ?_
              refine gfX10_7 g (c := 0) rfl wf_X10_49 dX10_lay_90 ?_
              refine u_bipush g (v := (6 : Int32)) dX10_lay_93 rfl ?_
              refine u_iload_n g 2 dX10_lay_95 rfl ?_
              refine u_iconst g (v := (0 : Int32)) dX10_lay_96 rfl ?_
              obtain ⟨⟨o16, M17⟩, hq15, h⟩ := ob_bind h
              refine u_callV (st := []) g wv_X10_99 [.int (6 : Int32), .int a1, .int (0 : Int32)] (kX_lt (show kX 10 = 4 from rfl) rfl) (ceX_4 (show kX 10 = 4 from rfl)) rfl rfl (t_X4_open w x.2.1 hq15) (by decide) (by decide) rfl (Nat.le_of_ble_eq_true rfl) rfl dX10_lay_97 ?_
              show U shX w x r M17 100 [(4, .ref (w.2.2.1 c3)), (0, .ref (w.2.2.1 0)), (1, .int a1), (2, .int a2), (3, .int a3)] [rv w o16]
              cases o16 with
              | none => cases h
              | some c18 =>
                have h := ob_some h
                obtain ⟨k19, h⟩ := ob_if h
                show U shX w x r M17 100 [(4, .ref (w.2.2.1 c3)), (0, .ref (w.2.2.1 0)), (1, .int a1), (2, .int a2), (3, .int a3)] [.ref (w.2.2.1 c18)]
                refine gfX0_3 g k19 wf_X10_257 dX10_lay_100 ?_
                refine u_aload g 0 dX10_lay_103 rfl ?_
                obtain ⟨q20, hq21, h⟩ := ob_bind h
                refine u_callV (st := []) g wv_X10_341 [.ref (w.2.2.1 c3)] (kX_lt (kX_s0 k19) rfl) (ceX_9 (kX_s0 k19)) rfl rfl (t_X9_become w x.2.1 hq21) (by decide) (by decide) rfl (Nat.le_of_ble_eq_true rfl) rfl dX10_lay_105 ?_
                show U shX w x r q20 108 [(4, .ref (w.2.2.1 c3)), (0, .ref (w.2.2.1 0)), (1, .int a1), (2, .int a2), (3, .int a3)] []
                refine u_aload g 0 dX10_lay_108 rfl ?_
                refine u_iload_n g 3 dX10_lay_110 rfl ?_
                refine pfX9_0 g k4 wf_X10_344 dX10_lay_111 ?_
                refine u_aload g 0 dX10_lay_114 rfl ?_
                refine u_iload_n g 4 dX10_lay_116 rfl ?_
                refine pfX9_1 g k4 wf_X10_347 dX10_lay_117 ?_
                refine u_iload_n g 3 dX10_lay_120 rfl ?_
                refine u_iconst g (v := (3 : Int32)) dX10_lay_121 rfl ?_
                obtain ⟨q22, hq23, h⟩ := ob_bind h
                have K24 : U shX w x r q22 137 [(0, .ref (w.2.2.1 0))] [] := by
                  refine u_aload_n g 0 dX10_lay_137 rfl ?_
                  refine u_iconst g (v := (1 : Int32)) dX10_lay_138 rfl ?_
                  obtain ⟨q25, hq26, h⟩ := ob_bind h
                  refine u_callV (st := []) g wv_X10_103 [.int (1 : Int32)] (kX_lt (show kX 0 = 10 from rfl) rfl) (ceX_10 (show kX 0 = 10 from rfl)) rfl rfl (t_X10_accept w x.2.1 hq26) (by decide) (by decide) rfl (Nat.le_of_ble_eq_true rfl) rfl dX10_lay_139 ?_
                  show U shX w x r q25.2 142 [(0, .ref (w.2.2.1 0))] [.int q25.1]
                  exact u_iret g dX10_lay_142 (by rw [← hr]; obtain rfl := Option.some.inj h; rfl)
                have h := hq23
                refine u_icmp_ne g 137 dX10_lay_122 (by decide) (fun b27 => ?_) (fun b27 => ?_)
                · have h := ob_neg b27 h
                  obtain rfl := Option.some.inj h
                  exact u_sub [1] rfl K24
                · have h := ob_pos b27 h
                  refine u_aload g 0 dX10_lay_125 rfl ?_
                  refine gfX9_2 g k4 wf_X10_263 dX10_lay_127 ?_
                  refine u_aload_n g 1 dX10_lay_130 rfl ?_
                  refine gfX10_5 g (c := 0) rfl wf_X10_36 dX10_lay_131 ?_
                  obtain ⟨q28, hq29, h⟩ := ob_bind h
                  refine u_callV (st := []) g wv_X10_264 [.ref (w.2.2.1 7)] (kX_lt (kX_s9 k4) rfl) (ceX_6 (kX_s9 k4)) rfl rfl (t_X6_become w x.2.1 hq29) (by decide) (by decide) rfl (Nat.le_of_ble_eq_true rfl) rfl dX10_lay_134 ?_
                  show U shX w x r q28 137 [(4, .ref (w.2.2.1 c3)), (0, .ref (w.2.2.1 0)), (1, .int a1), (2, .int a2), (3, .int a3)] []
                  obtain rfl := Option.some.inj h
                  exact u_sub [1] rfl K24
            · have h := ob_pos b13 h
              refine u_aload_n g 1 dX10_lay_72 rfl ?_
              refine gfX10_0 g (c := 0) rfl wf_X10_10 dX10_lay_73 ?_
              refine u_iload_n g 4 dX10_lay_76 rfl ?_
              obtain ⟨q30, hq31, h⟩ := ob_bind h
              refine u_callV (st := []) g wv_X10_116 [.int a3] (kX_lt (show kX 1 = 5 from rfl) rfl) (ceX_5 (show kX 1 = 5 from rfl)) rfl rfl (t_X5_areASet w x.2.1 hq31) (by decide) (by decide) rfl (Nat.le_of_ble_eq_true rfl) rfl dX10_lay_77 ?_
              show U shX w x r M 80 [(4, .ref (w.2.2.1 c3)), (0, .ref (w.2.2.1 0)), (1, .int a1), (2, .int a2), (3, .int a3)] [.int q30]
              refine u_if_ne g 89 dX10_lay_80 (by decide) (fun b32 => ?_) (fun b32 => ?_)
              · have h := ob_neg b32 h
                refine u_aload_n g 1 dX10_lay_89 rfl ?_
                refine gfX10_7 g (c := 0) rfl wf_X10_49 dX10_lay_90 ?_
                refine u_bipush g (v := (6 : Int32)) dX10_lay_93 rfl ?_
                refine u_iload_n g 2 dX10_lay_95 rfl ?_
                refine u_iconst g (v := (0 : Int32)) dX10_lay_96 rfl ?_
                obtain ⟨⟨o35, M36⟩, hq34, h⟩ := ob_bind h
                refine u_callV (st := []) g wv_X10_99 [.int (6 : Int32), .int a1, .int (0 : Int32)] (kX_lt (show kX 10 = 4 from rfl) rfl) (ceX_4 (show kX 10 = 4 from rfl)) rfl rfl (t_X4_open w x.2.1 hq34) (by decide) (by decide) rfl (Nat.le_of_ble_eq_true rfl) rfl dX10_lay_97 ?_
                show U shX w x r M36 100 [(4, .ref (w.2.2.1 c3)), (0, .ref (w.2.2.1 0)), (1, .int a1), (2, .int a2), (3, .int a3)] [rv w o35]
                cases o35 with
                | none => cases h
                | some c37 =>
                  have h := ob_some h
                  obtain ⟨k38, h⟩ := ob_if h
                  show U shX w x r M36 100 [(4, .ref (w.2.2.1 c3)), (0, .ref (w.2.2.1 0)), (1, .int a1), (2, .int a2), (3, .int a3)] [.ref (w.2.2.1 c37)]
                  refine gfX0_3 g k38 wf_X10_257 dX10_lay_100 ?_
                  refine u_aload g 0 dX10_lay_103 rfl ?_
                  obtain ⟨q39, hq40, h⟩ := ob_bind h
                  refine u_callV (st := []) g wv_X10_341 [.ref (w.2.2.1 c3)] (kX_lt (kX_s0 k38) rfl) (ceX_9 (kX_s0 k38)) rfl rfl (t_X9_become w x.2.1 hq40) (by decide) (by decide) rfl (Nat.le_of_ble_eq_true rfl) rfl dX10_lay_105 ?_
                  show U shX w x r q39 108 [(4, .ref (w.2.2.1 c3)), (0, .ref (w.2.2.1 0)), (1, .int a1), (2, .int a2), (3, .int a3)] []
                  refine u_aload g 0 dX10_lay_108 rfl ?_
                  refine u_iload_n g 3 dX10_lay_110 rfl ?_
                  refine pfX9_0 g k4 wf_X10_344 dX10_lay_111 ?_
                  refine u_aload g 0 dX10_lay_114 rfl ?_
                  refine u_iload_n g 4 dX10_lay_116 rfl ?_
                  refine pfX9_1 g k4 wf_X10_347 dX10_lay_117 ?_
                  refine u_iload_n g 3 dX10_lay_120 rfl ?_
                  refine u_iconst g (v := (3 : Int32)) dX10_lay_121 rfl ?_
                  obtain ⟨q41, hq42, h⟩ := ob_bind h
                  have K43 : U shX w x r q41 137 [(0, .ref (w.2.2.1 0))] [] := by
                    refine u_aload_n g 0 dX10_lay_137 rfl ?_
                    refine u_iconst g (v := (1 : Int32)) dX10_lay_138 rfl ?_
                    obtain ⟨q44, hq45, h⟩ := ob_bind h
                    refine u_callV (st := []) g wv_X10_103 [.int (1 : Int32)] (kX_lt (show kX 0 = 10 from rfl) rfl) (ceX_10 (show kX 0 = 10 from rfl)) rfl rfl (t_X10_accept w x.2.1 hq45) (by decide) (by decide) rfl (Nat.le_of_ble_eq_true rfl) rfl dX10_lay_139 ?_
                    show U shX w x r q44.2 142 [(0, .ref (w.2.2.1 0))] [.int q44.1]
                    exact u_iret g dX10_lay_142 (by rw [← hr]; obtain rfl := Option.some.inj h; rfl)
                  have h := hq42
                  refine u_icmp_ne g 137 dX10_lay_122 (by decide) (fun b46 => ?_) (fun b46 => ?_)
                  · have h := ob_neg b46 h
                    obtain rfl := Option.some.inj h
                    exact u_sub [1] rfl K43
                  · have h := ob_pos b46 h
                    refine u_aload g 0 dX10_lay_125 rfl ?_
                    refine gfX9_2 g k4 wf_X10_263 dX10_lay_127 ?_
                    refine u_aload_n g 1 dX10_lay_130 rfl ?_
                    refine gfX10_5 g (c := 0) rfl wf_X10_36 dX10_lay_131 ?_
                    obtain ⟨q47, hq48, h⟩ := ob_bind h
                    refine u_callV (st := []) g wv_X10_264 [.ref (w.2.2.1 7)] (kX_lt (kX_s9 k4) rfl) (ceX_6 (kX_s9 k4)) rfl rfl (t_X6_become w x.2.1 hq48) (by decide) (by decide) rfl (Nat.le_of_ble_eq_true rfl) rfl dX10_lay_134 ?_
                    show U shX w x r q47 137 [(4, .ref (w.2.2.1 c3)), (0, .ref (w.2.2.1 0)), (1, .int a1), (2, .int a2), (3, .int a3)] []
                    obtain rfl := Option.some.inj h
                    exact u_sub [1] rfl K43
              · have h := ob_pos b32 h
                refine u_aload_n g 1 dX10_lay_83 rfl ?_
                refine u_iconst g (v := (2 : Int32)) dX10_lay_84 rfl ?_
                obtain ⟨q49, hq50, h⟩ := ob_bind h
                refine u_callV (st := []) g wv_X10_83 [.int (2 : Int32)] (kX_lt (show kX 0 = 10 from rfl) rfl) (ceX_10 (show kX 0 = 10 from rfl)) rfl rfl (t_X10_refuse w x.2.1 hq50) (by decide) (by decide) rfl (Nat.le_of_ble_eq_true rfl) rfl dX10_lay_85 ?_
                show U shX w x r q49.2 88 [(4, .ref (w.2.2.1 c3)), (0, .ref (w.2.2.1 0)), (1, .int a1), (2, .int a2), (3, .int a3)] [.int q49.1]
                exact u_iret g dX10_lay_88 (by rw [← hr]; obtain rfl := Option.some.inj h; rfl)
          · have h := ob_pos b12 h
            refine u_aload_n g 1 dX10_lay_51 rfl ?_
            refine gfX10_5 g (c := 0) rfl wf_X10_36 dX10_lay_52 ?_
            obtain ⟨q51, hq52, h⟩ := ob_bind h
            refine u_callV (st := []) g wv_X10_339 [] (kX_lt (show kX 7 = 6 from rfl) rfl) (ceX_6 (show kX 7 = 6 from rfl)) rfl rfl (t_X6_isThere w x.2.1 hq52) (by decide) (by decide) rfl (Nat.le_of_ble_eq_true rfl) rfl dX10_lay_55 ?_
            show U shX w x r M 58 [(4, .ref (w.2.2.1 c3)), (0, .ref (w.2.2.1 0)), (1, .int a1), (2, .int a2), (3, .int a3)] [.int q51]
            refine u_if_ne g 67 dX10_lay_58 (by decide) (fun b53 => ?_) (fun b53 => ?_)
            · have h := ob_neg b53 h
              refine u_iload_n g 3 dX10_lay_67 rfl ?_
              refine u_iconst g (v := (2 : Int32)) dX10_lay_68 rfl ?_
              refine u_icmp_ne g 89 dX10_lay_69 (by decide) (fun b54 => ?_) (fun b54 => ?_)
              · have h := ob_neg b54 h
                refine u_aload_n g 1 dX10_lay_89 rfl ?_
                refine gfX10_7 g (c := 0) rfl wf_X10_49 dX10_lay_90 ?_
                refine u_bipush g (v := (6 : Int32)) dX10_lay_93 rfl ?_
                refine u_iload_n g 2 dX10_lay_95 rfl ?_
                refine u_iconst g (v := (0 : Int32)) dX10_lay_96 rfl ?_
                obtain ⟨⟨o57, M58⟩, hq56, h⟩ := ob_bind h
                refine u_callV (st := []) g wv_X10_99 [.int (6 : Int32), .int a1, .int (0 : Int32)] (kX_lt (show kX 10 = 4 from rfl) rfl) (ceX_4 (show kX 10 = 4 from rfl)) rfl rfl (t_X4_open w x.2.1 hq56) (by decide) (by decide) rfl (Nat.le_of_ble_eq_true rfl) rfl dX10_lay_97 ?_
                show U shX w x r M58 100 [(4, .ref (w.2.2.1 c3)), (0, .ref (w.2.2.1 0)), (1, .int a1), (2, .int a2), (3, .int a3)] [rv w o57]
                cases o57 with
                | none => cases h
                | some c59 =>
                  have h := ob_some h
                  obtain ⟨k60, h⟩ := ob_if h
                  show U shX w x r M58 100 [(4, .ref (w.2.2.1 c3)), (0, .ref (w.2.2.1 0)), (1, .int a1), (2, .int a2), (3, .int a3)] [.ref (w.2.2.1 c59)]
                  refine gfX0_3 g k60 wf_X10_257 dX10_lay_100 ?_
                  refine u_aload g 0 dX10_lay_103 rfl ?_
                  obtain ⟨q61, hq62, h⟩ := ob_bind h
                  refine u_callV (st := []) g wv_X10_341 [.ref (w.2.2.1 c3)] (kX_lt (kX_s0 k60) rfl) (ceX_9 (kX_s0 k60)) rfl rfl (t_X9_become w x.2.1 hq62) (by decide) (by decide) rfl (Nat.le_of_ble_eq_true rfl) rfl dX10_lay_105 ?_
                  show U shX w x r q61 108 [(4, .ref (w.2.2.1 c3)), (0, .ref (w.2.2.1 0)), (1, .int a1), (2, .int a2), (3, .int a3)] []
                  refine u_aload g 0 dX10_lay_108 rfl ?_
                  refine u_iload_n g 3 dX10_lay_110 rfl ?_
                  refine pfX9_0 g k4 wf_X10_344 dX10_lay_111 ?_
                  refine u_aload g 0 dX10_lay_114 rfl ?_
                  refine u_iload_n g 4 dX10_lay_116 rfl ?_
                  refine pfX9_1 g k4 wf_X10_347 dX10_lay_117 ?_
                  refine u_iload_n g 3 dX10_lay_120 rfl ?_
                  refine u_iconst g (v := (3 : Int32)) dX10_lay_121 rfl ?_
                  obtain ⟨q63, hq64, h⟩ := ob_bind h
                  have K65 : U shX w x r q63 137 [(0, .ref (w.2.2.1 0))] [] := by
                    refine u_aload_n g 0 dX10_lay_137 rfl ?_
                    refine u_iconst g (v := (1 : Int32)) dX10_lay_138 rfl ?_
                    obtain ⟨q66, hq67, h⟩ := ob_bind h
                    refine u_callV (st := []) g wv_X10_103 [.int (1 : Int32)] (kX_lt (show kX 0 = 10 from rfl) rfl) (ceX_10 (show kX 0 = 10 from rfl)) rfl rfl (t_X10_accept w x.2.1 hq67) (by decide) (by decide) rfl (Nat.le_of_ble_eq_true rfl) rfl dX10_lay_139 ?_
                    show U shX w x r q66.2 142 [(0, .ref (w.2.2.1 0))] [.int q66.1]
                    exact u_iret g dX10_lay_142 (by rw [← hr]; obtain rfl := Option.some.inj h; rfl)
                  have h := hq64
                  refine u_icmp_ne g 137 dX10_lay_122 (by decide) (fun b68 => ?_) (fun b68 => ?_)
                  · have h := ob_neg b68 h
                    obtain rfl := Option.some.inj h
                    exact u_sub [1] rfl K65
                  · have h := ob_pos b68 h
                    refine u_aload g 0 dX10_lay_125 rfl ?_
                    refine gfX9_2 g k4 wf_X10_263 dX10_lay_127 ?_
                    refine u_aload_n g 1 dX10_lay_130 rfl ?_
                    refine gfX10_5 g (c := 0) rfl wf_X10_36 dX10_lay_131 ?_
                    obtain ⟨q69, hq70, h⟩ := ob_bind h
                    refine u_callV (st := []) g wv_X10_264 [.ref (w.2.2.1 7)] (kX_lt (kX_s9 k4) rfl) (ceX_6 (kX_s9 k4)) rfl rfl (t_X6_become w x.2.1 hq70) (by decide) (by decide) rfl (Nat.le_of_ble_eq_true rfl) rfl dX10_lay_134 ?_
                    show U shX w x r q69 137 [(4, .ref (w.2.2.1 c3)), (0, .ref (w.2.2.1 0)), (1, .int a1), (2, .int a2), (3, .int a3)] []
                    obtain rfl := Option.some.inj h
                    exact u_sub [1] rfl K65
              · have h := ob_pos b54 h
                refine u_aload_n g 1 dX10_lay_72 rfl ?_
                refine gfX10_0 g (c := 0) rfl wf_X10_10 dX10_lay_73 ?_
                refine u_iload_n g 4 dX10_lay_76 rfl ?_
                obtain ⟨q71, hq72, h⟩ := ob_bind h
                refine u_callV (st := []) g wv_X10_116 [.int a3] (kX_lt (show kX 1 = 5 from rfl) rfl) (ceX_5 (show kX 1 = 5 from rfl)) rfl rfl (t_X5_areASet w x.2.1 hq72) (by decide) (by decide) rfl (Nat.le_of_ble_eq_true rfl) rfl dX10_lay_77 ?_
                show U shX w x r M 80 [(4, .ref (w.2.2.1 c3)), (0, .ref (w.2.2.1 0)), (1, .int a1), (2, .int a2), (3, .int a3)] [.int q71]
                refine u_if_ne g 89 dX10_lay_80 (by decide) (fun b73 => ?_) (fun b73 => ?_)
                · have h := ob_neg b73 h
                  refine u_aload_n g 1 dX10_lay_89 rfl ?_
                  refine gfX10_7 g (c := 0) rfl wf_X10_49 dX10_lay_90 ?_
                  refine u_bipush g (v := (6 : Int32)) dX10_lay_93 rfl ?_
                  refine u_iload_n g 2 dX10_lay_95 rfl ?_
                  refine u_iconst g (v := (0 : Int32)) dX10_lay_96 rfl ?_
                  obtain ⟨⟨o76, M77⟩, hq75, h⟩ := ob_bind h
                  refine u_callV (st := []) g wv_X10_99 [.int (6 : Int32), .int a1, .int (0 : Int32)] (kX_lt (show kX 10 = 4 from rfl) rfl) (ceX_4 (show kX 10 = 4 from rfl)) rfl rfl (t_X4_open w x.2.1 hq75) (by decide) (by decide) rfl (Nat.le_of_ble_eq_true rfl) rfl dX10_lay_97 ?_
                  show U shX w x r M77 100 [(4, .ref (w.2.2.1 c3)), (0, .ref (w.2.2.1 0)), (1, .int a1), (2, .int a2), (3, .int a3)] [rv w o76]
                  cases o76 with
                  | none => cases h
                  | some c78 =>
                    have h := ob_some h
                    obtain ⟨k79, h⟩ := ob_if h
                    show U shX w x r M77 100 [(4, .ref (w.2.2.1 c3)), (0, .ref (w.2.2.1 0)), (1, .int a1), (2, .int a2), (3, .int a3)] [.ref (w.2.2.1 c78)]
                    refine gfX0_3 g k79 wf_X10_257 dX10_lay_100 ?_
                    refine u_aload g 0 dX10_lay_103 rfl ?_
                    obtain ⟨q80, hq81, h⟩ := ob_bind h
                    refine u_callV (st := []) g wv_X10_341 [.ref (w.2.2.1 c3)] (kX_lt (kX_s0 k79) rfl) (ceX_9 (kX_s0 k79)) rfl rfl (t_X9_become w x.2.1 hq81) (by decide) (by decide) rfl (Nat.le_of_ble_eq_true rfl) rfl dX10_lay_105 ?_
                    show U shX w x r q80 108 [(4, .ref (w.2.2.1 c3)), (0, .ref (w.2.2.1 0)), (1, .int a1), (2, .int a2), (3, .int a3)] []
                    refine u_aload g 0 dX10_lay_108 rfl ?_
                    refine u_iload_n g 3 dX10_lay_110 rfl ?_
                    refine pfX9_0 g k4 wf_X10_344 dX10_lay_111 ?_
                    refine u_aload g 0 dX10_lay_114 rfl ?_
                    refine u_iload_n g 4 dX10_lay_116 rfl ?_
                    refine pfX9_1 g k4 wf_X10_347 dX10_lay_117 ?_
                    refine u_iload_n g 3 dX10_lay_120 rfl ?_
                    refine u_iconst g (v := (3 : Int32)) dX10_lay_121 rfl ?_
                    obtain ⟨q82, hq83, h⟩ := ob_bind h
                    have K84 : U shX w x r q82 137 [(0, .ref (w.2.2.1 0))] [] := by
                      refine u_aload_n g 0 dX10_lay_137 rfl ?_
                      refine u_iconst g (v := (1 : Int32)) dX10_lay_138 rfl ?_
                      obtain ⟨q85, hq86, h⟩ := ob_bind h
                      refine u_callV (st := []) g wv_X10_103 [.int (1 : Int32)] (kX_lt (show kX 0 = 10 from rfl) rfl) (ceX_10 (show kX 0 = 10 from rfl)) rfl rfl (t_X10_accept w x.2.1 hq86) (by decide) (by decide) rfl (Nat.le_of_ble_eq_true rfl) rfl dX10_lay_139 ?_
                      show U shX w x r q85.2 142 [(0, .ref (w.2.2.1 0))] [.int q85.1]
                      exact u_iret g dX10_lay_142 (by rw [← hr]; obtain rfl := Option.some.inj h; rfl)
                    have h := hq83
                    refine u_icmp_ne g 137 dX10_lay_122 (by decide) (fun b87 => ?_) (fun b87 => ?_)
                    · have h := ob_neg b87 h
                      obtain rfl := Option.some.inj h
                      exact u_sub [1] rfl K84
                    · have h := ob_pos b87 h
                      refine u_aload g 0 dX10_lay_125 rfl ?_
                      refine gfX9_2 g k4 wf_X10_263 dX10_lay_127 ?_
                      refine u_aload_n g 1 dX10_lay_130 rfl ?_
                      refine gfX10_5 g (c := 0) rfl wf_X10_36 dX10_lay_131 ?_
                      obtain ⟨q88, hq89, h⟩ := ob_bind h
                      refine u_callV (st := []) g wv_X10_264 [.ref (w.2.2.1 7)] (kX_lt (kX_s9 k4) rfl) (ceX_6 (kX_s9 k4)) rfl rfl (t_X6_become w x.2.1 hq89) (by decide) (by decide) rfl (Nat.le_of_ble_eq_true rfl) rfl dX10_lay_134 ?_
                      show U shX w x r q88 137 [(4, .ref (w.2.2.1 c3)), (0, .ref (w.2.2.1 0)), (1, .int a1), (2, .int a2), (3, .int a3)] []
                      obtain rfl := Option.some.inj h
                      exact u_sub [1] rfl K84
                · have h := ob_pos b73 h
                  refine u_aload_n g 1 dX10_lay_83 rfl ?_
                  refine u_iconst g (v := (2 : Int32)) dX10_lay_84 rfl ?_
                  obtain ⟨q90, hq91, h⟩ := ob_bind h
                  refine u_callV (st := []) g wv_X10_83 [.int (2 : Int32)] (kX_lt (show kX 0 = 10 from rfl) rfl) (ceX_10 (show kX 0 = 10 from rfl)) rfl rfl (t_X10_refuse w x.2.1 hq91) (by decide) (by decide) rfl (Nat.le_of_ble_eq_true rfl) rfl dX10_lay_85 ?_
                  show U shX w x r q90.2 88 [(4, .ref (w.2.2.1 c3)), (0, .ref (w.2.2.1 0)), (1, .int a1), (2, .int a2), (3, .int a3)] [.int q90.1]
                  exact u_iret g dX10_lay_88 (by rw [← hr]; obtain rfl := Option.some.inj h; rfl)
            · have h := ob_pos b53 h
              refine u_aload_n g 1 dX10_lay_61 rfl ?_
              refine u_iconst g (v := (1 : Int32)) dX10_lay_62 rfl ?_
              obtain ⟨q92, hq93, h⟩ := ob_bind h
              refine u_callV (st := []) g wv_X10_83 [.int (1 : Int32)] (kX_lt (show kX 0 = 10 from rfl) rfl) (ceX_10 (show kX 0 = 10 from rfl)) rfl rfl (t_X10_refuse w x.2.1 hq93) (by decide) (by decide) rfl (Nat.le_of_ble_eq_true rfl) rfl dX10_lay_63 ?_
              show U shX w x r q92.2 66 [(4, .ref (w.2.2.1 c3)), (0, .ref (w.2.2.1 0)), (1, .int a1), (2, .int a2), (3, .int a3)] [.int q92.1]
              exact u_iret g dX10_lay_66 (by rw [← hr]; obtain rfl := Option.some.inj h; rfl)
        · have h := ob_pos b11 h
          refine u_aload_n g 1 dX10_lay_38 rfl ?_
          refine u_iload_n g 4 dX10_lay_39 rfl ?_
          obtain ⟨q94, hq95, h⟩ := ob_bind h
          refine u_callV (st := []) g wv_X10_166 [.int a3] (kX_lt (show kX 0 = 10 from rfl) rfl) (ceX_10 (show kX 0 = 10 from rfl)) rfl rfl (t_X10_familyAt w x.2.1 hq95) (by decide) (by decide) rfl (Nat.le_of_ble_eq_true rfl) rfl dX10_lay_40 ?_
          show U shX w x r M 43 [(4, .ref (w.2.2.1 c3)), (0, .ref (w.2.2.1 0)), (1, .int a1), (2, .int a2), (3, .int a3)] [rv w q94]
          cases q94 with
          | none =>
            have h := ob_none h
            refine u_isnullN g 61 dX10_lay_43 (by decide) ?_
            show U shX w x r M 61 [(4, .ref (w.2.2.1 c3)), (0, .ref (w.2.2.1 0)), (1, .int a1), (2, .int a2), (3, .int a3)] []
            refine u_aload_n g 1 dX10_lay_61 rfl ?_
            refine u_iconst g (v := (1 : Int32)) dX10_lay_62 rfl ?_
            obtain ⟨q98, hq99, h⟩ := ob_bind h
            refine u_callV (st := []) g wv_X10_83 [.int (1 : Int32)] (kX_lt (show kX 0 = 10 from rfl) rfl) (ceX_10 (show kX 0 = 10 from rfl)) rfl rfl (t_X10_refuse w x.2.1 hq99) (by decide) (by decide) rfl (Nat.le_of_ble_eq_true rfl) rfl dX10_lay_63 ?_
            show U shX w x r q98.2 66 [(4, .ref (w.2.2.1 c3)), (0, .ref (w.2.2.1 0)), (1, .int a1), (2, .int a2), (3, .int a3)] [.int q98.1]
            exact u_iret g dX10_lay_66 (by rw [← hr]; obtain rfl := Option.some.inj h; rfl)
          | some c96 =>
            have h := ob_some h
            obtain ⟨k97, h⟩ := ob_if h
            refine u_isnull g dX10_lay_43 ?_
            show U shX w x r M 46 [(4, .ref (w.2.2.1 c3)), (0, .ref (w.2.2.1 0)), (1, .int a1), (2, .int a2), (3, .int a3)] []
            refine u_iload_n g 3 dX10_lay_46 rfl ?_
            refine u_iconst g (v := (3 : Int32)) dX10_lay_47 rfl ?_
            refine u_icmp_ne g 67 dX10_lay_48 (by decide) (fun b100 => ?_) (fun b100 => ?_)
            · have h := ob_neg b100 h
              refine u_iload_n g 3 dX10_lay_67 rfl ?_
              refine u_iconst g (v := (2 : Int32)) dX10_lay_68 rfl ?_
              refine u_icmp_ne g 89 dX10_lay_69 (by decide) (fun b101 => ?_) (fun b101 => ?_)
              · have h := ob_neg b101 h
                refine u_aload_n g 1 dX10_lay_89 rfl ?_
                refine gfX10_7 g (c := 0) rfl wf_X10_49 dX10_lay_90 ?_
                refine u_bipush g (v := (6 : Int32)) dX10_lay_93 rfl ?_
                refine u_iload_n g 2 dX10_lay_95 rfl ?_
                refine u_iconst g (v := (0 : Int32)) dX10_lay_96 rfl ?_
                obtain ⟨⟨o104, M105⟩, hq103, h⟩ := ob_bind h
                refine u_callV (st := []) g wv_X10_99 [.int (6 : Int32), .int a1, .int (0 : Int32)] (kX_lt (show kX 10 = 4 from rfl) rfl) (ceX_4 (show kX 10 = 4 from rfl)) rfl rfl (t_X4_open w x.2.1 hq103) (by decide) (by decide) rfl (Nat.le_of_ble_eq_true rfl) rfl dX10_lay_97 ?_
                show U shX w x r M105 100 [(4, .ref (w.2.2.1 c3)), (0, .ref (w.2.2.1 0)), (1, .int a1), (2, .int a2), (3, .int a3)] [rv w o104]
                cases o104 with
                | none => cases h
                | some c106 =>
                  have h := ob_some h
                  obtain ⟨k107, h⟩ := ob_if h
                  show U shX w x r M105 100 [(4, .ref (w.2.2.1 c3)), (0, .ref (w.2.2.1 0)), (1, .int a1), (2, .int a2), (3, .int a3)] [.ref (w.2.2.1 c106)]
                  refine gfX0_3 g k107 wf_X10_257 dX10_lay_100 ?_
                  refine u_aload g 0 dX10_lay_103 rfl ?_
                  obtain ⟨q108, hq109, h⟩ := ob_bind h
                  refine u_callV (st := []) g wv_X10_341 [.ref (w.2.2.1 c3)] (kX_lt (kX_s0 k107) rfl) (ceX_9 (kX_s0 k107)) rfl rfl (t_X9_become w x.2.1 hq109) (by decide) (by decide) rfl (Nat.le_of_ble_eq_true rfl) rfl dX10_lay_105 ?_
                  show U shX w x r q108 108 [(4, .ref (w.2.2.1 c3)), (0, .ref (w.2.2.1 0)), (1, .int a1), (2, .int a2), (3, .int a3)] []
                  refine u_aload g 0 dX10_lay_108 rfl ?_
                  refine u_iload_n g 3 dX10_lay_110 rfl ?_
                  refine pfX9_0 g k4 wf_X10_344 dX10_lay_111 ?_
                  refine u_aload g 0 dX10_lay_114 rfl ?_
                  refine u_iload_n g 4 dX10_lay_116 rfl ?_
                  refine pfX9_1 g k4 wf_X10_347 dX10_lay_117 ?_
                  refine u_iload_n g 3 dX10_lay_120 rfl ?_
                  refine u_iconst g (v := (3 : Int32)) dX10_lay_121 rfl ?_
                  obtain ⟨q110, hq111, h⟩ := ob_bind h
                  have K112 : U shX w x r q110 137 [(0, .ref (w.2.2.1 0))] [] := by
                    refine u_aload_n g 0 dX10_lay_137 rfl ?_
                    refine u_iconst g (v := (1 : Int32)) dX10_lay_138 rfl ?_
                    obtain ⟨q113, hq114, h⟩ := ob_bind h
                    refine u_callV (st := []) g wv_X10_103 [.int (1 : Int32)] (kX_lt (show kX 0 = 10 from rfl) rfl) (ceX_10 (show kX 0 = 10 from rfl)) rfl rfl (t_X10_accept w x.2.1 hq114) (by decide) (by decide) rfl (Nat.le_of_ble_eq_true rfl) rfl dX10_lay_139 ?_
                    show U shX w x r q113.2 142 [(0, .ref (w.2.2.1 0))] [.int q113.1]
                    exact u_iret g dX10_lay_142 (by rw [← hr]; obtain rfl := Option.some.inj h; rfl)
                  have h := hq111
                  refine u_icmp_ne g 137 dX10_lay_122 (by decide) (fun b115 => ?_) (fun b115 => ?_)
                  · have h := ob_neg b115 h
                    obtain rfl := Option.some.inj h
                    exact u_sub [1] rfl K112
                  · have h := ob_pos b115 h
                    refine u_aload g 0 dX10_lay_125 rfl ?_
                    refine gfX9_2 g k4 wf_X10_263 dX10_lay_127 ?_
                    refine u_aload_n g 1 dX10_lay_130 rfl ?_
                    refine gfX10_5 g (c := 0) rfl wf_X10_36 dX10_lay_131 ?_
                    obtain ⟨q116, hq117, h⟩ := ob_bind h
                    refine u_callV (st := []) g wv_X10_264 [.ref (w.2.2.1 7)] (kX_lt (kX_s9 k4) rfl) (ceX_6 (kX_s9 k4)) rfl rfl (t_X6_become w x.2.1 hq117) (by decide) (by decide) rfl (Nat.le_of_ble_eq_true rfl) rfl dX10_lay_134 ?_
                    show U shX w x r q116 137 [(4, .ref (w.2.2.1 c3)), (0, .ref (w.2.2.1 0)), (1, .int a1), (2, .int a2), (3, .int a3)] []
                    obtain rfl := Option.some.inj h
                    exact u_sub [1] rfl K112
              · have h := ob_pos b101 h
                refine u_aload_n g 1 dX10_lay_72 rfl ?_
                refine gfX10_0 g (c := 0) rfl wf_X10_10 dX10_lay_73 ?_
                refine u_iload_n g 4 dX10_lay_76 rfl ?_
                obtain ⟨q118, hq119, h⟩ := ob_bind h
                refine u_callV (st := []) g wv_X10_116 [.int a3] (kX_lt (show kX 1 = 5 from rfl) rfl) (ceX_5 (show kX 1 = 5 from rfl)) rfl rfl (t_X5_areASet w x.2.1 hq119) (by decide) (by decide) rfl (Nat.le_of_ble_eq_true rfl) rfl dX10_lay_77 ?_
                show U shX w x r M 80 [(4, .ref (w.2.2.1 c3)), (0, .ref (w.2.2.1 0)), (1, .int a1), (2, .int a2), (3, .int a3)] [.int q118]
                refine u_if_ne g 89 dX10_lay_80 (by decide) (fun b120 => ?_) (fun b120 => ?_)
                · have h := ob_neg b120 h
                  refine u_aload_n g 1 dX10_lay_89 rfl ?_
                  refine gfX10_7 g (c := 0) rfl wf_X10_49 dX10_lay_90 ?_
                  refine u_bipush g (v := (6 : Int32)) dX10_lay_93 rfl ?_
                  refine u_iload_n g 2 dX10_lay_95 rfl ?_
                  refine u_iconst g (v := (0 : Int32)) dX10_lay_96 rfl ?_
                  obtain ⟨⟨o123, M124⟩, hq122, h⟩ := ob_bind h
                  refine u_callV (st := []) g wv_X10_99 [.int (6 : Int32), .int a1, .int (0 : Int32)] (kX_lt (show kX 10 = 4 from rfl) rfl) (ceX_4 (show kX 10 = 4 from rfl)) rfl rfl (t_X4_open w x.2.1 hq122) (by decide) (by decide) rfl (Nat.le_of_ble_eq_true rfl) rfl dX10_lay_97 ?_
                  show U shX w x r M124 100 [(4, .ref (w.2.2.1 c3)), (0, .ref (w.2.2.1 0)), (1, .int a1), (2, .int a2), (3, .int a3)] [rv w o123]
                  cases o123 with
                  | none => cases h
                  | some c125 =>
                    have h := ob_some h
                    obtain ⟨k126, h⟩ := ob_if h
                    show U shX w x r M124 100 [(4, .ref (w.2.2.1 c3)), (0, .ref (w.2.2.1 0)), (1, .int a1), (2, .int a2), (3, .int a3)] [.ref (w.2.2.1 c125)]
                    refine gfX0_3 g k126 wf_X10_257 dX10_lay_100 ?_
                    refine u_aload g 0 dX10_lay_103 rfl ?_
                    obtain ⟨q127, hq128, h⟩ := ob_bind h
                    refine u_callV (st := []) g wv_X10_341 [.ref (w.2.2.1 c3)] (kX_lt (kX_s0 k126) rfl) (ceX_9 (kX_s0 k126)) rfl rfl (t_X9_become w x.2.1 hq128) (by decide) (by decide) rfl (Nat.le_of_ble_eq_true rfl) rfl dX10_lay_105 ?_
                    show U shX w x r q127 108 [(4, .ref (w.2.2.1 c3)), (0, .ref (w.2.2.1 0)), (1, .int a1), (2, .int a2), (3, .int a3)] []
                    refine u_aload g 0 dX10_lay_108 rfl ?_
                    refine u_iload_n g 3 dX10_lay_110 rfl ?_
                    refine pfX9_0 g k4 wf_X10_344 dX10_lay_111 ?_
                    refine u_aload g 0 dX10_lay_114 rfl ?_
                    refine u_iload_n g 4 dX10_lay_116 rfl ?_
                    refine pfX9_1 g k4 wf_X10_347 dX10_lay_117 ?_
                    refine u_iload_n g 3 dX10_lay_120 rfl ?_
                    refine u_iconst g (v := (3 : Int32)) dX10_lay_121 rfl ?_
                    obtain ⟨q129, hq130, h⟩ := ob_bind h
                    have K131 : U shX w x r q129 137 [(0, .ref (w.2.2.1 0))] [] := by
                      refine u_aload_n g 0 dX10_lay_137 rfl ?_
                      refine u_iconst g (v := (1 : Int32)) dX10_lay_138 rfl ?_
                      obtain ⟨q132, hq133, h⟩ := ob_bind h
                      refine u_callV (st := []) g wv_X10_103 [.int (1 : Int32)] (kX_lt (show kX 0 = 10 from rfl) rfl) (ceX_10 (show kX 0 = 10 from rfl)) rfl rfl (t_X10_accept w x.2.1 hq133) (by decide) (by decide) rfl (Nat.le_of_ble_eq_true rfl) rfl dX10_lay_139 ?_
                      show U shX w x r q132.2 142 [(0, .ref (w.2.2.1 0))] [.int q132.1]
                      exact u_iret g dX10_lay_142 (by rw [← hr]; obtain rfl := Option.some.inj h; rfl)
                    have h := hq130
                    refine u_icmp_ne g 137 dX10_lay_122 (by decide) (fun b134 => ?_) (fun b134 => ?_)
                    · have h := ob_neg b134 h
                      obtain rfl := Option.some.inj h
                      exact u_sub [1] rfl K131
                    · have h := ob_pos b134 h
                      refine u_aload g 0 dX10_lay_125 rfl ?_
                      refine gfX9_2 g k4 wf_X10_263 dX10_lay_127 ?_
                      refine u_aload_n g 1 dX10_lay_130 rfl ?_
                      refine gfX10_5 g (c := 0) rfl wf_X10_36 dX10_lay_131 ?_
                      obtain ⟨q135, hq136, h⟩ := ob_bind h
                      refine u_callV (st := []) g wv_X10_264 [.ref (w.2.2.1 7)] (kX_lt (kX_s9 k4) rfl) (ceX_6 (kX_s9 k4)) rfl rfl (t_X6_become w x.2.1 hq136) (by decide) (by decide) rfl (Nat.le_of_ble_eq_true rfl) rfl dX10_lay_134 ?_
                      show U shX w x r q135 137 [(4, .ref (w.2.2.1 c3)), (0, .ref (w.2.2.1 0)), (1, .int a1), (2, .int a2), (3, .int a3)] []
                      obtain rfl := Option.some.inj h
                      exact u_sub [1] rfl K131
                · have h := ob_pos b120 h
                  refine u_aload_n g 1 dX10_lay_83 rfl ?_
                  refine u_iconst g (v := (2 : Int32)) dX10_lay_84 rfl ?_
                  obtain ⟨q137, hq138, h⟩ := ob_bind h
                  refine u_callV (st := []) g wv_X10_83 [.int (2 : Int32)] (kX_lt (show kX 0 = 10 from rfl) rfl) (ceX_10 (show kX 0 = 10 from rfl)) rfl rfl (t_X10_refuse w x.2.1 hq138) (by decide) (by decide) rfl (Nat.le_of_ble_eq_true rfl) rfl dX10_lay_85 ?_
                  show U shX w x r q137.2 88 [(4, .ref (w.2.2.1 c3)), (0, .ref (w.2.2.1 0)), (1, .int a1), (2, .int a2), (3, .int a3)] [.int q137.1]
                  exact u_iret g dX10_lay_88 (by rw [← hr]; obtain rfl := Option.some.inj h; rfl)
            · have h := ob_pos b100 h
              refine u_aload_n g 1 dX10_lay_51 rfl ?_
              refine gfX10_5 g (c := 0) rfl wf_X10_36 dX10_lay_52 ?_
              obtain ⟨q139, hq140, h⟩ := ob_bind h
              refine u_callV (st := []) g wv_X10_339 [] (kX_lt (show kX 7 = 6 from rfl) rfl) (ceX_6 (show kX 7 = 6 from rfl)) rfl rfl (t_X6_isThere w x.2.1 hq140) (by decide) (by decide) rfl (Nat.le_of_ble_eq_true rfl) rfl dX10_lay_55 ?_
              show U shX w x r M 58 [(4, .ref (w.2.2.1 c3)), (0, .ref (w.2.2.1 0)), (1, .int a1), (2, .int a2), (3, .int a3)] [.int q139]
              refine u_if_ne g 67 dX10_lay_58 (by decide) (fun b141 => ?_) (fun b141 => ?_)
              · have h := ob_neg b141 h
                refine u_iload_n g 3 dX10_lay_67 rfl ?_
                refine u_iconst g (v := (2 : Int32)) dX10_lay_68 rfl ?_
                refine u_icmp_ne g 89 dX10_lay_69 (by decide) (fun b142 => ?_) (fun b142 => ?_)
                · have h := ob_neg b142 h
                  refine u_aload_n g 1 dX10_lay_89 rfl ?_
                  refine gfX10_7 g (c := 0) rfl wf_X10_49 dX10_lay_90 ?_
                  refine u_bipush g (v := (6 : Int32)) dX10_lay_93 rfl ?_
                  refine u_iload_n g 2 dX10_lay_95 rfl ?_
                  refine u_iconst g (v := (0 : Int32)) dX10_lay_96 rfl ?_
                  obtain ⟨⟨o145, M146⟩, hq144, h⟩ := ob_bind h
                  refine u_callV (st := []) g wv_X10_99 [.int (6 : Int32), .int a1, .int (0 : Int32)] (kX_lt (show kX 10 = 4 from rfl) rfl) (ceX_4 (show kX 10 = 4 from rfl)) rfl rfl (t_X4_open w x.2.1 hq144) (by decide) (by decide) rfl (Nat.le_of_ble_eq_true rfl) rfl dX10_lay_97 ?_
                  show U shX w x r M146 100 [(4, .ref (w.2.2.1 c3)), (0, .ref (w.2.2.1 0)), (1, .int a1), (2, .int a2), (3, .int a3)] [rv w o145]
                  cases o145 with
                  | none => cases h
                  | some c147 =>
                    have h := ob_some h
                    obtain ⟨k148, h⟩ := ob_if h
                    show U shX w x r M146 100 [(4, .ref (w.2.2.1 c3)), (0, .ref (w.2.2.1 0)), (1, .int a1), (2, .int a2), (3, .int a3)] [.ref (w.2.2.1 c147)]
                    refine gfX0_3 g k148 wf_X10_257 dX10_lay_100 ?_
                    refine u_aload g 0 dX10_lay_103 rfl ?_
                    obtain ⟨q149, hq150, h⟩ := ob_bind h
                    refine u_callV (st := []) g wv_X10_341 [.ref (w.2.2.1 c3)] (kX_lt (kX_s0 k148) rfl) (ceX_9 (kX_s0 k148)) rfl rfl (t_X9_become w x.2.1 hq150) (by decide) (by decide) rfl (Nat.le_of_ble_eq_true rfl) rfl dX10_lay_105 ?_
                    show U shX w x r q149 108 [(4, .ref (w.2.2.1 c3)), (0, .ref (w.2.2.1 0)), (1, .int a1), (2, .int a2), (3, .int a3)] []
                    refine u_aload g 0 dX10_lay_108 rfl ?_
                    refine u_iload_n g 3 dX10_lay_110 rfl ?_
                    refine pfX9_0 g k4 wf_X10_344 dX10_lay_111 ?_
                    refine u_aload g 0 dX10_lay_114 rfl ?_
                    refine u_iload_n g 4 dX10_lay_116 rfl ?_
                    refine pfX9_1 g k4 wf_X10_347 dX10_lay_117 ?_
                    refine u_iload_n g 3 dX10_lay_120 rfl ?_
                    refine u_iconst g (v := (3 : Int32)) dX10_lay_121 rfl ?_
                    obtain ⟨q151, hq152, h⟩ := ob_bind h
                    have K153 : U shX w x r q151 137 [(0, .ref (w.2.2.1 0))] [] := by
                      refine u_aload_n g 0 dX10_lay_137 rfl ?_
                      refine u_iconst g (v := (1 : Int32)) dX10_lay_138 rfl ?_
                      obtain ⟨q154, hq155, h⟩ := ob_bind h
                      refine u_callV (st := []) g wv_X10_103 [.int (1 : Int32)] (kX_lt (show kX 0 = 10 from rfl) rfl) (ceX_10 (show kX 0 = 10 from rfl)) rfl rfl (t_X10_accept w x.2.1 hq155) (by decide) (by decide) rfl (Nat.le_of_ble_eq_true rfl) rfl dX10_lay_139 ?_
                      show U shX w x r q154.2 142 [(0, .ref (w.2.2.1 0))] [.int q154.1]
                      exact u_iret g dX10_lay_142 (by rw [← hr]; obtain rfl := Option.some.inj h; rfl)
                    have h := hq152
                    refine u_icmp_ne g 137 dX10_lay_122 (by decide) (fun b156 => ?_) (fun b156 => ?_)
                    · have h := ob_neg b156 h
                      obtain rfl := Option.some.inj h
                      exact u_sub [1] rfl K153
                    · have h := ob_pos b156 h
                      refine u_aload g 0 dX10_lay_125 rfl ?_
                      refine gfX9_2 g k4 wf_X10_263 dX10_lay_127 ?_
                      refine u_aload_n g 1 dX10_lay_130 rfl ?_
                      refine gfX10_5 g (c := 0) rfl wf_X10_36 dX10_lay_131 ?_
                      obtain ⟨q157, hq158, h⟩ := ob_bind h
                      refine u_callV (st := []) g wv_X10_264 [.ref (w.2.2.1 7)] (kX_lt (kX_s9 k4) rfl) (ceX_6 (kX_s9 k4)) rfl rfl (t_X6_become w x.2.1 hq158) (by decide) (by decide) rfl (Nat.le_of_ble_eq_true rfl) rfl dX10_lay_134 ?_
                      show U shX w x r q157 137 [(4, .ref (w.2.2.1 c3)), (0, .ref (w.2.2.1 0)), (1, .int a1), (2, .int a2), (3, .int a3)] []
                      obtain rfl := Option.some.inj h
                      exact u_sub [1] rfl K153
                · have h := ob_pos b142 h
                  refine u_aload_n g 1 dX10_lay_72 rfl ?_
                  refine gfX10_0 g (c := 0) rfl wf_X10_10 dX10_lay_73 ?_
                  refine u_iload_n g 4 dX10_lay_76 rfl ?_
                  obtain ⟨q159, hq160, h⟩ := ob_bind h
                  refine u_callV (st := []) g wv_X10_116 [.int a3] (kX_lt (show kX 1 = 5 from rfl) rfl) (ceX_5 (show kX 1 = 5 from rfl)) rfl rfl (t_X5_areASet w x.2.1 hq160) (by decide) (by decide) rfl (Nat.le_of_ble_eq_true rfl) rfl dX10_lay_77 ?_
                  show U shX w x r M 80 [(4, .ref (w.2.2.1 c3)), (0, .ref (w.2.2.1 0)), (1, .int a1), (2, .int a2), (3, .int a3)] [.int q159]
                  refine u_if_ne g 89 dX10_lay_80 (by decide) (fun b161 => ?_) (fun b161 => ?_)
                  · have h := ob_neg b161 h
                    refine u_aload_n g 1 dX10_lay_89 rfl ?_
                    refine gfX10_7 g (c := 0) rfl wf_X10_49 dX10_lay_90 ?_
                    refine u_bipush g (v := (6 : Int32)) dX10_lay_93 rfl ?_
                    refine u_iload_n g 2 dX10_lay_95 rfl ?_
                    refine u_iconst g (v := (0 : Int32)) dX10_lay_96 rfl ?_
                    obtain ⟨⟨o164, M165⟩, hq163, h⟩ := ob_bind h
                    refine u_callV (st := []) g wv_X10_99 [.int (6 : Int32), .int a1, .int (0 : Int32)] (kX_lt (show kX 10 = 4 from rfl) rfl) (ceX_4 (show kX 10 = 4 from rfl)) rfl rfl (t_X4_open w x.2.1 hq163) (by decide) (by decide) rfl (Nat.le_of_ble_eq_true rfl) rfl dX10_lay_97 ?_
                    show U shX w x r M165 100 [(4, .ref (w.2.2.1 c3)), (0, .ref (w.2.2.1 0)), (1, .int a1), (2, .int a2), (3, .int a3)] [rv w o164]
                    cases o164 with
                    | none => cases h
                    | some c166 =>
                      have h := ob_some h
                      obtain ⟨k167, h⟩ := ob_if h
                      show U shX w x r M165 100 [(4, .ref (w.2.2.1 c3)), (0, .ref (w.2.2.1 0)), (1, .int a1), (2, .int a2), (3, .int a3)] [.ref (w.2.2.1 c166)]
                      refine gfX0_3 g k167 wf_X10_257 dX10_lay_100 ?_
                      refine u_aload g 0 dX10_lay_103 rfl ?_
                      obtain ⟨q168, hq169, h⟩ := ob_bind h
                      refine u_callV (st := []) g wv_X10_341 [.ref (w.2.2.1 c3)] (kX_lt (kX_s0 k167) rfl) (ceX_9 (kX_s0 k167)) rfl rfl (t_X9_become w x.2.1 hq169) (by decide) (by decide) rfl (Nat.le_of_ble_eq_true rfl) rfl dX10_lay_105 ?_
                      show U shX w x r q168 108 [(4, .ref (w.2.2.1 c3)), (0, .ref (w.2.2.1 0)), (1, .int a1), (2, .int a2), (3, .int a3)] []
                      refine u_aload g 0 dX10_lay_108 rfl ?_
                      refine u_iload_n g 3 dX10_lay_110 rfl ?_
                      refine pfX9_0 g k4 wf_X10_344 dX10_lay_111 ?_
                      refine u_aload g 0 dX10_lay_114 rfl ?_
                      refine u_iload_n g 4 dX10_lay_116 rfl ?_
                      refine pfX9_1 g k4 wf_X10_347 dX10_lay_117 ?_
                      refine u_iload_n g 3 dX10_lay_120 rfl ?_
                      refine u_iconst g (v := (3 : Int32)) dX10_lay_121 rfl ?_
                      obtain ⟨q170, hq171, h⟩ := ob_bind h
                      have K172 : U shX w x r q170 137 [(0, .ref (w.2.2.1 0))] [] := by
                        refine u_aload_n g 0 dX10_lay_137 rfl ?_
                        refine u_iconst g (v := (1 : Int32)) dX10_lay_138 rfl ?_
                        obtain ⟨q173, hq174, h⟩ := ob_bind h
                        refine u_callV (st := []) g wv_X10_103 [.int (1 : Int32)] (kX_lt (show kX 0 = 10 from rfl) rfl) (ceX_10 (show kX 0 = 10 from rfl)) rfl rfl (t_X10_accept w x.2.1 hq174) (by decide) (by decide) rfl (Nat.le_of_ble_eq_true rfl) rfl dX10_lay_139 ?_
                        show U shX w x r q173.2 142 [(0, .ref (w.2.2.1 0))] [.int q173.1]
                        exact u_iret g dX10_lay_142 (by rw [← hr]; obtain rfl := Option.some.inj h; rfl)
                      have h := hq171
                      refine u_icmp_ne g 137 dX10_lay_122 (by decide) (fun b175 => ?_) (fun b175 => ?_)
                      · have h := ob_neg b175 h
                        obtain rfl := Option.some.inj h
                        exact u_sub [1] rfl K172
                      · have h := ob_pos b175 h
                        refine u_aload g 0 dX10_lay_125 rfl ?_
                        refine gfX9_2 g k4 wf_X10_263 dX10_lay_127 ?_
                        refine u_aload_n g 1 dX10_lay_130 rfl ?_
                        refine gfX10_5 g (c := 0) rfl wf_X10_36 dX10_lay_131 ?_
                        obtain ⟨q176, hq177, h⟩ := ob_bind h
                        refine u_callV (st := []) g wv_X10_264 [.ref (w.2.2.1 7)] (kX_lt (kX_s9 k4) rfl) (ceX_6 (kX_s9 k4)) rfl rfl (t_X6_become w x.2.1 hq177) (by decide) (by decide) rfl (Nat.le_of_ble_eq_true rfl) rfl dX10_lay_134 ?_
                        show U shX w x r q176 137 [(4, .ref (w.2.2.1 c3)), (0, .ref (w.2.2.1 0)), (1, .int a1), (2, .int a2), (3, .int a3)] []
                        obtain rfl := Option.some.inj h
                        exact u_sub [1] rfl K172
                  · have h := ob_pos b161 h
                    refine u_aload_n g 1 dX10_lay_83 rfl ?_
                    refine u_iconst g (v := (2 : Int32)) dX10_lay_84 rfl ?_
                    obtain ⟨q178, hq179, h⟩ := ob_bind h
                    refine u_callV (st := []) g wv_X10_83 [.int (2 : Int32)] (kX_lt (show kX 0 = 10 from rfl) rfl) (ceX_10 (show kX 0 = 10 from rfl)) rfl rfl (t_X10_refuse w x.2.1 hq179) (by decide) (by decide) rfl (Nat.le_of_ble_eq_true rfl) rfl dX10_lay_85 ?_
                    show U shX w x r q178.2 88 [(4, .ref (w.2.2.1 c3)), (0, .ref (w.2.2.1 0)), (1, .int a1), (2, .int a2), (3, .int a3)] [.int q178.1]
                    exact u_iret g dX10_lay_88 (by rw [← hr]; obtain rfl := Option.some.inj h; rfl)
              · have h := ob_pos b141 h
                refine u_aload_n g 1 dX10_lay_61 rfl ?_
                refine u_iconst g (v := (1 : Int32)) dX10_lay_62 rfl ?_
                obtain ⟨q180, hq181, h⟩ := ob_bind h
                refine u_callV (st := []) g wv_X10_83 [.int (1 : Int32)] (kX_lt (show kX 0 = 10 from rfl) rfl) (ceX_10 (show kX 0 = 10 from rfl)) rfl rfl (t_X10_refuse w x.2.1 hq181) (by decide) (by decide) rfl (Nat.le_of_ble_eq_true rfl) rfl dX10_lay_63 ?_
                show U shX w x r q180.2 66 [(4, .ref (w.2.2.1 c3)), (0, .ref (w.2.2.1 0)), (1, .int a1), (2, .int a2), (3, .int a3)] [.int q180.1]
                exact u_iret g dX10_lay_66 (by rw [← hr]; obtain rfl := Option.some.inj h; rfl)
      · have h := ob_neg b10 h
        refine u_aload_n g 1 dX10_lay_27 rfl ?_
        refine u_iconst g (v := (2 : Int32)) dX10_lay_28 rfl ?_
        obtain ⟨q182, hq183, h⟩ := ob_bind h
        refine u_callV (st := []) g wv_X10_83 [.int (2 : Int32)] (kX_lt (show kX 0 = 10 from rfl) rfl) (ceX_10 (show kX 0 = 10 from rfl)) rfl rfl (t_X10_refuse w x.2.1 hq183) (by decide) (by decide) rfl (Nat.le_of_ble_eq_true rfl) rfl dX10_lay_29 ?_
        show U shX w x r q182.2 32 [(4, .ref (w.2.2.1 c3)), (0, .ref (w.2.2.1 0)), (1, .int a1), (2, .int a2), (3, .int a3)] [.int q182.1]
        exact u_iret g dX10_lay_32 (by rw [← hr]; obtain rfl := Option.some.inj h; rfl)
set_option maxRecDepth 100000 in
set_option maxHeartbeats 4000000 in
theorem t_X10_lies (w : Wp) (l : Launch) {a1 : Int32} {M : Mem} {q : Int32 × Mem} (h : f_X10_lies a1 M = some q) : Ct shX w l yX10_lies cX10_lies 3 (some .int) 1 [.ref (w.2.2.1 0), .int a1] M (some (.int q.1), q.2) := by
  rw [f_X10_lies] at h
  refine ct_of shX_loc (by decide) (Nat.le_of_ble_eq_true rfl) rfl (fun x hx g => ?_)
  subst hx
  show U shX w x _ M 0 [(0, .ref (w.2.2.1 0)), (1, .int a1)] []
  generalize hr : ((some (.int q.1), q.2) : Option Value × Mem) = r
  have g : Gd shX w x RX10 cX10_lies 3 (some .int) 1 := g
  refine u_aload_n g 0 dX10_lies_0 rfl ?_
  refine u_iload_n g 1 dX10_lies_1 rfl ?_
  obtain ⟨q1, hq2, h⟩ := ob_bind h
  refine u_callV (st := []) g wv_X10_335 [.int a1] (kX_lt (show kX 0 = 10 from rfl) rfl) (ceX_10 (show kX 0 = 10 from rfl)) rfl rfl (t_X10_placeAt w x.2.1 hq2) (by decide) (by decide) rfl (Nat.le_of_ble_eq_true rfl) rfl dX10_lies_2 ?_
  show U shX w x r M 5 [(0, .ref (w.2.2.1 0)), (1, .int a1)] [rv w q1]
  refine u_astore_nO g [(2, rv w q1), (0, .ref (w.2.2.1 0)), (1, .int a1)] dX10_lies_5 (by decide) rfl ?_
  refine u_aload_nO g 0 dX10_lies_6 rfl ?_
  cases q1 with
  | none =>
    have h := ob_none h
    refine u_nonnullN g dX10_lies_7 ?_
    show U shX w x r M 10 [(2, .null), (0, .ref (w.2.2.1 0)), (1, .int a1)] []
    refine u_aload_n g 1 dX10_lies_10 rfl ?_
    refine u_iconst g (v := (1 : Int32)) dX10_lies_11 rfl ?_
    obtain ⟨q5, hq6, h⟩ := ob_bind h
    refine u_callV (st := []) g wv_X10_83 [.int (1 : Int32)] (kX_lt (show kX 0 = 10 from rfl) rfl) (ceX_10 (show kX 0 = 10 from rfl)) rfl rfl (t_X10_refuse w x.2.1 hq6) (by decide) (by decide) rfl (Nat.le_of_ble_eq_true rfl) rfl dX10_lies_12 ?_
    show U shX w x r q5.2 15 [(2, .null), (0, .ref (w.2.2.1 0)), (1, .int a1)] [.int q5.1]
    exact u_iret g dX10_lies_15 (by rw [← hr]; obtain rfl := Option.some.inj h; rfl)
  | some c3 =>
    have h := ob_some h
    obtain ⟨k4, h⟩ := ob_if h
    refine u_nonnull g 16 dX10_lies_7 (by decide) ?_
    show U shX w x r M 16 [(2, .ref (w.2.2.1 c3)), (0, .ref (w.2.2.1 0)), (1, .int a1)] []
    refine u_aload_n g 1 dX10_lies_16 rfl ?_
    refine u_aload_n g 0 dX10_lies_17 rfl ?_
    refine gfX9_0 g k4 wf_X10_344 (v := (M.1 c3 0)) rfl dX10_lies_18 ?_
    obtain ⟨q7, hq8, h⟩ := ob_bind h
    refine u_callV (st := []) g wv_X10_103 [.int (M.1 c3 0)] (kX_lt (show kX 0 = 10 from rfl) rfl) (ceX_10 (show kX 0 = 10 from rfl)) rfl rfl (t_X10_accept w x.2.1 hq8) (by decide) (by decide) rfl (Nat.le_of_ble_eq_true rfl) rfl dX10_lies_21 ?_
    show U shX w x r q7.2 24 [(2, .ref (w.2.2.1 c3)), (0, .ref (w.2.2.1 0)), (1, .int a1)] [.int q7.1]
    exact u_iret g dX10_lies_24 (by rw [← hr]; obtain rfl := Option.some.inj h; rfl)
set_option maxRecDepth 100000 in
set_option maxHeartbeats 4000000 in
theorem t_X10_taken (w : Wp) (l : Launch) {a1 : Int32} {a2 : Int32} {a3 : Int32} {M : Mem} {q : Int32 × Mem} (h : f_X10_taken a1 a2 a3 M = some q) : Ct shX w l yX10_taken cX10_taken 5 (some .int) 1 [.ref (w.2.2.1 0), .int a1, .int a2, .int a3] M (some (.int q.1), q.2) := by
  rw [f_X10_taken] at h
  refine ct_of shX_loc (by decide) (Nat.le_of_ble_eq_true rfl) rfl (fun x hx g => ?_)
  subst hx
  show U shX w x _ M 0 [(0, .ref (w.2.2.1 0)), (1, .int a1), (2, .int a2), (3, .int a3)] []
  generalize hr : ((some (.int q.1), q.2) : Option Value × Mem) = r
  have g : Gd shX w x RX10 cX10_taken 5 (some .int) 1 := g
  refine u_aload_n g 0 dX10_taken_0 rfl ?_
  refine u_iload_n g 1 dX10_taken_1 rfl ?_
  obtain ⟨q1, hq2, h⟩ := ob_bind h
  refine u_callV (st := []) g wv_X10_335 [.int a1] (kX_lt (show kX 0 = 10 from rfl) rfl) (ceX_10 (show kX 0 = 10 from rfl)) rfl rfl (t_X10_placeAt w x.2.1 hq2) (by decide) (by decide) rfl (Nat.le_of_ble_eq_true rfl) rfl dX10_taken_2 ?_
  show U shX w x r M 5 [(0, .ref (w.2.2.1 0)), (1, .int a1), (2, .int a2), (3, .int a3)] [rv w q1]
  refine u_astoreO g [(4, rv w q1), (0, .ref (w.2.2.1 0)), (1, .int a1), (2, .int a2), (3, .int a3)] dX10_taken_5 (by decide) rfl ?_
  refine u_aloadO g 0 dX10_taken_7 rfl ?_
  cases q1 with
  | none =>
    have h := ob_none h
    refine u_nonnullN g dX10_taken_9 ?_
    show U shX w x r M 12 [(4, .null), (0, .ref (w.2.2.1 0)), (1, .int a1), (2, .int a2), (3, .int a3)] []
    refine u_aload_n g 1 dX10_taken_12 rfl ?_
    refine u_iconst g (v := (1 : Int32)) dX10_taken_13 rfl ?_
    obtain ⟨q5, hq6, h⟩ := ob_bind h
    refine u_callV (st := []) g wv_X10_83 [.int (1 : Int32)] (kX_lt (show kX 0 = 10 from rfl) rfl) (ceX_10 (show kX 0 = 10 from rfl)) rfl rfl (t_X10_refuse w x.2.1 hq6) (by decide) (by decide) rfl (Nat.le_of_ble_eq_true rfl) rfl dX10_taken_14 ?_
    show U shX w x r q5.2 17 [(4, .null), (0, .ref (w.2.2.1 0)), (1, .int a1), (2, .int a2), (3, .int a3)] [.int q5.1]
    exact u_iret g dX10_taken_17 (by rw [← hr]; obtain rfl := Option.some.inj h; rfl)
  | some c3 =>
    have h := ob_some h
    obtain ⟨k4, h⟩ := ob_if h
    refine u_nonnull g 18 dX10_taken_9 (by decide) ?_
    show U shX w x r M 18 [(4, .ref (w.2.2.1 c3)), (0, .ref (w.2.2.1 0)), (1, .int a1), (2, .int a2), (3, .int a3)] []
    refine u_iload_n g 3 dX10_taken_18 rfl ?_
    refine u_iconst g (v := (1 : Int32)) dX10_taken_19 rfl ?_
    refine u_icmp_lt g 28 dX10_taken_20 (by decide) (fun b7 => ?_) (fun b7 => ?_)
    · have h := ob_pos b7 h
      refine u_aload_n g 1 dX10_taken_28 rfl ?_
      refine u_iconst g (v := (2 : Int32)) dX10_taken_29 rfl ?_
      obtain ⟨q8, hq9, h⟩ := ob_bind h
      refine u_callV (st := []) g wv_X10_83 [.int (2 : Int32)] (kX_lt (show kX 0 = 10 from rfl) rfl) (ceX_10 (show kX 0 = 10 from rfl)) rfl rfl (t_X10_refuse w x.2.1 hq9) (by decide) (by decide) rfl (Nat.le_of_ble_eq_true rfl) rfl dX10_taken_30 ?_
      show U shX w x r q8.2 33 [(4, .ref (w.2.2.1 c3)), (0, .ref (w.2.2.1 0)), (1, .int a1), (2, .int a2), (3, .int a3)] [.int q8.1]
      exact u_iret g dX10_taken_33 (by rw [← hr]; obtain rfl := Option.some.inj h; rfl)
    · have h := ob_neg b7 h
      refine u_iload_n g 3 dX10_taken_23 rfl ?_
      refine u_iconst g (v := (3 : Int32)) dX10_taken_24 rfl ?_
      refine u_icmp_le g 34 dX10_taken_25 (by decide) (fun b10 => ?_) (fun b10 => ?_)
      · have h := ob_pos b10 h
        refine u_aload g 0 dX10_taken_34 rfl ?_
        refine gfX9_0 g k4 wf_X10_344 (v := (M.1 c3 0)) rfl dX10_taken_36 ?_
        refine u_iload_n g 3 dX10_taken_39 rfl ?_
        refine u_icmp_eq g 50 dX10_taken_40 (by decide) (fun b11 => ?_) (fun b11 => ?_)
        · have h := ob_pos b11 h
          refine u_iload_n g 3 dX10_taken_50 rfl ?_
          refine u_iconst g (v := (3 : Int32)) dX10_taken_51 rfl ?_
          refine u_icmp_eq g 65 dX10_taken_52 (by decide) (fun b12 => ?_) (fun b12 => ?_)
          · have h := ob_pos b12 h
            refine u_aload g 0 dX10_taken_65 rfl ?_
            refine gfX9_2 g k4 wf_X10_263 dX10_taken_67 ?_
            refine u_iload_n g 4 dX10_taken_70 rfl ?_
            obtain ⟨q13, hq14, h⟩ := ob_bind h
            refine u_callV (st := []) g wv_X10_271 [.int a3] (kX_lt (kX_s9 k4) rfl) (ceX_6 (kX_s9 k4)) rfl rfl (t_X6_hasPart w x.2.1 hq14) (by decide) (by decide) rfl (Nat.le_of_ble_eq_true rfl) rfl dX10_taken_71 ?_
            show U shX w x r M 74 [(4, .ref (w.2.2.1 c3)), (0, .ref (w.2.2.1 0)), (1, .int a1), (2, .int a2), (3, .int a3)] [.int q13]
            refine u_if_ne g 83 dX10_taken_74 (by decide) (fun b15 => ?_) (fun b15 => ?_)
            · have h := ob_neg b15 h
              refine u_aload_n g 1 dX10_taken_83 rfl ?_
              refine u_aload g 0 dX10_taken_84 rfl ?_
              refine gfX9_2 g k4 wf_X10_263 dX10_taken_86 ?_
              refine gfX6_2 g (kX_s9 k4) wf_X10_277 dX10_taken_89 ?_
              refine u_iload_n g 4 dX10_taken_92 rfl ?_
              obtain ⟨e16, h⟩ := ob_if h
              refine aX_ild g (c := ((c3 + 1) + 1)) 120 (by decide) (kX_s6 (kX_s9 k4)) (v := (M.1 ((c3 + 1) + 1) a3.toNatClampNeg)) (inB_in e16) rfl dX10_taken_93 ?_
              obtain ⟨q17, hq18, h⟩ := ob_bind h
              refine u_callV (st := []) g wv_X10_103 [.int (M.1 ((c3 + 1) + 1) a3.toNatClampNeg)] (kX_lt (show kX 0 = 10 from rfl) rfl) (ceX_10 (show kX 0 = 10 from rfl)) rfl rfl (t_X10_accept w x.2.1 hq18) (by decide) (by decide) rfl (Nat.le_of_ble_eq_true rfl) rfl dX10_taken_94 ?_
              show U shX w x r q17.2 97 [(4, .ref (w.2.2.1 c3)), (0, .ref (w.2.2.1 0)), (1, .int a1), (2, .int a2), (3, .int a3)] [.int q17.1]
              exact u_iret g dX10_taken_97 (by rw [← hr]; obtain rfl := Option.some.inj h; rfl)
            · have h := ob_pos b15 h
              refine u_aload_n g 1 dX10_taken_77 rfl ?_
              refine u_iconst g (v := (1 : Int32)) dX10_taken_78 rfl ?_
              obtain ⟨q19, hq20, h⟩ := ob_bind h
              refine u_callV (st := []) g wv_X10_83 [.int (1 : Int32)] (kX_lt (show kX 0 = 10 from rfl) rfl) (ceX_10 (show kX 0 = 10 from rfl)) rfl rfl (t_X10_refuse w x.2.1 hq20) (by decide) (by decide) rfl (Nat.le_of_ble_eq_true rfl) rfl dX10_taken_79 ?_
              show U shX w x r q19.2 82 [(4, .ref (w.2.2.1 c3)), (0, .ref (w.2.2.1 0)), (1, .int a1), (2, .int a2), (3, .int a3)] [.int q19.1]
              exact u_iret g dX10_taken_82 (by rw [← hr]; obtain rfl := Option.some.inj h; rfl)
          · have h := ob_neg b12 h
            refine u_aload_n g 1 dX10_taken_55 rfl ?_
            refine u_aload g 0 dX10_taken_56 rfl ?_
            refine gfX9_1 g k4 wf_X10_347 (v := (M.1 c3 1)) rfl dX10_taken_58 ?_
            obtain ⟨q21, hq22, h⟩ := ob_bind h
            refine u_callV (st := []) g wv_X10_103 [.int (M.1 c3 1)] (kX_lt (show kX 0 = 10 from rfl) rfl) (ceX_10 (show kX 0 = 10 from rfl)) rfl rfl (t_X10_accept w x.2.1 hq22) (by decide) (by decide) rfl (Nat.le_of_ble_eq_true rfl) rfl dX10_taken_61 ?_
            show U shX w x r q21.2 64 [(4, .ref (w.2.2.1 c3)), (0, .ref (w.2.2.1 0)), (1, .int a1), (2, .int a2), (3, .int a3)] [.int q21.1]
            exact u_iret g dX10_taken_64 (by rw [← hr]; obtain rfl := Option.some.inj h; rfl)
        · have h := ob_neg b11 h
          refine u_aload_n g 1 dX10_taken_43 rfl ?_
          refine u_bipush g (v := (6 : Int32)) dX10_taken_44 rfl ?_
          obtain ⟨q23, hq24, h⟩ := ob_bind h
          refine u_callV (st := []) g wv_X10_83 [.int (6 : Int32)] (kX_lt (show kX 0 = 10 from rfl) rfl) (ceX_10 (show kX 0 = 10 from rfl)) rfl rfl (t_X10_refuse w x.2.1 hq24) (by decide) (by decide) rfl (Nat.le_of_ble_eq_true rfl) rfl dX10_taken_46 ?_
          show U shX w x r q23.2 49 [(4, .ref (w.2.2.1 c3)), (0, .ref (w.2.2.1 0)), (1, .int a1), (2, .int a2), (3, .int a3)] [.int q23.1]
          exact u_iret g dX10_taken_49 (by rw [← hr]; obtain rfl := Option.some.inj h; rfl)
      · have h := ob_neg b10 h
        refine u_aload_n g 1 dX10_taken_28 rfl ?_
        refine u_iconst g (v := (2 : Int32)) dX10_taken_29 rfl ?_
        obtain ⟨q25, hq26, h⟩ := ob_bind h
        refine u_callV (st := []) g wv_X10_83 [.int (2 : Int32)] (kX_lt (show kX 0 = 10 from rfl) rfl) (ceX_10 (show kX 0 = 10 from rfl)) rfl rfl (t_X10_refuse w x.2.1 hq26) (by decide) (by decide) rfl (Nat.le_of_ble_eq_true rfl) rfl dX10_taken_30 ?_
        show U shX w x r q25.2 33 [(4, .ref (w.2.2.1 c3)), (0, .ref (w.2.2.1 0)), (1, .int a1), (2, .int a2), (3, .int a3)] [.int q25.1]
        exact u_iret g dX10_taken_33 (by rw [← hr]; obtain rfl := Option.some.inj h; rfl)
set_option maxRecDepth 100000 in
set_option maxHeartbeats 4000000 in
theorem t_X10_copy (w : Wp) (l : Launch) {a1 : Int32} {a2 : Int32} {a3 : Int32} {a4 : Int32} {a5 : Int32} {M : Mem} {q : Int32 × Mem} (h : f_X10_copy a1 a2 a3 a4 a5 M = some q) : Ct shX w l yX10_copy cX10_copy 8 (some .int) 2 [.ref (w.2.2.1 0), .int a1, .int a2, .int a3, .int a4, .int a5] M (some (.int q.1), q.2) := by
  rw [f_X10_copy] at h
  refine ct_of shX_loc (by decide) (Nat.le_of_ble_eq_true rfl) rfl (fun x hx g => ?_)
  subst hx
  show U shX w x _ M 0 [(0, .ref (w.2.2.1 0)), (1, .int a1), (2, .int a2), (3, .int a3), (4, .int a4), (5, .int a5)] []
  generalize hr : ((some (.int q.1), q.2) : Option Value × Mem) = r
  have g : Gd shX w x RX10 cX10_copy 8 (some .int) 2 := g
  refine u_aload_n g 0 dX10_copy_0 rfl ?_
  refine u_iload_n g 1 dX10_copy_1 rfl ?_
  obtain ⟨q1, hq2, h⟩ := ob_bind h
  refine u_callV (st := []) g wv_X10_335 [.int a1] (kX_lt (show kX 0 = 10 from rfl) rfl) (ceX_10 (show kX 0 = 10 from rfl)) rfl rfl (t_X10_placeAt w x.2.1 hq2) (by decide) (by decide) rfl (Nat.le_of_ble_eq_true rfl) rfl dX10_copy_2 ?_
  show U shX w x r M 5 [(0, .ref (w.2.2.1 0)), (1, .int a1), (2, .int a2), (3, .int a3), (4, .int a4), (5, .int a5)] [rv w q1]
  refine u_astoreO g [(6, rv w q1), (0, .ref (w.2.2.1 0)), (1, .int a1), (2, .int a2), (3, .int a3), (4, .int a4), (5, .int a5)] dX10_copy_5 (by decide) rfl ?_
  refine u_aload_n g 1 dX10_copy_7 rfl ?_
  refine u_iload_n g 4 dX10_copy_8 rfl ?_
  obtain ⟨q3, hq4, h⟩ := ob_bind h
  refine u_callV (st := []) g wv_X10_335 [.int a3] (kX_lt (show kX 0 = 10 from rfl) rfl) (ceX_10 (show kX 0 = 10 from rfl)) rfl rfl (t_X10_placeAt w x.2.1 hq4) (by decide) (by decide) rfl (Nat.le_of_ble_eq_true rfl) rfl dX10_copy_9 ?_
  show U shX w x r M 12 [(6, rv w q1), (0, .ref (w.2.2.1 0)), (1, .int a1), (2, .int a2), (3, .int a3), (4, .int a4), (5, .int a5)] [rv w q3]
  refine u_astoreO g [(7, rv w q3), (6, rv w q1), (0, .ref (w.2.2.1 0)), (1, .int a1), (2, .int a2), (3, .int a3), (4, .int a4), (5, .int a5)] dX10_copy_12 (by decide) (by simp [rv_cat]) ?_
  refine u_aloadO g 1 dX10_copy_14 rfl ?_
  cases q1 with
  | none =>
    have h := ob_none h
    refine u_isnullN g 24 dX10_copy_16 (by decide) ?_
    show U shX w x r M 24 [(7, rv w q3), (6, .null), (0, .ref (w.2.2.1 0)), (1, .int a1), (2, .int a2), (3, .int a3), (4, .int a4), (5, .int a5)] []
    refine u_aload_n g 2 dX10_copy_24 rfl ?_
    refine u_iconst g (v := (1 : Int32)) dX10_copy_25 rfl ?_
    obtain ⟨q7, hq8, h⟩ := ob_bind h
    refine u_callV (st := []) g wv_X10_83 [.int (1 : Int32)] (kX_lt (show kX 0 = 10 from rfl) rfl) (ceX_10 (show kX 0 = 10 from rfl)) rfl rfl (t_X10_refuse w x.2.1 hq8) (by decide) (by decide) rfl (Nat.le_of_ble_eq_true rfl) rfl dX10_copy_26 ?_
    show U shX w x r q7.2 29 [(7, rv w q3), (6, .null), (0, .ref (w.2.2.1 0)), (1, .int a1), (2, .int a2), (3, .int a3), (4, .int a4), (5, .int a5)] [.int q7.1]
    exact u_iret g dX10_copy_29 (by rw [← hr]; obtain rfl := Option.some.inj h; rfl)
  | some c5 =>
    have h := ob_some h
    obtain ⟨k6, h⟩ := ob_if h
    refine u_isnull g dX10_copy_16 ?_
    show U shX w x r M 19 [(7, rv w q3), (6, .ref (w.2.2.1 c5)), (0, .ref (w.2.2.1 0)), (1, .int a1), (2, .int a2), (3, .int a3), (4, .int a4), (5, .int a5)] []
    refine u_aloadO g 0 dX10_copy_19 rfl ?_
    cases q3 with
    | none =>
      have h := ob_none h
      refine u_nonnullN g dX10_copy_21 ?_
      show U shX w x r M 24 [(7, .null), (6, .ref (w.2.2.1 c5)), (0, .ref (w.2.2.1 0)), (1, .int a1), (2, .int a2), (3, .int a3), (4, .int a4), (5, .int a5)] []
      refine u_aload_n g 2 dX10_copy_24 rfl ?_
      refine u_iconst g (v := (1 : Int32)) dX10_copy_25 rfl ?_
      obtain ⟨q11, hq12, h⟩ := ob_bind h
      refine u_callV (st := []) g wv_X10_83 [.int (1 : Int32)] (kX_lt (show kX 0 = 10 from rfl) rfl) (ceX_10 (show kX 0 = 10 from rfl)) rfl rfl (t_X10_refuse w x.2.1 hq12) (by decide) (by decide) rfl (Nat.le_of_ble_eq_true rfl) rfl dX10_copy_26 ?_
      show U shX w x r q11.2 29 [(7, .null), (6, .ref (w.2.2.1 c5)), (0, .ref (w.2.2.1 0)), (1, .int a1), (2, .int a2), (3, .int a3), (4, .int a4), (5, .int a5)] [.int q11.1]
      exact u_iret g dX10_copy_29 (by rw [← hr]; obtain rfl := Option.some.inj h; rfl)
    | some c9 =>
      have h := ob_some h
      obtain ⟨k10, h⟩ := ob_if h
      refine u_nonnull g 30 dX10_copy_21 (by decide) ?_
      show U shX w x r M 30 [(7, .ref (w.2.2.1 c9)), (6, .ref (w.2.2.1 c5)), (0, .ref (w.2.2.1 0)), (1, .int a1), (2, .int a2), (3, .int a3), (4, .int a4), (5, .int a5)] []
      refine u_aload g 1 dX10_copy_30 rfl ?_
      refine gfX9_0 g k6 wf_X10_344 (v := (M.1 c5 0)) rfl dX10_copy_32 ?_
      refine u_iconst g (v := (3 : Int32)) dX10_copy_35 rfl ?_
      refine u_icmp_ne g 48 dX10_copy_36 (by decide) (fun b13 => ?_) (fun b13 => ?_)
      · have h := ob_neg b13 h
        refine u_aload_n g 2 dX10_copy_48 rfl ?_
        refine u_bipush g (v := (6 : Int32)) dX10_copy_49 rfl ?_
        obtain ⟨q14, hq15, h⟩ := ob_bind h
        refine u_callV (st := []) g wv_X10_83 [.int (6 : Int32)] (kX_lt (show kX 0 = 10 from rfl) rfl) (ceX_10 (show kX 0 = 10 from rfl)) rfl rfl (t_X10_refuse w x.2.1 hq15) (by decide) (by decide) rfl (Nat.le_of_ble_eq_true rfl) rfl dX10_copy_51 ?_
        show U shX w x r q14.2 54 [(7, .ref (w.2.2.1 c9)), (6, .ref (w.2.2.1 c5)), (0, .ref (w.2.2.1 0)), (1, .int a1), (2, .int a2), (3, .int a3), (4, .int a4), (5, .int a5)] [.int q14.1]
        exact u_iret g dX10_copy_54 (by rw [← hr]; obtain rfl := Option.some.inj h; rfl)
      · have h := ob_pos b13 h
        refine u_aload g 0 dX10_copy_39 rfl ?_
        refine gfX9_0 g k10 wf_X10_344 (v := (M.1 c9 0)) rfl dX10_copy_41 ?_
        refine u_iconst g (v := (3 : Int32)) dX10_copy_44 rfl ?_
        refine u_icmp_eq g 55 dX10_copy_45 (by decide) (fun b16 => ?_) (fun b16 => ?_)
        · have h := ob_pos b16 h
          refine u_aload g 1 dX10_copy_55 rfl ?_
          refine gfX9_2 g k6 wf_X10_263 dX10_copy_57 ?_
          refine u_iload_n g 4 dX10_copy_60 rfl ?_
          refine u_iload g 7 dX10_copy_61 rfl ?_
          obtain ⟨q17, hq18, h⟩ := ob_bind h
          refine u_callV (st := []) g wv_X10_350 [.int a2, .int a5] (kX_lt (kX_s9 k6) rfl) (ceX_6 (kX_s9 k6)) rfl rfl (t_X6_hasRun w x.2.1 hq18) (by decide) (by decide) rfl (Nat.le_of_ble_eq_true rfl) rfl dX10_copy_63 ?_
          show U shX w x r M 66 [(7, .ref (w.2.2.1 c9)), (6, .ref (w.2.2.1 c5)), (0, .ref (w.2.2.1 0)), (1, .int a1), (2, .int a2), (3, .int a3), (4, .int a4), (5, .int a5)] [.int q17]
          refine u_if_eq g 84 dX10_copy_66 (by decide) (fun b19 => ?_) (fun b19 => ?_)
          · have h := ob_pos b19 h
            refine u_aload_n g 2 dX10_copy_84 rfl ?_
            refine u_iconst g (v := (2 : Int32)) dX10_copy_85 rfl ?_
            obtain ⟨q20, hq21, h⟩ := ob_bind h
            refine u_callV (st := []) g wv_X10_83 [.int (2 : Int32)] (kX_lt (show kX 0 = 10 from rfl) rfl) (ceX_10 (show kX 0 = 10 from rfl)) rfl rfl (t_X10_refuse w x.2.1 hq21) (by decide) (by decide) rfl (Nat.le_of_ble_eq_true rfl) rfl dX10_copy_86 ?_
            show U shX w x r q20.2 89 [(7, .ref (w.2.2.1 c9)), (6, .ref (w.2.2.1 c5)), (0, .ref (w.2.2.1 0)), (1, .int a1), (2, .int a2), (3, .int a3), (4, .int a4), (5, .int a5)] [.int q20.1]
            exact u_iret g dX10_copy_89 (by rw [← hr]; obtain rfl := Option.some.inj h; rfl)
          · have h := ob_neg b19 h
            refine u_aload g 0 dX10_copy_69 rfl ?_
            refine gfX9_2 g k10 wf_X10_263 dX10_copy_71 ?_
            refine u_iload g 6 dX10_copy_74 rfl ?_
            refine u_iload g 7 dX10_copy_76 rfl ?_
            obtain ⟨q22, hq23, h⟩ := ob_bind h
            refine u_callV (st := []) g wv_X10_350 [.int a4, .int a5] (kX_lt (kX_s9 k10) rfl) (ceX_6 (kX_s9 k10)) rfl rfl (t_X6_hasRun w x.2.1 hq23) (by decide) (by decide) rfl (Nat.le_of_ble_eq_true rfl) rfl dX10_copy_78 ?_
            show U shX w x r M 81 [(7, .ref (w.2.2.1 c9)), (6, .ref (w.2.2.1 c5)), (0, .ref (w.2.2.1 0)), (1, .int a1), (2, .int a2), (3, .int a3), (4, .int a4), (5, .int a5)] [.int q22]
            refine u_if_ne g 90 dX10_copy_81 (by decide) (fun b24 => ?_) (fun b24 => ?_)
            · have h := ob_neg b24 h
              refine u_aload_n g 2 dX10_copy_90 rfl ?_
              refine gfX10_7 g (c := 0) rfl wf_X10_49 dX10_copy_91 ?_
              refine u_bipush g (v := (6 : Int32)) dX10_copy_94 rfl ?_
              refine u_iload_n g 5 dX10_copy_96 rfl ?_
              refine u_iconst g (v := (0 : Int32)) dX10_copy_97 rfl ?_
              obtain ⟨⟨o27, M28⟩, hq26, h⟩ := ob_bind h
              refine u_callV (st := []) g wv_X10_99 [.int (6 : Int32), .int a3, .int (0 : Int32)] (kX_lt (show kX 10 = 4 from rfl) rfl) (ceX_4 (show kX 10 = 4 from rfl)) rfl rfl (t_X4_open w x.2.1 hq26) (by decide) (by decide) rfl (Nat.le_of_ble_eq_true rfl) rfl dX10_copy_98 ?_
              show U shX w x r M28 101 [(7, .ref (w.2.2.1 c9)), (6, .ref (w.2.2.1 c5)), (0, .ref (w.2.2.1 0)), (1, .int a1), (2, .int a2), (3, .int a3), (4, .int a4), (5, .int a5)] [rv w o27]
              cases o27 with
              | none => cases h
              | some c29 =>
                have h := ob_some h
                obtain ⟨k30, h⟩ := ob_if h
                show U shX w x r M28 101 [(7, .ref (w.2.2.1 c9)), (6, .ref (w.2.2.1 c5)), (0, .ref (w.2.2.1 0)), (1, .int a1), (2, .int a2), (3, .int a3), (4, .int a4), (5, .int a5)] [.ref (w.2.2.1 c29)]
                refine gfX0_3 g k30 wf_X10_257 dX10_copy_101 ?_
                refine u_aload g 0 dX10_copy_104 rfl ?_
                obtain ⟨q31, hq32, h⟩ := ob_bind h
                refine u_callV (st := []) g wv_X10_341 [.ref (w.2.2.1 c9)] (kX_lt (kX_s0 k30) rfl) (ceX_9 (kX_s0 k30)) rfl rfl (t_X9_become w x.2.1 hq32) (by decide) (by decide) rfl (Nat.le_of_ble_eq_true rfl) rfl dX10_copy_106 ?_
                show U shX w x r q31 109 [(7, .ref (w.2.2.1 c9)), (6, .ref (w.2.2.1 c5)), (0, .ref (w.2.2.1 0)), (1, .int a1), (2, .int a2), (3, .int a3), (4, .int a4), (5, .int a5)] []
                refine u_aload g 0 dX10_copy_109 rfl ?_
                refine gfX9_2 g k10 wf_X10_263 dX10_copy_111 ?_
                refine u_iload g 6 dX10_copy_114 rfl ?_
                refine u_aload g 1 dX10_copy_116 rfl ?_
                refine gfX9_2 g k6 wf_X10_263 dX10_copy_118 ?_
                refine u_iload_n g 4 dX10_copy_121 rfl ?_
                refine u_iload g 7 dX10_copy_122 rfl ?_
                obtain ⟨q33, hq34, h⟩ := ob_bind h
                refine u_callV (st := []) g wv_X10_353 [.int a4, .ref (w.2.2.1 (c5 + 1)), .int a2, .int a5] (kX_lt (kX_s9 k10) rfl) (ceX_6 (kX_s9 k10)) rfl rfl (t_X6_overlay w x.2.1 hq34) (by decide) (by decide) rfl (Nat.le_of_ble_eq_true rfl) rfl dX10_copy_124 ?_
                show U shX w x r q33 127 [(7, .ref (w.2.2.1 c9)), (6, .ref (w.2.2.1 c5)), (0, .ref (w.2.2.1 0)), (1, .int a1), (2, .int a2), (3, .int a3), (4, .int a4), (5, .int a5)] []
                refine u_aload_n g 2 dX10_copy_127 rfl ?_
                refine u_iconst g (v := (1 : Int32)) dX10_copy_128 rfl ?_
                obtain ⟨q35, hq36, h⟩ := ob_bind h
                refine u_callV (st := []) g wv_X10_103 [.int (1 : Int32)] (kX_lt (show kX 0 = 10 from rfl) rfl) (ceX_10 (show kX 0 = 10 from rfl)) rfl rfl (t_X10_accept w x.2.1 hq36) (by decide) (by decide) rfl (Nat.le_of_ble_eq_true rfl) rfl dX10_copy_129 ?_
                show U shX w x r q35.2 132 [(7, .ref (w.2.2.1 c9)), (6, .ref (w.2.2.1 c5)), (0, .ref (w.2.2.1 0)), (1, .int a1), (2, .int a2), (3, .int a3), (4, .int a4), (5, .int a5)] [.int q35.1]
                exact u_iret g dX10_copy_132 (by rw [← hr]; obtain rfl := Option.some.inj h; rfl)
            · have h := ob_pos b24 h
              refine u_aload_n g 2 dX10_copy_84 rfl ?_
              refine u_iconst g (v := (2 : Int32)) dX10_copy_85 rfl ?_
              obtain ⟨q37, hq38, h⟩ := ob_bind h
              refine u_callV (st := []) g wv_X10_83 [.int (2 : Int32)] (kX_lt (show kX 0 = 10 from rfl) rfl) (ceX_10 (show kX 0 = 10 from rfl)) rfl rfl (t_X10_refuse w x.2.1 hq38) (by decide) (by decide) rfl (Nat.le_of_ble_eq_true rfl) rfl dX10_copy_86 ?_
              show U shX w x r q37.2 89 [(7, .ref (w.2.2.1 c9)), (6, .ref (w.2.2.1 c5)), (0, .ref (w.2.2.1 0)), (1, .int a1), (2, .int a2), (3, .int a3), (4, .int a4), (5, .int a5)] [.int q37.1]
              exact u_iret g dX10_copy_89 (by rw [← hr]; obtain rfl := Option.some.inj h; rfl)
        · have h := ob_neg b16 h
          refine u_aload_n g 2 dX10_copy_48 rfl ?_
          refine u_bipush g (v := (6 : Int32)) dX10_copy_49 rfl ?_
          obtain ⟨q39, hq40, h⟩ := ob_bind h
          refine u_callV (st := []) g wv_X10_83 [.int (6 : Int32)] (kX_lt (show kX 0 = 10 from rfl) rfl) (ceX_10 (show kX 0 = 10 from rfl)) rfl rfl (t_X10_refuse w x.2.1 hq40) (by decide) (by decide) rfl (Nat.le_of_ble_eq_true rfl) rfl dX10_copy_51 ?_
          show U shX w x r q39.2 54 [(7, .ref (w.2.2.1 c9)), (6, .ref (w.2.2.1 c5)), (0, .ref (w.2.2.1 0)), (1, .int a1), (2, .int a2), (3, .int a3), (4, .int a4), (5, .int a5)] [.int q39.1]
          exact u_iret g dX10_copy_54 (by rw [← hr]; obtain rfl := Option.some.inj h; rfl)
set_option maxRecDepth 100000 in
set_option maxHeartbeats 4000000 in
theorem t_X10_use (w : Wp) (l : Launch) {a1 : Int32} {M : Mem} {q : Int32 × Mem} (h : f_X10_use a1 M = some q) : Ct shX w l yX10_use cX10_use 3 (some .int) 1 [.ref (w.2.2.1 0), .int a1] M (some (.int q.1), q.2) := by
  rw [f_X10_use] at h
  refine ct_of shX_loc (by decide) (Nat.le_of_ble_eq_true rfl) rfl (fun x hx g => ?_)
  subst hx
  show U shX w x _ M 0 [(0, .ref (w.2.2.1 0)), (1, .int a1)] []
  generalize hr : ((some (.int q.1), q.2) : Option Value × Mem) = r
  have g : Gd shX w x RX10 cX10_use 3 (some .int) 1 := g
  refine u_aload_n g 0 dX10_use_0 rfl ?_
  refine u_iload_n g 1 dX10_use_1 rfl ?_
  obtain ⟨q1, hq2, h⟩ := ob_bind h
  refine u_callV (st := []) g wv_X10_335 [.int a1] (kX_lt (show kX 0 = 10 from rfl) rfl) (ceX_10 (show kX 0 = 10 from rfl)) rfl rfl (t_X10_placeAt w x.2.1 hq2) (by decide) (by decide) rfl (Nat.le_of_ble_eq_true rfl) rfl dX10_use_2 ?_
  show U shX w x r M 5 [(0, .ref (w.2.2.1 0)), (1, .int a1)] [rv w q1]
  refine u_astore_nO g [(2, rv w q1), (0, .ref (w.2.2.1 0)), (1, .int a1)] dX10_use_5 (by decide) rfl ?_
  refine u_aload_nO g 0 dX10_use_6 rfl ?_
  cases q1 with
  | none =>
    have h := ob_none h
    refine u_nonnullN g dX10_use_7 ?_
    show U shX w x r M 10 [(2, .null), (0, .ref (w.2.2.1 0)), (1, .int a1)] []
    refine u_aload_n g 1 dX10_use_10 rfl ?_
    refine u_iconst g (v := (1 : Int32)) dX10_use_11 rfl ?_
    obtain ⟨q5, hq6, h⟩ := ob_bind h
    refine u_callV (st := []) g wv_X10_83 [.int (1 : Int32)] (kX_lt (show kX 0 = 10 from rfl) rfl) (ceX_10 (show kX 0 = 10 from rfl)) rfl rfl (t_X10_refuse w x.2.1 hq6) (by decide) (by decide) rfl (Nat.le_of_ble_eq_true rfl) rfl dX10_use_12 ?_
    show U shX w x r q5.2 15 [(2, .null), (0, .ref (w.2.2.1 0)), (1, .int a1)] [.int q5.1]
    exact u_iret g dX10_use_15 (by rw [← hr]; obtain rfl := Option.some.inj h; rfl)
  | some c3 =>
    have h := ob_some h
    obtain ⟨k4, h⟩ := ob_if h
    refine u_nonnull g 16 dX10_use_7 (by decide) ?_
    show U shX w x r M 16 [(2, .ref (w.2.2.1 c3)), (0, .ref (w.2.2.1 0)), (1, .int a1)] []
    refine u_aload_n g 0 dX10_use_16 rfl ?_
    refine gfX9_0 g k4 wf_X10_344 (v := (M.1 c3 0)) rfl dX10_use_17 ?_
    refine u_iconst g (v := (3 : Int32)) dX10_use_20 rfl ?_
    refine u_icmp_eq g 31 dX10_use_21 (by decide) (fun b7 => ?_) (fun b7 => ?_)
    · have h := ob_pos b7 h
      refine u_aload_n g 0 dX10_use_31 rfl ?_
      refine gfX9_2 g k4 wf_X10_263 dX10_use_32 ?_
      obtain ⟨q8, hq9, h⟩ := ob_bind h
      refine u_callV (st := []) g wv_X10_274 [] (kX_lt (kX_s9 k4) rfl) (ceX_6 (kX_s9 k4)) rfl rfl (t_X6_allParts w x.2.1 hq9) (by decide) (by decide) rfl (Nat.le_of_ble_eq_true rfl) rfl dX10_use_35 ?_
      show U shX w x r M 38 [(2, .ref (w.2.2.1 c3)), (0, .ref (w.2.2.1 0)), (1, .int a1)] [.int q8]
      refine u_if_ne g 47 dX10_use_38 (by decide) (fun b10 => ?_) (fun b10 => ?_)
      · have h := ob_neg b10 h
        refine u_aload_n g 1 dX10_use_47 rfl ?_
        refine gfX10_7 g (c := 0) rfl wf_X10_49 dX10_use_48 ?_
        refine u_iconst g (v := (5 : Int32)) dX10_use_51 rfl ?_
        refine u_iconst g (v := (0 : Int32)) dX10_use_52 rfl ?_
        refine u_iconst g (v := (0 : Int32)) dX10_use_53 rfl ?_
        obtain ⟨⟨o13, M14⟩, hq12, h⟩ := ob_bind h
        refine u_callV (st := []) g wv_X10_99 [.int (5 : Int32), .int (0 : Int32), .int (0 : Int32)] (kX_lt (show kX 10 = 4 from rfl) rfl) (ceX_4 (show kX 10 = 4 from rfl)) rfl rfl (t_X4_open w x.2.1 hq12) (by decide) (by decide) rfl (Nat.le_of_ble_eq_true rfl) rfl dX10_use_54 ?_
        show U shX w x r M14 57 [(2, .ref (w.2.2.1 c3)), (0, .ref (w.2.2.1 0)), (1, .int a1)] [rv w o13]
        cases o13 with
        | none => cases h
        | some c15 =>
          have h := ob_some h
          obtain ⟨k16, h⟩ := ob_if h
          show U shX w x r M14 57 [(2, .ref (w.2.2.1 c3)), (0, .ref (w.2.2.1 0)), (1, .int a1)] [.ref (w.2.2.1 c15)]
          refine gfX0_3 g k16 wf_X10_257 dX10_use_57 ?_
          refine gfX9_2 g (kX_s0 k16) wf_X10_263 dX10_use_60 ?_
          refine u_aload_n g 1 dX10_use_63 rfl ?_
          refine gfX10_5 g (c := 0) rfl wf_X10_36 dX10_use_64 ?_
          obtain ⟨q17, hq18, h⟩ := ob_bind h
          refine u_callV (st := []) g wv_X10_264 [.ref (w.2.2.1 7)] (kX_lt (kX_s9 (kX_s0 k16)) rfl) (ceX_6 (kX_s9 (kX_s0 k16))) rfl rfl (t_X6_become w x.2.1 hq18) (by decide) (by decide) rfl (Nat.le_of_ble_eq_true rfl) rfl dX10_use_67 ?_
          show U shX w x r q17 70 [(2, .ref (w.2.2.1 c3)), (0, .ref (w.2.2.1 0)), (1, .int a1)] []
          refine u_aload_n g 1 dX10_use_70 rfl ?_
          refine gfX10_5 g (c := 0) rfl wf_X10_36 dX10_use_71 ?_
          refine u_aload_n g 0 dX10_use_74 rfl ?_
          refine gfX9_2 g k4 wf_X10_263 dX10_use_75 ?_
          obtain ⟨q19, hq20, h⟩ := ob_bind h
          refine u_callV (st := []) g wv_X10_264 [.ref (w.2.2.1 (c3 + 1))] (kX_lt (show kX 7 = 6 from rfl) rfl) (ceX_6 (show kX 7 = 6 from rfl)) rfl rfl (t_X6_become w x.2.1 hq20) (by decide) (by decide) rfl (Nat.le_of_ble_eq_true rfl) rfl dX10_use_78 ?_
          show U shX w x r q19 81 [(2, .ref (w.2.2.1 c3)), (0, .ref (w.2.2.1 0)), (1, .int a1)] []
          refine u_aload_n g 1 dX10_use_81 rfl ?_
          refine u_iconst g (v := (1 : Int32)) dX10_use_82 rfl ?_
          obtain ⟨q21, hq22, h⟩ := ob_bind h
          refine u_callV (st := []) g wv_X10_103 [.int (1 : Int32)] (kX_lt (show kX 0 = 10 from rfl) rfl) (ceX_10 (show kX 0 = 10 from rfl)) rfl rfl (t_X10_accept w x.2.1 hq22) (by decide) (by decide) rfl (Nat.le_of_ble_eq_true rfl) rfl dX10_use_83 ?_
          show U shX w x r q21.2 86 [(2, .ref (w.2.2.1 c3)), (0, .ref (w.2.2.1 0)), (1, .int a1)] [.int q21.1]
          exact u_iret g dX10_use_86 (by rw [← hr]; obtain rfl := Option.some.inj h; rfl)
      · have h := ob_pos b10 h
        refine u_aload_n g 1 dX10_use_41 rfl ?_
        refine u_iconst g (v := (5 : Int32)) dX10_use_42 rfl ?_
        obtain ⟨q23, hq24, h⟩ := ob_bind h
        refine u_callV (st := []) g wv_X10_83 [.int (5 : Int32)] (kX_lt (show kX 0 = 10 from rfl) rfl) (ceX_10 (show kX 0 = 10 from rfl)) rfl rfl (t_X10_refuse w x.2.1 hq24) (by decide) (by decide) rfl (Nat.le_of_ble_eq_true rfl) rfl dX10_use_43 ?_
        show U shX w x r q23.2 46 [(2, .ref (w.2.2.1 c3)), (0, .ref (w.2.2.1 0)), (1, .int a1)] [.int q23.1]
        exact u_iret g dX10_use_46 (by rw [← hr]; obtain rfl := Option.some.inj h; rfl)
    · have h := ob_neg b7 h
      refine u_aload_n g 1 dX10_use_24 rfl ?_
      refine u_bipush g (v := (6 : Int32)) dX10_use_25 rfl ?_
      obtain ⟨q25, hq26, h⟩ := ob_bind h
      refine u_callV (st := []) g wv_X10_83 [.int (6 : Int32)] (kX_lt (show kX 0 = 10 from rfl) rfl) (ceX_10 (show kX 0 = 10 from rfl)) rfl rfl (t_X10_refuse w x.2.1 hq26) (by decide) (by decide) rfl (Nat.le_of_ble_eq_true rfl) rfl dX10_use_27 ?_
      show U shX w x r q25.2 30 [(2, .ref (w.2.2.1 c3)), (0, .ref (w.2.2.1 0)), (1, .int a1)] [.int q25.1]
      exact u_iret g dX10_use_30 (by rw [← hr]; obtain rfl := Option.some.inj h; rfl)
set_option maxRecDepth 100000 in
set_option maxHeartbeats 4000000 in
theorem t_X10_takeBackPlace (w : Wp) (l : Launch) {t1 : Nat} {M : Mem} {q : Mem} (h : f_X10_takeBackPlace t1 M = some q) : Ct shX w l yX10_takeBackPlace cX10_takeBackPlace 3 none 2 [.ref (w.2.2.1 0), .ref (w.2.2.1 t1)] M (none, q) := by
  rw [f_X10_takeBackPlace] at h
  obtain ⟨h1, h⟩ := ob_if h
  refine ct_of shX_loc (by decide) (Nat.le_of_ble_eq_true rfl) rfl (fun x hx g => ?_)
  subst hx
  show U shX w x _ M 0 [(0, .ref (w.2.2.1 0)), (1, .ref (w.2.2.1 t1))] []
  generalize hr : ((none, q) : Option Value × Mem) = r
  have g : Gd shX w x RX10 cX10_takeBackPlace 3 none 2 := g
  refine u_aload_n g 0 dX10_takeBackPlace_0 rfl ?_
  refine u_aload_n g 1 dX10_takeBackPlace_1 rfl ?_
  refine gfX0_1 g h1 wf_X10_369 (v := (M.1 t1 1)) rfl dX10_takeBackPlace_2 ?_
  obtain ⟨q1, hq2, h⟩ := ob_bind h
  refine u_callV (st := []) g wv_X10_335 [.int (M.1 t1 1)] (kX_lt (show kX 0 = 10 from rfl) rfl) (ceX_10 (show kX 0 = 10 from rfl)) rfl rfl (t_X10_placeAt w x.2.1 hq2) (by decide) (by decide) rfl (Nat.le_of_ble_eq_true rfl) rfl dX10_takeBackPlace_5 ?_
  show U shX w x r M 8 [(0, .ref (w.2.2.1 0)), (1, .ref (w.2.2.1 t1))] [rv w q1]
  refine u_astore_nO g [(2, rv w q1), (0, .ref (w.2.2.1 0)), (1, .ref (w.2.2.1 t1))] dX10_takeBackPlace_8 (by decide) rfl ?_
  refine u_aload_nO g 0 dX10_takeBackPlace_9 rfl ?_
  cases q1 with
  | none =>
    have h := ob_none h
    refine u_isnullN g 21 dX10_takeBackPlace_10 (by decide) ?_
    show U shX w x r M 21 [(2, .null), (0, .ref (w.2.2.1 0)), (1, .ref (w.2.2.1 t1))] []
    exact u_vret g dX10_takeBackPlace_21 (by rw [← hr]; obtain rfl := Option.some.inj h; rfl)
  | some c3 =>
    have h := ob_some h
    obtain ⟨k4, h⟩ := ob_if h
    refine u_isnull g dX10_takeBackPlace_10 ?_
    show U shX w x r M 13 [(2, .ref (w.2.2.1 c3)), (0, .ref (w.2.2.1 0)), (1, .ref (w.2.2.1 t1))] []
    refine u_aload_n g 0 dX10_takeBackPlace_13 rfl ?_
    refine u_aload_n g 2 dX10_takeBackPlace_14 rfl ?_
    refine gfX0_3 g h1 wf_X10_257 dX10_takeBackPlace_15 ?_
    obtain ⟨q5, hq6, h⟩ := ob_bind h
    refine u_callV (st := []) g wv_X10_341 [.ref (w.2.2.1 (t1 + 1))] (kX_lt k4 rfl) (ceX_9 k4) rfl rfl (t_X9_become w x.2.1 hq6) (by decide) (by decide) rfl (Nat.le_of_ble_eq_true rfl) rfl dX10_takeBackPlace_18 ?_
    show U shX w x r q5 21 [(2, .ref (w.2.2.1 c3)), (0, .ref (w.2.2.1 0)), (1, .ref (w.2.2.1 t1))] []
    exact u_vret g dX10_takeBackPlace_21 (by rw [← hr]; obtain rfl := Option.some.inj h; rfl)
set_option maxRecDepth 100000 in
set_option maxHeartbeats 4000000 in
theorem t_X10_takeBack (w : Wp) (l : Launch) {t1 : Nat} {M : Mem} {q : Mem} (h : f_X10_takeBack t1 M = some q) : Ct shX w l yX10_takeBack cX10_takeBack 2 none 3 [.ref (w.2.2.1 0), .ref (w.2.2.1 t1)] M (none, q) := by
  rw [f_X10_takeBack] at h
  obtain ⟨h1, h⟩ := ob_if h
  refine ct_of shX_loc (by decide) (Nat.le_of_ble_eq_true rfl) rfl (fun x hx g => ?_)
  subst hx
  show U shX w x _ M 0 [(0, .ref (w.2.2.1 0)), (1, .ref (w.2.2.1 t1))] []
  generalize hr : ((none, q) : Option Value × Mem) = r
  have g : Gd shX w x RX10 cX10_takeBack 2 none 3 := g
  refine u_aload_n g 1 dX10_takeBack_0 rfl ?_
  refine gfX0_0 g h1 wf_X10_368 (v := (M.1 t1 0)) rfl dX10_takeBack_1 ?_
  by_cases b1 : (M.1 t1 0) = (0 : Int32)
  · have h := ob_pos b1 h
    refine u_tableIn g 44 dX10_takeBack_4 (0 : Int32) b1 rfl rfl (by decide) ?_
    refine u_aload_n g 0 dX10_takeBack_44 rfl ?_
    refine gfX10_0 g (c := 0) rfl wf_X10_10 dX10_takeBack_45 ?_
    refine u_aload_n g 1 dX10_takeBack_48 rfl ?_
    refine gfX0_1 g h1 wf_X10_369 (v := (M.1 t1 1)) rfl dX10_takeBack_49 ?_
    refine pfX5_0 g (c := 1) rfl wf_X10_87 dX10_takeBack_52 ?_
    refine u_aload_n g 0 dX10_takeBack_55 rfl ?_
    refine u_iconst g (v := (0 : Int32)) dX10_takeBack_56 rfl ?_
    refine pfX10_4 g (c := 0) rfl wf_X10_30 dX10_takeBack_57 ?_
    refine u_goto g 195 dX10_takeBack_60 (by decide) ?_
    exact u_vret g dX10_takeBack_195 (by rw [← hr]; obtain rfl := Option.some.inj h; rfl)
  have h := ob_neg b1 h
  by_cases b2 : (M.1 t1 0) = (1 : Int32)
  · have h := ob_pos b2 h
    refine u_tableIn g 63 dX10_takeBack_4 (1 : Int32) b2 rfl rfl (by decide) ?_
    refine u_aload_n g 0 dX10_takeBack_63 rfl ?_
    refine gfX10_0 g (c := 0) rfl wf_X10_10 dX10_takeBack_64 ?_
    refine u_aload_n g 1 dX10_takeBack_67 rfl ?_
    refine gfX0_1 g h1 wf_X10_369 (v := (M.1 t1 1)) rfl dX10_takeBack_68 ?_
    obtain ⟨q3, hq4, h⟩ := ob_bind h
    refine u_callV (st := []) g wv_X10_106 [.int (M.1 t1 1)] (kX_lt (show kX 1 = 5 from rfl) rfl) (ceX_5 (show kX 1 = 5 from rfl)) rfl rfl (t_X5_isThere w x.2.1 hq4) (by decide) (by decide) rfl (Nat.le_of_ble_eq_true rfl) rfl dX10_takeBack_71 ?_
    show U shX w x r M 74 [(0, .ref (w.2.2.1 0)), (1, .ref (w.2.2.1 t1))] [.int q3]
    refine u_if_eq g 195 dX10_takeBack_74 (by decide) (fun b5 => ?_) (fun b5 => ?_)
    · have h := ob_pos b5 h
      exact u_vret g dX10_takeBack_195 (by rw [← hr]; obtain rfl := Option.some.inj h; rfl)
    · have h := ob_neg b5 h
      refine u_aload_n g 0 dX10_takeBack_77 rfl ?_
      refine gfX10_0 g (c := 0) rfl wf_X10_10 dX10_takeBack_78 ?_
      refine gfX5_2 g (c := 1) rfl wf_X10_93 dX10_takeBack_81 ?_
      refine u_aload_n g 1 dX10_takeBack_84 rfl ?_
      refine gfX0_1 g h1 wf_X10_369 (v := (M.1 t1 1)) rfl dX10_takeBack_85 ?_
      refine u_aload_n g 1 dX10_takeBack_88 rfl ?_
      refine gfX0_2 g h1 wf_X10_372 (v := (M.1 t1 2)) rfl dX10_takeBack_89 ?_
      obtain ⟨e6, h⟩ := ob_if h
      refine aX_ist g (c := 3) 16 (by decide) rfl (inB_in e6) (j := (M.1 t1 1).toNatClampNeg) rfl dX10_takeBack_92 ?_
      refine u_goto g 195 dX10_takeBack_93 (by decide) ?_
      exact u_vret g dX10_takeBack_195 (by rw [← hr]; obtain rfl := Option.some.inj h; rfl)
  have h := ob_neg b2 h
  by_cases b7 : (M.1 t1 0) = (2 : Int32)
  · have h := ob_pos b7 h
    refine u_tableIn g 96 dX10_takeBack_4 (2 : Int32) b7 rfl rfl (by decide) ?_
    refine u_aload_n g 0 dX10_takeBack_96 rfl ?_
    refine u_aload_n g 1 dX10_takeBack_97 rfl ?_
    refine gfX0_1 g h1 wf_X10_369 (v := (M.1 t1 1)) rfl dX10_takeBack_98 ?_
    refine pfX10_2 g (c := 0) rfl wf_X10_22 dX10_takeBack_101 ?_
    refine u_goto g 195 dX10_takeBack_104 (by decide) ?_
    exact u_vret g dX10_takeBack_195 (by rw [← hr]; obtain rfl := Option.some.inj h; rfl)
  have h := ob_neg b7 h
  by_cases b8 : (M.1 t1 0) = (3 : Int32)
  · have h := ob_pos b8 h
    refine u_tableIn g 107 dX10_takeBack_4 (3 : Int32) b8 rfl rfl (by decide) ?_
    refine u_aload_n g 0 dX10_takeBack_107 rfl ?_
    refine gfX10_0 g (c := 0) rfl wf_X10_10 dX10_takeBack_108 ?_
    refine u_aload_n g 1 dX10_takeBack_111 rfl ?_
    refine gfX0_1 g h1 wf_X10_369 (v := (M.1 t1 1)) rfl dX10_takeBack_112 ?_
    obtain ⟨q9, hq10, h⟩ := ob_bind h
    refine u_callV (st := []) g wv_X10_106 [.int (M.1 t1 1)] (kX_lt (show kX 1 = 5 from rfl) rfl) (ceX_5 (show kX 1 = 5 from rfl)) rfl rfl (t_X5_isThere w x.2.1 hq10) (by decide) (by decide) rfl (Nat.le_of_ble_eq_true rfl) rfl dX10_takeBack_115 ?_
    show U shX w x r M 118 [(0, .ref (w.2.2.1 0)), (1, .ref (w.2.2.1 t1))] [.int q9]
    refine u_if_eq g 195 dX10_takeBack_118 (by decide) (fun b11 => ?_) (fun b11 => ?_)
    · have h := ob_pos b11 h
      exact u_vret g dX10_takeBack_195 (by rw [← hr]; obtain rfl := Option.some.inj h; rfl)
    · have h := ob_neg b11 h
      refine u_aload_n g 0 dX10_takeBack_121 rfl ?_
      refine gfX10_0 g (c := 0) rfl wf_X10_10 dX10_takeBack_122 ?_
      refine gfX5_3 g (c := 1) rfl wf_X10_96 dX10_takeBack_125 ?_
      refine u_aload_n g 1 dX10_takeBack_128 rfl ?_
      refine gfX0_1 g h1 wf_X10_369 (v := (M.1 t1 1)) rfl dX10_takeBack_129 ?_
      refine u_aload_n g 1 dX10_takeBack_132 rfl ?_
      refine gfX0_2 g h1 wf_X10_372 (v := (M.1 t1 2)) rfl dX10_takeBack_133 ?_
      obtain ⟨e12, h⟩ := ob_if h
      refine aX_ist g (c := 4) 16 (by decide) rfl (inB_in e12) (j := (M.1 t1 1).toNatClampNeg) rfl dX10_takeBack_136 ?_
      refine u_goto g 195 dX10_takeBack_137 (by decide) ?_
      exact u_vret g dX10_takeBack_195 (by rw [← hr]; obtain rfl := Option.some.inj h; rfl)
  have h := ob_neg b8 h
  by_cases b13 : (M.1 t1 0) = (4 : Int32)
  · have h := ob_pos b13 h
    refine u_tableIn g 140 dX10_takeBack_4 (4 : Int32) b13 rfl rfl (by decide) ?_
    refine u_aload_n g 0 dX10_takeBack_140 rfl ?_
    refine gfX10_5 g (c := 0) rfl wf_X10_36 dX10_takeBack_141 ?_
    refine u_aload_n g 1 dX10_takeBack_144 rfl ?_
    refine gfX0_1 g h1 wf_X10_369 (v := (M.1 t1 1)) rfl dX10_takeBack_145 ?_
    obtain ⟨q14, hq15, h⟩ := ob_bind h
    refine u_callV (st := []) g wv_X10_271 [.int (M.1 t1 1)] (kX_lt (show kX 7 = 6 from rfl) rfl) (ceX_6 (show kX 7 = 6 from rfl)) rfl rfl (t_X6_hasPart w x.2.1 hq15) (by decide) (by decide) rfl (Nat.le_of_ble_eq_true rfl) rfl dX10_takeBack_148 ?_
    show U shX w x r M 151 [(0, .ref (w.2.2.1 0)), (1, .ref (w.2.2.1 t1))] [.int q14]
    refine u_if_eq g 195 dX10_takeBack_151 (by decide) (fun b16 => ?_) (fun b16 => ?_)
    · have h := ob_pos b16 h
      exact u_vret g dX10_takeBack_195 (by rw [← hr]; obtain rfl := Option.some.inj h; rfl)
    · have h := ob_neg b16 h
      refine u_aload_n g 0 dX10_takeBack_154 rfl ?_
      refine gfX10_5 g (c := 0) rfl wf_X10_36 dX10_takeBack_155 ?_
      refine gfX6_2 g (c := 7) rfl wf_X10_277 dX10_takeBack_158 ?_
      refine u_aload_n g 1 dX10_takeBack_161 rfl ?_
      refine gfX0_1 g h1 wf_X10_369 (v := (M.1 t1 1)) rfl dX10_takeBack_162 ?_
      refine u_aload_n g 1 dX10_takeBack_165 rfl ?_
      refine gfX0_2 g h1 wf_X10_372 (v := (M.1 t1 2)) rfl dX10_takeBack_166 ?_
      obtain ⟨e17, h⟩ := ob_if h
      refine aX_ist g (c := (7 + 1)) 120 (by decide) (kX_s6 rfl) (inB_in e17) (j := (M.1 t1 1).toNatClampNeg) rfl dX10_takeBack_169 ?_
      refine u_goto g 195 dX10_takeBack_170 (by decide) ?_
      exact u_vret g dX10_takeBack_195 (by rw [← hr]; obtain rfl := Option.some.inj h; rfl)
  have h := ob_neg b13 h
  by_cases b18 : (M.1 t1 0) = (5 : Int32)
  · have h := ob_pos b18 h
    refine u_tableIn g 173 dX10_takeBack_4 (5 : Int32) b18 rfl rfl (by decide) ?_
    refine u_aload_n g 0 dX10_takeBack_173 rfl ?_
    refine gfX10_5 g (c := 0) rfl wf_X10_36 dX10_takeBack_174 ?_
    refine u_aload_n g 1 dX10_takeBack_177 rfl ?_
    refine gfX0_3 g h1 wf_X10_257 dX10_takeBack_178 ?_
    refine gfX9_2 g (kX_s0 h1) wf_X10_263 dX10_takeBack_181 ?_
    obtain ⟨q19, hq20, h⟩ := ob_bind h
    refine u_callV (st := []) g wv_X10_264 [.ref (w.2.2.1 ((t1 + 1) + 1))] (kX_lt (show kX 7 = 6 from rfl) rfl) (ceX_6 (show kX 7 = 6 from rfl)) rfl rfl (t_X6_become w x.2.1 hq20) (by decide) (by decide) rfl (Nat.le_of_ble_eq_true rfl) rfl dX10_takeBack_184 ?_
    show U shX w x r q19 187 [(0, .ref (w.2.2.1 0)), (1, .ref (w.2.2.1 t1))] []
    refine u_goto g 195 dX10_takeBack_187 (by decide) ?_
    exact u_vret g dX10_takeBack_195 (by rw [← hr]; obtain rfl := Option.some.inj h; rfl)
  have h := ob_neg b18 h
  refine u_tableOut g 190 dX10_takeBack_4 (sw_out 5 (by decide) _ rfl (fun j hj => match j, hj with | 0, _ => b1 | 1, _ => b2 | 2, _ => b7 | 3, _ => b8 | 4, _ => b13 | 5, _ => b18 | k + 6, hk => absurd hk (by omega))) (by decide) ?_
  refine u_aload_n g 0 dX10_takeBack_190 rfl ?_
  refine u_aload_n g 1 dX10_takeBack_191 rfl ?_
  obtain ⟨q21, hq22, h⟩ := ob_bind h
  refine u_callV (st := []) g wv_X10_375 [.ref (w.2.2.1 t1)] (kX_lt (show kX 0 = 10 from rfl) rfl) (ceX_10 (show kX 0 = 10 from rfl)) rfl rfl (t_X10_takeBackPlace w x.2.1 hq22) (by decide) (by decide) rfl (Nat.le_of_ble_eq_true rfl) rfl dX10_takeBack_192 ?_
  show U shX w x r q21 195 [(0, .ref (w.2.2.1 0)), (1, .ref (w.2.2.1 t1))] []
  exact u_vret g dX10_takeBack_195 (by rw [← hr]; obtain rfl := Option.some.inj h; rfl)
set_option maxRecDepth 100000 in
set_option maxHeartbeats 4000000 in
theorem t_X10_undo (w : Wp) (l : Launch)  {M : Mem} {q : Int32 × Mem} (h : f_X10_undo M = some q) : Ct shX w l yX10_undo cX10_undo 2 (some .int) 4 [.ref (w.2.2.1 0)] M (some (.int q.1), q.2) := by
  rw [f_X10_undo] at h
  refine ct_of shX_loc (by decide) (Nat.le_of_ble_eq_true rfl) rfl (fun x hx g => ?_)
  subst hx
  show U shX w x _ M 0 [(0, .ref (w.2.2.1 0))] []
  generalize hr : ((some (.int q.1), q.2) : Option Value × Mem) = r
  have g : Gd shX w x RX10 cX10_undo 2 (some .int) 4 := g
  refine u_aload_n g 0 dX10_undo_0 rfl ?_
  refine gfX10_7 g (c := 0) rfl wf_X10_49 dX10_undo_1 ?_
  obtain ⟨⟨o3, M4⟩, hq2, h⟩ := ob_bind h
  refine u_callV (st := []) g wv_X10_357 [] (kX_lt (show kX 10 = 4 from rfl) rfl) (ceX_4 (show kX 10 = 4 from rfl)) rfl rfl (t_X4_closeLatest w x.2.1 hq2) (by decide) (by decide) rfl (Nat.le_of_ble_eq_true rfl) rfl dX10_undo_4 ?_
  show U shX w x r M4 7 [(0, .ref (w.2.2.1 0))] [rv w o3]
  refine u_astore_nO g [(1, rv w o3), (0, .ref (w.2.2.1 0))] dX10_undo_7 (by decide) rfl ?_
  refine u_aload_nO g 0 dX10_undo_8 rfl ?_
  cases o3 with
  | none =>
    have h := ob_none h
    refine u_nonnullN g dX10_undo_9 ?_
    show U shX w x r M4 12 [(1, .null), (0, .ref (w.2.2.1 0))] []
    refine u_iconst g (v := (0 : Int32)) dX10_undo_12 rfl ?_
    exact u_iret g dX10_undo_13 (by rw [← hr]; obtain rfl := Option.some.inj h; rfl)
  | some c5 =>
    have h := ob_some h
    obtain ⟨k6, h⟩ := ob_if h
    refine u_nonnull g 14 dX10_undo_9 (by decide) ?_
    show U shX w x r M4 14 [(1, .ref (w.2.2.1 c5)), (0, .ref (w.2.2.1 0))] []
    refine u_aload_n g 1 dX10_undo_14 rfl ?_
    refine u_aload_n g 0 dX10_undo_15 rfl ?_
    obtain ⟨q7, hq8, h⟩ := ob_bind h
    refine u_callV (st := []) g wv_X10_361 [.ref (w.2.2.1 c5)] (kX_lt (show kX 0 = 10 from rfl) rfl) (ceX_10 (show kX 0 = 10 from rfl)) rfl rfl (t_X10_takeBack w x.2.1 hq8) (by decide) (by decide) rfl (Nat.le_of_ble_eq_true rfl) rfl dX10_undo_16 ?_
    show U shX w x r q7 19 [(1, .ref (w.2.2.1 c5)), (0, .ref (w.2.2.1 0))] []
    refine u_iconst g (v := (1 : Int32)) dX10_undo_19 rfl ?_
    exact u_iret g dX10_undo_20 (by rw [← hr]; obtain rfl := Option.some.inj h; rfl)
set_option maxRecDepth 100000 in
set_option maxHeartbeats 4000000 in
theorem t_X10_size (w : Wp) (l : Launch) {a1 : Int32} {M : Mem} {q : Int32} (h : f_X10_size a1 M = some q) : Ct shX w l yX10_size cX10_size 2 (some .int) 0 [.ref (w.2.2.1 0), .int a1] M (some (.int q), M) := by
  rw [f_X10_size] at h
  refine ct_of shX_loc (by decide) (Nat.le_of_ble_eq_true rfl) rfl (fun x hx g => ?_)
  subst hx
  show U shX w x _ M 0 [(0, .ref (w.2.2.1 0)), (1, .int a1)] []
  generalize hr : ((some (.int q), M) : Option Value × Mem) = r
  have g : Gd shX w x RX10 cX10_size 2 (some .int) 0 := g
  refine u_iload_n g 1 dX10_size_0 rfl ?_
  by_cases b1 : a1 = (0 : Int32)
  · have h := ob_pos b1 h
    refine u_tableIn g 36 dX10_size_1 (0 : Int32) b1 rfl rfl (by decide) ?_
    refine u_aload_n g 0 dX10_size_36 rfl ?_
    refine gfX10_0 g (c := 0) rfl wf_X10_10 dX10_size_37 ?_
    refine gfX5_0 g (c := 1) rfl wf_X10_87 (v := (M.1 1 0)) rfl dX10_size_40 ?_
    exact u_iret g dX10_size_43 (by rw [← hr]; obtain rfl := Option.some.inj h; rfl)
  have h := ob_neg b1 h
  by_cases b2 : a1 = (1 : Int32)
  · have h := ob_pos b2 h
    refine u_tableIn g 44 dX10_size_1 (1 : Int32) b2 rfl rfl (by decide) ?_
    refine u_aload_n g 0 dX10_size_44 rfl ?_
    refine gfX10_2 g (c := 0) rfl wf_X10_22 (v := (M.1 0 2)) rfl dX10_size_45 ?_
    exact u_iret g dX10_size_48 (by rw [← hr]; obtain rfl := Option.some.inj h; rfl)
  have h := ob_neg b2 h
  by_cases b3 : a1 = (2 : Int32)
  · have h := ob_pos b3 h
    refine u_tableIn g 49 dX10_size_1 (2 : Int32) b3 rfl rfl (by decide) ?_
    refine u_aload_n g 0 dX10_size_49 rfl ?_
    refine gfX10_4 g (c := 0) rfl wf_X10_30 (v := (M.1 0 4)) rfl dX10_size_50 ?_
    exact u_iret g dX10_size_53 (by rw [← hr]; obtain rfl := Option.some.inj h; rfl)
  have h := ob_neg b3 h
  by_cases b4 : a1 = (3 : Int32)
  · have h := ob_pos b4 h
    refine u_tableIn g 54 dX10_size_1 (3 : Int32) b4 rfl rfl (by decide) ?_
    refine u_aload_n g 0 dX10_size_54 rfl ?_
    refine gfX10_7 g (c := 0) rfl wf_X10_49 dX10_size_55 ?_
    refine gfX4_2 g (c := 10) rfl wf_X10_365 (v := (M.1 10 2)) rfl dX10_size_58 ?_
    exact u_iret g dX10_size_61 (by rw [← hr]; obtain rfl := Option.some.inj h; rfl)
  have h := ob_neg b4 h
  by_cases b5 : a1 = (4 : Int32)
  · have h := ob_pos b5 h
    refine u_tableIn g 62 dX10_size_1 (4 : Int32) b5 rfl rfl (by decide) ?_
    refine u_aload_n g 0 dX10_size_62 rfl ?_
    refine gfX10_8 g (c := 0) rfl wf_X10_56 dX10_size_63 ?_
    refine gfX8_0 g (c := 252) rfl wf_X10_322 (v := (M.1 252 0)) rfl dX10_size_66 ?_
    exact u_iret g dX10_size_69 (by rw [← hr]; obtain rfl := Option.some.inj h; rfl)
  have h := ob_neg b5 h
  refine u_tableOut g 70 dX10_size_1 (sw_out 4 (by decide) _ rfl (fun j hj => match j, hj with | 0, _ => b1 | 1, _ => b2 | 2, _ => b3 | 3, _ => b4 | 4, _ => b5 | k + 5, hk => absurd hk (by omega))) (by decide) ?_
  refine u_iconst g (v := (-1 : Int32)) dX10_size_70 rfl ?_
  exact u_iret g dX10_size_71 (by rw [← hr]; obtain rfl := Option.some.inj h; rfl)
set_option maxRecDepth 100000 in
set_option maxHeartbeats 4000000 in
theorem t_X10_status (w : Wp) (l : Launch)  {M : Mem} {q : Int32} (h : f_X10_status M = some q) : Ct shX w l yX10_status cX10_status 1 (some .int) 0 [.ref (w.2.2.1 0)] M (some (.int q), M) := by
  rw [f_X10_status] at h
  refine ct_of shX_loc (by decide) (Nat.le_of_ble_eq_true rfl) rfl (fun x hx g => ?_)
  subst hx
  show U shX w x _ M 0 [(0, .ref (w.2.2.1 0))] []
  generalize hr : ((some (.int q), M) : Option Value × Mem) = r
  have g : Gd shX w x RX10 cX10_status 1 (some .int) 0 := g
  refine u_aload_n g 0 dX10_status_0 rfl ?_
  refine gfX10_11 g (c := 0) rfl wf_X10_74 (v := (M.1 0 11)) rfl dX10_status_1 ?_
  exact u_iret g dX10_status_4 (by rw [← hr]; obtain rfl := Option.some.inj h; rfl)
