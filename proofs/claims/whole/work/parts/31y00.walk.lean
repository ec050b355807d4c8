set_option maxRecDepth 100000 in
set_option maxHeartbeats 4000000 in
theorem t_X11_no (w : Wp) (l : Launch) {a1 : Int32} {M : Mem} {q : Int32 × Mem} (h : f_X11_no a1 M = some q) : Ct shY w l yX11_no cX11_no 2 (some .int) 0 [.ref (w.2.2.1 0), .int a1] M (some (.int q.1), q.2) := by
  rw [f_X11_no] at h
  refine ct_of shY_loc (by decide) (Nat.le_of_ble_eq_true rfl) rfl (fun x hx g => ?_)
  subst hx
  show U shY w x _ M 0 [(0, .ref (w.2.2.1 0)), (1, .int a1)] []
  generalize hr : ((some (.int q.1), q.2) : Option Value × Mem) = r
  have g : Gd shY w x RX11 cX11_no 2 (some .int) 0 := g
  refine u_aload_n g 0 dX11_no_0 rfl ?_
  refine u_iload_n g 1 dX11_no_1 rfl ?_
  refine pfX11_4 g wf_X11_88 dX11_no_2 ?_
  refine u_iconst g (v := (-1 : Int32)) dX11_no_5 rfl ?_
  exact u_iret g dX11_no_6 (by rw [← hr]; obtain rfl := Option.some.inj h; rfl)
set_option maxRecDepth 100000 in
set_option maxHeartbeats 4000000 in
theorem t_X11_not (w : Wp) (l : Launch) {a1 : Int32} {M : Mem} {q : Int32 × Mem} (h : f_X11_not a1 M = some q) : Ct shY w l yX11_not cX11_not 2 (some .boolean) 0 [.ref (w.2.2.1 0), .int a1] M (some (.int q.1), q.2) := by
  rw [f_X11_not] at h
  refine ct_of shY_loc (by decide) (Nat.le_of_ble_eq_true rfl) rfl (fun x hx g => ?_)
  subst hx
  show U shY w x _ M 0 [(0, .ref (w.2.2.1 0)), (1, .int a1)] []
  generalize hr : ((some (.int q.1), q.2) : Option Value × Mem) = r
  have g : Gd shY w x RX11 cX11_not 2 (some .boolean) 0 := g
  refine u_aload_n g 0 dX11_not_0 rfl ?_
  refine u_iload_n g 1 dX11_not_1 rfl ?_
  refine pfX11_4 g wf_X11_88 dX11_not_2 ?_
  refine u_iconst g (v := (0 : Int32)) dX11_not_5 rfl ?_
  exact u_zret g (Or.inl rfl) dX11_not_6 (by rw [← hr]; obtain rfl := Option.some.inj h; rfl)
set_option maxRecDepth 100000 in
set_option maxHeartbeats 4000000 in
theorem t_X11_in (w : Wp) (l : Launch) {a1 : Int32} {a2 : Int32} {a3 : Int32} {M : Mem} {q : Int32} (h : f_X11_in a1 a2 a3 = some q) : Ct shY w l yX11_in cX11_in 4 (some .boolean) 0 [.ref (w.2.2.1 0), .int a1, .int a2, .int a3] M (some (.int q), M) := by
  rw [f_X11_in] at h
  refine ct_of shY_loc (by decide) (Nat.le_of_ble_eq_true rfl) rfl (fun x hx g => ?_)
  subst hx
  show U shY w x _ M 0 [(0, .ref (w.2.2.1 0)), (1, .int a1), (2, .int a2), (3, .int a3)] []
  generalize hr : ((some (.int q), M) : Option Value × Mem) = r
  have g : Gd shY w x RX11 cX11_in 4 (some .boolean) 0 := g
  refine u_iload_n g 1 dX11_in_0 rfl ?_
  refine u_iload_n g 2 dX11_in_1 rfl ?_
  refine u_icmp_lt g 14 dX11_in_2 (by decide) (fun b1 => ?_) (fun b1 => ?_)
  · have h := ob_pos b1 h
    refine u_iconst g (v := (0 : Int32)) dX11_in_14 rfl ?_
    exact u_zret g (Or.inl rfl) dX11_in_15 (by rw [← hr]; obtain rfl := Option.some.inj h; rfl)
  · have h := ob_neg b1 h
    refine u_iload_n g 1 dX11_in_5 rfl ?_
    refine u_iload_n g 3 dX11_in_6 rfl ?_
    refine u_icmp_gt g 14 dX11_in_7 (by decide) (fun b2 => ?_) (fun b2 => ?_)
    · have h := ob_pos b2 h
      refine u_iconst g (v := (0 : Int32)) dX11_in_14 rfl ?_
      exact u_zret g (Or.inl rfl) dX11_in_15 (by rw [← hr]; obtain rfl := Option.some.inj h; rfl)
    · have h := ob_neg b2 h
      refine u_iconst g (v := (1 : Int32)) dX11_in_10 rfl ?_
      refine u_goto g 15 dX11_in_11 (by decide) ?_
      exact u_zret g (Or.inr rfl) dX11_in_15 (by rw [← hr]; obtain rfl := Option.some.inj h; rfl)
set_option maxRecDepth 100000 in
set_option maxHeartbeats 4000000 in
theorem s_X11_bitsOf_l1 {w : Wp} {x : Cx} {r : Option Value × Mem} (g : Gd shY w x RX11 cX11_bitsOf 4 (some .int) 0)   (M : Mem) : ∀ (n : Nat) (v2 : Int32) (v3 : Int32) (q : Int32), f_X11_bitsOf_l1 n v2 v3 = some q → U shY w x r M 20 [(2, .int q)] [] → U shY w x r M 4 [(2, .int v2), (3, .int v3)] [] := by
  intro n
  induction n with
  | zero => intro v2 v3 q h K; rw [f_X11_bitsOf_l1] at h; cases h
  | succ n ih =>
    intro v2 v3 q h K
    rw [f_X11_bitsOf_l1] at h
    refine u_iload_n g 1 dX11_bitsOf_4 rfl ?_
    refine u_if_eq g 20 dX11_bitsOf_5 (by decide) (fun b1 => ?_) (fun b1 => ?_)
    · have h := ob_pos b1 h
      obtain rfl := Option.some.inj h
      exact u_sub [0] rfl K
    · have h := ob_neg b1 h
      refine u_iinc g 0 [(2, .int (v2 + (1 : Int32))), (3, .int v3)] dX11_bitsOf_8 rfl rfl (by decide) rfl ?_
      refine u_iload_n g 1 dX11_bitsOf_11 rfl ?_
      refine u_iload_n g 1 dX11_bitsOf_12 rfl ?_
      refine u_iconst g (v := (1 : Int32)) dX11_bitsOf_13 rfl ?_
      refine u_isub g dX11_bitsOf_14 ?_
      refine u_iand g dX11_bitsOf_15 ?_
      refine u_istore_n g [(3, .int (v3 &&& (v3 - (1 : Int32)))), (2, .int (v2 + (1 : Int32)))] dX11_bitsOf_16 (by decide) rfl ?_
      refine u_goto g 4 dX11_bitsOf_17 (by decide) ?_
      exact u_sub [1, 0] rfl (ih (v2 + (1 : Int32)) (v3 &&& (v3 - (1 : Int32))) _ h K)
set_option maxRecDepth 100000 in
set_option maxHeartbeats 4000000 in
theorem t_X11_bitsOf (w : Wp) (l : Launch) {a1 : Int32} {M : Mem} {q : Int32} (h : f_X11_bitsOf a1 = some q) : Ct shY w l yX11_bitsOf cX11_bitsOf 4 (some .int) 0 [.ref (w.2.2.1 0), .int a1] M (some (.int q), M) := by
  rw [f_X11_bitsOf] at h
  refine ct_of shY_loc (by decide) (Nat.le_of_ble_eq_true rfl) rfl (fun x hx g => ?_)
  subst hx
  show U shY w x _ M 0 [(0, .ref (w.2.2.1 0)), (1, .int a1)] []
  generalize hr : ((some (.int q), M) : Option Value × Mem) = r
  have g : Gd shY w x RX11 cX11_bitsOf 4 (some .int) 0 := g
  refine u_iconst g (v := (0 : Int32)) dX11_bitsOf_0 rfl ?_
  refine u_istore_n g [(2, .int (0 : Int32)), (0, .ref (w.2.2.1 0)), (1, .int a1)] dX11_bitsOf_1 (by decide) rfl ?_
  refine u_iload_n g 2 dX11_bitsOf_2 rfl ?_
  refine u_istore_n g [(3, .int a1), (2, .int (0 : Int32)), (0, .ref (w.2.2.1 0)), (1, .int a1)] dX11_bitsOf_3 (by decide) rfl ?_
  obtain ⟨q1, hq2, h⟩ := ob_bind h
  refine u_sub [1, 0] rfl (s_X11_bitsOf_l1 g M fuelN (0 : Int32) a1 _ hq2 ?_)
  show U shY w x r M 20 [(2, .int q1)] []
  refine u_iload_n g 0 dX11_bitsOf_20 rfl ?_
  exact u_iret g dX11_bitsOf_21 (by rw [← hr]; obtain rfl := Option.some.inj h; rfl)
set_option maxRecDepth 100000 in
set_option maxHeartbeats 4000000 in
theorem t_X11_isSet (w : Wp) (l : Launch) {a1 : Int32} {M : Mem} {q : Int32} (h : f_X11_isSet a1 M = some q) : Ct shY w l yX11_isSet cX11_isSet 2 (some .boolean) 0 [.ref (w.2.2.1 0), .int a1] M (some (.int q), M) := by
  rw [f_X11_isSet] at h
  refine ct_of shY_loc (by decide) (Nat.le_of_ble_eq_true rfl) rfl (fun x hx g => ?_)
  subst hx
  show U shY w x _ M 0 [(0, .ref (w.2.2.1 0)), (1, .int a1)] []
  generalize hr : ((some (.int q), M) : Option Value × Mem) = r
  have g : Gd shY w x RX11 cX11_isSet 2 (some .boolean) 0 := g
  refine u_iload_n g 1 dX11_isSet_0 rfl ?_
  refine u_if_le g 18 dX11_isSet_1 (by decide) (fun b1 => ?_) (fun b1 => ?_)
  · have h := ob_pos b1 h
    refine u_iconst g (v := (0 : Int32)) dX11_isSet_18 rfl ?_
    exact u_zret g (Or.inl rfl) dX11_isSet_19 (by rw [← hr]; obtain rfl := Option.some.inj h; rfl)
  · have h := ob_neg b1 h
    refine u_iload_n g 1 dX11_isSet_4 rfl ?_
    refine u_iconst g (v := (1 : Int32)) dX11_isSet_5 rfl ?_
    refine u_aload_n g 0 dX11_isSet_6 rfl ?_
    refine gfX11_3 g wf_X11_91 (v := (M.1 0 3)) rfl dX11_isSet_7 ?_
    refine u_ishl g dX11_isSet_10 ?_
    refine u_icmp_ge g 18 dX11_isSet_11 (by decide) (fun b2 => ?_) (fun b2 => ?_)
    · have h := ob_pos b2 h
      refine u_iconst g (v := (0 : Int32)) dX11_isSet_18 rfl ?_
      exact u_zret g (Or.inl rfl) dX11_isSet_19 (by rw [← hr]; obtain rfl := Option.some.inj h; rfl)
    · have h := ob_neg b2 h
      refine u_iconst g (v := (1 : Int32)) dX11_isSet_14 rfl ?_
      refine u_goto g 19 dX11_isSet_15 (by decide) ?_
      exact u_zret g (Or.inr rfl) dX11_isSet_19 (by rw [← hr]; obtain rfl := Option.some.inj h; rfl)
set_option maxRecDepth 100000 in
set_option maxHeartbeats 4000000 in
theorem t_X11_isFamily (w : Wp) (l : Launch) {a1 : Int32} {M : Mem} {q : Int32} (h : f_X11_isFamily a1 M = some q) : Ct shY w l yX11_isFamily cX11_isFamily 2 (some .boolean) 1 [.ref (w.2.2.1 0), .int a1] M (some (.int q), M) := by
  rw [f_X11_isFamily] at h
  refine ct_of shY_loc (by decide) (Nat.le_of_ble_eq_true rfl) rfl (fun x hx g => ?_)
  subst hx
  show U shY w x _ M 0 [(0, .ref (w.2.2.1 0)), (1, .int a1)] []
  generalize hr : ((some (.int q), M) : Option Value × Mem) = r
  have g : Gd shY w x RX11 cX11_isFamily 2 (some .boolean) 1 := g
  refine u_aload_n g 0 dX11_isFamily_0 rfl ?_
  refine u_iload_n g 1 dX11_isFamily_1 rfl ?_
  refine u_iconst g (v := (0 : Int32)) dX11_isFamily_2 rfl ?_
  refine u_aload_n g 0 dX11_isFamily_3 rfl ?_
  refine gfX11_11 g wf_X11_94 (v := (M.1 0 11)) rfl dX11_isFamily_4 ?_
  refine u_iconst g (v := (1 : Int32)) dX11_isFamily_7 rfl ?_
  refine u_isub g dX11_isFamily_8 ?_
  obtain ⟨q1, hq2, h⟩ := ob_bind h
  refine u_callV (st := []) g wv_X11_97 [.int a1, .int (0 : Int32), .int ((M.1 0 11) - (1 : Int32))] (show 0 < shY.1 by decide) ceY_0 rfl rfl (t_X11_in w x.2.1 hq2) (by decide) (by decide) rfl (Nat.le_of_ble_eq_true rfl) rfl dX11_isFamily_9 ?_
  show U shY w x r M 12 [(0, .ref (w.2.2.1 0)), (1, .int a1)] [.int q1]
  obtain ⟨hz, h⟩ := ob_if h
  exact u_zret g hz dX11_isFamily_12 (by rw [← hr]; obtain rfl := Option.some.inj h; rfl)
set_option maxRecDepth 100000 in
set_option maxHeartbeats 4000000 in
theorem t_X11_quorumOf (w : Wp) (l : Launch) {a1 : Int32} {a2 : Int32} {M : Mem} {q : Int32} (h : f_X11_quorumOf a1 a2 M = some q) : Ct shY w l yX11_quorumOf cX11_quorumOf 3 (some .int) 0 [.ref (w.2.2.1 0), .int a1, .int a2] M (some (.int q), M) := by
  rw [f_X11_quorumOf] at h
  refine ct_of shY_loc (by decide) (Nat.le_of_ble_eq_true rfl) rfl (fun x hx g => ?_)
  subst hx
  show U shY w x _ M 0 [(0, .ref (w.2.2.1 0)), (1, .int a1), (2, .int a2)] []
  generalize hr : ((some (.int q), M) : Option Value × Mem) = r
  have g : Gd shY w x RX11 cX11_quorumOf 3 (some .int) 0 := g
  refine u_aload_n g 0 dX11_quorumOf_0 rfl ?_
  refine gfX11_10 g wf_X11_28 dX11_quorumOf_1 ?_
  refine u_bipush g (v := (120 : Int32)) dX11_quorumOf_4 rfl ?_
  refine u_iload_n g 1 dX11_quorumOf_6 rfl ?_
  refine u_imul g dX11_quorumOf_7 ?_
  refine u_iload_n g 2 dX11_quorumOf_8 rfl ?_
  refine u_iadd g dX11_quorumOf_9 ?_
  obtain ⟨e1, h⟩ := ob_if h
  refine aY_ild g (c := 7) 2880 (by decide) rfl (v := (M.1 7 (((120 : Int32) * a1) + a2).toNatClampNeg)) (inB_in e1) rfl dX11_quorumOf_10 ?_
  exact u_iret g dX11_quorumOf_11 (by rw [← hr]; obtain rfl := Option.some.inj h; rfl)
set_option maxRecDepth 100000 in
set_option maxHeartbeats 4000000 in
theorem s_X11_act_l1 {w : Wp} {x : Cx} {r : Option Value × Mem} (g : Gd shY w x RX11 cX11_act 5 none 0) (a1 : Int32) (a2 : Int32) (a3 : Int32)  : ∀ (n : Nat) (v4 : Int32) (M : Mem) (q : Mem), f_X11_act_l1 a1 a2 a3 n v4 M = some q → U shY w x r q 44 [(0, .ref (w.2.2.1 0)), (1, .int a1), (2, .int a2), (3, .int a3)] [] → U shY w x r M 13 [(0, .ref (w.2.2.1 0)), (1, .int a1), (2, .int a2), (3, .int a3), (4, .int v4)] [] := by
  intro n
  induction n with
  | zero => intro v4 M q h K; rw [f_X11_act_l1] at h; cases h
  | succ n ih =>
    intro v4 M q h K
    rw [f_X11_act_l1] at h
    refine u_iload g 4 dX11_act_13 rfl ?_
    refine u_sipush g (v := (7560 : Int32)) dX11_act_15 rfl ?_
    refine u_icmp_ge g 44 dX11_act_18 (by decide) (fun b2 => ?_) (fun b2 => ?_)
    · have h := ob_pos b2 h
      obtain rfl := Option.some.inj h
      exact u_sub [0, 1, 2, 3] rfl K
    · have h := ob_neg b2 h
      refine u_aload_n g 0 dX11_act_21 rfl ?_
      refine gfX11_19 g wf_X11_46 dX11_act_22 ?_
      refine u_iload g 4 dX11_act_25 rfl ?_
      refine u_bipush g (v := (126 : Int32)) dX11_act_27 rfl ?_
      refine u_isub g dX11_act_29 ?_
      refine u_aload_n g 0 dX11_act_30 rfl ?_
      refine gfX11_19 g wf_X11_46 dX11_act_31 ?_
      refine u_iload g 4 dX11_act_34 rfl ?_
      obtain ⟨e3, h⟩ := ob_if h
      refine aY_ild g (c := 13) 7560 (by decide) rfl (v := (M.1 13 v4.toNatClampNeg)) (inB_in e3) rfl dX11_act_36 ?_
      obtain ⟨e4, h⟩ := ob_if h
      refine aY_ist g (c := 13) 7560 (by decide) rfl (inB_in e4) (j := (v4 - (126 : Int32)).toNatClampNeg) rfl dX11_act_37 ?_
      refine u_iinc g 4 [(4, .int (v4 + (1 : Int32))), (0, .ref (w.2.2.1 0)), (1, .int a1), (2, .int a2), (3, .int a3)] dX11_act_38 rfl rfl (by decide) rfl ?_
      refine u_goto g 13 dX11_act_41 (by decide) ?_
      exact u_sub [1, 2, 3, 4, 0] rfl (ih (v4 + (1 : Int32)) (sI M 13 (v4 - (126 : Int32)).toNatClampNeg (M.1 13 v4.toNatClampNeg)) _ h K)
set_option maxRecDepth 100000 in
set_option maxHeartbeats 4000000 in
theorem t_X11_act (w : Wp) (l : Launch) {a1 : Int32} {a2 : Int32} {a3 : Int32} {M : Mem} {q : Mem} (h : f_X11_act a1 a2 a3 M = some q) : Ct shY w l yX11_act cX11_act 5 none 0 [.ref (w.2.2.1 0), .int a1, .int a2, .int a3] M (none, q) := by
  rw [f_X11_act] at h
  refine ct_of shY_loc (by decide) (Nat.le_of_ble_eq_true rfl) rfl (fun x hx g => ?_)
  subst hx
  show U shY w x _ M 0 [(0, .ref (w.2.2.1 0)), (1, .int a1), (2, .int a2), (3, .int a3)] []
  generalize hr : ((none, q) : Option Value × Mem) = r
  have g : Gd shY w x RX11 cX11_act 5 none 0 := g
  refine u_aload_n g 0 dX11_act_0 rfl ?_
  refine gfX11_20 g wf_X11_101 (v := (M.1 0 20)) rfl dX11_act_1 ?_
  refine u_bipush g (v := (60 : Int32)) dX11_act_4 rfl ?_
  obtain ⟨q1, hq2, h⟩ := ob_bind h
  have K3 : U shY w x r q1 54 [(0, .ref (w.2.2.1 0)), (1, .int a1), (2, .int a2), (3, .int a3)] [] := by
    refine u_bipush g (v := (126 : Int32)) dX11_act_54 rfl ?_
    refine u_aload_n g 0 dX11_act_56 rfl ?_
    refine gfX11_20 g wf_X11_101 (v := (q1.1 0 20)) rfl dX11_act_57 ?_
    refine u_imul g dX11_act_60 ?_
    refine u_istore g [(4, .int ((126 : Int32) * (q1.1 0 20))), (0, .ref (w.2.2.1 0)), (1, .int a1), (2, .int a2), (3, .int a3)] dX11_act_61 (by decide) rfl ?_
    refine u_aload_n g 1 dX11_act_63 rfl ?_
    refine gfX11_19 g wf_X11_46 dX11_act_64 ?_
    refine u_iload g 0 dX11_act_67 rfl ?_
    refine u_iload_n g 2 dX11_act_69 rfl ?_
    obtain ⟨e4, h⟩ := ob_if h
    refine aY_ist g (c := 13) 7560 (by decide) rfl (inB_in e4) (j := ((126 : Int32) * (q1.1 0 20)).toNatClampNeg) rfl dX11_act_70 ?_
    refine u_aload_n g 1 dX11_act_71 rfl ?_
    refine gfX11_19 g wf_X11_46 dX11_act_72 ?_
    refine u_iload g 0 dX11_act_75 rfl ?_
    refine u_iconst g (v := (1 : Int32)) dX11_act_77 rfl ?_
    refine u_iadd g dX11_act_78 ?_
    refine u_iload_n g 3 dX11_act_79 rfl ?_
    obtain ⟨e5, h⟩ := ob_if h
    refine aY_ist g (c := 13) 7560 (by decide) rfl (inB_in e5) (j := (((126 : Int32) * (q1.1 0 20)) + (1 : Int32)).toNatClampNeg) rfl dX11_act_80 ?_
    refine u_aload_n g 1 dX11_act_81 rfl ?_
    refine gfX11_19 g wf_X11_46 dX11_act_82 ?_
    refine u_iload g 0 dX11_act_85 rfl ?_
    refine u_iconst g (v := (2 : Int32)) dX11_act_87 rfl ?_
    refine u_iadd g dX11_act_88 ?_
    refine u_iload_n g 4 dX11_act_89 rfl ?_
    obtain ⟨e6, h⟩ := ob_if h
    refine aY_ist g (c := 13) 7560 (by decide) rfl (inB_in e6) (j := (((126 : Int32) * (q1.1 0 20)) + (2 : Int32)).toNatClampNeg) rfl dX11_act_90 ?_
    refine u_aload_n g 1 dX11_act_91 rfl ?_
    refine u_dup g dX11_act_92 rfl ?_
    refine gfX11_20 g wf_X11_101 (v := (q1.1 0 20)) rfl dX11_act_93 ?_
    refine u_iconst g (v := (1 : Int32)) dX11_act_96 rfl ?_
    refine u_iadd g dX11_act_97 ?_
    refine pfX11_20 g wf_X11_101 dX11_act_98 ?_
    refine u_aload_n g 1 dX11_act_101 rfl ?_
    refine u_iconst g (v := (0 : Int32)) dX11_act_102 rfl ?_
    refine pfX11_4 g wf_X11_88 dX11_act_103 ?_
    exact u_vret g dX11_act_106 (by rw [← hr]; obtain rfl := Option.some.inj h; rfl)
  have h := hq2
  refine u_icmp_ne g 54 dX11_act_6 (by decide) (fun b7 => ?_) (fun b7 => ?_)
  · have h := ob_neg b7 h
    obtain rfl := Option.some.inj h
    exact u_sub [0, 1, 2, 3] rfl K3
  · have h := ob_pos b7 h
    refine u_bipush g (v := (126 : Int32)) dX11_act_9 rfl ?_
    refine u_istore g [(4, .int (126 : Int32)), (0, .ref (w.2.2.1 0)), (1, .int a1), (2, .int a2), (3, .int a3)] dX11_act_11 (by decide) rfl ?_
    obtain ⟨q8, hq9, h⟩ := ob_bind h
    refine u_sub [1, 2, 3, 4, 0] rfl (s_X11_act_l1 g a1 a2 a3 fuelN (126 : Int32) M _ hq9 ?_)
    show U shY w x r q8 44 [(0, .ref (w.2.2.1 0)), (1, .int a1), (2, .int a2), (3, .int a3)] []
    refine u_aload_n g 0 dX11_act_44 rfl ?_
    refine u_dup g dX11_act_45 rfl ?_
    refine gfX11_20 g wf_X11_101 (v := (q8.1 0 20)) rfl dX11_act_46 ?_
    refine u_iconst g (v := (1 : Int32)) dX11_act_49 rfl ?_
    refine u_isub g dX11_act_50 ?_
    refine pfX11_20 g wf_X11_101 dX11_act_51 ?_
    obtain rfl := Option.some.inj h
    exact u_sub [0, 1, 2, 3] rfl K3
set_option maxRecDepth 100000 in
set_option maxHeartbeats 4000000 in
theorem s_X11_planActs_l1 {w : Wp} {x : Cx} {r : Option Value × Mem} (g : Gd shY w x RX11 cX11_planActs 2 none 1)   : ∀ (n : Nat) (v1 : Int32) (M : Mem) (q : Mem), f_X11_planActs_l1 n v1 M = some q → U shY w x r q 56 [] [] → U shY w x r M 20 [(0, .ref (w.2.2.1 0)), (1, .int v1)] [] := by
  intro n
  induction n with
  | zero => intro v1 M q h K; rw [f_X11_planActs_l1] at h; cases h
  | succ n ih =>
    intro v1 M q h K
    rw [f_X11_planActs_l1] at h
    refine u_iload_n g 1 dX11_planActs_20 rfl ?_
    refine u_bipush g (v := (121 : Int32)) dX11_planActs_21 rfl ?_
    refine u_icmp_ge g 56 dX11_planActs_23 (by decide) (fun b6 => ?_) (fun b6 => ?_)
    · have h := ob_pos b6 h
      obtain rfl := Option.some.inj h
      exact u_sub [] rfl K
    · have h := ob_neg b6 h
      refine u_aload_n g 0 dX11_planActs_26 rfl ?_
      refine gfX11_19 g wf_X11_46 dX11_planActs_27 ?_
      refine u_bipush g (v := (126 : Int32)) dX11_planActs_30 rfl ?_
      refine u_aload_n g 0 dX11_planActs_32 rfl ?_
      refine gfX11_20 g wf_X11_101 (v := (M.1 0 20)) rfl dX11_planActs_33 ?_
      refine u_iconst g (v := (1 : Int32)) dX11_planActs_36 rfl ?_
      refine u_isub g dX11_planActs_37 ?_
      refine u_imul g dX11_planActs_38 ?_
      refine u_iconst g (v := (3 : Int32)) dX11_planActs_39 rfl ?_
      refine u_iadd g dX11_planActs_40 ?_
      refine u_iload_n g 1 dX11_planActs_41 rfl ?_
      refine u_iadd g dX11_planActs_42 ?_
      refine u_aload_n g 0 dX11_planActs_43 rfl ?_
      refine gfX11_12 g wf_X11_31 dX11_planActs_44 ?_
      refine u_iload_n g 1 dX11_planActs_47 rfl ?_
      obtain ⟨e7, h⟩ := ob_if h
      refine aY_ild g (c := 8) 121 (by decide) rfl (v := (M.1 8 v1.toNatClampNeg)) (inB_in e7) rfl dX11_planActs_48 ?_
      obtain ⟨e8, h⟩ := ob_if h
      refine aY_ist g (c := 13) 7560 (by decide) rfl (inB_in e8) (j := ((((126 : Int32) * ((M.1 0 20) - (1 : Int32))) + (3 : Int32)) + v1).toNatClampNeg) rfl dX11_planActs_49 ?_
      refine u_iinc g 1 [(1, .int (v1 + (1 : Int32))), (0, .ref (w.2.2.1 0))] dX11_planActs_50 rfl rfl (by decide) rfl ?_
      refine u_goto g 20 dX11_planActs_53 (by decide) ?_
      exact u_sub [1, 0] rfl (ih (v1 + (1 : Int32)) (sI M 13 ((((126 : Int32) * ((M.1 0 20) - (1 : Int32))) + (3 : Int32)) + v1).toNatClampNeg (M.1 8 v1.toNatClampNeg)) _ h K)
set_option maxRecDepth 100000 in
set_option maxHeartbeats 4000000 in
theorem t_X11_planActs (w : Wp) (l : Launch)  {M : Mem} {q : Mem} (h : f_X11_planActs M = some q) : Ct shY w l yX11_planActs cX11_planActs 2 none 1 [.ref (w.2.2.1 0)] M (none, q) := by
  rw [f_X11_planActs] at h
  refine ct_of shY_loc (by decide) (Nat.le_of_ble_eq_true rfl) rfl (fun x hx g => ?_)
  subst hx
  show U shY w x _ M 0 [(0, .ref (w.2.2.1 0))] []
  generalize hr : ((none, q) : Option Value × Mem) = r
  have g : Gd shY w x RX11 cX11_planActs 2 none 1 := g
  refine u_aload_n g 0 dX11_planActs_0 rfl ?_
  refine u_iconst g (v := (4 : Int32)) dX11_planActs_1 rfl ?_
  refine u_iconst g (v := (0 : Int32)) dX11_planActs_2 rfl ?_
  refine u_aload_n g 0 dX11_planActs_3 rfl ?_
  refine gfX11_13 g wf_X11_104 (v := (M.1 0 13)) rfl dX11_planActs_4 ?_
  obtain ⟨q1, hq2, h⟩ := ob_bind h
  have K3 : U shY w x r M 15 [(0, .ref (w.2.2.1 0))] [.int q1, .int (0 : Int32), .int (4 : Int32), .ref (w.2.2.1 0)] := by
    obtain ⟨q4, hq5, h⟩ := ob_bind h
    refine u_callV (st := []) g wv_X11_108 [.int (4 : Int32), .int (0 : Int32), .int q1] (show 0 < shY.1 by decide) ceY_0 rfl rfl (t_X11_act w x.2.1 hq5) (by decide) (by decide) rfl (Nat.le_of_ble_eq_true rfl) rfl dX11_planActs_15 ?_
    show U shY w x r q4 18 [(0, .ref (w.2.2.1 0))] []
    refine u_iconst g (v := (0 : Int32)) dX11_planActs_18 rfl ?_
    refine u_istore_n g [(1, .int (0 : Int32)), (0, .ref (w.2.2.1 0))] dX11_planActs_19 (by decide) rfl ?_
    obtain ⟨q6, hq7, h⟩ := ob_bind h
    refine u_sub [1, 0] rfl (s_X11_planActs_l1 g fuelN (0 : Int32) q4 _ hq7 ?_)
    show U shY w x r q6 56 [] []
    exact u_vret g dX11_planActs_56 (by rw [← hr]; obtain rfl := Option.some.inj h; rfl)
  have h := hq2
  refine u_if_eq g 14 dX11_planActs_7 (by decide) (fun b8 => ?_) (fun b8 => ?_)
  · have h := ob_pos b8 h
    refine u_iconst g (v := (0 : Int32)) dX11_planActs_14 rfl ?_
    obtain rfl := Option.some.inj h
    exact u_sub [0] rfl K3
  · have h := ob_neg b8 h
    refine u_iconst g (v := (1 : Int32)) dX11_planActs_10 rfl ?_
    refine u_goto g 15 dX11_planActs_11 (by decide) ?_
    obtain rfl := Option.some.inj h
    exact u_sub [0] rfl K3
set_option maxRecDepth 100000 in
set_option maxHeartbeats 4000000 in
theorem s_X11_caseActs_l1 {w : Wp} {x : Cx} {r : Option Value × Mem} (g : Gd shY w x RX11 cX11_caseActs 4 none 1) (a1 : Int32) (a2 : Int32)  : ∀ (n : Nat) (v3 : Int32) (M : Mem) (q : Mem), f_X11_caseActs_l1 a1 a2 n v3 M = some q → U shY w x r q 71 [] [] → U shY w x r M 38 [(0, .ref (w.2.2.1 0)), (1, .int a1), (2, .int a2), (3, .int v3)] [] := by
  intro n
  induction n with
  | zero => intro v3 M q h K; rw [f_X11_caseActs_l1] at h; cases h
  | succ n ih =>
    intro v3 M q h K
    rw [f_X11_caseActs_l1] at h
    refine u_iload_n g 3 dX11_caseActs_38 rfl ?_
    refine u_bipush g (v := (121 : Int32)) dX11_caseActs_39 rfl ?_
    refine u_icmp_ge g 71 dX11_caseActs_41 (by decide) (fun b6 => ?_) (fun b6 => ?_)
    · have h := ob_pos b6 h
      obtain rfl := Option.some.inj h
      exact u_sub [] rfl K
    · have h := ob_neg b6 h
      refine u_aload_n g 0 dX11_caseActs_44 rfl ?_
      refine gfX11_19 g wf_X11_46 dX11_caseActs_45 ?_
      refine u_iload_n g 2 dX11_caseActs_48 rfl ?_
      refine u_iconst g (v := (4 : Int32)) dX11_caseActs_49 rfl ?_
      refine u_iadd g dX11_caseActs_50 ?_
      refine u_iload_n g 3 dX11_caseActs_51 rfl ?_
      refine u_iadd g dX11_caseActs_52 ?_
      refine u_aload_n g 0 dX11_caseActs_53 rfl ?_
      refine gfX11_16 g wf_X11_40 dX11_caseActs_54 ?_
      refine u_bipush g (v := (121 : Int32)) dX11_caseActs_57 rfl ?_
      refine u_iload_n g 1 dX11_caseActs_59 rfl ?_
      refine u_imul g dX11_caseActs_60 ?_
      refine u_iload_n g 3 dX11_caseActs_61 rfl ?_
      refine u_iadd g dX11_caseActs_62 ?_
      obtain ⟨e7, h⟩ := ob_if h
      refine aY_ild g (c := 11) 1936 (by decide) rfl (v := (M.1 11 (((121 : Int32) * a1) + v3).toNatClampNeg)) (inB_in e7) rfl dX11_caseActs_63 ?_
      obtain ⟨e8, h⟩ := ob_if h
      refine aY_ist g (c := 13) 7560 (by decide) rfl (inB_in e8) (j := ((a2 + (4 : Int32)) + v3).toNatClampNeg) rfl dX11_caseActs_64 ?_
      refine u_iinc g 3 [(3, .int (v3 + (1 : Int32))), (0, .ref (w.2.2.1 0)), (1, .int a1), (2, .int a2)] dX11_caseActs_65 rfl rfl (by decide) rfl ?_
      refine u_goto g 38 dX11_caseActs_68 (by decide) ?_
      exact u_sub [1, 2, 3, 0] rfl (ih (v3 + (1 : Int32)) (sI M 13 ((a2 + (4 : Int32)) + v3).toNatClampNeg (M.1 11 (((121 : Int32) * a1) + v3).toNatClampNeg)) _ h K)
set_option maxRecDepth 100000 in
set_option maxHeartbeats 4000000 in
theorem t_X11_caseActs (w : Wp) (l : Launch) {a1 : Int32} {M : Mem} {q : Mem} (h : f_X11_caseActs a1 M = some q) : Ct shY w l yX11_caseActs cX11_caseActs 4 none 1 [.ref (w.2.2.1 0), .int a1] M (none, q) := by
  rw [f_X11_caseActs] at h
  refine ct_of shY_loc (by decide) (Nat.le_of_ble_eq_true rfl) rfl (fun x hx g => ?_)
  subst hx
  show U shY w x _ M 0 [(0, .ref (w.2.2.1 0)), (1, .int a1)] []
  generalize hr : ((none, q) : Option Value × Mem) = r
  have g : Gd shY w x RX11 cX11_caseActs 4 none 1 := g
  refine u_aload_n g 0 dX11_caseActs_0 rfl ?_
  refine u_iconst g (v := (5 : Int32)) dX11_caseActs_1 rfl ?_
  refine u_iload_n g 1 dX11_caseActs_2 rfl ?_
  refine u_aload_n g 0 dX11_caseActs_3 rfl ?_
  refine gfX11_14 g wf_X11_34 dX11_caseActs_4 ?_
  refine u_iload_n g 1 dX11_caseActs_7 rfl ?_
  obtain ⟨e1, h⟩ := ob_if h
  refine aY_ild g (c := 9) 16 (by decide) rfl (v := (M.1 9 a1.toNatClampNeg)) (inB_in e1) rfl dX11_caseActs_8 ?_
  obtain ⟨q2, hq3, h⟩ := ob_bind h
  refine u_callV (st := []) g wv_X11_108 [.int (5 : Int32), .int a1, .int (M.1 9 a1.toNatClampNeg)] (show 0 < shY.1 by decide) ceY_0 rfl rfl (t_X11_act w x.2.1 hq3) (by decide) (by decide) rfl (Nat.le_of_ble_eq_true rfl) rfl dX11_caseActs_9 ?_
  show U shY w x r q2 12 [(0, .ref (w.2.2.1 0)), (1, .int a1)] []
  refine u_bipush g (v := (126 : Int32)) dX11_caseActs_12 rfl ?_
  refine u_aload_n g 0 dX11_caseActs_14 rfl ?_
  refine gfX11_20 g wf_X11_101 (v := (q2.1 0 20)) rfl dX11_caseActs_15 ?_
  refine u_iconst g (v := (1 : Int32)) dX11_caseActs_18 rfl ?_
  refine u_isub g dX11_caseActs_19 ?_
  refine u_imul g dX11_caseActs_20 ?_
  refine u_istore_n g [(2, .int ((126 : Int32) * ((q2.1 0 20) - (1 : Int32)))), (0, .ref (w.2.2.1 0)), (1, .int a1)] dX11_caseActs_21 (by decide) rfl ?_
  refine u_aload_n g 1 dX11_caseActs_22 rfl ?_
  refine gfX11_19 g wf_X11_46 dX11_caseActs_23 ?_
  refine u_iload_n g 0 dX11_caseActs_26 rfl ?_
  refine u_iconst g (v := (3 : Int32)) dX11_caseActs_27 rfl ?_
  refine u_iadd g dX11_caseActs_28 ?_
  refine u_aload_n g 1 dX11_caseActs_29 rfl ?_
  refine gfX11_15 g wf_X11_37 dX11_caseActs_30 ?_
  refine u_iload_n g 2 dX11_caseActs_33 rfl ?_
  obtain ⟨e4, h⟩ := ob_if h
  refine aY_ild g (c := 10) 16 (by decide) rfl (v := (q2.1 10 a1.toNatClampNeg)) (inB_in e4) rfl dX11_caseActs_34 ?_
  obtain ⟨e5, h⟩ := ob_if h
  refine aY_ist g (c := 13) 7560 (by decide) rfl (inB_in e5) (j := (((126 : Int32) * ((q2.1 0 20) - (1 : Int32))) + (3 : Int32)).toNatClampNeg) rfl dX11_caseActs_35 ?_
  refine u_iconst g (v := (0 : Int32)) dX11_caseActs_36 rfl ?_
  refine u_istore_n g [(3, .int (0 : Int32)), (2, .int ((126 : Int32) * ((q2.1 0 20) - (1 : Int32)))), (0, .ref (w.2.2.1 0)), (1, .int a1)] dX11_caseActs_37 (by decide) rfl ?_
  obtain ⟨q6, hq7, h⟩ := ob_bind h
  refine u_sub [2, 3, 1, 0] rfl (s_X11_caseActs_l1 g a1 ((126 : Int32) * ((q2.1 0 20) - (1 : Int32))) fuelN (0 : Int32) (sI q2 13 (((126 : Int32) * ((q2.1 0 20) - (1 : Int32))) + (3 : Int32)).toNatClampNeg (q2.1 10 a1.toNatClampNeg)) _ hq7 ?_)
  show U shY w x r q6 71 [] []
  exact u_vret g dX11_caseActs_71 (by rw [← hr]; obtain rfl := Option.some.inj h; rfl)
set_option maxRecDepth 100000 in
set_option maxHeartbeats 4000000 in
theorem s_X11_undo_l1 {w : Wp} {x : Cx} {r : Option Value × Mem} (g : Gd shY w x RX11 cX11_undo 5 (some .int) 0) (a1 : Int32)  : ∀ (n : Nat) (v4 : Int32) (M : Mem) (q : Mem), f_X11_undo_l1 a1 n v4 M = some q → U shY w x r q 191 [] [] → U shY w x r M 160 [(0, .ref (w.2.2.1 0)), (1, .int a1), (4, .int v4)] [] := by
  intro n
  induction n with
  | zero => intro v4 M q h K; rw [f_X11_undo_l1] at h; cases h
  | succ n ih =>
    intro v4 M q h K
    rw [f_X11_undo_l1] at h
    refine u_iload g 2 dX11_undo_160 rfl ?_
    refine u_bipush g (v := (121 : Int32)) dX11_undo_162 rfl ?_
    refine u_icmp_ge g 191 dX11_undo_164 (by decide) (fun b16 => ?_) (fun b16 => ?_)
    · have h := ob_pos b16 h
      obtain rfl := Option.some.inj h
      exact u_sub [] rfl K
    · have h := ob_neg b16 h
      refine u_aload_n g 0 dX11_undo_167 rfl ?_
      refine gfX11_12 g wf_X11_31 dX11_undo_168 ?_
      refine u_iload g 2 dX11_undo_171 rfl ?_
      refine u_aload_n g 0 dX11_undo_173 rfl ?_
      refine gfX11_19 g wf_X11_46 dX11_undo_174 ?_
      refine u_iload_n g 1 dX11_undo_177 rfl ?_
      refine u_iconst g (v := (3 : Int32)) dX11_undo_178 rfl ?_
      refine u_iadd g dX11_undo_179 ?_
      refine u_iload g 2 dX11_undo_180 rfl ?_
      refine u_iadd g dX11_undo_182 ?_
      obtain ⟨e17, h⟩ := ob_if h
      refine aY_ild g (c := 13) 7560 (by decide) rfl (v := (M.1 13 ((a1 + (3 : Int32)) + v4).toNatClampNeg)) (inB_in e17) rfl dX11_undo_183 ?_
      obtain ⟨e18, h⟩ := ob_if h
      refine aY_ist g (c := 8) 121 (by decide) rfl (inB_in e18) (j := v4.toNatClampNeg) rfl dX11_undo_184 ?_
      refine u_iinc g 2 [(4, .int (v4 + (1 : Int32))), (0, .ref (w.2.2.1 0)), (1, .int a1)] dX11_undo_185 rfl rfl (by decide) rfl ?_
      refine u_goto g 160 dX11_undo_188 (by decide) ?_
      exact u_sub [1, 2, 0] rfl (ih (v4 + (1 : Int32)) (sI M 8 v4.toNatClampNeg (M.1 13 ((a1 + (3 : Int32)) + v4).toNatClampNeg)) _ h K)
set_option maxRecDepth 100000 in
set_option maxHeartbeats 4000000 in
theorem s_X11_undo_l2 {w : Wp} {x : Cx} {r : Option Value × Mem} (g : Gd shY w x RX11 cX11_undo 5 (some .int) 0) (a1 : Int32) (a2 : Int32)  : ∀ (n : Nat) (v4 : Int32) (M : Mem) (q : Mem), f_X11_undo_l2 a1 a2 n v4 M = some q → U shY w x r q 254 [] [] → U shY w x r M 218 [(0, .ref (w.2.2.1 0)), (1, .int a1), (2, .int a2), (4, .int v4)] [] := by
  intro n
  induction n with
  | zero => intro v4 M q h K; rw [f_X11_undo_l2] at h; cases h
  | succ n ih =>
    intro v4 M q h K
    rw [f_X11_undo_l2] at h
    refine u_iload g 3 dX11_undo_218 rfl ?_
    refine u_bipush g (v := (121 : Int32)) dX11_undo_220 rfl ?_
    refine u_icmp_ge g 254 dX11_undo_222 (by decide) (fun b22 => ?_) (fun b22 => ?_)
    · have h := ob_pos b22 h
      obtain rfl := Option.some.inj h
      exact u_sub [] rfl K
    · have h := ob_neg b22 h
      refine u_aload_n g 0 dX11_undo_225 rfl ?_
      refine gfX11_16 g wf_X11_40 dX11_undo_226 ?_
      refine u_bipush g (v := (121 : Int32)) dX11_undo_229 rfl ?_
      refine u_iload_n g 2 dX11_undo_231 rfl ?_
      refine u_imul g dX11_undo_232 ?_
      refine u_iload g 3 dX11_undo_233 rfl ?_
      refine u_iadd g dX11_undo_235 ?_
      refine u_aload_n g 0 dX11_undo_236 rfl ?_
      refine gfX11_19 g wf_X11_46 dX11_undo_237 ?_
      refine u_iload_n g 1 dX11_undo_240 rfl ?_
      refine u_iconst g (v := (4 : Int32)) dX11_undo_241 rfl ?_
      refine u_iadd g dX11_undo_242 ?_
      refine u_iload g 3 dX11_undo_243 rfl ?_
      refine u_iadd g dX11_undo_245 ?_
      obtain ⟨e23, h⟩ := ob_if h
      refine aY_ild g (c := 13) 7560 (by decide) rfl (v := (M.1 13 ((a1 + (4 : Int32)) + v4).toNatClampNeg)) (inB_in e23) rfl dX11_undo_246 ?_
      obtain ⟨e24, h⟩ := ob_if h
      refine aY_ist g (c := 11) 1936 (by decide) rfl (inB_in e24) (j := (((121 : Int32) * a2) + v4).toNatClampNeg) rfl dX11_undo_247 ?_
      refine u_iinc g 3 [(4, .int (v4 + (1 : Int32))), (0, .ref (w.2.2.1 0)), (1, .int a1), (2, .int a2)] dX11_undo_248 rfl rfl (by decide) rfl ?_
      refine u_goto g 218 dX11_undo_251 (by decide) ?_
      exact u_sub [1, 2, 3, 0] rfl (ih (v4 + (1 : Int32)) (sI M 11 (((121 : Int32) * a2) + v4).toNatClampNeg (M.1 13 ((a1 + (4 : Int32)) + v4).toNatClampNeg)) _ h K)
set_option maxRecDepth 100000 in
set_option maxHeartbeats 4000000 in
theorem t_X11_undo (w : Wp) (l : Launch)  {M : Mem} {q : Int32 × Mem} (h : f_X11_undo M = some q) : Ct shY w l yX11_undo cX11_undo 5 (some .int) 0 [.ref (w.2.2.1 0)] M (some (.int q.1), q.2) := by
  rw [f_X11_undo] at h
  refine ct_of shY_loc (by decide) (Nat.le_of_ble_eq_true rfl) rfl (fun x hx g => ?_)
  subst hx
  show U shY w x _ M 0 [(0, .ref (w.2.2.1 0))] []
  generalize hr : ((some (.int q.1), q.2) : Option Value × Mem) = r
  have g : Gd shY w x RX11 cX11_undo 5 (some .int) 0 := g
  refine u_aload_n g 0 dX11_undo_0 rfl ?_
  refine u_iconst g (v := (0 : Int32)) dX11_undo_1 rfl ?_
  refine pfX11_5 g wf_X11_84 dX11_undo_2 ?_
  refine u_aload_n g 0 dX11_undo_5 rfl ?_
  refine gfX11_20 g wf_X11_101 (v := (M.1 0 20)) rfl dX11_undo_6 ?_
  refine u_if_ne g 14 dX11_undo_9 (by decide) (fun b1 => ?_) (fun b1 => ?_)
  · have h := ob_neg b1 h
    refine u_aload_n g 0 dX11_undo_14 rfl ?_
    refine u_dup g dX11_undo_15 rfl ?_
    refine gfX11_20 g wf_X11_101 (v := (M.1 0 20)) rfl dX11_undo_16 ?_
    refine u_iconst g (v := (1 : Int32)) dX11_undo_19 rfl ?_
    refine u_isub g dX11_undo_20 ?_
    refine pfX11_20 g wf_X11_101 dX11_undo_21 ?_
    refine u_bipush g (v := (126 : Int32)) dX11_undo_24 rfl ?_
    refine u_aload_n g 0 dX11_undo_26 rfl ?_
    refine gfX11_20 g wf_X11_101 (v := ((M.1 0 20) - (1 : Int32))) rfl dX11_undo_27 ?_
    refine u_imul g dX11_undo_30 ?_
    refine u_istore_n g [(1, .int ((126 : Int32) * ((M.1 0 20) - (1 : Int32)))), (0, .ref (w.2.2.1 0))] dX11_undo_31 (by decide) rfl ?_
    refine u_aload_n g 1 dX11_undo_32 rfl ?_
    refine gfX11_19 g wf_X11_46 dX11_undo_33 ?_
    refine u_iload_n g 0 dX11_undo_36 rfl ?_
    refine u_iconst g (v := (1 : Int32)) dX11_undo_37 rfl ?_
    refine u_iadd g dX11_undo_38 ?_
    obtain ⟨e2, h⟩ := ob_if h
    refine aY_ild g (c := 13) 7560 (by decide) rfl (v := (M.1 13 (((126 : Int32) * ((M.1 0 20) - (1 : Int32))) + (1 : Int32)).toNatClampNeg)) (inB_in e2) rfl dX11_undo_39 ?_
    refine u_istore_n g [(2, .int (M.1 13 (((126 : Int32) * ((M.1 0 20) - (1 : Int32))) + (1 : Int32)).toNatClampNeg)), (1, .int ((126 : Int32) * ((M.1 0 20) - (1 : Int32)))), (0, .ref (w.2.2.1 0))] dX11_undo_40 (by decide) rfl ?_
    refine u_aload_n g 2 dX11_undo_41 rfl ?_
    refine gfX11_19 g wf_X11_46 dX11_undo_42 ?_
    refine u_iload_n g 1 dX11_undo_45 rfl ?_
    refine u_iconst g (v := (2 : Int32)) dX11_undo_46 rfl ?_
    refine u_iadd g dX11_undo_47 ?_
    obtain ⟨e3, h⟩ := ob_if h
    refine aY_ild g (c := 13) 7560 (by decide) rfl (v := (M.1 13 (((126 : Int32) * ((M.1 0 20) - (1 : Int32))) + (2 : Int32)).toNatClampNeg)) (inB_in e3) rfl dX11_undo_48 ?_
    refine u_istore_n g [(3, .int (M.1 13 (((126 : Int32) * ((M.1 0 20) - (1 : Int32))) + (2 : Int32)).toNatClampNeg)), (2, .int (M.1 13 (((126 : Int32) * ((M.1 0 20) - (1 : Int32))) + (1 : Int32)).toNatClampNeg)), (1, .int ((126 : Int32) * ((M.1 0 20) - (1 : Int32)))), (0, .ref (w.2.2.1 0))] dX11_undo_49 (by decide) rfl ?_
    refine u_aload_n g 3 dX11_undo_50 rfl ?_
    refine gfX11_19 g wf_X11_46 dX11_undo_51 ?_
    refine u_iload_n g 2 dX11_undo_54 rfl ?_
    obtain ⟨e4, h⟩ := ob_if h
    refine aY_ild g (c := 13) 7560 (by decide) rfl (v := (M.1 13 ((126 : Int32) * ((M.1 0 20) - (1 : Int32))).toNatClampNeg)) (inB_in e4) rfl dX11_undo_55 ?_
    obtain ⟨q5, hq6, h⟩ := ob_bind h
    have K7 : U shY w x r q5 254 [] [] := by
      refine u_iconst g (v := (1 : Int32)) dX11_undo_254 rfl ?_
      exact u_iret g dX11_undo_255 (by rw [← hr]; obtain rfl := Option.some.inj h; rfl)
    have h := hq6
    by_cases b8 : (M.1 13 ((126 : Int32) * ((M.1 0 20) - (1 : Int32))).toNatClampNeg) = (0 : Int32)
    · have h := ob_pos b8 h
      refine u_tableIn g 92 dX11_undo_56 (0 : Int32) b8 rfl rfl (by decide) ?_
      refine u_aload_n g 3 dX11_undo_92 rfl ?_
      refine u_dup g dX11_undo_93 rfl ?_
      refine gfX11_3 g wf_X11_91 (v := (M.1 0 3)) rfl dX11_undo_94 ?_
      refine u_iconst g (v := (1 : Int32)) dX11_undo_97 rfl ?_
      refine u_isub g dX11_undo_98 ?_
      refine pfX11_3 g wf_X11_91 dX11_undo_99 ?_
      refine u_aload_n g 3 dX11_undo_102 rfl ?_
      refine u_iconst g (v := (0 : Int32)) dX11_undo_103 rfl ?_
      refine pfX11_7 g wf_X11_112 dX11_undo_104 ?_
      refine u_goto g 254 dX11_undo_107 (by decide) ?_
      obtain rfl := Option.some.inj h
      exact u_sub [] rfl K7
    have h := ob_neg b8 h
    by_cases b9 : (M.1 13 ((126 : Int32) * ((M.1 0 20) - (1 : Int32))).toNatClampNeg) = (1 : Int32)
    · have h := ob_pos b9 h
      refine u_tableIn g 110 dX11_undo_56 (1 : Int32) b9 rfl rfl (by decide) ?_
      refine u_aload_n g 3 dX11_undo_110 rfl ?_
      refine gfX11_1 g wf_X11_13 dX11_undo_111 ?_
      refine u_iload_n g 1 dX11_undo_114 rfl ?_
      refine u_iload_n g 0 dX11_undo_115 rfl ?_
      obtain ⟨e10, h⟩ := ob_if h
      refine aY_ist g (c := 2) 16 (by decide) rfl (inB_in e10) (j := (M.1 13 (((126 : Int32) * ((M.1 0 20) - (1 : Int32))) + (1 : Int32)).toNatClampNeg).toNatClampNeg) rfl dX11_undo_116 ?_
      refine u_goto g 254 dX11_undo_117 (by decide) ?_
      obtain rfl := Option.some.inj h
      exact u_sub [] rfl K7
    have h := ob_neg b9 h
    by_cases b11 : (M.1 13 ((126 : Int32) * ((M.1 0 20) - (1 : Int32))).toNatClampNeg) = (2 : Int32)
    · have h := ob_pos b11 h
      refine u_tableIn g 120 dX11_undo_56 (2 : Int32) b11 rfl rfl (by decide) ?_
      refine u_aload_n g 3 dX11_undo_120 rfl ?_
      refine u_dup g dX11_undo_121 rfl ?_
      refine gfX11_11 g wf_X11_94 (v := (M.1 0 11)) rfl dX11_undo_122 ?_
      refine u_iconst g (v := (1 : Int32)) dX11_undo_125 rfl ?_
      refine u_isub g dX11_undo_126 ?_
      refine pfX11_11 g wf_X11_94 dX11_undo_127 ?_
      refine u_goto g 254 dX11_undo_130 (by decide) ?_
      obtain rfl := Option.some.inj h
      exact u_sub [] rfl K7
    have h := ob_neg b11 h
    by_cases b12 : (M.1 13 ((126 : Int32) * ((M.1 0 20) - (1 : Int32))).toNatClampNeg) = (3 : Int32)
    · have h := ob_pos b12 h
      refine u_tableIn g 133 dX11_undo_56 (3 : Int32) b12 rfl rfl (by decide) ?_
      refine u_aload_n g 3 dX11_undo_133 rfl ?_
      refine gfX11_2 g wf_X11_16 dX11_undo_134 ?_
      refine u_iload_n g 1 dX11_undo_137 rfl ?_
      refine u_iload_n g 0 dX11_undo_138 rfl ?_
      obtain ⟨e13, h⟩ := ob_if h
      refine aY_ist g (c := 3) 16 (by decide) rfl (inB_in e13) (j := (M.1 13 (((126 : Int32) * ((M.1 0 20) - (1 : Int32))) + (1 : Int32)).toNatClampNeg).toNatClampNeg) rfl dX11_undo_139 ?_
      refine u_goto g 254 dX11_undo_140 (by decide) ?_
      obtain rfl := Option.some.inj h
      exact u_sub [] rfl K7
    have h := ob_neg b12 h
    by_cases b14 : (M.1 13 ((126 : Int32) * ((M.1 0 20) - (1 : Int32))).toNatClampNeg) = (4 : Int32)
    · have h := ob_pos b14 h
      refine u_tableIn g 143 dX11_undo_56 (4 : Int32) b14 rfl rfl (by decide) ?_
      refine u_aload_n g 3 dX11_undo_143 rfl ?_
      refine u_iload_n g 0 dX11_undo_144 rfl ?_
      refine u_iconst g (v := (1 : Int32)) dX11_undo_145 rfl ?_
      obtain ⟨q15, hq16, h⟩ := ob_bind h
      have K17 : U shY w x r (sI (sI M 0 5 (0 : Int32)) 0 20 ((M.1 0 20) - (1 : Int32))) 154 [(0, .ref (w.2.2.1 0)), (1, .int ((126 : Int32) * ((M.1 0 20) - (1 : Int32))))] [.int q15, .ref (w.2.2.1 0)] := by
        obtain ⟨e18, h⟩ := ob_if h
        refine pfX11_13 g wf_X11_104 e18 dX11_undo_154 ?_
        refine u_iconst g (v := (0 : Int32)) dX11_undo_157 rfl ?_
        refine u_istore g [(4, .int (0 : Int32)), (0, .ref (w.2.2.1 0)), (1, .int ((126 : Int32) * ((M.1 0 20) - (1 : Int32))))] dX11_undo_158 (by decide) rfl ?_
        obtain ⟨q19, hq20, h⟩ := ob_bind h
        refine u_sub [1, 2, 0] rfl (s_X11_undo_l1 g ((126 : Int32) * ((M.1 0 20) - (1 : Int32))) fuelN (0 : Int32) (sI (sI (sI M 0 5 (0 : Int32)) 0 20 ((M.1 0 20) - (1 : Int32))) 0 13 q15) _ hq20 ?_)
        show U shY w x r q19 191 [] []
        refine u_goto g 254 dX11_undo_191 (by decide) ?_
        obtain rfl := Option.some.inj h
        exact u_sub [] rfl K7
      have h := hq16
      refine u_icmp_ne g 153 dX11_undo_146 (by decide) (fun b21 => ?_) (fun b21 => ?_)
      · have h := ob_neg b21 h
        refine u_iconst g (v := (0 : Int32)) dX11_undo_153 rfl ?_
        obtain rfl := Option.some.inj h
        exact u_sub [3, 2] rfl K17
      · have h := ob_pos b21 h
        refine u_iconst g (v := (1 : Int32)) dX11_undo_149 rfl ?_
        refine u_goto g 154 dX11_undo_150 (by decide) ?_
        obtain rfl := Option.some.inj h
        exact u_sub [3, 2] rfl K17
    have h := ob_neg b14 h
    refine u_tableOut g 194 dX11_undo_56 (sw_out 4 (by decide) _ rfl (fun j hj => match j, hj with | 0, _ => b8 | 1, _ => b9 | 2, _ => b11 | 3, _ => b12 | 4, _ => b14 | k + 5, hk => absurd hk (by omega))) (by decide) ?_
    refine u_aload_n g 3 dX11_undo_194 rfl ?_
    refine gfX11_14 g wf_X11_34 dX11_undo_195 ?_
    refine u_iload_n g 1 dX11_undo_198 rfl ?_
    refine u_iload_n g 0 dX11_undo_199 rfl ?_
    obtain ⟨e22, h⟩ := ob_if h
    refine aY_ist g (c := 9) 16 (by decide) rfl (inB_in e22) (j := (M.1 13 (((126 : Int32) * ((M.1 0 20) - (1 : Int32))) + (1 : Int32)).toNatClampNeg).toNatClampNeg) rfl dX11_undo_200 ?_
    refine u_aload_n g 3 dX11_undo_201 rfl ?_
    refine gfX11_15 g wf_X11_37 dX11_undo_202 ?_
    refine u_iload_n g 1 dX11_undo_205 rfl ?_
    refine u_aload_n g 3 dX11_undo_206 rfl ?_
    refine gfX11_19 g wf_X11_46 dX11_undo_207 ?_
    refine u_iload_n g 2 dX11_undo_210 rfl ?_
    refine u_iconst g (v := (3 : Int32)) dX11_undo_211 rfl ?_
    refine u_iadd g dX11_undo_212 ?_
    obtain ⟨e23, h⟩ := ob_if h
    refine aY_ild g (c := 13) 7560 (by decide) rfl (v := (M.1 13 (((126 : Int32) * ((M.1 0 20) - (1 : Int32))) + (3 : Int32)).toNatClampNeg)) (inB_in e23) rfl dX11_undo_213 ?_
    obtain ⟨e24, h⟩ := ob_if h
    refine aY_ist g (c := 10) 16 (by decide) rfl (inB_in e24) (j := (M.1 13 (((126 : Int32) * ((M.1 0 20) - (1 : Int32))) + (1 : Int32)).toNatClampNeg).toNatClampNeg) rfl dX11_undo_214 ?_
    refine u_iconst g (v := (0 : Int32)) dX11_undo_215 rfl ?_
    refine u_istore g [(4, .int (0 : Int32)), (3, .int (M.1 13 (((126 : Int32) * ((M.1 0 20) - (1 : Int32))) + (2 : Int32)).toNatClampNeg)), (2, .int (M.1 13 (((126 : Int32) * ((M.1 0 20) - (1 : Int32))) + (1 : Int32)).toNatClampNeg)), (1, .int ((126 : Int32) * ((M.1 0 20) - (1 : Int32)))), (0, .ref (w.2.2.1 0))] dX11_undo_216 (by decide) rfl ?_
    obtain ⟨q25, hq26, h⟩ := ob_bind h
    refine u_sub [4, 3, 2, 0] rfl (s_X11_undo_l2 g ((126 : Int32) * ((M.1 0 20) - (1 : Int32))) (M.1 13 (((126 : Int32) * ((M.1 0 20) - (1 : Int32))) + (1 : Int32)).toNatClampNeg) fuelN (0 : Int32) (sI (sI (sI (sI M 0 5 (0 : Int32)) 0 20 ((M.1 0 20) - (1 : Int32))) 9 (M.1 13 (((126 : Int32) * ((M.1 0 20) - (1 : Int32))) + (1 : Int32)).toNatClampNeg).toNatClampNeg (M.1 13 (((126 : Int32) * ((M.1 0 20) - (1 : Int32))) + (2 : Int32)).toNatClampNeg)) 10 (M.1 13 (((126 : Int32) * ((M.1 0 20) - (1 : Int32))) + (1 : Int32)).toNatClampNeg).toNatClampNeg (M.1 13 (((126 : Int32) * ((M.1 0 20) - (1 : Int32))) + (3 : Int32)).toNatClampNeg)) _ hq26 ?_)
    show U shY w x r q25 254 [] []
    obtain rfl := Option.some.inj h
    exact u_sub [] rfl K7
  · have h := ob_pos b1 h
    refine u_iconst g (v := (0 : Int32)) dX11_undo_12 rfl ?_
    exact u_iret g dX11_undo_13 (by rw [← hr]; obtain rfl := Option.some.inj h; rfl)
set_option maxRecDepth 100000 in
set_option maxHeartbeats 4000000 in
theorem t_X11_keeper (w : Wp) (l : Launch) {a1 : Int32} {a2 : Int32} {M : Mem} {q : Int32 × Mem} (h : f_X11_keeper a1 a2 M = some q) : Ct shY w l yX11_keeper cX11_keeper 3 (some .int) 1 [.ref (w.2.2.1 0), .int a1, .int a2] M (some (.int q.1), q.2) := by
  rw [f_X11_keeper] at h
  refine ct_of shY_loc (by decide) (Nat.le_of_ble_eq_true rfl) rfl (fun x hx g => ?_)
  subst hx
  show U shY w x _ M 0 [(0, .ref (w.2.2.1 0)), (1, .int a1), (2, .int a2)] []
  generalize hr : ((some (.int q.1), q.2) : Option Value × Mem) = r
  have g : Gd shY w x RX11 cX11_keeper 3 (some .int) 1 := g
  refine u_aload_n g 0 dX11_keeper_0 rfl ?_
  refine u_iconst g (v := (0 : Int32)) dX11_keeper_1 rfl ?_
  refine pfX11_5 g wf_X11_84 dX11_keeper_2 ?_
  refine u_aload_n g 0 dX11_keeper_5 rfl ?_
  refine u_iload_n g 1 dX11_keeper_6 rfl ?_
  refine u_iconst g (v := (1 : Int32)) dX11_keeper_7 rfl ?_
  refine u_bipush g (v := (100 : Int32)) dX11_keeper_8 rfl ?_
  obtain ⟨q1, hq2, h⟩ := ob_bind h
  refine u_callV (st := []) g wv_X11_97 [.int a1, .int (1 : Int32), .int (100 : Int32)] (show 0 < shY.1 by decide) ceY_0 rfl rfl (t_X11_in w x.2.1 hq2) (by decide) (by decide) rfl (Nat.le_of_ble_eq_true rfl) rfl dX11_keeper_10 ?_
  show U shY w x r (sI M 0 5 (0 : Int32)) 13 [(0, .ref (w.2.2.1 0)), (1, .int a1), (2, .int a2)] [.int q1]
  refine u_if_eq g 27 dX11_keeper_13 (by decide) (fun b3 => ?_) (fun b3 => ?_)
  · have h := ob_pos b3 h
    refine u_aload_n g 0 dX11_keeper_27 rfl ?_
    refine u_iconst g (v := (2 : Int32)) dX11_keeper_28 rfl ?_
    obtain ⟨q4, hq5, h⟩ := ob_bind h
    refine u_callV (st := []) g wv_X11_115 [.int (2 : Int32)] (show 0 < shY.1 by decide) ceY_0 rfl rfl (t_X11_no w x.2.1 hq5) (by decide) (by decide) rfl (Nat.le_of_ble_eq_true rfl) rfl dX11_keeper_29 ?_
    show U shY w x r q4.2 32 [(0, .ref (w.2.2.1 0)), (1, .int a1), (2, .int a2)] [.int q4.1]
    exact u_iret g dX11_keeper_32 (by rw [← hr]; obtain rfl := Option.some.inj h; rfl)
  · have h := ob_neg b3 h
    refine u_aload_n g 0 dX11_keeper_16 rfl ?_
    refine u_iload_n g 2 dX11_keeper_17 rfl ?_
    refine u_iconst g (v := (0 : Int32)) dX11_keeper_18 rfl ?_
    refine u_bipush g (v := (10 : Int32)) dX11_keeper_19 rfl ?_
    obtain ⟨q6, hq7, h⟩ := ob_bind h
    refine u_callV (st := []) g wv_X11_97 [.int a2, .int (0 : Int32), .int (10 : Int32)] (show 0 < shY.1 by decide) ceY_0 rfl rfl (t_X11_in w x.2.1 hq7) (by decide) (by decide) rfl (Nat.le_of_ble_eq_true rfl) rfl dX11_keeper_21 ?_
    show U shY w x r (sI M 0 5 (0 : Int32)) 24 [(0, .ref (w.2.2.1 0)), (1, .int a1), (2, .int a2)] [.int q6]
    refine u_if_ne g 33 dX11_keeper_24 (by decide) (fun b8 => ?_) (fun b8 => ?_)
    · have h := ob_neg b8 h
      refine u_aload_n g 0 dX11_keeper_33 rfl ?_
      refine gfX11_3 g wf_X11_91 (v := (M.1 0 3)) rfl dX11_keeper_34 ?_
      refine u_bipush g (v := (16 : Int32)) dX11_keeper_37 rfl ?_
      refine u_icmp_ne g 48 dX11_keeper_39 (by decide) (fun b9 => ?_) (fun b9 => ?_)
      · have h := ob_neg b9 h
        refine u_aload_n g 0 dX11_keeper_48 rfl ?_
        refine gfX11_0 g wf_X11_7 dX11_keeper_49 ?_
        refine u_aload_n g 0 dX11_keeper_52 rfl ?_
        refine gfX11_3 g wf_X11_91 (v := (M.1 0 3)) rfl dX11_keeper_53 ?_
        refine u_iload_n g 1 dX11_keeper_56 rfl ?_
        obtain ⟨e10, h⟩ := ob_if h
        refine aY_ist g (c := 1) 16 (by decide) rfl (inB_in e10) (j := (M.1 0 3).toNatClampNeg) rfl dX11_keeper_57 ?_
        refine u_aload_n g 0 dX11_keeper_58 rfl ?_
        refine gfX11_1 g wf_X11_13 dX11_keeper_59 ?_
        refine u_aload_n g 0 dX11_keeper_62 rfl ?_
        refine gfX11_3 g wf_X11_91 (v := (M.1 0 3)) rfl dX11_keeper_63 ?_
        refine u_iload_n g 2 dX11_keeper_66 rfl ?_
        obtain ⟨e11, h⟩ := ob_if h
        refine aY_ist g (c := 2) 16 (by decide) rfl (inB_in e11) (j := (M.1 0 3).toNatClampNeg) rfl dX11_keeper_67 ?_
        refine u_aload_n g 0 dX11_keeper_68 rfl ?_
        refine gfX11_2 g wf_X11_16 dX11_keeper_69 ?_
        refine u_aload_n g 0 dX11_keeper_72 rfl ?_
        refine gfX11_3 g wf_X11_91 (v := (M.1 0 3)) rfl dX11_keeper_73 ?_
        refine u_iconst g (v := (0 : Int32)) dX11_keeper_76 rfl ?_
        obtain ⟨e12, h⟩ := ob_if h
        refine aY_ist g (c := 3) 16 (by decide) rfl (inB_in e12) (j := (M.1 0 3).toNatClampNeg) rfl dX11_keeper_77 ?_
        refine u_aload_n g 0 dX11_keeper_78 rfl ?_
        refine u_dup g dX11_keeper_79 rfl ?_
        refine gfX11_3 g wf_X11_91 (v := (M.1 0 3)) rfl dX11_keeper_80 ?_
        refine u_iconst g (v := (1 : Int32)) dX11_keeper_83 rfl ?_
        refine u_iadd g dX11_keeper_84 ?_
        refine pfX11_3 g wf_X11_91 dX11_keeper_85 ?_
        refine u_aload_n g 0 dX11_keeper_88 rfl ?_
        refine u_iconst g (v := (0 : Int32)) dX11_keeper_89 rfl ?_
        refine u_iconst g (v := (0 : Int32)) dX11_keeper_90 rfl ?_
        refine u_iconst g (v := (0 : Int32)) dX11_keeper_91 rfl ?_
        obtain ⟨q13, hq14, h⟩ := ob_bind h
        refine u_callV (st := []) g wv_X11_108 [.int (0 : Int32), .int (0 : Int32), .int (0 : Int32)] (show 0 < shY.1 by decide) ceY_0 rfl rfl (t_X11_act w x.2.1 hq14) (by decide) (by decide) rfl (Nat.le_of_ble_eq_true rfl) rfl dX11_keeper_92 ?_
        show U shY w x r q13 95 [(0, .ref (w.2.2.1 0)), (1, .int a1), (2, .int a2)] []
        refine u_aload_n g 0 dX11_keeper_95 rfl ?_
        refine gfX11_3 g wf_X11_91 (v := (q13.1 0 3)) rfl dX11_keeper_96 ?_
        refine u_iconst g (v := (1 : Int32)) dX11_keeper_99 rfl ?_
        refine u_isub g dX11_keeper_100 ?_
        exact u_iret g dX11_keeper_101 (by rw [← hr]; obtain rfl := Option.some.inj h; rfl)
      · have h := ob_pos b9 h
        refine u_aload_n g 0 dX11_keeper_42 rfl ?_
        refine u_iconst g (v := (4 : Int32)) dX11_keeper_43 rfl ?_
        obtain ⟨q15, hq16, h⟩ := ob_bind h
        refine u_callV (st := []) g wv_X11_115 [.int (4 : Int32)] (show 0 < shY.1 by decide) ceY_0 rfl rfl (t_X11_no w x.2.1 hq16) (by decide) (by decide) rfl (Nat.le_of_ble_eq_true rfl) rfl dX11_keeper_44 ?_
        show U shY w x r q15.2 47 [(0, .ref (w.2.2.1 0)), (1, .int a1), (2, .int a2)] [.int q15.1]
        exact u_iret g dX11_keeper_47 (by rw [← hr]; obtain rfl := Option.some.inj h; rfl)
    · have h := ob_pos b8 h
      refine u_aload_n g 0 dX11_keeper_27 rfl ?_
      refine u_iconst g (v := (2 : Int32)) dX11_keeper_28 rfl ?_
      obtain ⟨q17, hq18, h⟩ := ob_bind h
      refine u_callV (st := []) g wv_X11_115 [.int (2 : Int32)] (show 0 < shY.1 by decide) ceY_0 rfl rfl (t_X11_no w x.2.1 hq18) (by decide) (by decide) rfl (Nat.le_of_ble_eq_true rfl) rfl dX11_keeper_29 ?_
      show U shY w x r q17.2 32 [(0, .ref (w.2.2.1 0)), (1, .int a1), (2, .int a2)] [.int q17.1]
      exact u_iret g dX11_keeper_32 (by rw [← hr]; obtain rfl := Option.some.inj h; rfl)
set_option maxRecDepth 100000 in
set_option maxHeartbeats 4000000 in
theorem t_X11_tenths (w : Wp) (l : Launch) {a1 : Int32} {a2 : Int32} {M : Mem} {q : Int32 × Mem} (h : f_X11_tenths a1 a2 M = some q) : Ct shY w l yX11_tenths cX11_tenths 3 (some .boolean) 1 [.ref (w.2.2.1 0), .int a1, .int a2] M (some (.int q.1), q.2) := by
  rw [f_X11_tenths] at h
  refine ct_of shY_loc (by decide) (Nat.le_of_ble_eq_true rfl) rfl (fun x hx g => ?_)
  subst hx
  show U shY w x _ M 0 [(0, .ref (w.2.2.1 0)), (1, .int a1), (2, .int a2)] []
  generalize hr : ((some (.int q.1), q.2) : Option Value × Mem) = r
  have g : Gd shY w x RX11 cX11_tenths 3 (some .boolean) 1 := g
  refine u_aload_n g 0 dX11_tenths_0 rfl ?_
  refine u_iconst g (v := (0 : Int32)) dX11_tenths_1 rfl ?_
  refine pfX11_5 g wf_X11_84 dX11_tenths_2 ?_
  refine u_aload_n g 0 dX11_tenths_5 rfl ?_
  refine u_iload_n g 1 dX11_tenths_6 rfl ?_
  refine u_iconst g (v := (0 : Int32)) dX11_tenths_7 rfl ?_
  refine u_aload_n g 0 dX11_tenths_8 rfl ?_
  refine gfX11_3 g wf_X11_91 (v := (M.1 0 3)) rfl dX11_tenths_9 ?_
  refine u_iconst g (v := (1 : Int32)) dX11_tenths_12 rfl ?_
  refine u_isub g dX11_tenths_13 ?_
  obtain ⟨q1, hq2, h⟩ := ob_bind h
  refine u_callV (st := []) g wv_X11_97 [.int a1, .int (0 : Int32), .int ((M.1 0 3) - (1 : Int32))] (show 0 < shY.1 by decide) ceY_0 rfl rfl (t_X11_in w x.2.1 hq2) (by decide) (by decide) rfl (Nat.le_of_ble_eq_true rfl) rfl dX11_tenths_14 ?_
  show U shY w x r (sI M 0 5 (0 : Int32)) 17 [(0, .ref (w.2.2.1 0)), (1, .int a1), (2, .int a2)] [.int q1]
  refine u_if_ne g 26 dX11_tenths_17 (by decide) (fun b3 => ?_) (fun b3 => ?_)
  · have h := ob_neg b3 h
    refine u_aload_n g 0 dX11_tenths_26 rfl ?_
    refine u_iload_n g 2 dX11_tenths_27 rfl ?_
    refine u_iconst g (v := (0 : Int32)) dX11_tenths_28 rfl ?_
    refine u_bipush g (v := (10 : Int32)) dX11_tenths_29 rfl ?_
    obtain ⟨q4, hq5, h⟩ := ob_bind h
    refine u_callV (st := []) g wv_X11_97 [.int a2, .int (0 : Int32), .int (10 : Int32)] (show 0 < shY.1 by decide) ceY_0 rfl rfl (t_X11_in w x.2.1 hq5) (by decide) (by decide) rfl (Nat.le_of_ble_eq_true rfl) rfl dX11_tenths_31 ?_
    show U shY w x r (sI M 0 5 (0 : Int32)) 34 [(0, .ref (w.2.2.1 0)), (1, .int a1), (2, .int a2)] [.int q4]
    refine u_if_ne g 43 dX11_tenths_34 (by decide) (fun b6 => ?_) (fun b6 => ?_)
    · have h := ob_neg b6 h
      refine u_aload_n g 0 dX11_tenths_43 rfl ?_
      refine u_iconst g (v := (1 : Int32)) dX11_tenths_44 rfl ?_
      refine u_iload_n g 1 dX11_tenths_45 rfl ?_
      refine u_aload_n g 0 dX11_tenths_46 rfl ?_
      refine gfX11_1 g wf_X11_13 dX11_tenths_47 ?_
      refine u_iload_n g 1 dX11_tenths_50 rfl ?_
      obtain ⟨e7, h⟩ := ob_if h
      refine aY_ild g (c := 2) 16 (by decide) rfl (v := (M.1 2 a1.toNatClampNeg)) (inB_in e7) rfl dX11_tenths_51 ?_
      obtain ⟨q8, hq9, h⟩ := ob_bind h
      refine u_callV (st := []) g wv_X11_108 [.int (1 : Int32), .int a1, .int (M.1 2 a1.toNatClampNeg)] (show 0 < shY.1 by decide) ceY_0 rfl rfl (t_X11_act w x.2.1 hq9) (by decide) (by decide) rfl (Nat.le_of_ble_eq_true rfl) rfl dX11_tenths_52 ?_
      show U shY w x r q8 55 [(0, .ref (w.2.2.1 0)), (1, .int a1), (2, .int a2)] []
      refine u_aload_n g 0 dX11_tenths_55 rfl ?_
      refine gfX11_1 g wf_X11_13 dX11_tenths_56 ?_
      refine u_iload_n g 1 dX11_tenths_59 rfl ?_
      refine u_iload_n g 2 dX11_tenths_60 rfl ?_
      obtain ⟨e10, h⟩ := ob_if h
      refine aY_ist g (c := 2) 16 (by decide) rfl (inB_in e10) (j := a1.toNatClampNeg) rfl dX11_tenths_61 ?_
      refine u_iconst g (v := (1 : Int32)) dX11_tenths_62 rfl ?_
      exact u_zret g (Or.inr rfl) dX11_tenths_63 (by rw [← hr]; obtain rfl := Option.some.inj h; rfl)
    · have h := ob_pos b6 h
      refine u_aload_n g 0 dX11_tenths_37 rfl ?_
      refine u_iconst g (v := (2 : Int32)) dX11_tenths_38 rfl ?_
      obtain ⟨q11, hq12, h⟩ := ob_bind h
      refine u_callV (st := []) g wv_X11_119 [.int (2 : Int32)] (show 0 < shY.1 by decide) ceY_0 rfl rfl (t_X11_not w x.2.1 hq12) (by decide) (by decide) rfl (Nat.le_of_ble_eq_true rfl) rfl dX11_tenths_39 ?_
      show U shY w x r q11.2 42 [(0, .ref (w.2.2.1 0)), (1, .int a1), (2, .int a2)] [.int q11.1]
      obtain ⟨hz, h⟩ := ob_if h
      exact u_zret g hz dX11_tenths_42 (by rw [← hr]; obtain rfl := Option.some.inj h; rfl)
  · have h := ob_pos b3 h
    refine u_aload_n g 0 dX11_tenths_20 rfl ?_
    refine u_iconst g (v := (1 : Int32)) dX11_tenths_21 rfl ?_
    obtain ⟨q13, hq14, h⟩ := ob_bind h
    refine u_callV (st := []) g wv_X11_119 [.int (1 : Int32)] (show 0 < shY.1 by decide) ceY_0 rfl rfl (t_X11_not w x.2.1 hq14) (by decide) (by decide) rfl (Nat.le_of_ble_eq_true rfl) rfl dX11_tenths_22 ?_
    show U shY w x r q13.2 25 [(0, .ref (w.2.2.1 0)), (1, .int a1), (2, .int a2)] [.int q13.1]
    obtain ⟨hz, h⟩ := ob_if h
    exact u_zret g hz dX11_tenths_25 (by rw [← hr]; obtain rfl := Option.some.inj h; rfl)
set_option maxRecDepth 100000 in
set_option maxHeartbeats 4000000 in
theorem t_X11_keeperOf (w : Wp) (l : Launch) {a1 : Int32} {a2 : Int32} {M : Mem} {q : Int32 × Mem} (h : f_X11_keeperOf a1 a2 M = some q) : Ct shY w l yX11_keeperOf cX11_keeperOf 3 (some .int) 1 [.ref (w.2.2.1 0), .int a1, .int a2] M (some (.int q.1), q.2) := by
  rw [f_X11_keeperOf] at h
  refine ct_of shY_loc (by decide) (Nat.le_of_ble_eq_true rfl) rfl (fun x hx g => ?_)
  subst hx
  show U shY w x _ M 0 [(0, .ref (w.2.2.1 0)), (1, .int a1), (2, .int a2)] []
  generalize hr : ((some (.int q.1), q.2) : Option Value × Mem) = r
  have g : Gd shY w x RX11 cX11_keeperOf 3 (some .int) 1 := g
  refine u_aload_n g 0 dX11_keeperOf_0 rfl ?_
  refine u_iconst g (v := (0 : Int32)) dX11_keeperOf_1 rfl ?_
  refine pfX11_5 g wf_X11_84 dX11_keeperOf_2 ?_
  refine u_aload_n g 0 dX11_keeperOf_5 rfl ?_
  refine u_iload_n g 1 dX11_keeperOf_6 rfl ?_
  refine u_iconst g (v := (0 : Int32)) dX11_keeperOf_7 rfl ?_
  refine u_aload_n g 0 dX11_keeperOf_8 rfl ?_
  refine gfX11_3 g wf_X11_91 (v := (M.1 0 3)) rfl dX11_keeperOf_9 ?_
  refine u_iconst g (v := (1 : Int32)) dX11_keeperOf_12 rfl ?_
  refine u_isub g dX11_keeperOf_13 ?_
  obtain ⟨q1, hq2, h⟩ := ob_bind h
  refine u_callV (st := []) g wv_X11_97 [.int a1, .int (0 : Int32), .int ((M.1 0 3) - (1 : Int32))] (show 0 < shY.1 by decide) ceY_0 rfl rfl (t_X11_in w x.2.1 hq2) (by decide) (by decide) rfl (Nat.le_of_ble_eq_true rfl) rfl dX11_keeperOf_14 ?_
  show U shY w x r (sI M 0 5 (0 : Int32)) 17 [(0, .ref (w.2.2.1 0)), (1, .int a1), (2, .int a2)] [.int q1]
  refine u_if_ne g 22 dX11_keeperOf_17 (by decide) (fun b3 => ?_) (fun b3 => ?_)
  · have h := ob_neg b3 h
    refine u_iload_n g 2 dX11_keeperOf_22 rfl ?_
    refine u_if_ne g 35 dX11_keeperOf_23 (by decide) (fun b4 => ?_) (fun b4 => ?_)
    · have h := ob_neg b4 h
      refine u_iload_n g 2 dX11_keeperOf_35 rfl ?_
      refine u_iconst g (v := (1 : Int32)) dX11_keeperOf_36 rfl ?_
      refine u_icmp_ne g 49 dX11_keeperOf_37 (by decide) (fun b5 => ?_) (fun b5 => ?_)
      · have h := ob_neg b5 h
        refine u_iload_n g 2 dX11_keeperOf_49 rfl ?_
        refine u_iconst g (v := (2 : Int32)) dX11_keeperOf_50 rfl ?_
        refine u_icmp_ne g 63 dX11_keeperOf_51 (by decide) (fun b6 => ?_) (fun b6 => ?_)
        · have h := ob_neg b6 h
          refine u_iconst g (v := (-1 : Int32)) dX11_keeperOf_63 rfl ?_
          exact u_iret g dX11_keeperOf_64 (by rw [← hr]; obtain rfl := Option.some.inj h; rfl)
        · have h := ob_pos b6 h
          refine u_aload_n g 0 dX11_keeperOf_54 rfl ?_
          refine gfX11_2 g wf_X11_16 dX11_keeperOf_55 ?_
          refine u_iload_n g 1 dX11_keeperOf_58 rfl ?_
          obtain ⟨e7, h⟩ := ob_if h
          refine aY_ild g (c := 3) 16 (by decide) rfl (v := (M.1 3 a1.toNatClampNeg)) (inB_in e7) rfl dX11_keeperOf_59 ?_
          refine u_goto g 64 dX11_keeperOf_60 (by decide) ?_
          exact u_iret g dX11_keeperOf_64 (by rw [← hr]; obtain rfl := Option.some.inj h; rfl)
      · have h := ob_pos b5 h
        refine u_aload_n g 0 dX11_keeperOf_40 rfl ?_
        refine gfX11_1 g wf_X11_13 dX11_keeperOf_41 ?_
        refine u_iload_n g 1 dX11_keeperOf_44 rfl ?_
        obtain ⟨e8, h⟩ := ob_if h
        refine aY_ild g (c := 2) 16 (by decide) rfl (v := (M.1 2 a1.toNatClampNeg)) (inB_in e8) rfl dX11_keeperOf_45 ?_
        refine u_goto g 64 dX11_keeperOf_46 (by decide) ?_
        exact u_iret g dX11_keeperOf_64 (by rw [← hr]; obtain rfl := Option.some.inj h; rfl)
    · have h := ob_pos b4 h
      refine u_aload_n g 0 dX11_keeperOf_26 rfl ?_
      refine gfX11_0 g wf_X11_7 dX11_keeperOf_27 ?_
      refine u_iload_n g 1 dX11_keeperOf_30 rfl ?_
      obtain ⟨e9, h⟩ := ob_if h
      refine aY_ild g (c := 1) 16 (by decide) rfl (v := (M.1 1 a1.toNatClampNeg)) (inB_in e9) rfl dX11_keeperOf_31 ?_
      refine u_goto g 64 dX11_keeperOf_32 (by decide) ?_
      exact u_iret g dX11_keeperOf_64 (by rw [← hr]; obtain rfl := Option.some.inj h; rfl)
  · have h := ob_pos b3 h
    refine u_iconst g (v := (-1 : Int32)) dX11_keeperOf_20 rfl ?_
    exact u_iret g dX11_keeperOf_21 (by rw [← hr]; obtain rfl := Option.some.inj h; rfl)
set_option maxRecDepth 100000 in
set_option maxHeartbeats 4000000 in
theorem s_X11_noSets_l1 {w : Wp} {x : Cx} {r : Option Value × Mem} (g : Gd shY w x RX11 cX11_noSets 2 none 0)   : ∀ (n : Nat) (v1 : Int32) (M : Mem) (q : Mem), f_X11_noSets_l1 n v1 M = some q → U shY w x r q 21 [] [] → U shY w x r M 2 [(0, .ref (w.2.2.1 0)), (1, .int v1)] [] := by
  intro n
  induction n with
  | zero => intro v1 M q h K; rw [f_X11_noSets_l1] at h; cases h
  | succ n ih =>
    intro v1 M q h K
    rw [f_X11_noSets_l1] at h
    refine u_iload_n g 1 dX11_noSets_2 rfl ?_
    refine u_ldc g wk_X11_49 dX11_noSets_3 ?_
    refine u_icmp_ge g 21 dX11_noSets_5 (by decide) (fun b1 => ?_) (fun b1 => ?_)
    · have h := ob_pos b1 h
      obtain rfl := Option.some.inj h
      exact u_sub [] rfl K
    · have h := ob_neg b1 h
      refine u_aload_n g 0 dX11_noSets_8 rfl ?_
      refine gfX11_21 g wf_X11_50 dX11_noSets_9 ?_
      refine u_iload_n g 1 dX11_noSets_12 rfl ?_
      refine u_iconst g (v := (0 : Int32)) dX11_noSets_13 rfl ?_
      obtain ⟨e2, h⟩ := ob_if h
      refine aY_zst g (c := 14) 65536 rfl (Or.inl rfl) (inB_in e2) (j := v1.toNatClampNeg) rfl dX11_noSets_14 ?_
      refine u_iinc g 1 [(1, .int (v1 + (1 : Int32))), (0, .ref (w.2.2.1 0))] dX11_noSets_15 rfl rfl (by decide) rfl ?_
      refine u_goto g 2 dX11_noSets_18 (by decide) ?_
      exact u_sub [1, 0] rfl (ih (v1 + (1 : Int32)) (sI M 14 v1.toNatClampNeg (0 : Int32)) _ h K)
set_option maxRecDepth 100000 in
set_option maxHeartbeats 4000000 in
theorem t_X11_noSets (w : Wp) (l : Launch)  {M : Mem} {q : Mem} (h : f_X11_noSets M = some q) : Ct shY w l yX11_noSets cX11_noSets 2 none 0 [.ref (w.2.2.1 0)] M (none, q) := by
  rw [f_X11_noSets] at h
  refine ct_of shY_loc (by decide) (Nat.le_of_ble_eq_true rfl) rfl (fun x hx g => ?_)
  subst hx
  show U shY w x _ M 0 [(0, .ref (w.2.2.1 0))] []
  generalize hr : ((none, q) : Option Value × Mem) = r
  have g : Gd shY w x RX11 cX11_noSets 2 none 0 := g
  refine u_iconst g (v := (0 : Int32)) dX11_noSets_0 rfl ?_
  refine u_istore_n g [(1, .int (0 : Int32)), (0, .ref (w.2.2.1 0))] dX11_noSets_1 (by decide) rfl ?_
  obtain ⟨q1, hq2, h⟩ := ob_bind h
  refine u_sub [1, 0] rfl (s_X11_noSets_l1 g fuelN (0 : Int32) M _ hq2 ?_)
  show U shY w x r q1 21 [] []
  exact u_vret g dX11_noSets_21 (by rw [← hr]; obtain rfl := Option.some.inj h; rfl)
set_option maxRecDepth 100000 in
set_option maxHeartbeats 4000000 in
theorem s_X11_isBelow_l1 {w : Wp} {x : Cx} {r : Option Value × Mem} (g : Gd shY w x RX11 cX11_isBelow 3 (some .boolean) 0) (a1 : Int32)  (M : Mem) : ∀ (n : Nat) (v2 : Int32) (q : (Unit) ⊕ (Int32)), f_X11_isBelow_l1 a1 M n v2 = some q → (∀ e : Unit, q = .inl e → U shY w x r M 38 [] []) → (∀ v : Int32, q = .inr v → r = (some (.int v), M)) → U shY w x r M 2 [(0, .ref (w.2.2.1 0)), (1, .int a1), (2, .int v2)] [] := by
  intro n
  induction n with
  | zero => intro v2 q h K1 K2; rw [f_X11_isBelow_l1] at h; cases h
  | succ n ih =>
    intro v2 q h K1 K2
    rw [f_X11_isBelow_l1] at h
    refine u_iload_n g 2 dX11_isBelow_2 rfl ?_
    refine u_bipush g (v := (16 : Int32)) dX11_isBelow_3 rfl ?_
    refine u_icmp_ge g 38 dX11_isBelow_5 (by decide) (fun b1 => ?_) (fun b1 => ?_)
    · have h := ob_pos b1 h
      exact u_sub [] rfl (K1 _ (Option.some.inj h).symm)
    · have h := ob_neg b1 h
      refine u_iload_n g 1 dX11_isBelow_8 rfl ?_
      refine u_iload_n g 2 dX11_isBelow_9 rfl ?_
      refine u_ishr g dX11_isBelow_10 ?_
      refine u_iconst g (v := (1 : Int32)) dX11_isBelow_11 rfl ?_
      refine u_iand g dX11_isBelow_12 ?_
      refine u_iconst g (v := (1 : Int32)) dX11_isBelow_13 rfl ?_
      refine u_icmp_ne g 32 dX11_isBelow_14 (by decide) (fun b2 => ?_) (fun b2 => ?_)
      · have h := ob_neg b2 h
        refine u_iinc g 2 [(2, .int (v2 + (1 : Int32))), (0, .ref (w.2.2.1 0)), (1, .int a1)] dX11_isBelow_32 rfl rfl (by decide) rfl ?_
        refine u_goto g 2 dX11_isBelow_35 (by decide) ?_
        exact u_sub [1, 2, 0] rfl (ih (v2 + (1 : Int32)) _ h K1 K2)
      · have h := ob_pos b2 h
        refine u_aload_n g 0 dX11_isBelow_17 rfl ?_
        refine gfX11_22 g wf_X11_54 dX11_isBelow_18 ?_
        refine u_iload_n g 1 dX11_isBelow_21 rfl ?_
        refine u_iconst g (v := (1 : Int32)) dX11_isBelow_22 rfl ?_
        refine u_iload_n g 2 dX11_isBelow_23 rfl ?_
        refine u_ishl g dX11_isBelow_24 ?_
        refine u_ixor g dX11_isBelow_25 ?_
        obtain ⟨e3, h⟩ := ob_if h
        refine aY_zld g (c := 15) 65536 rfl (v := (M.1 15 (a1 ^^^ ((1 : Int32) <<< (v2 &&& 31))).toNatClampNeg)) (inB_in e3) rfl dX11_isBelow_26 ?_
        refine u_if_eq g 32 dX11_isBelow_27 (by decide) (fun b4 => ?_) (fun b4 => ?_)
        · have h := ob_pos b4 h
          refine u_iinc g 2 [(2, .int (v2 + (1 : Int32))), (0, .ref (w.2.2.1 0)), (1, .int a1)] dX11_isBelow_32 rfl rfl (by decide) rfl ?_
          refine u_goto g 2 dX11_isBelow_35 (by decide) ?_
          exact u_sub [1, 2, 0] rfl (ih (v2 + (1 : Int32)) _ h K1 K2)
        · have h := ob_neg b4 h
          refine u_iconst g (v := (1 : Int32)) dX11_isBelow_30 rfl ?_
          exact u_zret g (Or.inr rfl) dX11_isBelow_31 (K2 _ (Option.some.inj h).symm)
set_option maxRecDepth 100000 in
set_option maxHeartbeats 4000000 in
theorem t_X11_isBelow (w : Wp) (l : Launch) {a1 : Int32} {M : Mem} {q : Int32} (h : f_X11_isBelow a1 M = some q) : Ct shY w l yX11_isBelow cX11_isBelow 3 (some .boolean) 0 [.ref (w.2.2.1 0), .int a1] M (some (.int q), M) := by
  rw [f_X11_isBelow] at h
  refine ct_of shY_loc (by decide) (Nat.le_of_ble_eq_true rfl) rfl (fun x hx g => ?_)
  subst hx
  show U shY w x _ M 0 [(0, .ref (w.2.2.1 0)), (1, .int a1)] []
  generalize hr : ((some (.int q), M) : Option Value × Mem) = r
  have g : Gd shY w x RX11 cX11_isBelow 3 (some .boolean) 0 := g
  refine u_iconst g (v := (0 : Int32)) dX11_isBelow_0 rfl ?_
  refine u_istore_n g [(2, .int (0 : Int32)), (0, .ref (w.2.2.1 0)), (1, .int a1)] dX11_isBelow_1 (by decide) rfl ?_
  obtain ⟨q1, hq2, h⟩ := ob_bind h
  refine u_sub [1, 2, 0] rfl (s_X11_isBelow_l1 g a1 M fuelN (0 : Int32) _ hq2 (fun e3 he5 => ?_) (fun v4 he5 => ?_))
  · subst he5
    have h := ob_inl h
    refine u_iconst g (v := (0 : Int32)) dX11_isBelow_38 rfl ?_
    exact u_zret g (Or.inl rfl) dX11_isBelow_39 (by rw [← hr]; obtain rfl := Option.some.inj h; rfl)
  · subst he5
    have h := ob_inr h
    obtain rfl := Option.some.inj h
    exact hr.symm
set_option maxRecDepth 100000 in
set_option maxHeartbeats 4000000 in
theorem s_X11_least_l1 {w : Wp} {x : Cx} {r : Option Value × Mem} (g : Gd shY w x RX11 cX11_least 4 (some .boolean) 1)   : ∀ (n : Nat) (v1 : Int32) (v2 : Int32) (M : Mem) (q : Int32 × Mem), f_X11_least_l1 n v1 v2 M = some q → U shY w x r q.2 101 [(1, .int q.1)] [] → U shY w x r M 9 [(0, .ref (w.2.2.1 0)), (1, .int v1), (2, .int v2)] [] := by
  intro n
  induction n with
  | zero => intro v1 v2 M q h K; rw [f_X11_least_l1] at h; cases h
  | succ n ih =>
    intro v1 v2 M q h K
    rw [f_X11_least_l1] at h
    refine u_iload_n g 2 dX11_least_9 rfl ?_
    refine u_ldc g wk_X11_49 dX11_least_10 ?_
    refine u_icmp_ge g 101 dX11_least_12 (by decide) (fun b1 => ?_) (fun b1 => ?_)
    · have h := ob_pos b1 h
      obtain rfl := Option.some.inj h
      exact u_sub [1] rfl K
    · have h := ob_neg b1 h
      refine u_aload_n g 0 dX11_least_15 rfl ?_
      refine u_iload_n g 2 dX11_least_16 rfl ?_
      obtain ⟨q2, hq3, h⟩ := ob_bind h
      refine u_callV (st := []) g wv_X11_126 [.int v2] (show 0 < shY.1 by decide) ceY_0 rfl rfl (t_X11_isBelow w x.2.1 hq3) (by decide) (by decide) rfl (Nat.le_of_ble_eq_true rfl) rfl dX11_least_17 ?_
      show U shY w x r M 20 [(0, .ref (w.2.2.1 0)), (1, .int v1), (2, .int v2)] [.int q2]
      refine u_istore_n g [(3, .int q2), (0, .ref (w.2.2.1 0)), (1, .int v1), (2, .int v2)] dX11_least_20 (by decide) rfl ?_
      refine u_aload_n g 1 dX11_least_21 rfl ?_
      refine gfX11_22 g wf_X11_54 dX11_least_22 ?_
      refine u_iload_n g 3 dX11_least_25 rfl ?_
      refine u_aload_n g 1 dX11_least_26 rfl ?_
      refine gfX11_21 g wf_X11_50 dX11_least_27 ?_
      refine u_iload_n g 3 dX11_least_30 rfl ?_
      obtain ⟨e4, h⟩ := ob_if h
      refine aY_zld g (c := 14) 65536 rfl (v := (M.1 14 v2.toNatClampNeg)) (inB_in e4) rfl dX11_least_31 ?_
      obtain ⟨q5, hq6, h⟩ := ob_bind h
      have K7 : U shY w x r M 44 [(0, .ref (w.2.2.1 0)), (1, .int v1), (2, .int v2), (3, .int q2)] [.int q5, .int v2, .ref (w.2.2.1 15)] := by
        obtain ⟨e8, h⟩ := ob_if h
        obtain ⟨e9, h⟩ := ob_if h
        refine aY_zst g (c := 15) 65536 rfl e9 (inB_in e8) (j := v2.toNatClampNeg) rfl dX11_least_44 ?_
        refine u_aload_n g 0 dX11_least_45 rfl ?_
        refine gfX11_21 g wf_X11_50 dX11_least_46 ?_
        refine u_iload_n g 2 dX11_least_49 rfl ?_
        obtain ⟨e10, h⟩ := ob_if h
        refine aY_zld g (c := 14) 65536 rfl (v := (M.1 14 v2.toNatClampNeg)) (inB_in e10) rfl dX11_least_50 ?_
        obtain ⟨q11, hq12, h⟩ := ob_bind h
        have K13 : U shY w x r q11.2 95 [(0, .ref (w.2.2.1 0)), (1, .int q11.1), (2, .int v2)] [] := by
          refine u_iinc g 2 [(2, .int (v2 + (1 : Int32))), (0, .ref (w.2.2.1 0)), (1, .int q11.1)] dX11_least_95 rfl rfl (by decide) rfl ?_
          refine u_goto g 9 dX11_least_98 (by decide) ?_
          exact u_sub [1, 2, 0] rfl (ih q11.1 (v2 + (1 : Int32)) q11.2 _ h K)
        have h := hq12
        refine u_if_eq g 95 dX11_least_51 (by decide) (fun b14 => ?_) (fun b14 => ?_)
        · have h := ob_pos b14 h
          obtain rfl := Option.some.inj h
          exact u_sub [0, 1, 2] rfl K13
        · have h := ob_neg b14 h
          refine u_iload_n g 3 dX11_least_54 rfl ?_
          refine u_if_eq g 61 dX11_least_55 (by decide) (fun b15 => ?_) (fun b15 => ?_)
          · have h := ob_pos b15 h
            refine u_aload_n g 0 dX11_least_61 rfl ?_
            refine gfX11_24 g wf_X11_123 (v := (M.1 0 24)) rfl dX11_least_62 ?_
            refine u_bipush g (v := (120 : Int32)) dX11_least_65 rfl ?_
            obtain ⟨q16, hq17, h⟩ := ob_bind h
            have K18 : U shY w x r q16.2 85 [(0, .ref (w.2.2.1 0)), (1, .int q16.1), (2, .int v2)] [] := by
              refine u_aload_n g 0 dX11_least_85 rfl ?_
              refine u_dup g dX11_least_86 rfl ?_
              refine gfX11_24 g wf_X11_123 (v := (q16.2.1 0 24)) rfl dX11_least_87 ?_
              refine u_iconst g (v := (1 : Int32)) dX11_least_90 rfl ?_
              refine u_iadd g dX11_least_91 ?_
              refine pfX11_24 g wf_X11_123 dX11_least_92 ?_
              obtain rfl := Option.some.inj h
              exact u_sub [0, 1, 2] rfl K13
            have h := hq17
            refine u_icmp_ge g 83 dX11_least_67 (by decide) (fun b19 => ?_) (fun b19 => ?_)
            · have h := ob_pos b19 h
              refine u_iconst g (v := (0 : Int32)) dX11_least_83 rfl ?_
              refine u_istore_n g [(1, .int (0 : Int32)), (0, .ref (w.2.2.1 0)), (2, .int v2), (3, .int q2)] dX11_least_84 (by decide) rfl ?_
              obtain rfl := Option.some.inj h
              exact u_sub [1, 0, 2] rfl K18
            · have h := ob_neg b19 h
              refine u_aload_n g 0 dX11_least_70 rfl ?_
              refine gfX11_23 g wf_X11_57 dX11_least_71 ?_
              refine u_aload_n g 0 dX11_least_74 rfl ?_
              refine gfX11_24 g wf_X11_123 (v := (M.1 0 24)) rfl dX11_least_75 ?_
              refine u_iload_n g 2 dX11_least_78 rfl ?_
              obtain ⟨e20, h⟩ := ob_if h
              refine aY_ist g (c := 16) 120 (by decide) rfl (inB_in e20) (j := (M.1 0 24).toNatClampNeg) rfl dX11_least_79 ?_
              refine u_goto g 85 dX11_least_80 (by decide) ?_
              obtain rfl := Option.some.inj h
              exact u_sub [0, 1, 2] rfl K18
          · have h := ob_neg b15 h
            refine u_goto g 95 dX11_least_58 (by decide) ?_
            obtain rfl := Option.some.inj h
            exact u_sub [0, 1, 2] rfl K13
      have h := hq6
      refine u_if_ne g 39 dX11_least_32 (by decide) (fun b21 => ?_) (fun b21 => ?_)
      · have h := ob_neg b21 h
        refine u_iconst g (v := (1 : Int32)) dX11_least_39 rfl ?_
        refine u_goto g 44 dX11_least_40 (by decide) ?_
        obtain rfl := Option.some.inj h
        exact u_sub [1, 2, 3, 0] rfl K7
      · have h := ob_pos b21 h
        refine u_iload_n g 0 dX11_least_35 rfl ?_
        refine u_if_eq g 43 dX11_least_36 (by decide) (fun b22 => ?_) (fun b22 => ?_)
        · have h := ob_pos b22 h
          refine u_iconst g (v := (0 : Int32)) dX11_least_43 rfl ?_
          obtain rfl := Option.some.inj h
          exact u_sub [1, 2, 3, 0] rfl K7
        · have h := ob_neg b22 h
          refine u_iconst g (v := (1 : Int32)) dX11_least_39 rfl ?_
          refine u_goto g 44 dX11_least_40 (by decide) ?_
          obtain rfl := Option.some.inj h
          exact u_sub [1, 2, 3, 0] rfl K7
set_option maxRecDepth 100000 in
set_option maxHeartbeats 4000000 in
theorem t_X11_least (w : Wp) (l : Launch)  {M : Mem} {q : Int32 × Mem} (h : f_X11_least M = some q) : Ct shY w l yX11_least cX11_least 4 (some .boolean) 1 [.ref (w.2.2.1 0)] M (some (.int q.1), q.2) := by
  rw [f_X11_least] at h
  refine ct_of shY_loc (by decide) (Nat.le_of_ble_eq_true rfl) rfl (fun x hx g => ?_)
  subst hx
  show U shY w x _ M 0 [(0, .ref (w.2.2.1 0))] []
  generalize hr : ((some (.int q.1), q.2) : Option Value × Mem) = r
  have g : Gd shY w x RX11 cX11_least 4 (some .boolean) 1 := g
  refine u_aload_n g 0 dX11_least_0 rfl ?_
  refine u_iconst g (v := (0 : Int32)) dX11_least_1 rfl ?_
  refine pfX11_24 g wf_X11_123 dX11_least_2 ?_
  refine u_iconst g (v := (1 : Int32)) dX11_least_5 rfl ?_
  refine u_istore_n g [(1, .int (1 : Int32)), (0, .ref (w.2.2.1 0))] dX11_least_6 (by decide) rfl ?_
  refine u_iconst g (v := (0 : Int32)) dX11_least_7 rfl ?_
  refine u_istore_n g [(2, .int (0 : Int32)), (1, .int (1 : Int32)), (0, .ref (w.2.2.1 0))] dX11_least_8 (by decide) rfl ?_
  obtain ⟨q1, hq2, h⟩ := ob_bind h
  refine u_sub [2, 1, 0] rfl (s_X11_least_l1 g fuelN (1 : Int32) (0 : Int32) (sI M 0 24 (0 : Int32)) _ hq2 ?_)
  show U shY w x r q1.2 101 [(1, .int q1.1)] []
  refine u_iload_n g 0 dX11_least_101 rfl ?_
  obtain ⟨hz, h⟩ := ob_if h
  exact u_zret g hz dX11_least_102 (by rw [← hr]; obtain rfl := Option.some.inj h; rfl)
set_option maxRecDepth 100000 in
set_option maxHeartbeats 4000000 in
theorem s_X11_made_l1 {w : Wp} {x : Cx} {r : Option Value × Mem} (g : Gd shY w x RX11 cX11_made 3 (some .int) 2) (a1 : Int32)  : ∀ (n : Nat) (v2 : Int32) (M : Mem) (q : Mem), f_X11_made_l1 a1 n v2 M = some q → U shY w x r q 64 [(0, .ref (w.2.2.1 0)), (1, .int a1)] [] → U shY w x r M 30 [(0, .ref (w.2.2.1 0)), (1, .int a1), (2, .int v2)] [] := by
  intro n
  induction n with
  | zero => intro v2 M q h K; rw [f_X11_made_l1] at h; cases h
  | succ n ih =>
    intro v2 M q h K
    rw [f_X11_made_l1] at h
    refine u_iload_n g 2 dX11_made_30 rfl ?_
    refine u_aload_n g 0 dX11_made_31 rfl ?_
    refine gfX11_24 g wf_X11_123 (v := (M.1 0 24)) rfl dX11_made_32 ?_
    refine u_icmp_ge g 64 dX11_made_35 (by decide) (fun b5 => ?_) (fun b5 => ?_)
    · have h := ob_pos b5 h
      obtain rfl := Option.some.inj h
      exact u_sub [0, 1] rfl K
    · have h := ob_neg b5 h
      refine u_aload_n g 0 dX11_made_38 rfl ?_
      refine gfX11_10 g wf_X11_28 dX11_made_39 ?_
      refine u_bipush g (v := (120 : Int32)) dX11_made_42 rfl ?_
      refine u_aload_n g 0 dX11_made_44 rfl ?_
      refine gfX11_11 g wf_X11_94 (v := (M.1 0 11)) rfl dX11_made_45 ?_
      refine u_imul g dX11_made_48 ?_
      refine u_iload_n g 2 dX11_made_49 rfl ?_
      refine u_iadd g dX11_made_50 ?_
      refine u_aload_n g 0 dX11_made_51 rfl ?_
      refine gfX11_23 g wf_X11_57 dX11_made_52 ?_
      refine u_iload_n g 2 dX11_made_55 rfl ?_
      obtain ⟨e6, h⟩ := ob_if h
      refine aY_ild g (c := 16) 120 (by decide) rfl (v := (M.1 16 v2.toNatClampNeg)) (inB_in e6) rfl dX11_made_56 ?_
      obtain ⟨e7, h⟩ := ob_if h
      refine aY_ist g (c := 7) 2880 (by decide) rfl (inB_in e7) (j := (((120 : Int32) * (M.1 0 11)) + v2).toNatClampNeg) rfl dX11_made_57 ?_
      refine u_iinc g 2 [(2, .int (v2 + (1 : Int32))), (0, .ref (w.2.2.1 0)), (1, .int a1)] dX11_made_58 rfl rfl (by decide) rfl ?_
      refine u_goto g 30 dX11_made_61 (by decide) ?_
      exact u_sub [1, 2, 0] rfl (ih (v2 + (1 : Int32)) (sI M 7 (((120 : Int32) * (M.1 0 11)) + v2).toNatClampNeg (M.1 16 v2.toNatClampNeg)) _ h K)
set_option maxRecDepth 100000 in
set_option maxHeartbeats 4000000 in
theorem t_X11_made (w : Wp) (l : Launch) {a1 : Int32} {M : Mem} {q : Int32 × Mem} (h : f_X11_made a1 M = some q) : Ct shY w l yX11_made cX11_made 3 (some .int) 2 [.ref (w.2.2.1 0), .int a1] M (some (.int q.1), q.2) := by
  rw [f_X11_made] at h
  refine ct_of shY_loc (by decide) (Nat.le_of_ble_eq_true rfl) rfl (fun x hx g => ?_)
  subst hx
  show U shY w x _ M 0 [(0, .ref (w.2.2.1 0)), (1, .int a1)] []
  generalize hr : ((some (.int q.1), q.2) : Option Value × Mem) = r
  have g : Gd shY w x RX11 cX11_made 3 (some .int) 2 := g
  refine u_aload_n g 0 dX11_made_0 rfl ?_
  refine gfX11_11 g wf_X11_94 (v := (M.1 0 11)) rfl dX11_made_1 ?_
  refine u_bipush g (v := (24 : Int32)) dX11_made_4 rfl ?_
  refine u_icmp_ne g 15 dX11_made_6 (by decide) (fun b1 => ?_) (fun b1 => ?_)
  · have h := ob_neg b1 h
    refine u_aload_n g 0 dX11_made_15 rfl ?_
    obtain ⟨q2, hq3, h⟩ := ob_bind h
    refine u_callV (st := []) g wv_X11_129 [] (show 0 < shY.1 by decide) ceY_0 rfl rfl (t_X11_least w x.2.1 hq3) (by decide) (by decide) rfl (Nat.le_of_ble_eq_true rfl) rfl dX11_made_16 ?_
    show U shY w x r q2.2 19 [(0, .ref (w.2.2.1 0)), (1, .int a1)] [.int q2.1]
    refine u_if_ne g 28 dX11_made_19 (by decide) (fun b4 => ?_) (fun b4 => ?_)
    · have h := ob_neg b4 h
      refine u_iconst g (v := (0 : Int32)) dX11_made_28 rfl ?_
      refine u_istore_n g [(2, .int (0 : Int32)), (0, .ref (w.2.2.1 0)), (1, .int a1)] dX11_made_29 (by decide) rfl ?_
      obtain ⟨q5, hq6, h⟩ := ob_bind h
      refine u_sub [1, 2, 0] rfl (s_X11_made_l1 g a1 fuelN (0 : Int32) q2.2 _ hq6 ?_)
      show U shY w x r q5 64 [(0, .ref (w.2.2.1 0)), (1, .int a1)] []
      refine u_aload_n g 0 dX11_made_64 rfl ?_
      refine gfX11_8 g wf_X11_22 dX11_made_65 ?_
      refine u_aload_n g 0 dX11_made_68 rfl ?_
      refine gfX11_11 g wf_X11_94 (v := (q5.1 0 11)) rfl dX11_made_69 ?_
      refine u_iload_n g 1 dX11_made_72 rfl ?_
      obtain ⟨e7, h⟩ := ob_if h
      refine aY_ist g (c := 5) 24 (by decide) rfl (inB_in e7) (j := (q5.1 0 11).toNatClampNeg) rfl dX11_made_73 ?_
      refine u_aload_n g 0 dX11_made_74 rfl ?_
      refine gfX11_9 g wf_X11_25 dX11_made_75 ?_
      refine u_aload_n g 0 dX11_made_78 rfl ?_
      refine gfX11_11 g wf_X11_94 (v := (q5.1 0 11)) rfl dX11_made_79 ?_
      refine u_aload_n g 0 dX11_made_82 rfl ?_
      refine gfX11_24 g wf_X11_123 (v := (q5.1 0 24)) rfl dX11_made_83 ?_
      obtain ⟨e8, h⟩ := ob_if h
      refine aY_ist g (c := 6) 24 (by decide) rfl (inB_in e8) (j := (q5.1 0 11).toNatClampNeg) rfl dX11_made_86 ?_
      refine u_aload_n g 0 dX11_made_87 rfl ?_
      refine u_dup g dX11_made_88 rfl ?_
      refine gfX11_11 g wf_X11_94 (v := (q5.1 0 11)) rfl dX11_made_89 ?_
      refine u_iconst g (v := (1 : Int32)) dX11_made_92 rfl ?_
      refine u_iadd g dX11_made_93 ?_
      refine pfX11_11 g wf_X11_94 dX11_made_94 ?_
      refine u_aload_n g 0 dX11_made_97 rfl ?_
      refine u_iconst g (v := (2 : Int32)) dX11_made_98 rfl ?_
      refine u_iconst g (v := (0 : Int32)) dX11_made_99 rfl ?_
      refine u_iconst g (v := (0 : Int32)) dX11_made_100 rfl ?_
      obtain ⟨q9, hq10, h⟩ := ob_bind h
      refine u_callV (st := []) g wv_X11_108 [.int (2 : Int32), .int (0 : Int32), .int (0 : Int32)] (show 0 < shY.1 by decide) ceY_0 rfl rfl (t_X11_act w x.2.1 hq10) (by decide) (by decide) rfl (Nat.le_of_ble_eq_true rfl) rfl dX11_made_101 ?_
      show U shY w x r q9 104 [(0, .ref (w.2.2.1 0)), (1, .int a1)] []
      refine u_aload_n g 0 dX11_made_104 rfl ?_
      refine gfX11_11 g wf_X11_94 (v := (q9.1 0 11)) rfl dX11_made_105 ?_
      refine u_iconst g (v := (1 : Int32)) dX11_made_108 rfl ?_
      refine u_isub g dX11_made_109 ?_
      exact u_iret g dX11_made_110 (by rw [← hr]; obtain rfl := Option.some.inj h; rfl)
    · have h := ob_pos b4 h
      refine u_aload_n g 0 dX11_made_22 rfl ?_
      refine u_iconst g (v := (3 : Int32)) dX11_made_23 rfl ?_
      obtain ⟨q11, hq12, h⟩ := ob_bind h
      refine u_callV (st := []) g wv_X11_115 [.int (3 : Int32)] (show 0 < shY.1 by decide) ceY_0 rfl rfl (t_X11_no w x.2.1 hq12) (by decide) (by decide) rfl (Nat.le_of_ble_eq_true rfl) rfl dX11_made_24 ?_
      show U shY w x r q11.2 27 [(0, .ref (w.2.2.1 0)), (1, .int a1)] [.int q11.1]
      exact u_iret g dX11_made_27 (by rw [← hr]; obtain rfl := Option.some.inj h; rfl)
  · have h := ob_pos b1 h
    refine u_aload_n g 0 dX11_made_9 rfl ?_
    refine u_iconst g (v := (4 : Int32)) dX11_made_10 rfl ?_
    obtain ⟨q13, hq14, h⟩ := ob_bind h
    refine u_callV (st := []) g wv_X11_115 [.int (4 : Int32)] (show 0 < shY.1 by decide) ceY_0 rfl rfl (t_X11_no w x.2.1 hq14) (by decide) (by decide) rfl (Nat.le_of_ble_eq_true rfl) rfl dX11_made_11 ?_
    show U shY w x r q13.2 14 [(0, .ref (w.2.2.1 0)), (1, .int a1)] [.int q13.1]
    exact u_iret g dX11_made_14 (by rw [← hr]; obtain rfl := Option.some.inj h; rfl)
set_option maxRecDepth 100000 in
set_option maxHeartbeats 4000000 in
theorem s_X11_comeAll_l1 {w : Wp} {x : Cx} {r : Option Value × Mem} (g : Gd shY w x RX11 cX11_comeAll 3 none 1) (a1 : Int32)  : ∀ (n : Nat) (v2 : Int32) (M : Mem) (q : Mem), f_X11_comeAll_l1 a1 n v2 M = some q → U shY w x r q 34 [] [] → U shY w x r M 6 [(0, .ref (w.2.2.1 0)), (1, .int a1), (2, .int v2)] [] := by
  intro n
  induction n with
  | zero => intro v2 M q h K; rw [f_X11_comeAll_l1] at h; cases h
  | succ n ih =>
    intro v2 M q h K
    rw [f_X11_comeAll_l1] at h
    refine u_iload_n g 2 dX11_comeAll_6 rfl ?_
    refine u_aload_n g 0 dX11_comeAll_7 rfl ?_
    refine gfX11_9 g wf_X11_25 dX11_comeAll_8 ?_
    refine u_iload_n g 1 dX11_comeAll_11 rfl ?_
    obtain ⟨e3, h⟩ := ob_if h
    refine aY_ild g (c := 6) 24 (by decide) rfl (v := (M.1 6 a1.toNatClampNeg)) (inB_in e3) rfl dX11_comeAll_12 ?_
    refine u_icmp_ge g 34 dX11_comeAll_13 (by decide) (fun b4 => ?_) (fun b4 => ?_)
    · have h := ob_pos b4 h
      obtain rfl := Option.some.inj h
      exact u_sub [] rfl K
    · have h := ob_neg b4 h
      refine u_aload_n g 0 dX11_comeAll_16 rfl ?_
      refine gfX11_21 g wf_X11_50 dX11_comeAll_17 ?_
      refine u_aload_n g 0 dX11_comeAll_20 rfl ?_
      refine u_iload_n g 1 dX11_comeAll_21 rfl ?_
      refine u_iload_n g 2 dX11_comeAll_22 rfl ?_
      obtain ⟨q5, hq6, h⟩ := ob_bind h
      refine u_callV (st := [.ref (w.2.2.1 14)]) g wv_X11_136 [.int a1, .int v2] (show 0 < shY.1 by decide) ceY_0 rfl rfl (t_X11_quorumOf w x.2.1 hq6) (by decide) (by decide) rfl (Nat.le_of_ble_eq_true rfl) rfl dX11_comeAll_23 ?_
      show U shY w x r M 26 [(0, .ref (w.2.2.1 0)), (1, .int a1), (2, .int v2)] [.int q5, .ref (w.2.2.1 14)]
      refine u_iconst g (v := (1 : Int32)) dX11_comeAll_26 rfl ?_
      obtain ⟨e7, h⟩ := ob_if h
      refine aY_zst g (c := 14) 65536 rfl (Or.inr rfl) (inB_in e7) (j := q5.toNatClampNeg) rfl dX11_comeAll_27 ?_
      refine u_iinc g 2 [(2, .int (v2 + (1 : Int32))), (0, .ref (w.2.2.1 0)), (1, .int a1)] dX11_comeAll_28 rfl rfl (by decide) rfl ?_
      refine u_goto g 6 dX11_comeAll_31 (by decide) ?_
      exact u_sub [1, 2, 0] rfl (ih (v2 + (1 : Int32)) (sI M 14 q5.toNatClampNeg (1 : Int32)) _ h K)
set_option maxRecDepth 100000 in
set_option maxHeartbeats 4000000 in
theorem t_X11_comeAll (w : Wp) (l : Launch) {a1 : Int32} {M : Mem} {q : Mem} (h : f_X11_comeAll a1 M = some q) : Ct shY w l yX11_comeAll cX11_comeAll 3 none 1 [.ref (w.2.2.1 0), .int a1] M (none, q) := by
  rw [f_X11_comeAll] at h
  refine ct_of shY_loc (by decide) (Nat.le_of_ble_eq_true rfl) rfl (fun x hx g => ?_)
  subst hx
  show U shY w x _ M 0 [(0, .ref (w.2.2.1 0)), (1, .int a1)] []
  generalize hr : ((none, q) : Option Value × Mem) = r
  have g : Gd shY w x RX11 cX11_comeAll 3 none 1 := g
  refine u_aload_n g 0 dX11_comeAll_0 rfl ?_
  obtain ⟨q1, hq2, h⟩ := ob_bind h
  refine u_callV (st := []) g wv_X11_133 [] (show 0 < shY.1 by decide) ceY_0 rfl rfl (t_X11_noSets w x.2.1 hq2) (by decide) (by decide) rfl (Nat.le_of_ble_eq_true rfl) rfl dX11_comeAll_1 ?_
  show U shY w x r q1 4 [(0, .ref (w.2.2.1 0)), (1, .int a1)] []
  refine u_iconst g (v := (0 : Int32)) dX11_comeAll_4 rfl ?_
  refine u_istore_n g [(2, .int (0 : Int32)), (0, .ref (w.2.2.1 0)), (1, .int a1)] dX11_comeAll_5 (by decide) rfl ?_
  obtain ⟨q3, hq4, h⟩ := ob_bind h
  refine u_sub [1, 2, 0] rfl (s_X11_comeAll_l1 g a1 fuelN (0 : Int32) q1 _ hq4 ?_)
  show U shY w x r q3 34 [] []
  exact u_vret g dX11_comeAll_34 (by rw [← hr]; obtain rfl := Option.some.inj h; rfl)
set_option maxRecDepth 100000 in
set_option maxHeartbeats 4000000 in
theorem t_X11_list (w : Wp) (l : Launch) {a1 : Int32} {M : Mem} {q : Int32 × Mem} (h : f_X11_list a1 M = some q) : Ct shY w l yX11_list cX11_list 2 (some .int) 1 [.ref (w.2.2.1 0), .int a1] M (some (.int q.1), q.2) := by
  rw [f_X11_list] at h
  refine ct_of shY_loc (by decide) (Nat.le_of_ble_eq_true rfl) rfl (fun x hx g => ?_)
  subst hx
  show U shY w x _ M 0 [(0, .ref (w.2.2.1 0)), (1, .int a1)] []
  generalize hr : ((some (.int q.1), q.2) : Option Value × Mem) = r
  have g : Gd shY w x RX11 cX11_list 2 (some .int) 1 := g
  refine u_aload_n g 0 dX11_list_0 rfl ?_
  refine u_iconst g (v := (0 : Int32)) dX11_list_1 rfl ?_
  refine pfX11_5 g wf_X11_84 dX11_list_2 ?_
  refine u_aload_n g 0 dX11_list_5 rfl ?_
  refine u_iload_n g 1 dX11_list_6 rfl ?_
  obtain ⟨q1, hq2, h⟩ := ob_bind h
  refine u_callV (st := []) g wv_X11_140 [.int a1] (show 0 < shY.1 by decide) ceY_0 rfl rfl (t_X11_isSet w x.2.1 hq2) (by decide) (by decide) rfl (Nat.le_of_ble_eq_true rfl) rfl dX11_list_7 ?_
  show U shY w x r (sI M 0 5 (0 : Int32)) 10 [(0, .ref (w.2.2.1 0)), (1, .int a1)] [.int q1]
  refine u_if_ne g 19 dX11_list_10 (by decide) (fun b3 => ?_) (fun b3 => ?_)
  · have h := ob_neg b3 h
    refine u_aload_n g 0 dX11_list_19 rfl ?_
    refine gfX11_7 g wf_X11_112 (v := (M.1 0 7)) rfl dX11_list_20 ?_
    refine u_bipush g (v := (120 : Int32)) dX11_list_23 rfl ?_
    refine u_icmp_ne g 34 dX11_list_25 (by decide) (fun b4 => ?_) (fun b4 => ?_)
    · have h := ob_neg b4 h
      refine u_aload_n g 0 dX11_list_34 rfl ?_
      refine gfX11_6 g wf_X11_19 dX11_list_35 ?_
      refine u_aload_n g 0 dX11_list_38 rfl ?_
      refine gfX11_7 g wf_X11_112 (v := (M.1 0 7)) rfl dX11_list_39 ?_
      refine u_iload_n g 1 dX11_list_42 rfl ?_
      obtain ⟨e5, h⟩ := ob_if h
      refine aY_ist g (c := 4) 120 (by decide) rfl (inB_in e5) (j := (M.1 0 7).toNatClampNeg) rfl dX11_list_43 ?_
      refine u_aload_n g 0 dX11_list_44 rfl ?_
      refine u_dup g dX11_list_45 rfl ?_
      refine gfX11_7 g wf_X11_112 (v := (M.1 0 7)) rfl dX11_list_46 ?_
      refine u_iconst g (v := (1 : Int32)) dX11_list_49 rfl ?_
      refine u_iadd g dX11_list_50 ?_
      refine pfX11_7 g wf_X11_112 dX11_list_51 ?_
      refine u_aload_n g 0 dX11_list_54 rfl ?_
      refine u_iconst g (v := (0 : Int32)) dX11_list_55 rfl ?_
      refine pfX11_4 g wf_X11_88 dX11_list_56 ?_
      refine u_aload_n g 0 dX11_list_59 rfl ?_
      refine gfX11_7 g wf_X11_112 (v := ((M.1 0 7) + (1 : Int32))) rfl dX11_list_60 ?_
      exact u_iret g dX11_list_63 (by rw [← hr]; obtain rfl := Option.some.inj h; rfl)
    · have h := ob_pos b4 h
      refine u_aload_n g 0 dX11_list_28 rfl ?_
      refine u_iconst g (v := (4 : Int32)) dX11_list_29 rfl ?_
      obtain ⟨q6, hq7, h⟩ := ob_bind h
      refine u_callV (st := []) g wv_X11_115 [.int (4 : Int32)] (show 0 < shY.1 by decide) ceY_0 rfl rfl (t_X11_no w x.2.1 hq7) (by decide) (by decide) rfl (Nat.le_of_ble_eq_true rfl) rfl dX11_list_30 ?_
      show U shY w x r q6.2 33 [(0, .ref (w.2.2.1 0)), (1, .int a1)] [.int q6.1]
      exact u_iret g dX11_list_33 (by rw [← hr]; obtain rfl := Option.some.inj h; rfl)
  · have h := ob_pos b3 h
    refine u_aload_n g 0 dX11_list_13 rfl ?_
    refine u_iconst g (v := (2 : Int32)) dX11_list_14 rfl ?_
    obtain ⟨q8, hq9, h⟩ := ob_bind h
    refine u_callV (st := []) g wv_X11_115 [.int (2 : Int32)] (show 0 < shY.1 by decide) ceY_0 rfl rfl (t_X11_no w x.2.1 hq9) (by decide) (by decide) rfl (Nat.le_of_ble_eq_true rfl) rfl dX11_list_15 ?_
    show U shY w x r q8.2 18 [(0, .ref (w.2.2.1 0)), (1, .int a1)] [.int q8.1]
    exact u_iret g dX11_list_18 (by rw [← hr]; obtain rfl := Option.some.inj h; rfl)
