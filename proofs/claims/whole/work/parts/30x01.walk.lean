set_option maxRecDepth 100000 in
set_option maxHeartbeats 4000000 in
theorem s_X3_gatherRows_l2 {w : Wp} {x : Cx} {r : Option Value × Mem} (g : Gd shX w x RX3 cX3_gatherRows 8 none 1) (a2 : Int32) (a3 : Int32) (a4 : Int32) (a5 : Int32) (a6 : Int32)  : ∀ (n : Nat) (v7 : Int32) (M : Mem) (q : Mem), f_X3_gatherRows_l2 a2 a3 a4 a5 a6 n v7 M = some q → U shX w x r q 85 [(0, .ref (w.2.2.1 254)), (2, .int a2), (3, .int a3), (4, .int a4), (5, .int a5)] [] → U shX w x r M 56 [(0, .ref (w.2.2.1 254)), (2, .int a2), (3, .int a3), (4, .int a4), (5, .int a5), (6, .int a6), (7, .int v7)] [] := by
  intro n
  induction n with
  | zero => intro v7 M q h K; rw [f_X3_gatherRows_l2] at h; cases h
  | succ n ih =>
    intro v7 M q h K
    rw [f_X3_gatherRows_l2] at h
    refine u_iload g 6 dX3_gatherRows_56 rfl ?_
    refine u_iload_n g 2 dX3_gatherRows_58 rfl ?_
    refine u_icmp_ge g 85 dX3_gatherRows_59 (by decide) (fun b5 => ?_) (fun b5 => ?_)
    · have h := ob_pos b5 h
      obtain rfl := Option.some.inj h
      exact u_sub [0, 1, 2, 3, 4] rfl K
    · have h := ob_neg b5 h
      refine u_aload_n g 0 dX3_gatherRows_62 rfl ?_
      refine gfX3_0 g (c := 254) rfl wf_X3_12 dX3_gatherRows_63 ?_
      refine u_iload g 5 dX3_gatherRows_66 rfl ?_
      refine u_aload_n g 0 dX3_gatherRows_68 rfl ?_
      refine gfX3_1 g (c := 254) rfl wf_X3_18 dX3_gatherRows_69 ?_
      refine u_iload g 6 dX3_gatherRows_72 rfl ?_
      obtain ⟨e6, h⟩ := ob_if h
      refine aX_ild g (c := 258) 320 (by decide) rfl (v := (M.1 258 v7.toNatClampNeg)) (inB_in e6) rfl dX3_gatherRows_74 ?_
      refine u_ior g dX3_gatherRows_75 ?_
      obtain ⟨q7, hq8, h⟩ := ob_bind h
      refine u_callV (st := []) g wv_X3_70 [.int (a6 ||| (M.1 258 v7.toNatClampNeg))] (kX_lt (show kX 255 = 7 from rfl) rfl) (ceX_7 (show kX 255 = 7 from rfl)) rfl rfl (t_X7_put w x.2.1 hq8) (by decide) (by decide) rfl (Nat.le_of_ble_eq_true rfl) rfl dX3_gatherRows_76 ?_
      show U shX w x r q7 79 [(0, .ref (w.2.2.1 254)), (2, .int a2), (3, .int a3), (4, .int a4), (5, .int a5), (6, .int a6), (7, .int v7)] []
      refine u_iinc g 6 [(7, .int (v7 + (1 : Int32))), (0, .ref (w.2.2.1 254)), (2, .int a2), (3, .int a3), (4, .int a4), (5, .int a5), (6, .int a6)] dX3_gatherRows_79 rfl rfl (by decide) rfl ?_
      refine u_goto g 56 dX3_gatherRows_82 (by decide) ?_
      exact u_sub [1, 2, 3, 4, 5, 6, 0] rfl (ih (v7 + (1 : Int32)) q7 _ h K)
set_option maxRecDepth 100000 in
set_option maxHeartbeats 4000000 in
theorem s_X3_gatherRows_l1 {w : Wp} {x : Cx} {r : Option Value × Mem} (g : Gd shX w x RX3 cX3_gatherRows 8 none 1)   : ∀ (n : Nat) (v2 : Int32) (v3 : Int32) (v4 : Int32) (M : Mem) (q : Mem), f_X3_gatherRows_l1 n v2 v3 v4 M = some q → U shX w x r q 105 [] [] → U shX w x r M 24 [(0, .ref (w.2.2.1 254)), (2, .int v2), (3, .int v3), (4, .int v4)] [] := by
  intro n
  induction n with
  | zero => intro v2 v3 v4 M q h K; rw [f_X3_gatherRows_l1] at h; cases h
  | succ n ih =>
    intro v2 v3 v4 M q h K
    rw [f_X3_gatherRows_l1] at h
    refine u_iload g 3 dX3_gatherRows_24 rfl ?_
    refine u_if_lt g 105 dX3_gatherRows_26 (by decide) (fun b3 => ?_) (fun b3 => ?_)
    · have h := ob_pos b3 h
      obtain rfl := Option.some.inj h
      exact u_sub [] rfl K
    · have h := ob_neg b3 h
      refine u_aload_n g 0 dX3_gatherRows_29 rfl ?_
      refine gfX3_3 g (c := 254) rfl wf_X3_25 dX3_gatherRows_30 ?_
      refine u_iload g 3 dX3_gatherRows_33 rfl ?_
      obtain ⟨e4, h⟩ := ob_if h
      refine aX_ild g (c := 260) 16 (by decide) rfl (v := (M.1 260 v4.toNatClampNeg)) (inB_in e4) rfl dX3_gatherRows_35 ?_
      refine u_istore g [(5, .int (M.1 260 v4.toNatClampNeg)), (0, .ref (w.2.2.1 254)), (2, .int v2), (3, .int v3), (4, .int v4)] dX3_gatherRows_36 (by decide) rfl ?_
      refine u_iload_n g 2 dX3_gatherRows_38 rfl ?_
      refine u_iload g 0 dX3_gatherRows_39 rfl ?_
      refine u_isub g dX3_gatherRows_41 ?_
      refine u_istore_n g [(2, .int (v2 - (M.1 260 v4.toNatClampNeg))), (5, .int (M.1 260 v4.toNatClampNeg)), (0, .ref (w.2.2.1 254)), (3, .int v3), (4, .int v4)] dX3_gatherRows_42 (by decide) rfl ?_
      refine u_iconst g (v := (1 : Int32)) dX3_gatherRows_43 rfl ?_
      refine u_iload g 1 dX3_gatherRows_44 rfl ?_
      refine u_ishl g dX3_gatherRows_46 ?_
      refine u_iconst g (v := (1 : Int32)) dX3_gatherRows_47 rfl ?_
      refine u_isub g dX3_gatherRows_48 ?_
      refine u_iload_n g 0 dX3_gatherRows_49 rfl ?_
      refine u_ishl g dX3_gatherRows_50 ?_
      refine u_istore g [(6, .int ((((1 : Int32) <<< ((M.1 260 v4.toNatClampNeg) &&& 31)) - (1 : Int32)) <<< ((v2 - (M.1 260 v4.toNatClampNeg)) &&& 31))), (2, .int (v2 - (M.1 260 v4.toNatClampNeg))), (5, .int (M.1 260 v4.toNatClampNeg)), (0, .ref (w.2.2.1 254)), (3, .int v3), (4, .int v4)] dX3_gatherRows_51 (by decide) rfl ?_
      refine u_iconst g (v := (0 : Int32)) dX3_gatherRows_53 rfl ?_
      refine u_istore g [(7, .int (0 : Int32)), (6, .int ((((1 : Int32) <<< ((M.1 260 v4.toNatClampNeg) &&& 31)) - (1 : Int32)) <<< ((v2 - (M.1 260 v4.toNatClampNeg)) &&& 31))), (2, .int (v2 - (M.1 260 v4.toNatClampNeg))), (5, .int (M.1 260 v4.toNatClampNeg)), (0, .ref (w.2.2.1 254)), (3, .int v3), (4, .int v4)] dX3_gatherRows_54 (by decide) rfl ?_
      obtain ⟨q5, hq6, h⟩ := ob_bind h
      refine u_sub [4, 2, 5, 6, 3, 1, 0] rfl (s_X3_gatherRows_l2 g (v2 - (M.1 260 v4.toNatClampNeg)) v3 v4 (M.1 260 v4.toNatClampNeg) ((((1 : Int32) <<< ((M.1 260 v4.toNatClampNeg) &&& 31)) - (1 : Int32)) <<< ((v2 - (M.1 260 v4.toNatClampNeg)) &&& 31)) fuelN (0 : Int32) M _ hq6 ?_)
      show U shX w x r q5 85 [(0, .ref (w.2.2.1 254)), (2, .int (v2 - (M.1 260 v4.toNatClampNeg))), (3, .int v3), (4, .int v4), (5, .int (M.1 260 v4.toNatClampNeg))] []
      refine u_iload g 3 dX3_gatherRows_85 rfl ?_
      obtain ⟨q7, hq8, h⟩ := ob_bind h
      have K9 : U shX w x r q7.2 99 [(0, .ref (w.2.2.1 254)), (2, .int (v2 - (M.1 260 v4.toNatClampNeg))), (3, .int q7.1), (4, .int v4)] [] := by
        refine u_iinc g 3 [(4, .int (v4 + (-1 : Int32))), (0, .ref (w.2.2.1 254)), (2, .int (v2 - (M.1 260 v4.toNatClampNeg))), (3, .int q7.1)] dX3_gatherRows_99 rfl rfl (by decide) rfl ?_
        refine u_goto g 24 dX3_gatherRows_102 (by decide) ?_
        exact u_sub [1, 2, 3, 0] rfl (ih (v2 - (M.1 260 v4.toNatClampNeg)) q7.1 (v4 + (-1 : Int32)) q7.2 _ h K)
      have h := hq8
      refine u_if_le g 99 dX3_gatherRows_87 (by decide) (fun b10 => ?_) (fun b10 => ?_)
      · have h := ob_pos b10 h
        obtain rfl := Option.some.inj h
        exact u_sub [0, 1, 2, 3] rfl K9
      · have h := ob_neg b10 h
        refine u_aload_n g 0 dX3_gatherRows_90 rfl ?_
        refine u_iload_n g 2 dX3_gatherRows_91 rfl ?_
        refine u_iload_n g 1 dX3_gatherRows_92 rfl ?_
        refine u_iload g 4 dX3_gatherRows_93 rfl ?_
        obtain ⟨q11, hq12, h⟩ := ob_bind h
        refine u_callV (st := []) g wv_X3_77 [.int v3, .int (v2 - (M.1 260 v4.toNatClampNeg)), .int (M.1 260 v4.toNatClampNeg)] (kX_lt (show kX 254 = 3 from rfl) rfl) (ceX_3 (show kX 254 = 3 from rfl)) rfl rfl (t_X3_chooseOne w x.2.1 hq12) (by decide) (by decide) rfl (Nat.le_of_ble_eq_true rfl) rfl dX3_gatherRows_95 ?_
        show U shX w x r q11.2 98 [(0, .ref (w.2.2.1 254)), (2, .int (v2 - (M.1 260 v4.toNatClampNeg))), (3, .int v3), (4, .int v4), (5, .int (M.1 260 v4.toNatClampNeg))] [.int q11.1]
        refine u_istore_n g [(3, .int q11.1), (0, .ref (w.2.2.1 254)), (2, .int (v2 - (M.1 260 v4.toNatClampNeg))), (4, .int v4), (5, .int (M.1 260 v4.toNatClampNeg))] dX3_gatherRows_98 (by decide) rfl ?_
        obtain rfl := Option.some.inj h
        exact u_sub [1, 2, 0, 3] rfl K9
set_option maxRecDepth 100000 in
set_option maxHeartbeats 4000000 in
theorem t_X3_gatherRows (w : Wp) (l : Launch) {a1 : Int32} {M : Mem} {q : Mem} (h : f_X3_gatherRows a1 M = some q) : Ct shX w l yX3_gatherRows cX3_gatherRows 8 none 1 [.ref (w.2.2.1 254), .int a1] M (none, q) := by
  rw [f_X3_gatherRows] at h
  refine ct_of shX_loc (by decide) (Nat.le_of_ble_eq_true rfl) rfl (fun x hx g => ?_)
  subst hx
  show U shX w x _ M 0 [(0, .ref (w.2.2.1 254)), (1, .int a1)] []
  generalize hr : ((none, q) : Option Value × Mem) = r
  have g : Gd shX w x RX3 cX3_gatherRows 8 none 1 := g
  refine u_iload_n g 1 dX3_gatherRows_0 rfl ?_
  refine u_aload_n g 0 dX3_gatherRows_1 rfl ?_
  obtain ⟨q1, hq2, h⟩ := ob_bind h
  refine u_callV (st := [.int a1]) g wv_X3_73 [] (kX_lt (show kX 254 = 3 from rfl) rfl) (ceX_3 (show kX 254 = 3 from rfl)) rfl rfl (t_X3_keepersOfRows w x.2.1 hq2) (by decide) (by decide) rfl (Nat.le_of_ble_eq_true rfl) rfl dX3_gatherRows_2 ?_
  show U shX w x r M 5 [(0, .ref (w.2.2.1 254)), (1, .int a1)] [.int q1, .int a1]
  refine u_iadd g dX3_gatherRows_5 ?_
  refine u_istore_n g [(2, .int (a1 + q1)), (0, .ref (w.2.2.1 254)), (1, .int a1)] dX3_gatherRows_6 (by decide) rfl ?_
  refine u_iconst g (v := (1 : Int32)) dX3_gatherRows_7 rfl ?_
  refine u_istore_n g [(3, .int (1 : Int32)), (2, .int (a1 + q1)), (0, .ref (w.2.2.1 254)), (1, .int a1)] dX3_gatherRows_8 (by decide) rfl ?_
  refine u_aload_n g 2 dX3_gatherRows_9 rfl ?_
  refine gfX3_1 g (c := 254) rfl wf_X3_18 dX3_gatherRows_10 ?_
  refine u_iconst g (v := (0 : Int32)) dX3_gatherRows_13 rfl ?_
  refine u_iconst g (v := (0 : Int32)) dX3_gatherRows_14 rfl ?_
  refine aX_ist g (c := 258) 320 (by decide) rfl (inB_in rfl) (j := 0) rfl dX3_gatherRows_15 ?_
  refine u_aload_n g 2 dX3_gatherRows_16 rfl ?_
  refine gfX3_4 g (c := 254) rfl wf_X3_28 (v := (M.1 254 4)) rfl dX3_gatherRows_17 ?_
  refine u_iconst g (v := (1 : Int32)) dX3_gatherRows_20 rfl ?_
  refine u_isub g dX3_gatherRows_21 ?_
  refine u_istore g [(4, .int ((M.1 254 4) - (1 : Int32))), (3, .int (1 : Int32)), (2, .int (a1 + q1)), (0, .ref (w.2.2.1 254)), (1, .int a1)] dX3_gatherRows_22 (by decide) rfl ?_
  obtain ⟨q3, hq4, h⟩ := ob_bind h
  refine u_sub [3, 2, 1, 0] rfl (s_X3_gatherRows_l1 g fuelN (a1 + q1) (1 : Int32) ((M.1 254 4) - (1 : Int32)) (sI M 258 0 (0 : Int32)) _ hq4 ?_)
  show U shX w x r q3 105 [] []
  exact u_vret g dX3_gatherRows_105 (by rw [← hr]; obtain rfl := Option.some.inj h; rfl)
set_option maxRecDepth 100000 in
set_option maxHeartbeats 4000000 in
theorem t_X3_addWay (w : Wp) (l : Launch) {a1 : Int32} {a2 : Int32} {M : Mem} {q : Int32 × Mem} (h : f_X3_addWay a1 a2 M = some q) : Ct shX w l yX3_addWay cX3_addWay 3 (some .int) 0 [.ref (w.2.2.1 254), .int a1, .int a2] M (some (.int q.1), q.2) := by
  rw [f_X3_addWay] at h
  refine ct_of shX_loc (by decide) (Nat.le_of_ble_eq_true rfl) rfl (fun x hx g => ?_)
  subst hx
  show U shX w x _ M 0 [(0, .ref (w.2.2.1 254)), (1, .int a1), (2, .int a2)] []
  generalize hr : ((some (.int q.1), q.2) : Option Value × Mem) = r
  have g : Gd shX w x RX3 cX3_addWay 3 (some .int) 0 := g
  refine u_iload_n g 1 dX3_addWay_0 rfl ?_
  refine u_if_lt g 11 dX3_addWay_1 (by decide) (fun b1 => ?_) (fun b1 => ?_)
  · have h := ob_pos b1 h
    refine u_iload_n g 1 dX3_addWay_11 rfl ?_
    exact u_iret g dX3_addWay_12 (by rw [← hr]; obtain rfl := Option.some.inj h; rfl)
  · have h := ob_neg b1 h
    refine u_iload_n g 1 dX3_addWay_4 rfl ?_
    refine u_sipush g (v := (320 : Int32)) dX3_addWay_5 rfl ?_
    refine u_icmp_lt g 13 dX3_addWay_8 (by decide) (fun b2 => ?_) (fun b2 => ?_)
    · have h := ob_pos b2 h
      refine u_aload_n g 0 dX3_addWay_13 rfl ?_
      refine gfX3_1 g (c := 254) rfl wf_X3_18 dX3_addWay_14 ?_
      refine u_iload_n g 1 dX3_addWay_17 rfl ?_
      refine u_iload_n g 2 dX3_addWay_18 rfl ?_
      obtain ⟨e3, h⟩ := ob_if h
      refine aX_ist g (c := 258) 320 (by decide) rfl (inB_in e3) (j := a1.toNatClampNeg) rfl dX3_addWay_19 ?_
      refine u_iload_n g 1 dX3_addWay_20 rfl ?_
      refine u_iconst g (v := (1 : Int32)) dX3_addWay_21 rfl ?_
      refine u_iadd g dX3_addWay_22 ?_
      exact u_iret g dX3_addWay_23 (by rw [← hr]; obtain rfl := Option.some.inj h; rfl)
    · have h := ob_neg b2 h
      refine u_iload_n g 1 dX3_addWay_11 rfl ?_
      exact u_iret g dX3_addWay_12 (by rw [← hr]; obtain rfl := Option.some.inj h; rfl)
set_option maxRecDepth 100000 in
set_option maxHeartbeats 4000000 in
theorem s_X3_addNode_l1 {w : Wp} {x : Cx} {r : Option Value × Mem} (g : Gd shX w x RX3 cX3_addNode 11 (some .int) 1) (a2 : Int32) (a6 : Int32) (a7 : Int32) (a8 : Int32)  : ∀ (n : Nat) (v4 : Int32) (v9 : Int32) (M : Mem) (q : Int32 × Mem), f_X3_addNode_l1 a2 a6 a7 a8 n v4 v9 M = some q → U shX w x r q.2 103 [(0, .ref (w.2.2.1 254)), (4, .int q.1), (6, .int a6), (7, .int a7), (8, .int a8)] [] → U shX w x r M 60 [(0, .ref (w.2.2.1 254)), (2, .int a2), (4, .int v4), (6, .int a6), (7, .int a7), (8, .int a8), (9, .int v9)] [] := by
  intro n
  induction n with
  | zero => intro v4 v9 M q h K; rw [f_X3_addNode_l1] at h; cases h
  | succ n ih =>
    intro v4 v9 M q h K
    rw [f_X3_addNode_l1] at h
    refine u_iload g 6 dX3_addNode_60 rfl ?_
    refine u_if_lt g 103 dX3_addNode_62 (by decide) (fun b6 => ?_) (fun b6 => ?_)
    · have h := ob_pos b6 h
      obtain rfl := Option.some.inj h
      exact u_sub [0, 2, 3, 4, 5] rfl K
    · have h := ob_neg b6 h
      refine u_iload g 6 dX3_addNode_65 rfl ?_
      refine u_iload g 5 dX3_addNode_67 rfl ?_
      refine u_icmp_ge g 103 dX3_addNode_69 (by decide) (fun b7 => ?_) (fun b7 => ?_)
      · have h := ob_pos b7 h
        obtain rfl := Option.some.inj h
        exact u_sub [0, 2, 3, 4, 5] rfl K
      · have h := ob_neg b7 h
        refine u_iload g 6 dX3_addNode_72 rfl ?_
        refine u_sipush g (v := (320 : Int32)) dX3_addNode_74 rfl ?_
        refine u_icmp_ge g 103 dX3_addNode_77 (by decide) (fun b8 => ?_) (fun b8 => ?_)
        · have h := ob_pos b8 h
          obtain rfl := Option.some.inj h
          exact u_sub [0, 2, 3, 4, 5] rfl K
        · have h := ob_neg b8 h
          refine u_aload_n g 0 dX3_addNode_80 rfl ?_
          refine u_iload g 2 dX3_addNode_81 rfl ?_
          refine u_iload_n g 1 dX3_addNode_83 rfl ?_
          refine u_aload_n g 0 dX3_addNode_84 rfl ?_
          refine gfX3_1 g (c := 254) rfl wf_X3_18 dX3_addNode_85 ?_
          refine u_iload g 6 dX3_addNode_88 rfl ?_
          obtain ⟨e9, h⟩ := ob_if h
          refine aX_ild g (c := 258) 320 (by decide) rfl (v := (M.1 258 v9.toNatClampNeg)) (inB_in e9) rfl dX3_addNode_90 ?_
          refine u_ior g dX3_addNode_91 ?_
          obtain ⟨q10, hq11, h⟩ := ob_bind h
          refine u_callV (st := []) g wv_X3_87 [.int v4, .int (a2 ||| (M.1 258 v9.toNatClampNeg))] (kX_lt (show kX 254 = 3 from rfl) rfl) (ceX_3 (show kX 254 = 3 from rfl)) rfl rfl (t_X3_addWay w x.2.1 hq11) (by decide) (by decide) rfl (Nat.le_of_ble_eq_true rfl) rfl dX3_addNode_92 ?_
          show U shX w x r q10.2 95 [(0, .ref (w.2.2.1 254)), (2, .int a2), (4, .int v4), (6, .int a6), (7, .int a7), (8, .int a8), (9, .int v9)] [.int q10.1]
          refine u_istore g [(4, .int q10.1), (0, .ref (w.2.2.1 254)), (2, .int a2), (6, .int a6), (7, .int a7), (8, .int a8), (9, .int v9)] dX3_addNode_95 (by decide) rfl ?_
          refine u_iinc g 6 [(9, .int (v9 + (1 : Int32))), (4, .int q10.1), (0, .ref (w.2.2.1 254)), (2, .int a2), (6, .int a6), (7, .int a7), (8, .int a8)] dX3_addNode_97 rfl rfl (by decide) rfl ?_
          refine u_goto g 60 dX3_addNode_100 (by decide) ?_
          exact u_sub [2, 3, 1, 4, 5, 6, 0] rfl (ih q10.1 (v9 + (1 : Int32)) q10.2 _ h K)
set_option maxRecDepth 100000 in
set_option maxHeartbeats 4000000 in
theorem s_X3_addNode_l3 {w : Wp} {x : Cx} {r : Option Value × Mem} (g : Gd shX w x RX3 cX3_addNode 11 (some .int) 1) (a6 : Int32) (a7 : Int32) (a8 : Int32) (a9 : Int32)  : ∀ (n : Nat) (v4 : Int32) (v10 : Int32) (M : Mem) (q : Int32 × Mem), f_X3_addNode_l3 a6 a7 a8 a9 n v4 v10 M = some q → U shX w x r q.2 180 [(0, .ref (w.2.2.1 254)), (4, .int q.1), (6, .int a6), (7, .int a7), (8, .int a8), (9, .int a9)] [] → U shX w x r M 131 [(0, .ref (w.2.2.1 254)), (4, .int v4), (6, .int a6), (7, .int a7), (8, .int a8), (9, .int a9), (10, .int v10)] [] := by
  intro n
  induction n with
  | zero => intro v4 v10 M q h K; rw [f_X3_addNode_l3] at h; cases h
  | succ n ih =>
    intro v4 v10 M q h K
    rw [f_X3_addNode_l3] at h
    refine u_iload g 6 dX3_addNode_131 rfl ?_
    refine u_if_lt g 180 dX3_addNode_133 (by decide) (fun b11 => ?_) (fun b11 => ?_)
    · have h := ob_pos b11 h
      obtain rfl := Option.some.inj h
      exact u_sub [0, 1, 2, 3, 4, 5] rfl K
    · have h := ob_neg b11 h
      refine u_iload g 6 dX3_addNode_136 rfl ?_
      refine u_iload g 3 dX3_addNode_138 rfl ?_
      refine u_icmp_ge g 180 dX3_addNode_140 (by decide) (fun b12 => ?_) (fun b12 => ?_)
      · have h := ob_pos b12 h
        obtain rfl := Option.some.inj h
        exact u_sub [0, 1, 2, 3, 4, 5] rfl K
      · have h := ob_neg b12 h
        refine u_iload g 6 dX3_addNode_143 rfl ?_
        refine u_sipush g (v := (320 : Int32)) dX3_addNode_145 rfl ?_
        refine u_icmp_ge g 180 dX3_addNode_148 (by decide) (fun b13 => ?_) (fun b13 => ?_)
        · have h := ob_pos b13 h
          obtain rfl := Option.some.inj h
          exact u_sub [0, 1, 2, 3, 4, 5] rfl K
        · have h := ob_neg b13 h
          refine u_aload_n g 0 dX3_addNode_151 rfl ?_
          refine u_iload g 1 dX3_addNode_152 rfl ?_
          refine u_aload_n g 0 dX3_addNode_154 rfl ?_
          refine gfX3_1 g (c := 254) rfl wf_X3_18 dX3_addNode_155 ?_
          refine u_iload g 5 dX3_addNode_158 rfl ?_
          obtain ⟨e14, h⟩ := ob_if h
          refine aX_ild g (c := 258) 320 (by decide) rfl (v := (M.1 258 a9.toNatClampNeg)) (inB_in e14) rfl dX3_addNode_160 ?_
          refine u_aload_n g 0 dX3_addNode_161 rfl ?_
          refine gfX3_1 g (c := 254) rfl wf_X3_18 dX3_addNode_162 ?_
          refine u_iload g 6 dX3_addNode_165 rfl ?_
          obtain ⟨e15, h⟩ := ob_if h
          refine aX_ild g (c := 258) 320 (by decide) rfl (v := (M.1 258 v10.toNatClampNeg)) (inB_in e15) rfl dX3_addNode_167 ?_
          refine u_ior g dX3_addNode_168 ?_
          obtain ⟨q16, hq17, h⟩ := ob_bind h
          refine u_callV (st := []) g wv_X3_87 [.int v4, .int ((M.1 258 a9.toNatClampNeg) ||| (M.1 258 v10.toNatClampNeg))] (kX_lt (show kX 254 = 3 from rfl) rfl) (ceX_3 (show kX 254 = 3 from rfl)) rfl rfl (t_X3_addWay w x.2.1 hq17) (by decide) (by decide) rfl (Nat.le_of_ble_eq_true rfl) rfl dX3_addNode_169 ?_
          show U shX w x r q16.2 172 [(0, .ref (w.2.2.1 254)), (4, .int v4), (6, .int a6), (7, .int a7), (8, .int a8), (9, .int a9), (10, .int v10)] [.int q16.1]
          refine u_istore g [(4, .int q16.1), (0, .ref (w.2.2.1 254)), (6, .int a6), (7, .int a7), (8, .int a8), (9, .int a9), (10, .int v10)] dX3_addNode_172 (by decide) rfl ?_
          refine u_iinc g 6 [(10, .int (v10 + (1 : Int32))), (4, .int q16.1), (0, .ref (w.2.2.1 254)), (6, .int a6), (7, .int a7), (8, .int a8), (9, .int a9)] dX3_addNode_174 rfl rfl (by decide) rfl ?_
          refine u_goto g 131 dX3_addNode_177 (by decide) ?_
          exact u_sub [2, 1, 3, 4, 5, 6, 0] rfl (ih q16.1 (v10 + (1 : Int32)) q16.2 _ h K)
set_option maxRecDepth 100000 in
set_option maxHeartbeats 4000000 in
theorem s_X3_addNode_l2 {w : Wp} {x : Cx} {r : Option Value × Mem} (g : Gd shX w x RX3 cX3_addNode 11 (some .int) 1) (a6 : Int32) (a7 : Int32) (a8 : Int32)  : ∀ (n : Nat) (v4 : Int32) (v9 : Int32) (M : Mem) (q : Int32 × Mem), f_X3_addNode_l2 a6 a7 a8 n v4 v9 M = some q → U shX w x r q.2 186 [(4, .int q.1)] [] → U shX w x r M 107 [(0, .ref (w.2.2.1 254)), (4, .int v4), (6, .int a6), (7, .int a7), (8, .int a8), (9, .int v9)] [] := by
  intro n
  induction n with
  | zero => intro v4 v9 M q h K; rw [f_X3_addNode_l2] at h; cases h
  | succ n ih =>
    intro v4 v9 M q h K
    rw [f_X3_addNode_l2] at h
    refine u_iload g 5 dX3_addNode_107 rfl ?_
    refine u_if_lt g 186 dX3_addNode_109 (by decide) (fun b8 => ?_) (fun b8 => ?_)
    · have h := ob_pos b8 h
      obtain rfl := Option.some.inj h
      exact u_sub [1] rfl K
    · have h := ob_neg b8 h
      refine u_iload g 5 dX3_addNode_112 rfl ?_
      refine u_iload g 4 dX3_addNode_114 rfl ?_
      refine u_icmp_ge g 186 dX3_addNode_116 (by decide) (fun b9 => ?_) (fun b9 => ?_)
      · have h := ob_pos b9 h
        obtain rfl := Option.some.inj h
        exact u_sub [1] rfl K
      · have h := ob_neg b9 h
        refine u_iload g 5 dX3_addNode_119 rfl ?_
        refine u_sipush g (v := (320 : Int32)) dX3_addNode_121 rfl ?_
        refine u_icmp_ge g 186 dX3_addNode_124 (by decide) (fun b10 => ?_) (fun b10 => ?_)
        · have h := ob_pos b10 h
          obtain rfl := Option.some.inj h
          exact u_sub [1] rfl K
        · have h := ob_neg b10 h
          refine u_iload g 2 dX3_addNode_127 rfl ?_
          refine u_istore g [(10, .int a6), (0, .ref (w.2.2.1 254)), (4, .int v4), (6, .int a6), (7, .int a7), (8, .int a8), (9, .int v9)] dX3_addNode_129 (by decide) rfl ?_
          obtain ⟨q11, hq12, h⟩ := ob_bind h
          refine u_sub [1, 2, 3, 4, 5, 6, 0] rfl (s_X3_addNode_l3 g a6 a7 a8 v9 fuelN v4 a6 M _ hq12 ?_)
          show U shX w x r q11.2 180 [(0, .ref (w.2.2.1 254)), (4, .int q11.1), (6, .int a6), (7, .int a7), (8, .int a8), (9, .int v9)] []
          refine u_iinc g 5 [(9, .int (v9 + (1 : Int32))), (0, .ref (w.2.2.1 254)), (4, .int q11.1), (6, .int a6), (7, .int a7), (8, .int a8)] dX3_addNode_180 rfl rfl (by decide) rfl ?_
          refine u_goto g 107 dX3_addNode_183 (by decide) ?_
          exact u_sub [1, 2, 3, 4, 5, 0] rfl (ih q11.1 (v9 + (1 : Int32)) q11.2 _ h K)
set_option maxRecDepth 100000 in
set_option maxHeartbeats 4000000 in
theorem t_X3_addNode (w : Wp) (l : Launch) {a1 : Int32} {a2 : Int32} {a3 : Int32} {M : Mem} {q : Int32 × Mem} (h : f_X3_addNode a1 a2 a3 M = some q) : Ct shX w l yX3_addNode cX3_addNode 11 (some .int) 1 [.ref (w.2.2.1 254), .int a1, .int a2, .int a3] M (some (.int q.1), q.2) := by
  rw [f_X3_addNode] at h
  refine ct_of shX_loc (by decide) (Nat.le_of_ble_eq_true rfl) rfl (fun x hx g => ?_)
  subst hx
  show U shX w x _ M 0 [(0, .ref (w.2.2.1 254)), (1, .int a1), (2, .int a2), (3, .int a3)] []
  generalize hr : ((some (.int q.1), q.2) : Option Value × Mem) = r
  have g : Gd shX w x RX3 cX3_addNode 11 (some .int) 1 := g
  refine u_iload_n g 3 dX3_addNode_0 rfl ?_
  refine u_istore g [(4, .int a3), (0, .ref (w.2.2.1 254)), (1, .int a1), (2, .int a2), (3, .int a3)] dX3_addNode_1 (by decide) rfl ?_
  refine u_iconst g (v := (2 : Int32)) dX3_addNode_3 rfl ?_
  refine u_iload_n g 2 dX3_addNode_4 rfl ?_
  refine u_imul g dX3_addNode_5 ?_
  refine u_iconst g (v := (1 : Int32)) dX3_addNode_6 rfl ?_
  refine u_iadd g dX3_addNode_7 ?_
  refine u_istore g [(5, .int (((2 : Int32) * a1) + (1 : Int32))), (4, .int a3), (0, .ref (w.2.2.1 254)), (1, .int a1), (2, .int a2), (3, .int a3)] dX3_addNode_8 (by decide) rfl ?_
  refine u_iload_n g 3 dX3_addNode_10 rfl ?_
  refine u_iconst g (v := (1 : Int32)) dX3_addNode_11 rfl ?_
  refine u_icmp_lt g 22 dX3_addNode_12 (by decide) (fun b1 => ?_) (fun b1 => ?_)
  · have h := ob_pos b1 h
    refine u_iload g 1 dX3_addNode_22 rfl ?_
    exact u_iret g dX3_addNode_24 (by rw [← hr]; obtain rfl := Option.some.inj h; rfl)
  · have h := ob_neg b1 h
    refine u_iload g 0 dX3_addNode_15 rfl ?_
    refine u_bipush g (v := (16 : Int32)) dX3_addNode_17 rfl ?_
    refine u_icmp_lt g 25 dX3_addNode_19 (by decide) (fun b2 => ?_) (fun b2 => ?_)
    · have h := ob_pos b2 h
      refine u_aload_n g 2 dX3_addNode_25 rfl ?_
      refine gfX3_2 g (c := 254) rfl wf_X3_22 dX3_addNode_26 ?_
      refine u_iload g 0 dX3_addNode_29 rfl ?_
      obtain ⟨e3, h⟩ := ob_if h
      refine aX_ild g (c := 259) 16 (by decide) rfl (v := (M.1 259 (((2 : Int32) * a1) + (1 : Int32)).toNatClampNeg)) (inB_in e3) rfl dX3_addNode_31 ?_
      refine u_istore g [(6, .int (M.1 259 (((2 : Int32) * a1) + (1 : Int32)).toNatClampNeg)), (5, .int (((2 : Int32) * a1) + (1 : Int32))), (4, .int a3), (0, .ref (w.2.2.1 254)), (1, .int a1), (2, .int a2), (3, .int a3)] dX3_addNode_32 (by decide) rfl ?_
      refine u_aload_n g 3 dX3_addNode_34 rfl ?_
      refine gfX3_2 g (c := 254) rfl wf_X3_22 dX3_addNode_35 ?_
      refine u_iload g 1 dX3_addNode_38 rfl ?_
      refine u_iconst g (v := (1 : Int32)) dX3_addNode_40 rfl ?_
      refine u_isub g dX3_addNode_41 ?_
      obtain ⟨e4, h⟩ := ob_if h
      refine aX_ild g (c := 259) 16 (by decide) rfl (v := (M.1 259 ((((2 : Int32) * a1) + (1 : Int32)) - (1 : Int32)).toNatClampNeg)) (inB_in e4) rfl dX3_addNode_42 ?_
      refine u_istore g [(7, .int (M.1 259 ((((2 : Int32) * a1) + (1 : Int32)) - (1 : Int32)).toNatClampNeg)), (6, .int (M.1 259 (((2 : Int32) * a1) + (1 : Int32)).toNatClampNeg)), (5, .int (((2 : Int32) * a1) + (1 : Int32))), (4, .int a3), (0, .ref (w.2.2.1 254)), (1, .int a1), (2, .int a2), (3, .int a3)] dX3_addNode_43 (by decide) rfl ?_
      refine u_aload_n g 4 dX3_addNode_45 rfl ?_
      refine gfX3_2 g (c := 254) rfl wf_X3_22 dX3_addNode_46 ?_
      refine u_iload g 2 dX3_addNode_49 rfl ?_
      refine u_iconst g (v := (2 : Int32)) dX3_addNode_51 rfl ?_
      refine u_isub g dX3_addNode_52 ?_
      obtain ⟨e5, h⟩ := ob_if h
      refine aX_ild g (c := 259) 16 (by decide) rfl (v := (M.1 259 ((((2 : Int32) * a1) + (1 : Int32)) - (2 : Int32)).toNatClampNeg)) (inB_in e5) rfl dX3_addNode_53 ?_
      refine u_istore g [(8, .int (M.1 259 ((((2 : Int32) * a1) + (1 : Int32)) - (2 : Int32)).toNatClampNeg)), (7, .int (M.1 259 ((((2 : Int32) * a1) + (1 : Int32)) - (1 : Int32)).toNatClampNeg)), (6, .int (M.1 259 (((2 : Int32) * a1) + (1 : Int32)).toNatClampNeg)), (5, .int (((2 : Int32) * a1) + (1 : Int32))), (4, .int a3), (0, .ref (w.2.2.1 254)), (1, .int a1), (2, .int a2), (3, .int a3)] dX3_addNode_54 (by decide) rfl ?_
      refine u_iload g 2 dX3_addNode_56 rfl ?_
      refine u_istore g [(9, .int (M.1 259 (((2 : Int32) * a1) + (1 : Int32)).toNatClampNeg)), (8, .int (M.1 259 ((((2 : Int32) * a1) + (1 : Int32)) - (2 : Int32)).toNatClampNeg)), (7, .int (M.1 259 ((((2 : Int32) * a1) + (1 : Int32)) - (1 : Int32)).toNatClampNeg)), (6, .int (M.1 259 (((2 : Int32) * a1) + (1 : Int32)).toNatClampNeg)), (5, .int (((2 : Int32) * a1) + (1 : Int32))), (4, .int a3), (0, .ref (w.2.2.1 254)), (1, .int a1), (2, .int a2), (3, .int a3)] dX3_addNode_58 (by decide) rfl ?_
      obtain ⟨q6, hq7, h⟩ := ob_bind h
      refine u_sub [6, 8, 5, 3, 2, 1, 0] rfl (s_X3_addNode_l1 g a2 (M.1 259 (((2 : Int32) * a1) + (1 : Int32)).toNatClampNeg) (M.1 259 ((((2 : Int32) * a1) + (1 : Int32)) - (1 : Int32)).toNatClampNeg) (M.1 259 ((((2 : Int32) * a1) + (1 : Int32)) - (2 : Int32)).toNatClampNeg) fuelN a3 (M.1 259 (((2 : Int32) * a1) + (1 : Int32)).toNatClampNeg) M _ hq7 ?_)
      show U shX w x r q6.2 103 [(0, .ref (w.2.2.1 254)), (4, .int q6.1), (6, .int (M.1 259 (((2 : Int32) * a1) + (1 : Int32)).toNatClampNeg)), (7, .int (M.1 259 ((((2 : Int32) * a1) + (1 : Int32)) - (1 : Int32)).toNatClampNeg)), (8, .int (M.1 259 ((((2 : Int32) * a1) + (1 : Int32)) - (2 : Int32)).toNatClampNeg))] []
      refine u_iload g 3 dX3_addNode_103 rfl ?_
      refine u_istore g [(9, .int (M.1 259 ((((2 : Int32) * a1) + (1 : Int32)) - (1 : Int32)).toNatClampNeg)), (0, .ref (w.2.2.1 254)), (4, .int q6.1), (6, .int (M.1 259 (((2 : Int32) * a1) + (1 : Int32)).toNatClampNeg)), (7, .int (M.1 259 ((((2 : Int32) * a1) + (1 : Int32)) - (1 : Int32)).toNatClampNeg)), (8, .int (M.1 259 ((((2 : Int32) * a1) + (1 : Int32)) - (2 : Int32)).toNatClampNeg))] dX3_addNode_105 (by decide) rfl ?_
      obtain ⟨q8, hq9, h⟩ := ob_bind h
      refine u_sub [1, 2, 3, 4, 5, 0] rfl (s_X3_addNode_l2 g (M.1 259 (((2 : Int32) * a1) + (1 : Int32)).toNatClampNeg) (M.1 259 ((((2 : Int32) * a1) + (1 : Int32)) - (1 : Int32)).toNatClampNeg) (M.1 259 ((((2 : Int32) * a1) + (1 : Int32)) - (2 : Int32)).toNatClampNeg) fuelN q6.1 (M.1 259 ((((2 : Int32) * a1) + (1 : Int32)) - (1 : Int32)).toNatClampNeg) q6.2 _ hq9 ?_)
      show U shX w x r q8.2 186 [(4, .int q8.1)] []
      refine u_iload g 0 dX3_addNode_186 rfl ?_
      exact u_iret g dX3_addNode_188 (by rw [← hr]; obtain rfl := Option.some.inj h; rfl)
    · have h := ob_neg b2 h
      refine u_iload g 1 dX3_addNode_22 rfl ?_
      exact u_iret g dX3_addNode_24 (by rw [← hr]; obtain rfl := Option.some.inj h; rfl)
set_option maxRecDepth 100000 in
set_option maxHeartbeats 4000000 in
theorem s_X3_gatherTree_l1 {w : Wp} {x : Cx} {r : Option Value × Mem} (g : Gd shX w x RX3 cX3_gatherTree 6 none 2) (a1 : Int32) (a2 : Int32)  : ∀ (n : Nat) (v3 : Int32) (v4 : Int32) (M : Mem) (q : Int32 × Mem), f_X3_gatherTree_l1 a1 a2 n v3 v4 M = some q → U shX w x r q.2 69 [(0, .ref (w.2.2.1 254)), (3, .int q.1)] [] → U shX w x r M 10 [(0, .ref (w.2.2.1 254)), (1, .int a1), (2, .int a2), (3, .int v3), (4, .int v4)] [] := by
  intro n
  induction n with
  | zero => intro v3 v4 M q h K; rw [f_X3_gatherTree_l1] at h; cases h
  | succ n ih =>
    intro v3 v4 M q h K
    rw [f_X3_gatherTree_l1] at h
    refine u_iload g 4 dX3_gatherTree_10 rfl ?_
    refine u_iconst g (v := (1 : Int32)) dX3_gatherTree_12 rfl ?_
    refine u_icmp_lt g 69 dX3_gatherTree_13 (by decide) (fun b1 => ?_) (fun b1 => ?_)
    · have h := ob_pos b1 h
      obtain rfl := Option.some.inj h
      exact u_sub [0, 3] rfl K
    · have h := ob_neg b1 h
      refine u_aload_n g 0 dX3_gatherTree_16 rfl ?_
      refine gfX3_2 g (c := 254) rfl wf_X3_22 dX3_gatherTree_17 ?_
      refine u_iload g 4 dX3_gatherTree_20 rfl ?_
      refine u_iload_n g 3 dX3_gatherTree_22 rfl ?_
      obtain ⟨e2, h⟩ := ob_if h
      refine aX_ist g (c := 259) 16 (by decide) rfl (inB_in e2) (j := v4.toNatClampNeg) rfl dX3_gatherTree_23 ?_
      refine u_iconst g (v := (1 : Int32)) dX3_gatherTree_24 rfl ?_
      refine u_iload_n g 2 dX3_gatherTree_25 rfl ?_
      refine u_iload g 4 dX3_gatherTree_26 rfl ?_
      refine u_iadd g dX3_gatherTree_28 ?_
      refine u_iconst g (v := (1 : Int32)) dX3_gatherTree_29 rfl ?_
      refine u_isub g dX3_gatherTree_30 ?_
      refine u_ishl g dX3_gatherTree_31 ?_
      refine u_istore g [(5, .int ((1 : Int32) <<< (((a2 + v4) - (1 : Int32)) &&& 31))), (0, .ref (w.2.2.1 254)), (1, .int a1), (2, .int a2), (3, .int v3), (4, .int v4)] dX3_gatherTree_32 (by decide) rfl ?_
      refine u_iconst g (v := (2 : Int32)) dX3_gatherTree_34 rfl ?_
      refine u_iload g 5 dX3_gatherTree_35 rfl ?_
      refine u_imul g dX3_gatherTree_37 ?_
      refine u_iload_n g 2 dX3_gatherTree_38 rfl ?_
      obtain ⟨q3, hq4, h⟩ := ob_bind h
      have K5 : U shX w x r q3.2 63 [(0, .ref (w.2.2.1 254)), (1, .int a1), (2, .int a2), (3, .int q3.1), (4, .int v4)] [] := by
        refine u_iinc g 4 [(4, .int (v4 + (-1 : Int32))), (0, .ref (w.2.2.1 254)), (1, .int a1), (2, .int a2), (3, .int q3.1)] dX3_gatherTree_63 rfl rfl (by decide) rfl ?_
        refine u_goto g 10 dX3_gatherTree_66 (by decide) ?_
        exact u_sub [1, 2, 3, 4, 0] rfl (ih q3.1 (v4 + (-1 : Int32)) q3.2 _ h K)
      have h := hq4
      refine u_icmp_le g 53 dX3_gatherTree_39 (by decide) (fun b6 => ?_) (fun b6 => ?_)
      · have h := ob_pos b6 h
        refine u_aload_n g 1 dX3_gatherTree_53 rfl ?_
        refine u_iload g 5 dX3_gatherTree_54 rfl ?_
        refine u_iload g 0 dX3_gatherTree_56 rfl ?_
        refine u_iload_n g 4 dX3_gatherTree_58 rfl ?_
        obtain ⟨q7, hq8, h⟩ := ob_bind h
        refine u_callV (st := []) g wv_X3_90 [.int v4, .int ((1 : Int32) <<< (((a2 + v4) - (1 : Int32)) &&& 31)), .int v3] (kX_lt (show kX 254 = 3 from rfl) rfl) (ceX_3 (show kX 254 = 3 from rfl)) rfl rfl (t_X3_addNode w x.2.1 hq8) (by decide) (by decide) rfl (Nat.le_of_ble_eq_true rfl) rfl dX3_gatherTree_59 ?_
        show U shX w x r q7.2 62 [(5, .int ((1 : Int32) <<< (((a2 + v4) - (1 : Int32)) &&& 31))), (0, .ref (w.2.2.1 254)), (1, .int a1), (2, .int a2), (3, .int v3), (4, .int v4)] [.int q7.1]
        refine u_istore_n g [(3, .int q7.1), (5, .int ((1 : Int32) <<< (((a2 + v4) - (1 : Int32)) &&& 31))), (0, .ref (w.2.2.1 254)), (1, .int a1), (2, .int a2), (4, .int v4)] dX3_gatherTree_62 (by decide) rfl ?_
        obtain rfl := Option.some.inj h
        exact u_sub [2, 3, 4, 0, 5] rfl K5
      · have h := ob_neg b6 h
        refine u_aload_n g 1 dX3_gatherTree_42 rfl ?_
        refine u_iload_n g 4 dX3_gatherTree_43 rfl ?_
        refine u_iload g 0 dX3_gatherTree_44 rfl ?_
        obtain ⟨q9, hq10, h⟩ := ob_bind h
        refine u_callV (st := []) g wv_X3_87 [.int v3, .int ((1 : Int32) <<< (((a2 + v4) - (1 : Int32)) &&& 31))] (kX_lt (show kX 254 = 3 from rfl) rfl) (ceX_3 (show kX 254 = 3 from rfl)) rfl rfl (t_X3_addWay w x.2.1 hq10) (by decide) (by decide) rfl (Nat.le_of_ble_eq_true rfl) rfl dX3_gatherTree_46 ?_
        show U shX w x r q9.2 49 [(5, .int ((1 : Int32) <<< (((a2 + v4) - (1 : Int32)) &&& 31))), (0, .ref (w.2.2.1 254)), (1, .int a1), (2, .int a2), (3, .int v3), (4, .int v4)] [.int q9.1]
        refine u_istore_n g [(3, .int q9.1), (5, .int ((1 : Int32) <<< (((a2 + v4) - (1 : Int32)) &&& 31))), (0, .ref (w.2.2.1 254)), (1, .int a1), (2, .int a2), (4, .int v4)] dX3_gatherTree_49 (by decide) rfl ?_
        refine u_goto g 63 dX3_gatherTree_50 (by decide) ?_
        obtain rfl := Option.some.inj h
        exact u_sub [2, 3, 4, 0, 5] rfl K5
set_option maxRecDepth 100000 in
set_option maxHeartbeats 4000000 in
theorem s_X3_gatherTree_l2 {w : Wp} {x : Cx} {r : Option Value × Mem} (g : Gd shX w x RX3 cX3_gatherTree 6 none 2) (a3 : Int32)  : ∀ (n : Nat) (v4 : Int32) (M : Mem) (q : Mem), f_X3_gatherTree_l2 a3 n v4 M = some q → U shX w x r q 116 [] [] → U shX w x r M 77 [(0, .ref (w.2.2.1 254)), (3, .int a3), (4, .int v4)] [] := by
  intro n
  induction n with
  | zero => intro v4 M q h K; rw [f_X3_gatherTree_l2] at h; cases h
  | succ n ih =>
    intro v4 M q h K
    rw [f_X3_gatherTree_l2] at h
    refine u_iload g 2 dX3_gatherTree_77 rfl ?_
    refine u_if_lt g 116 dX3_gatherTree_79 (by decide) (fun b3 => ?_) (fun b3 => ?_)
    · have h := ob_pos b3 h
      obtain rfl := Option.some.inj h
      exact u_sub [] rfl K
    · have h := ob_neg b3 h
      refine u_iload g 2 dX3_gatherTree_82 rfl ?_
      refine u_iload_n g 1 dX3_gatherTree_84 rfl ?_
      refine u_icmp_ge g 116 dX3_gatherTree_85 (by decide) (fun b4 => ?_) (fun b4 => ?_)
      · have h := ob_pos b4 h
        obtain rfl := Option.some.inj h
        exact u_sub [] rfl K
      · have h := ob_neg b4 h
        refine u_iload g 2 dX3_gatherTree_88 rfl ?_
        refine u_sipush g (v := (320 : Int32)) dX3_gatherTree_90 rfl ?_
        refine u_icmp_ge g 116 dX3_gatherTree_93 (by decide) (fun b5 => ?_) (fun b5 => ?_)
        · have h := ob_pos b5 h
          obtain rfl := Option.some.inj h
          exact u_sub [] rfl K
        · have h := ob_neg b5 h
          refine u_aload_n g 0 dX3_gatherTree_96 rfl ?_
          refine gfX3_0 g (c := 254) rfl wf_X3_12 dX3_gatherTree_97 ?_
          refine u_aload_n g 0 dX3_gatherTree_100 rfl ?_
          refine gfX3_1 g (c := 254) rfl wf_X3_18 dX3_gatherTree_101 ?_
          refine u_iload g 2 dX3_gatherTree_104 rfl ?_
          obtain ⟨e6, h⟩ := ob_if h
          refine aX_ild g (c := 258) 320 (by decide) rfl (v := (M.1 258 v4.toNatClampNeg)) (inB_in e6) rfl dX3_gatherTree_106 ?_
          obtain ⟨q7, hq8, h⟩ := ob_bind h
          refine u_callV (st := []) g wv_X3_70 [.int (M.1 258 v4.toNatClampNeg)] (kX_lt (show kX 255 = 7 from rfl) rfl) (ceX_7 (show kX 255 = 7 from rfl)) rfl rfl (t_X7_put w x.2.1 hq8) (by decide) (by decide) rfl (Nat.le_of_ble_eq_true rfl) rfl dX3_gatherTree_107 ?_
          show U shX w x r q7 110 [(0, .ref (w.2.2.1 254)), (3, .int a3), (4, .int v4)] []
          refine u_iinc g 2 [(4, .int (v4 + (1 : Int32))), (0, .ref (w.2.2.1 254)), (3, .int a3)] dX3_gatherTree_110 rfl rfl (by decide) rfl ?_
          refine u_goto g 77 dX3_gatherTree_113 (by decide) ?_
          exact u_sub [1, 2, 0] rfl (ih (v4 + (1 : Int32)) q7 _ h K)
set_option maxRecDepth 100000 in
set_option maxHeartbeats 4000000 in
theorem t_X3_gatherTree (w : Wp) (l : Launch) {a1 : Int32} {a2 : Int32} {M : Mem} {q : Mem} (h : f_X3_gatherTree a1 a2 M = some q) : Ct shX w l yX3_gatherTree cX3_gatherTree 6 none 2 [.ref (w.2.2.1 254), .int a1, .int a2] M (none, q) := by
  rw [f_X3_gatherTree] at h
  refine ct_of shX_loc (by decide) (Nat.le_of_ble_eq_true rfl) rfl (fun x hx g => ?_)
  subst hx
  show U shX w x _ M 0 [(0, .ref (w.2.2.1 254)), (1, .int a1), (2, .int a2)] []
  generalize hr : ((none, q) : Option Value × Mem) = r
  have g : Gd shX w x RX3 cX3_gatherTree 6 none 2 := g
  refine u_iconst g (v := (0 : Int32)) dX3_gatherTree_0 rfl ?_
  refine u_istore_n g [(3, .int (0 : Int32)), (0, .ref (w.2.2.1 254)), (1, .int a1), (2, .int a2)] dX3_gatherTree_1 (by decide) rfl ?_
  refine u_iload_n g 2 dX3_gatherTree_2 rfl ?_
  refine u_bipush g (v := (15 : Int32)) dX3_gatherTree_3 rfl ?_
  refine u_mmin (st := []) g wv_X3_81 (by decide) (Nat.le_of_ble_eq_true rfl) dX3_gatherTree_5 ?_
  refine u_istore g [(4, .int (imin a1 (15 : Int32))), (3, .int (0 : Int32)), (0, .ref (w.2.2.1 254)), (1, .int a1), (2, .int a2)] dX3_gatherTree_8 (by decide) rfl ?_
  obtain ⟨q1, hq2, h⟩ := ob_bind h
  refine u_sub [2, 3, 4, 1, 0] rfl (s_X3_gatherTree_l1 g a1 a2 fuelN (0 : Int32) (imin a1 (15 : Int32)) M _ hq2 ?_)
  show U shX w x r q1.2 69 [(0, .ref (w.2.2.1 254)), (3, .int q1.1)] []
  refine u_aload_n g 0 dX3_gatherTree_69 rfl ?_
  refine gfX3_2 g (c := 254) rfl wf_X3_22 dX3_gatherTree_70 ?_
  refine u_iconst g (v := (1 : Int32)) dX3_gatherTree_73 rfl ?_
  refine aX_ild g (c := 259) 16 (by decide) rfl (v := (q1.2.1 259 1)) (inB_in rfl) rfl dX3_gatherTree_74 ?_
  refine u_istore g [(4, .int (q1.2.1 259 1)), (0, .ref (w.2.2.1 254)), (3, .int q1.1)] dX3_gatherTree_75 (by decide) rfl ?_
  obtain ⟨q3, hq4, h⟩ := ob_bind h
  refine u_sub [1, 2, 0] rfl (s_X3_gatherTree_l2 g q1.1 fuelN (q1.2.1 259 1) q1.2 _ hq4 ?_)
  show U shX w x r q3 116 [] []
  exact u_vret g dX3_gatherTree_116 (by rw [← hr]; obtain rfl := Option.some.inj h; rfl)
set_option maxRecDepth 100000 in
set_option maxHeartbeats 4000000 in
theorem t_X3_point (w : Wp) (l : Launch) {a0 : Int32} {a1 : Int32} {M : Mem} {q : Int32} (h : f_X3_point a0 a1 = some q) : Ct shX w l yX3_point cX3_point 2 (some .int) 0 [.int a0, .int a1] M (some (.int q), M) := by
  rw [f_X3_point] at h
  refine ct_of shX_loc (by decide) (Nat.le_of_ble_eq_true rfl) rfl (fun x hx g => ?_)
  subst hx
  show U shX w x _ M 0 [(0, .int a0), (1, .int a1)] []
  generalize hr : ((some (.int q), M) : Option Value × Mem) = r
  have g : Gd shX w x RX3 cX3_point 2 (some .int) 0 := g
  refine u_iconst g (v := (1 : Int32)) dX3_point_0 rfl ?_
  refine u_iload_n g 0 dX3_point_1 rfl ?_
  refine u_iload_n g 1 dX3_point_2 rfl ?_
  obtain ⟨q1, hq2, h⟩ := ob_bind h
  have K3 : U shX w x r M 13 [] [.int q1, .int (1 : Int32)] := by
    refine u_ishl g dX3_point_13 ?_
    exact u_iret g dX3_point_14 (by rw [← hr]; obtain rfl := Option.some.inj h; rfl)
  have h := hq2
  refine u_icmp_ge g 10 dX3_point_3 (by decide) (fun b4 => ?_) (fun b4 => ?_)
  · have h := ob_pos b4 h
    refine u_iload_n g 0 dX3_point_10 rfl ?_
    refine u_iload_n g 1 dX3_point_11 rfl ?_
    refine u_isub g dX3_point_12 ?_
    obtain rfl := Option.some.inj h
    exact u_sub [] rfl K3
  · have h := ob_neg b4 h
    refine u_iload_n g 0 dX3_point_6 rfl ?_
    refine u_goto g 13 dX3_point_7 (by decide) ?_
    obtain rfl := Option.some.inj h
    exact u_sub [] rfl K3
set_option maxRecDepth 100000 in
set_option maxHeartbeats 4000000 in
theorem s_X3_gatherPlane_l1 {w : Wp} {x : Cx} {r : Option Value × Mem} (g : Gd shX w x RX3 cX3_gatherPlane 5 none 1) (a1 : Int32) (a2 : Int32)  : ∀ (n : Nat) (v3 : Int32) (M : Mem) (q : Mem), f_X3_gatherPlane_l1 a1 a2 n v3 M = some q → U shX w x r q 66 [] [] → U shX w x r M 2 [(0, .ref (w.2.2.1 254)), (1, .int a1), (2, .int a2), (3, .int v3)] [] := by
  intro n
  induction n with
  | zero => intro v3 M q h K; rw [f_X3_gatherPlane_l1] at h; cases h
  | succ n ih =>
    intro v3 M q h K
    rw [f_X3_gatherPlane_l1] at h
    refine u_iload_n g 3 dX3_gatherPlane_2 rfl ?_
    refine u_iload_n g 1 dX3_gatherPlane_3 rfl ?_
    refine u_icmp_ge g 66 dX3_gatherPlane_4 (by decide) (fun b1 => ?_) (fun b1 => ?_)
    · have h := ob_pos b1 h
      obtain rfl := Option.some.inj h
      exact u_sub [] rfl K
    · have h := ob_neg b1 h
      refine u_iload_n g 3 dX3_gatherPlane_7 rfl ?_
      refine u_iload_n g 1 dX3_gatherPlane_8 rfl ?_
      obtain ⟨q2, hq3, h⟩ := ob_bind h
      refine u_callS (st := []) g wv_X3_93 [.int v3, .int a1] (t_X3_point w x.2.1 hq3) (by decide) (by decide) rfl (Nat.le_of_ble_eq_true rfl) rfl dX3_gatherPlane_9 ?_
      show U shX w x r M 12 [(0, .ref (w.2.2.1 254)), (1, .int a1), (2, .int a2), (3, .int v3)] [.int q2]
      refine u_iload_n g 3 dX3_gatherPlane_12 rfl ?_
      refine u_iconst g (v := (1 : Int32)) dX3_gatherPlane_13 rfl ?_
      refine u_iadd g dX3_gatherPlane_14 ?_
      refine u_iload_n g 1 dX3_gatherPlane_15 rfl ?_
      obtain ⟨q4, hq5, h⟩ := ob_bind h
      refine u_callS (st := [.int q2]) g wv_X3_93 [.int (v3 + (1 : Int32)), .int a1] (t_X3_point w x.2.1 hq5) (by decide) (by decide) rfl (Nat.le_of_ble_eq_true rfl) rfl dX3_gatherPlane_16 ?_
      show U shX w x r M 19 [(0, .ref (w.2.2.1 254)), (1, .int a1), (2, .int a2), (3, .int v3)] [.int q4, .int q2]
      refine u_ior g dX3_gatherPlane_19 ?_
      refine u_iload_n g 3 dX3_gatherPlane_20 rfl ?_
      refine u_iconst g (v := (3 : Int32)) dX3_gatherPlane_21 rfl ?_
      refine u_iadd g dX3_gatherPlane_22 ?_
      refine u_iload_n g 1 dX3_gatherPlane_23 rfl ?_
      obtain ⟨q6, hq7, h⟩ := ob_bind h
      refine u_callS (st := [.int (q2 ||| q4)]) g wv_X3_93 [.int (v3 + (3 : Int32)), .int a1] (t_X3_point w x.2.1 hq7) (by decide) (by decide) rfl (Nat.le_of_ble_eq_true rfl) rfl dX3_gatherPlane_24 ?_
      show U shX w x r M 27 [(0, .ref (w.2.2.1 254)), (1, .int a1), (2, .int a2), (3, .int v3)] [.int q6, .int (q2 ||| q4)]
      refine u_ior g dX3_gatherPlane_27 ?_
      refine u_istore g [(4, .int ((q2 ||| q4) ||| q6)), (0, .ref (w.2.2.1 254)), (1, .int a1), (2, .int a2), (3, .int v3)] dX3_gatherPlane_28 (by decide) rfl ?_
      refine u_iload_n g 2 dX3_gatherPlane_30 rfl ?_
      refine u_bipush g (v := (13 : Int32)) dX3_gatherPlane_31 rfl ?_
      obtain ⟨q8, hq9, h⟩ := ob_bind h
      have K10 : U shX w x r M 49 [(0, .ref (w.2.2.1 254)), (1, .int a1), (2, .int a2), (3, .int v3), (4, .int q8)] [] := by
        refine u_aload_n g 0 dX3_gatherPlane_49 rfl ?_
        refine gfX3_0 g (c := 254) rfl wf_X3_12 dX3_gatherPlane_50 ?_
        refine u_iload g 4 dX3_gatherPlane_53 rfl ?_
        refine u_iload_n g 2 dX3_gatherPlane_55 rfl ?_
        refine u_ishl g dX3_gatherPlane_56 ?_
        obtain ⟨q11, hq12, h⟩ := ob_bind h
        refine u_callV (st := []) g wv_X3_70 [.int (q8 <<< (a2 &&& 31))] (kX_lt (show kX 255 = 7 from rfl) rfl) (ceX_7 (show kX 255 = 7 from rfl)) rfl rfl (t_X7_put w x.2.1 hq12) (by decide) (by decide) rfl (Nat.le_of_ble_eq_true rfl) rfl dX3_gatherPlane_57 ?_
        show U shX w x r q11 60 [(0, .ref (w.2.2.1 254)), (1, .int a1), (2, .int a2), (3, .int v3), (4, .int q8)] []
        refine u_iinc g 3 [(3, .int (v3 + (1 : Int32))), (0, .ref (w.2.2.1 254)), (1, .int a1), (2, .int a2), (4, .int q8)] dX3_gatherPlane_60 rfl rfl (by decide) rfl ?_
        refine u_goto g 2 dX3_gatherPlane_63 (by decide) ?_
        exact u_sub [1, 2, 3, 0] rfl (ih (v3 + (1 : Int32)) q11 _ h K)
      have h := hq9
      refine u_icmp_ne g 49 dX3_gatherPlane_33 (by decide) (fun b13 => ?_) (fun b13 => ?_)
      · have h := ob_neg b13 h
        obtain rfl := Option.some.inj h
        exact u_sub [1, 2, 3, 4, 0] rfl K10
      · have h := ob_pos b13 h
        refine u_iload g 0 dX3_gatherPlane_36 rfl ?_
        refine u_iload_n g 4 dX3_gatherPlane_38 rfl ?_
        refine u_bipush g (v := (9 : Int32)) dX3_gatherPlane_39 rfl ?_
        refine u_iadd g dX3_gatherPlane_41 ?_
        refine u_iload_n g 2 dX3_gatherPlane_42 rfl ?_
        obtain ⟨q14, hq15, h⟩ := ob_bind h
        refine u_callS (st := [.int ((q2 ||| q4) ||| q6)]) g wv_X3_93 [.int (v3 + (9 : Int32)), .int a1] (t_X3_point w x.2.1 hq15) (by decide) (by decide) rfl (Nat.le_of_ble_eq_true rfl) rfl dX3_gatherPlane_43 ?_
        show U shX w x r M 46 [(4, .int ((q2 ||| q4) ||| q6)), (0, .ref (w.2.2.1 254)), (1, .int a1), (2, .int a2), (3, .int v3)] [.int q14, .int ((q2 ||| q4) ||| q6)]
        refine u_ior g dX3_gatherPlane_46 ?_
        refine u_istore g [(4, .int (((q2 ||| q4) ||| q6) ||| q14)), (0, .ref (w.2.2.1 254)), (1, .int a1), (2, .int a2), (3, .int v3)] dX3_gatherPlane_47 (by decide) rfl ?_
        obtain rfl := Option.some.inj h
        exact u_sub [1, 2, 3, 4, 0] rfl K10
set_option maxRecDepth 100000 in
set_option maxHeartbeats 4000000 in
theorem t_X3_gatherPlane (w : Wp) (l : Launch) {a1 : Int32} {a2 : Int32} {M : Mem} {q : Mem} (h : f_X3_gatherPlane a1 a2 M = some q) : Ct shX w l yX3_gatherPlane cX3_gatherPlane 5 none 1 [.ref (w.2.2.1 254), .int a1, .int a2] M (none, q) := by
  rw [f_X3_gatherPlane] at h
  refine ct_of shX_loc (by decide) (Nat.le_of_ble_eq_true rfl) rfl (fun x hx g => ?_)
  subst hx
  show U shX w x _ M 0 [(0, .ref (w.2.2.1 254)), (1, .int a1), (2, .int a2)] []
  generalize hr : ((none, q) : Option Value × Mem) = r
  have g : Gd shX w x RX3 cX3_gatherPlane 5 none 1 := g
  refine u_iconst g (v := (0 : Int32)) dX3_gatherPlane_0 rfl ?_
  refine u_istore_n g [(3, .int (0 : Int32)), (0, .ref (w.2.2.1 254)), (1, .int a1), (2, .int a2)] dX3_gatherPlane_1 (by decide) rfl ?_
  obtain ⟨q1, hq2, h⟩ := ob_bind h
  refine u_sub [1, 2, 3, 0] rfl (s_X3_gatherPlane_l1 g a1 a2 fuelN (0 : Int32) M _ hq2 ?_)
  show U shX w x r q1 66 [] []
  exact u_vret g dX3_gatherPlane_66 (by rw [← hr]; obtain rfl := Option.some.inj h; rfl)
set_option maxRecDepth 100000 in
set_option maxHeartbeats 4000000 in
theorem s_X3_putWithEach_l1 {w : Wp} {x : Cx} {r : Option Value × Mem} (g : Gd shX w x RX3 cX3_putWithEach 4 none 1) (a1 : Int32) (t2 : Nat) (h2 : kX t2 = 1) : ∀ (n : Nat) (v3 : Int32) (M : Mem) (q : Mem), f_X3_putWithEach_l1 a1 t2 n v3 M = some q → U shX w x r q 31 [] [] → U shX w x r M 2 [(0, .ref (w.2.2.1 254)), (1, .int a1), (2, .ref (w.2.2.1 t2)), (3, .int v3)] [] := by
  intro n
  induction n with
  | zero => intro v3 M q h K; rw [f_X3_putWithEach_l1] at h; cases h
  | succ n ih =>
    intro v3 M q h K
    rw [f_X3_putWithEach_l1] at h
    refine u_iload_n g 3 dX3_putWithEach_2 rfl ?_
    refine u_aload_n g 2 dX3_putWithEach_3 rfl ?_
    refine gfX1_1 g h2 wf_X3_96 (v := (M.1 t2 1)) rfl dX3_putWithEach_4 ?_
    refine u_icmp_ge g 31 dX3_putWithEach_7 (by decide) (fun b1 => ?_) (fun b1 => ?_)
    · have h := ob_pos b1 h
      obtain rfl := Option.some.inj h
      exact u_sub [] rfl K
    · have h := ob_neg b1 h
      refine u_aload_n g 0 dX3_putWithEach_10 rfl ?_
      refine gfX3_0 g (c := 254) rfl wf_X3_12 dX3_putWithEach_11 ?_
      refine u_iload_n g 1 dX3_putWithEach_14 rfl ?_
      refine u_aload_n g 2 dX3_putWithEach_15 rfl ?_
      refine gfX1_2 g h2 wf_X3_99 dX3_putWithEach_16 ?_
      refine u_iload_n g 3 dX3_putWithEach_19 rfl ?_
      obtain ⟨e2, h⟩ := ob_if h
      refine aX_ild g (c := (t2 + 1)) 120 (by decide) (kX_s1 h2) (v := (M.1 (t2 + 1) v3.toNatClampNeg)) (inB_in e2) rfl dX3_putWithEach_20 ?_
      refine u_ior g dX3_putWithEach_21 ?_
      obtain ⟨q3, hq4, h⟩ := ob_bind h
      refine u_callV (st := []) g wv_X3_70 [.int (a1 ||| (M.1 (t2 + 1) v3.toNatClampNeg))] (kX_lt (show kX 255 = 7 from rfl) rfl) (ceX_7 (show kX 255 = 7 from rfl)) rfl rfl (t_X7_put w x.2.1 hq4) (by decide) (by decide) rfl (Nat.le_of_ble_eq_true rfl) rfl dX3_putWithEach_22 ?_
      show U shX w x r q3 25 [(0, .ref (w.2.2.1 254)), (1, .int a1), (2, .ref (w.2.2.1 t2)), (3, .int v3)] []
      refine u_iinc g 3 [(3, .int (v3 + (1 : Int32))), (0, .ref (w.2.2.1 254)), (1, .int a1), (2, .ref (w.2.2.1 t2))] dX3_putWithEach_25 rfl rfl (by decide) rfl ?_
      refine u_goto g 2 dX3_putWithEach_28 (by decide) ?_
      exact u_sub [1, 2, 3, 0] rfl (ih (v3 + (1 : Int32)) q3 _ h K)
set_option maxRecDepth 100000 in
set_option maxHeartbeats 4000000 in
theorem t_X3_putWithEach (w : Wp) (l : Launch) {a1 : Int32} {t2 : Nat} {M : Mem} {q : Mem} (h : f_X3_putWithEach a1 t2 M = some q) : Ct shX w l yX3_putWithEach cX3_putWithEach 4 none 1 [.ref (w.2.2.1 254), .int a1, .ref (w.2.2.1 t2)] M (none, q) := by
  rw [f_X3_putWithEach] at h
  obtain ⟨h2, h⟩ := ob_if h
  refine ct_of shX_loc (by decide) (Nat.le_of_ble_eq_true rfl) rfl (fun x hx g => ?_)
  subst hx
  show U shX w x _ M 0 [(0, .ref (w.2.2.1 254)), (1, .int a1), (2, .ref (w.2.2.1 t2))] []
  generalize hr : ((none, q) : Option Value × Mem) = r
  have g : Gd shX w x RX3 cX3_putWithEach 4 none 1 := g
  refine u_iconst g (v := (0 : Int32)) dX3_putWithEach_0 rfl ?_
  refine u_istore_n g [(3, .int (0 : Int32)), (0, .ref (w.2.2.1 254)), (1, .int a1), (2, .ref (w.2.2.1 t2))] dX3_putWithEach_1 (by decide) rfl ?_
  obtain ⟨q1, hq2, h⟩ := ob_bind h
  refine u_sub [1, 2, 3, 0] rfl (s_X3_putWithEach_l1 g a1 t2 h2 fuelN (0 : Int32) M _ hq2 ?_)
  show U shX w x r q1 31 [] []
  exact u_vret g dX3_putWithEach_31 (by rw [← hr]; obtain rfl := Option.some.inj h; rfl)
set_option maxRecDepth 100000 in
set_option maxHeartbeats 4000000 in
theorem s_X3_gatherJoin_l1 {w : Wp} {x : Cx} {r : Option Value × Mem} (g : Gd shX w x RX3 cX3_gatherJoin 6 none 2) (t1 : Nat) (t3 : Nat) (a4 : Int32) (h1 : kX t1 = 1) (h3 : kX t3 = 1) : ∀ (n : Nat) (v5 : Int32) (M : Mem) (q : Mem), f_X3_gatherJoin_l1 t1 t3 a4 n v5 M = some q → U shX w x r q 70 [] [] → U shX w x r M 8 [(0, .ref (w.2.2.1 254)), (1, .ref (w.2.2.1 t1)), (3, .ref (w.2.2.1 t3)), (4, .int a4), (5, .int v5)] [] := by
  intro n
  induction n with
  | zero => intro v5 M q h K; rw [f_X3_gatherJoin_l1] at h; cases h
  | succ n ih =>
    intro v5 M q h K
    rw [f_X3_gatherJoin_l1] at h
    refine u_iload g 4 dX3_gatherJoin_8 rfl ?_
    refine u_aload_n g 1 dX3_gatherJoin_10 rfl ?_
    refine gfX1_1 g h1 wf_X3_96 (v := (M.1 t1 1)) rfl dX3_gatherJoin_11 ?_
    refine u_icmp_ge g 70 dX3_gatherJoin_14 (by decide) (fun b1 => ?_) (fun b1 => ?_)
    · have h := ob_pos b1 h
      obtain rfl := Option.some.inj h
      exact u_sub [] rfl K
    · have h := ob_neg b1 h
      refine u_aload_n g 1 dX3_gatherJoin_17 rfl ?_
      refine gfX1_2 g h1 wf_X3_99 dX3_gatherJoin_18 ?_
      refine u_iload g 4 dX3_gatherJoin_21 rfl ?_
      obtain ⟨e2, h⟩ := ob_if h
      refine aX_ild g (c := (t1 + 1)) 120 (by decide) (kX_s1 h1) (v := (M.1 (t1 + 1) v5.toNatClampNeg)) (inB_in e2) rfl dX3_gatherJoin_23 ?_
      refine u_iload g 3 dX3_gatherJoin_24 rfl ?_
      refine u_iand g dX3_gatherJoin_26 ?_
      obtain ⟨q3, hq4, h⟩ := ob_bind h
      have K5 : U shX w x r q3 64 [(0, .ref (w.2.2.1 254)), (1, .ref (w.2.2.1 t1)), (3, .ref (w.2.2.1 t3)), (4, .int a4), (5, .int v5)] [] := by
        refine u_iinc g 4 [(5, .int (v5 + (1 : Int32))), (0, .ref (w.2.2.1 254)), (1, .ref (w.2.2.1 t1)), (3, .ref (w.2.2.1 t3)), (4, .int a4)] dX3_gatherJoin_64 rfl rfl (by decide) rfl ?_
        refine u_goto g 8 dX3_gatherJoin_67 (by decide) ?_
        exact u_sub [1, 2, 3, 4, 0] rfl (ih (v5 + (1 : Int32)) q3 _ h K)
      have h := hq4
      refine u_if_ne g 47 dX3_gatherJoin_27 (by decide) (fun b6 => ?_) (fun b6 => ?_)
      · have h := ob_neg b6 h
        refine u_aload_n g 0 dX3_gatherJoin_47 rfl ?_
        refine u_aload_n g 1 dX3_gatherJoin_48 rfl ?_
        refine gfX1_2 g h1 wf_X3_99 dX3_gatherJoin_49 ?_
        refine u_iload g 4 dX3_gatherJoin_52 rfl ?_
        obtain ⟨e7, h⟩ := ob_if h
        refine aX_ild g (c := (t1 + 1)) 120 (by decide) (kX_s1 h1) (v := (M.1 (t1 + 1) v5.toNatClampNeg)) (inB_in e7) rfl dX3_gatherJoin_54 ?_
        refine u_iload g 3 dX3_gatherJoin_55 rfl ?_
        refine u_iconst g (v := (-1 : Int32)) dX3_gatherJoin_57 rfl ?_
        refine u_ixor g dX3_gatherJoin_58 ?_
        refine u_iand g dX3_gatherJoin_59 ?_
        refine u_aload_n g 2 dX3_gatherJoin_60 rfl ?_
        obtain ⟨q8, hq9, h⟩ := ob_bind h
        refine u_callV (st := []) g wv_X3_102 [.int ((M.1 (t1 + 1) v5.toNatClampNeg) &&& (a4 ^^^ (-1 : Int32))), .ref (w.2.2.1 t3)] (kX_lt (show kX 254 = 3 from rfl) rfl) (ceX_3 (show kX 254 = 3 from rfl)) rfl rfl (t_X3_putWithEach w x.2.1 hq9) (by decide) (by decide) rfl (Nat.le_of_ble_eq_true rfl) rfl dX3_gatherJoin_61 ?_
        show U shX w x r q8 64 [(0, .ref (w.2.2.1 254)), (1, .ref (w.2.2.1 t1)), (3, .ref (w.2.2.1 t3)), (4, .int a4), (5, .int v5)] []
        obtain rfl := Option.some.inj h
        exact u_sub [0, 1, 2, 3, 4] rfl K5
      · have h := ob_pos b6 h
        refine u_aload_n g 0 dX3_gatherJoin_30 rfl ?_
        refine gfX3_0 g (c := 254) rfl wf_X3_12 dX3_gatherJoin_31 ?_
        refine u_aload_n g 1 dX3_gatherJoin_34 rfl ?_
        refine gfX1_2 g h1 wf_X3_99 dX3_gatherJoin_35 ?_
        refine u_iload g 4 dX3_gatherJoin_38 rfl ?_
        obtain ⟨e10, h⟩ := ob_if h
        refine aX_ild g (c := (t1 + 1)) 120 (by decide) (kX_s1 h1) (v := (M.1 (t1 + 1) v5.toNatClampNeg)) (inB_in e10) rfl dX3_gatherJoin_40 ?_
        obtain ⟨q11, hq12, h⟩ := ob_bind h
        refine u_callV (st := []) g wv_X3_70 [.int (M.1 (t1 + 1) v5.toNatClampNeg)] (kX_lt (show kX 255 = 7 from rfl) rfl) (ceX_7 (show kX 255 = 7 from rfl)) rfl rfl (t_X7_put w x.2.1 hq12) (by decide) (by decide) rfl (Nat.le_of_ble_eq_true rfl) rfl dX3_gatherJoin_41 ?_
        show U shX w x r q11 44 [(0, .ref (w.2.2.1 254)), (1, .ref (w.2.2.1 t1)), (3, .ref (w.2.2.1 t3)), (4, .int a4), (5, .int v5)] []
        refine u_goto g 64 dX3_gatherJoin_44 (by decide) ?_
        obtain rfl := Option.some.inj h
        exact u_sub [0, 1, 2, 3, 4] rfl K5
set_option maxRecDepth 100000 in
set_option maxHeartbeats 4000000 in
theorem t_X3_gatherJoin (w : Wp) (l : Launch) {t1 : Nat} {a2 : Int32} {t3 : Nat} {M : Mem} {q : Mem} (h : f_X3_gatherJoin t1 a2 t3 M = some q) : Ct shX w l yX3_gatherJoin cX3_gatherJoin 6 none 2 [.ref (w.2.2.1 254), .ref (w.2.2.1 t1), .int a2, .ref (w.2.2.1 t3)] M (none, q) := by
  rw [f_X3_gatherJoin] at h
  obtain ⟨h1, h⟩ := ob_if h
  obtain ⟨h3, h⟩ := ob_if h
  refine ct_of shX_loc (by decide) (Nat.le_of_ble_eq_true rfl) rfl (fun x hx g => ?_)
  subst hx
  show U shX w x _ M 0 [(0, .ref (w.2.2.1 254)), (1, .ref (w.2.2.1 t1)), (2, .int a2), (3, .ref (w.2.2.1 t3))] []
  generalize hr : ((none, q) : Option Value × Mem) = r
  have g : Gd shX w x RX3 cX3_gatherJoin 6 none 2 := g
  refine u_iconst g (v := (1 : Int32)) dX3_gatherJoin_0 rfl ?_
  refine u_iload_n g 2 dX3_gatherJoin_1 rfl ?_
  refine u_ishl g dX3_gatherJoin_2 ?_
  refine u_istore g [(4, .int ((1 : Int32) <<< (a2 &&& 31))), (0, .ref (w.2.2.1 254)), (1, .ref (w.2.2.1 t1)), (2, .int a2), (3, .ref (w.2.2.1 t3))] dX3_gatherJoin_3 (by decide) rfl ?_
  refine u_iconst g (v := (0 : Int32)) dX3_gatherJoin_5 rfl ?_
  refine u_istore g [(5, .int (0 : Int32)), (4, .int ((1 : Int32) <<< (a2 &&& 31))), (0, .ref (w.2.2.1 254)), (1, .ref (w.2.2.1 t1)), (2, .int a2), (3, .ref (w.2.2.1 t3))] dX3_gatherJoin_6 (by decide) rfl ?_
  obtain ⟨q1, hq2, h⟩ := ob_bind h
  refine u_sub [2, 3, 5, 1, 0] rfl (s_X3_gatherJoin_l1 g t1 t3 ((1 : Int32) <<< (a2 &&& 31)) h1 h3 fuelN (0 : Int32) M _ hq2 ?_)
  show U shX w x r q1 70 [] []
  exact u_vret g dX3_gatherJoin_70 (by rw [← hr]; obtain rfl := Option.some.inj h; rfl)
set_option maxRecDepth 100000 in
set_option maxHeartbeats 4000000 in
theorem s_X3_gatherBoth_l1 {w : Wp} {x : Cx} {r : Option Value × Mem} (g : Gd shX w x RX3 cX3_gatherBoth 4 none 2) (t1 : Nat) (t2 : Nat) (h1 : kX t1 = 1) (h2 : kX t2 = 1) : ∀ (n : Nat) (v3 : Int32) (M : Mem) (q : Mem), f_X3_gatherBoth_l1 t1 t2 n v3 M = some q → U shX w x r q 27 [] [] → U shX w x r M 2 [(0, .ref (w.2.2.1 254)), (1, .ref (w.2.2.1 t1)), (2, .ref (w.2.2.1 t2)), (3, .int v3)] [] := by
  intro n
  induction n with
  | zero => intro v3 M q h K; rw [f_X3_gatherBoth_l1] at h; cases h
  | succ n ih =>
    intro v3 M q h K
    rw [f_X3_gatherBoth_l1] at h
    refine u_iload_n g 3 dX3_gatherBoth_2 rfl ?_
    refine u_aload_n g 1 dX3_gatherBoth_3 rfl ?_
    refine gfX1_1 g h1 wf_X3_96 (v := (M.1 t1 1)) rfl dX3_gatherBoth_4 ?_
    refine u_icmp_ge g 27 dX3_gatherBoth_7 (by decide) (fun b1 => ?_) (fun b1 => ?_)
    · have h := ob_pos b1 h
      obtain rfl := Option.some.inj h
      exact u_sub [] rfl K
    · have h := ob_neg b1 h
      refine u_aload_n g 0 dX3_gatherBoth_10 rfl ?_
      refine u_aload_n g 1 dX3_gatherBoth_11 rfl ?_
      refine gfX1_2 g h1 wf_X3_99 dX3_gatherBoth_12 ?_
      refine u_iload_n g 3 dX3_gatherBoth_15 rfl ?_
      obtain ⟨e2, h⟩ := ob_if h
      refine aX_ild g (c := (t1 + 1)) 120 (by decide) (kX_s1 h1) (v := (M.1 (t1 + 1) v3.toNatClampNeg)) (inB_in e2) rfl dX3_gatherBoth_16 ?_
      refine u_aload_n g 2 dX3_gatherBoth_17 rfl ?_
      obtain ⟨q3, hq4, h⟩ := ob_bind h
      refine u_callV (st := []) g wv_X3_102 [.int (M.1 (t1 + 1) v3.toNatClampNeg), .ref (w.2.2.1 t2)] (kX_lt (show kX 254 = 3 from rfl) rfl) (ceX_3 (show kX 254 = 3 from rfl)) rfl rfl (t_X3_putWithEach w x.2.1 hq4) (by decide) (by decide) rfl (Nat.le_of_ble_eq_true rfl) rfl dX3_gatherBoth_18 ?_
      show U shX w x r q3 21 [(0, .ref (w.2.2.1 254)), (1, .ref (w.2.2.1 t1)), (2, .ref (w.2.2.1 t2)), (3, .int v3)] []
      refine u_iinc g 3 [(3, .int (v3 + (1 : Int32))), (0, .ref (w.2.2.1 254)), (1, .ref (w.2.2.1 t1)), (2, .ref (w.2.2.1 t2))] dX3_gatherBoth_21 rfl rfl (by decide) rfl ?_
      refine u_goto g 2 dX3_gatherBoth_24 (by decide) ?_
      exact u_sub [1, 2, 3, 0] rfl (ih (v3 + (1 : Int32)) q3 _ h K)
set_option maxRecDepth 100000 in
set_option maxHeartbeats 4000000 in
theorem t_X3_gatherBoth (w : Wp) (l : Launch) {t1 : Nat} {t2 : Nat} {M : Mem} {q : Mem} (h : f_X3_gatherBoth t1 t2 M = some q) : Ct shX w l yX3_gatherBoth cX3_gatherBoth 4 none 2 [.ref (w.2.2.1 254), .ref (w.2.2.1 t1), .ref (w.2.2.1 t2)] M (none, q) := by
  rw [f_X3_gatherBoth] at h
  obtain ⟨h1, h⟩ := ob_if h
  obtain ⟨h2, h⟩ := ob_if h
  refine ct_of shX_loc (by decide) (Nat.le_of_ble_eq_true rfl) rfl (fun x hx g => ?_)
  subst hx
  show U shX w x _ M 0 [(0, .ref (w.2.2.1 254)), (1, .ref (w.2.2.1 t1)), (2, .ref (w.2.2.1 t2))] []
  generalize hr : ((none, q) : Option Value × Mem) = r
  have g : Gd shX w x RX3 cX3_gatherBoth 4 none 2 := g
  refine u_iconst g (v := (0 : Int32)) dX3_gatherBoth_0 rfl ?_
  refine u_istore_n g [(3, .int (0 : Int32)), (0, .ref (w.2.2.1 254)), (1, .ref (w.2.2.1 t1)), (2, .ref (w.2.2.1 t2))] dX3_gatherBoth_1 (by decide) rfl ?_
  obtain ⟨q1, hq2, h⟩ := ob_bind h
  refine u_sub [1, 2, 3, 0] rfl (s_X3_gatherBoth_l1 g t1 t2 h1 h2 fuelN (0 : Int32) M _ hq2 ?_)
  show U shX w x r q1 27 [] []
  exact u_vret g dX3_gatherBoth_27 (by rw [← hr]; obtain rfl := Option.some.inj h; rfl)
set_option maxRecDepth 100000 in
set_option maxHeartbeats 4000000 in
theorem s_X3_gatherWithin_l1 {w : Wp} {x : Cx} {r : Option Value × Mem} (g : Gd shX w x RX3 cX3_gatherWithin 4 none 1) (t1 : Nat) (a2 : Int32) (h1 : kX t1 = 1) : ∀ (n : Nat) (v3 : Int32) (M : Mem) (q : Mem), f_X3_gatherWithin_l1 t1 a2 n v3 M = some q → U shX w x r q 42 [] [] → U shX w x r M 2 [(0, .ref (w.2.2.1 254)), (1, .ref (w.2.2.1 t1)), (2, .int a2), (3, .int v3)] [] := by
  intro n
  induction n with
  | zero => intro v3 M q h K; rw [f_X3_gatherWithin_l1] at h; cases h
  | succ n ih =>
    intro v3 M q h K
    rw [f_X3_gatherWithin_l1] at h
    refine u_iload_n g 3 dX3_gatherWithin_2 rfl ?_
    refine u_aload_n g 1 dX3_gatherWithin_3 rfl ?_
    refine gfX1_1 g h1 wf_X3_96 (v := (M.1 t1 1)) rfl dX3_gatherWithin_4 ?_
    refine u_icmp_ge g 42 dX3_gatherWithin_7 (by decide) (fun b1 => ?_) (fun b1 => ?_)
    · have h := ob_pos b1 h
      obtain rfl := Option.some.inj h
      exact u_sub [] rfl K
    · have h := ob_neg b1 h
      refine u_aload_n g 1 dX3_gatherWithin_10 rfl ?_
      refine gfX1_2 g h1 wf_X3_99 dX3_gatherWithin_11 ?_
      refine u_iload_n g 3 dX3_gatherWithin_14 rfl ?_
      obtain ⟨e2, h⟩ := ob_if h
      refine aX_ild g (c := (t1 + 1)) 120 (by decide) (kX_s1 h1) (v := (M.1 (t1 + 1) v3.toNatClampNeg)) (inB_in e2) rfl dX3_gatherWithin_15 ?_
      refine u_iload_n g 2 dX3_gatherWithin_16 rfl ?_
      refine u_iconst g (v := (-1 : Int32)) dX3_gatherWithin_17 rfl ?_
      refine u_ixor g dX3_gatherWithin_18 ?_
      refine u_iand g dX3_gatherWithin_19 ?_
      obtain ⟨q3, hq4, h⟩ := ob_bind h
      have K5 : U shX w x r q3 36 [(0, .ref (w.2.2.1 254)), (1, .ref (w.2.2.1 t1)), (2, .int a2), (3, .int v3)] [] := by
        refine u_iinc g 3 [(3, .int (v3 + (1 : Int32))), (0, .ref (w.2.2.1 254)), (1, .ref (w.2.2.1 t1)), (2, .int a2)] dX3_gatherWithin_36 rfl rfl (by decide) rfl ?_
        refine u_goto g 2 dX3_gatherWithin_39 (by decide) ?_
        exact u_sub [1, 2, 3, 0] rfl (ih (v3 + (1 : Int32)) q3 _ h K)
      have h := hq4
      refine u_if_ne g 36 dX3_gatherWithin_20 (by decide) (fun b6 => ?_) (fun b6 => ?_)
      · have h := ob_neg b6 h
        obtain rfl := Option.some.inj h
        exact u_sub [0, 1, 2, 3] rfl K5
      · have h := ob_pos b6 h
        refine u_aload_n g 0 dX3_gatherWithin_23 rfl ?_
        refine gfX3_0 g (c := 254) rfl wf_X3_12 dX3_gatherWithin_24 ?_
        refine u_aload_n g 1 dX3_gatherWithin_27 rfl ?_
        refine gfX1_2 g h1 wf_X3_99 dX3_gatherWithin_28 ?_
        refine u_iload_n g 3 dX3_gatherWithin_31 rfl ?_
        obtain ⟨e7, h⟩ := ob_if h
        refine aX_ild g (c := (t1 + 1)) 120 (by decide) (kX_s1 h1) (v := (M.1 (t1 + 1) v3.toNatClampNeg)) (inB_in e7) rfl dX3_gatherWithin_32 ?_
        obtain ⟨q8, hq9, h⟩ := ob_bind h
        refine u_callV (st := []) g wv_X3_70 [.int (M.1 (t1 + 1) v3.toNatClampNeg)] (kX_lt (show kX 255 = 7 from rfl) rfl) (ceX_7 (show kX 255 = 7 from rfl)) rfl rfl (t_X7_put w x.2.1 hq9) (by decide) (by decide) rfl (Nat.le_of_ble_eq_true rfl) rfl dX3_gatherWithin_33 ?_
        show U shX w x r q8 36 [(0, .ref (w.2.2.1 254)), (1, .ref (w.2.2.1 t1)), (2, .int a2), (3, .int v3)] []
        obtain rfl := Option.some.inj h
        exact u_sub [0, 1, 2, 3] rfl K5
set_option maxRecDepth 100000 in
set_option maxHeartbeats 4000000 in
theorem t_X3_gatherWithin (w : Wp) (l : Launch) {t1 : Nat} {a2 : Int32} {M : Mem} {q : Mem} (h : f_X3_gatherWithin t1 a2 M = some q) : Ct shX w l yX3_gatherWithin cX3_gatherWithin 4 none 1 [.ref (w.2.2.1 254), .ref (w.2.2.1 t1), .int a2] M (none, q) := by
  rw [f_X3_gatherWithin] at h
  obtain ⟨h1, h⟩ := ob_if h
  refine ct_of shX_loc (by decide) (Nat.le_of_ble_eq_true rfl) rfl (fun x hx g => ?_)
  subst hx
  show U shX w x _ M 0 [(0, .ref (w.2.2.1 254)), (1, .ref (w.2.2.1 t1)), (2, .int a2)] []
  generalize hr : ((none, q) : Option Value × Mem) = r
  have g : Gd shX w x RX3 cX3_gatherWithin 4 none 1 := g
  refine u_iconst g (v := (0 : Int32)) dX3_gatherWithin_0 rfl ?_
  refine u_istore_n g [(3, .int (0 : Int32)), (0, .ref (w.2.2.1 254)), (1, .ref (w.2.2.1 t1)), (2, .int a2)] dX3_gatherWithin_1 (by decide) rfl ?_
  obtain ⟨q1, hq2, h⟩ := ob_bind h
  refine u_sub [1, 2, 3, 0] rfl (s_X3_gatherWithin_l1 g t1 a2 h1 fuelN (0 : Int32) M _ hq2 ?_)
  show U shX w x r q1 42 [] []
  exact u_vret g dX3_gatherWithin_42 (by rw [← hr]; obtain rfl := Option.some.inj h; rfl)
set_option maxRecDepth 100000 in
set_option maxHeartbeats 4000000 in
theorem s_X7_closedWord_l1 {w : Wp} {x : Cx} {r : Option Value × Mem} (g : Gd shX w x RX7 cX7_closedWord 5 (some .long) 0)   (M : Mem) : ∀ (n : Nat) (v2 : Int64) (v4 : Int32) (q : Int64), f_X7_closedWord_l1 n v2 v4 = some q → U shX w x r M 34 [(2, .long q)] [] → U shX w x r M 5 [(2, .long v2), (4, .int v4)] [] := by
  intro n
  induction n with
  | zero => intro v2 v4 q h K; rw [f_X7_closedWord_l1] at h; cases h
  | succ n ih =>
    intro v2 v4 q h K
    rw [f_X7_closedWord_l1] at h
    refine u_iload g 1 dX7_closedWord_5 rfl ?_
    refine u_bipush g (v := (6 : Int32)) dX7_closedWord_7 rfl ?_
    refine u_icmp_ge g 34 dX7_closedWord_9 (by decide) (fun b1 => ?_) (fun b1 => ?_)
    · have h := ob_pos b1 h
      obtain rfl := Option.some.inj h
      exact u_sub [0] rfl K
    · have h := ob_neg b1 h
      refine u_lload_n g 0 dX7_closedWord_12 rfl ?_
      refine u_lload_n g 0 dX7_closedWord_13 rfl ?_
      refine u_getsW g wf_X7_86 dX7_closedWord_14 ?_
      refine u_iload g 1 dX7_closedWord_17 rfl ?_
      obtain ⟨e2, h⟩ := ob_if h
      refine u_tlW g (inB_in e2) dX7_closedWord_19 ?_
      refine u_land g dX7_closedWord_20 ?_
      refine u_iconst g (v := (1 : Int32)) dX7_closedWord_21 rfl ?_
      refine u_iload g 1 dX7_closedWord_22 rfl ?_
      refine u_ishl g dX7_closedWord_24 ?_
      refine u_lshl g dX7_closedWord_25 ?_
      refine u_lor g dX7_closedWord_26 ?_
      refine u_lstore_n g [(2, .long (v2 ||| (lshl (v2 &&& (WL v4.toNatClampNeg)) ((1 : Int32) <<< (v4 &&& 31))))), (4, .int v4)] dX7_closedWord_27 (by decide) rfl ?_
      refine u_iinc g 1 [(4, .int (v4 + (1 : Int32))), (2, .long (v2 ||| (lshl (v2 &&& (WL v4.toNatClampNeg)) ((1 : Int32) <<< (v4 &&& 31)))))] dX7_closedWord_28 rfl rfl (by decide) rfl ?_
      refine u_goto g 5 dX7_closedWord_31 (by decide) ?_
      exact u_sub [1, 0] rfl (ih (v2 ||| (lshl (v2 &&& (WL v4.toNatClampNeg)) ((1 : Int32) <<< (v4 &&& 31)))) (v4 + (1 : Int32)) _ h K)
set_option maxRecDepth 100000 in
set_option maxHeartbeats 4000000 in
theorem t_X7_closedWord (w : Wp) (l : Launch) {a0 : Int64} {M : Mem} {q : Int64} (h : f_X7_closedWord a0 = some q) : Ct shX w l yX7_closedWord cX7_closedWord 5 (some .long) 0 [.long a0] M (some (.long q), M) := by
  rw [f_X7_closedWord] at h
  refine ct_of shX_loc (by decide) (Nat.le_of_ble_eq_true rfl) rfl (fun x hx g => ?_)
  subst hx
  show U shX w x _ M 0 [(0, .long a0)] []
  generalize hr : ((some (.long q), M) : Option Value × Mem) = r
  have g : Gd shX w x RX7 cX7_closedWord 5 (some .long) 0 := g
  refine u_lload_n g 0 dX7_closedWord_0 rfl ?_
  refine u_lstore_n g [(2, .long a0), (0, .long a0)] dX7_closedWord_1 (by decide) rfl ?_
  refine u_iconst g (v := (0 : Int32)) dX7_closedWord_2 rfl ?_
  refine u_istore g [(4, .int (0 : Int32)), (2, .long a0), (0, .long a0)] dX7_closedWord_3 (by decide) rfl ?_
  obtain ⟨q1, hq2, h⟩ := ob_bind h
  refine u_sub [1, 0] rfl (s_X7_closedWord_l1 g M fuelN a0 (0 : Int32) _ hq2 ?_)
  show U shX w x r M 34 [(2, .long q1)] []
  refine u_lload_n g 0 dX7_closedWord_34 rfl ?_
  exact u_lret g dX7_closedWord_35 (by rw [← hr]; obtain rfl := Option.some.inj h; rfl)
set_option maxRecDepth 100000 in
set_option maxHeartbeats 4000000 in
theorem s_X7_closeUpwards_l1 {w : Wp} {x : Cx} {r : Option Value × Mem} (g : Gd shX w x RX7 cX7_closeUpwards 3 none 1)   : ∀ (n : Nat) (v1 : Int32) (M : Mem) (q : Mem), f_X7_closeUpwards_l1 n v1 M = some q → U shX w x r q 31 [(0, .ref (w.2.2.1 255))] [] → U shX w x r M 2 [(0, .ref (w.2.2.1 255)), (1, .int v1)] [] := by
  intro n
  induction n with
  | zero => intro v1 M q h K; rw [f_X7_closeUpwards_l1] at h; cases h
  | succ n ih =>
    intro v1 M q h K
    rw [f_X7_closeUpwards_l1] at h
    refine u_iload_n g 1 dX7_closeUpwards_2 rfl ?_
    refine u_aload_n g 0 dX7_closeUpwards_3 rfl ?_
    refine gfX7_2 g (c := 255) rfl wf_X7_18 (v := (M.1 255 2)) rfl dX7_closeUpwards_4 ?_
    refine u_icmp_ge g 31 dX7_closeUpwards_7 (by decide) (fun b1 => ?_) (fun b1 => ?_)
    · have h := ob_pos b1 h
      obtain rfl := Option.some.inj h
      exact u_sub [0] rfl K
    · have h := ob_neg b1 h
      refine u_aload_n g 0 dX7_closeUpwards_10 rfl ?_
      refine gfX7_0 g (c := 255) rfl wf_X7_11 dX7_closeUpwards_11 ?_
      refine u_iload_n g 1 dX7_closeUpwards_14 rfl ?_
      refine u_aload_n g 0 dX7_closeUpwards_15 rfl ?_
      refine gfX7_0 g (c := 255) rfl wf_X7_11 dX7_closeUpwards_16 ?_
      refine u_iload_n g 1 dX7_closeUpwards_19 rfl ?_
      obtain ⟨e2, h⟩ := ob_if h
      refine aX_lld g (c := 256) 1024 (by decide) rfl (v := (M.2 256 v1.toNatClampNeg)) (inB_in e2) rfl dX7_closeUpwards_20 ?_
      obtain ⟨q3, hq4, h⟩ := ob_bind h
      refine u_callS (st := [.int v1, .ref (w.2.2.1 256)]) g wv_X7_31 [.long (M.2 256 v1.toNatClampNeg)] (t_X7_closedWord w x.2.1 hq4) (by decide) (by decide) rfl (Nat.le_of_ble_eq_true rfl) rfl dX7_closeUpwards_21 ?_
      show U shX w x r M 24 [(0, .ref (w.2.2.1 255)), (1, .int v1)] [.long q3, .int v1, .ref (w.2.2.1 256)]
      obtain ⟨e5, h⟩ := ob_if h
      refine aX_lst g (c := 256) 1024 (by decide) rfl (inB_in e5) (j := v1.toNatClampNeg) rfl dX7_closeUpwards_24 ?_
      refine u_iinc g 1 [(1, .int (v1 + (1 : Int32))), (0, .ref (w.2.2.1 255))] dX7_closeUpwards_25 rfl rfl (by decide) rfl ?_
      refine u_goto g 2 dX7_closeUpwards_28 (by decide) ?_
      exact u_sub [1, 0] rfl (ih (v1 + (1 : Int32)) (sL M 256 v1.toNatClampNeg q3) _ h K)
set_option maxRecDepth 100000 in
set_option maxHeartbeats 4000000 in
theorem s_X7_closeUpwards_l3 {w : Wp} {x : Cx} {r : Option Value × Mem} (g : Gd shX w x RX7 cX7_closeUpwards 3 none 1) (a1 : Int32)  : ∀ (n : Nat) (v2 : Int32) (M : Mem) (q : Mem), f_X7_closeUpwards_l3 a1 n v2 M = some q → U shX w x r q 77 [(0, .ref (w.2.2.1 255)), (1, .int a1)] [] → U shX w x r M 43 [(0, .ref (w.2.2.1 255)), (1, .int a1), (2, .int v2)] [] := by
  intro n
  induction n with
  | zero => intro v2 M q h K; rw [f_X7_closeUpwards_l3] at h; cases h
  | succ n ih =>
    intro v2 M q h K
    rw [f_X7_closeUpwards_l3] at h
    refine u_iload_n g 2 dX7_closeUpwards_43 rfl ?_
    refine u_aload_n g 0 dX7_closeUpwards_44 rfl ?_
    refine gfX7_2 g (c := 255) rfl wf_X7_18 (v := (M.1 255 2)) rfl dX7_closeUpwards_45 ?_
    refine u_icmp_ge g 77 dX7_closeUpwards_48 (by decide) (fun b4 => ?_) (fun b4 => ?_)
    · have h := ob_pos b4 h
      obtain rfl := Option.some.inj h
      exact u_sub [0, 1] rfl K
    · have h := ob_neg b4 h
      refine u_aload_n g 0 dX7_closeUpwards_51 rfl ?_
      refine gfX7_0 g (c := 255) rfl wf_X7_11 dX7_closeUpwards_52 ?_
      refine u_iload_n g 2 dX7_closeUpwards_55 rfl ?_
      refine u_dup2 g dX7_closeUpwards_56 rfl rfl ?_
      obtain ⟨e5, h⟩ := ob_if h
      refine aX_lld g (c := 256) 1024 (by decide) rfl (v := (M.2 256 v2.toNatClampNeg)) (inB_in e5) rfl dX7_closeUpwards_57 ?_
      refine u_aload_n g 0 dX7_closeUpwards_58 rfl ?_
      refine gfX7_0 g (c := 255) rfl wf_X7_11 dX7_closeUpwards_59 ?_
      refine u_iload_n g 2 dX7_closeUpwards_62 rfl ?_
      refine u_iload_n g 1 dX7_closeUpwards_63 rfl ?_
      refine u_isub g dX7_closeUpwards_64 ?_
      obtain ⟨e6, h⟩ := ob_if h
      refine aX_lld g (c := 256) 1024 (by decide) rfl (v := (M.2 256 (v2 - a1).toNatClampNeg)) (inB_in e6) rfl dX7_closeUpwards_65 ?_
      refine u_lor g dX7_closeUpwards_66 ?_
      obtain ⟨e7, h⟩ := ob_if h
      refine aX_lst g (c := 256) 1024 (by decide) rfl (inB_in e7) (j := v2.toNatClampNeg) rfl dX7_closeUpwards_67 ?_
      refine u_iload_n g 2 dX7_closeUpwards_68 rfl ?_
      refine u_iconst g (v := (1 : Int32)) dX7_closeUpwards_69 rfl ?_
      refine u_iadd g dX7_closeUpwards_70 ?_
      refine u_iload_n g 1 dX7_closeUpwards_71 rfl ?_
      refine u_ior g dX7_closeUpwards_72 ?_
      refine u_istore_n g [(2, .int ((v2 + (1 : Int32)) ||| a1)), (0, .ref (w.2.2.1 255)), (1, .int a1)] dX7_closeUpwards_73 (by decide) rfl ?_
      refine u_goto g 43 dX7_closeUpwards_74 (by decide) ?_
      exact u_sub [1, 2, 0] rfl (ih ((v2 + (1 : Int32)) ||| a1) (sL M 256 v2.toNatClampNeg ((M.2 256 v2.toNatClampNeg) ||| (M.2 256 (v2 - a1).toNatClampNeg))) _ h K)
set_option maxRecDepth 100000 in
set_option maxHeartbeats 4000000 in
theorem s_X7_closeUpwards_l2 {w : Wp} {x : Cx} {r : Option Value × Mem} (g : Gd shX w x RX7 cX7_closeUpwards 3 none 1)   : ∀ (n : Nat) (v1 : Int32) (M : Mem) (q : Mem), f_X7_closeUpwards_l2 n v1 M = some q → U shX w x r q 84 [] [] → U shX w x r M 33 [(0, .ref (w.2.2.1 255)), (1, .int v1)] [] := by
  intro n
  induction n with
  | zero => intro v1 M q h K; rw [f_X7_closeUpwards_l2] at h; cases h
  | succ n ih =>
    intro v1 M q h K
    rw [f_X7_closeUpwards_l2] at h
    refine u_iload_n g 1 dX7_closeUpwards_33 rfl ?_
    refine u_aload_n g 0 dX7_closeUpwards_34 rfl ?_
    refine gfX7_2 g (c := 255) rfl wf_X7_18 (v := (M.1 255 2)) rfl dX7_closeUpwards_35 ?_
    refine u_icmp_ge g 84 dX7_closeUpwards_38 (by decide) (fun b3 => ?_) (fun b3 => ?_)
    · have h := ob_pos b3 h
      obtain rfl := Option.some.inj h
      exact u_sub [] rfl K
    · have h := ob_neg b3 h
      refine u_iload_n g 1 dX7_closeUpwards_41 rfl ?_
      refine u_istore_n g [(2, .int v1), (0, .ref (w.2.2.1 255)), (1, .int v1)] dX7_closeUpwards_42 (by decide) rfl ?_
      obtain ⟨q4, hq5, h⟩ := ob_bind h
      refine u_sub [1, 2, 0] rfl (s_X7_closeUpwards_l3 g v1 fuelN v1 M _ hq5 ?_)
      show U shX w x r q4 77 [(0, .ref (w.2.2.1 255)), (1, .int v1)] []
      refine u_iload_n g 1 dX7_closeUpwards_77 rfl ?_
      refine u_iconst g (v := (1 : Int32)) dX7_closeUpwards_78 rfl ?_
      refine u_ishl g dX7_closeUpwards_79 ?_
      refine u_istore_n g [(1, .int (v1 <<< ((1 : Int32) &&& 31))), (0, .ref (w.2.2.1 255))] dX7_closeUpwards_80 (by decide) rfl ?_
      refine u_goto g 33 dX7_closeUpwards_81 (by decide) ?_
      exact u_sub [1, 0] rfl (ih (v1 <<< ((1 : Int32) &&& 31)) q4 _ h K)
set_option maxRecDepth 100000 in
set_option maxHeartbeats 4000000 in
theorem t_X7_closeUpwards (w : Wp) (l : Launch)  {M : Mem} {q : Mem} (h : f_X7_closeUpwards M = some q) : Ct shX w l yX7_closeUpwards cX7_closeUpwards 3 none 1 [.ref (w.2.2.1 255)] M (none, q) := by
  rw [f_X7_closeUpwards] at h
  refine ct_of shX_loc (by decide) (Nat.le_of_ble_eq_true rfl) rfl (fun x hx g => ?_)
  subst hx
  show U shX w x _ M 0 [(0, .ref (w.2.2.1 255))] []
  generalize hr : ((none, q) : Option Value × Mem) = r
  have g : Gd shX w x RX7 cX7_closeUpwards 3 none 1 := g
  refine u_iconst g (v := (0 : Int32)) dX7_closeUpwards_0 rfl ?_
  refine u_istore_n g [(1, .int (0 : Int32)), (0, .ref (w.2.2.1 255))] dX7_closeUpwards_1 (by decide) rfl ?_
  obtain ⟨q1, hq2, h⟩ := ob_bind h
  refine u_sub [1, 0] rfl (s_X7_closeUpwards_l1 g fuelN (0 : Int32) M _ hq2 ?_)
  show U shX w x r q1 31 [(0, .ref (w.2.2.1 255))] []
  refine u_iconst g (v := (1 : Int32)) dX7_closeUpwards_31 rfl ?_
  refine u_istore_n g [(1, .int (1 : Int32)), (0, .ref (w.2.2.1 255))] dX7_closeUpwards_32 (by decide) rfl ?_
  obtain ⟨q3, hq4, h⟩ := ob_bind h
  refine u_sub [1, 0] rfl (s_X7_closeUpwards_l2 g fuelN (1 : Int32) q1 _ hq4 ?_)
  show U shX w x r q3 84 [] []
  exact u_vret g dX7_closeUpwards_84 (by rw [← hr]; obtain rfl := Option.some.inj h; rfl)
set_option maxRecDepth 100000 in
set_option maxHeartbeats 4000000 in
theorem t_X3_gatherHolding (w : Wp) (l : Launch) {t1 : Nat} {M : Mem} {q : Mem} (h : f_X3_gatherHolding t1 M = some q) : Ct shX w l yX3_gatherHolding cX3_gatherHolding 2 none 2 [.ref (w.2.2.1 254), .ref (w.2.2.1 t1)] M (none, q) := by
  rw [f_X3_gatherHolding] at h
  obtain ⟨h1, h⟩ := ob_if h
  refine ct_of shX_loc (by decide) (Nat.le_of_ble_eq_true rfl) rfl (fun x hx g => ?_)
  subst hx
  show U shX w x _ M 0 [(0, .ref (w.2.2.1 254)), (1, .ref (w.2.2.1 t1))] []
  generalize hr : ((none, q) : Option Value × Mem) = r
  have g : Gd shX w x RX3 cX3_gatherHolding 2 none 2 := g
  refine u_aload_n g 0 dX3_gatherHolding_0 rfl ?_
  refine u_aload_n g 1 dX3_gatherHolding_1 rfl ?_
  refine u_iconst g (v := (-1 : Int32)) dX3_gatherHolding_2 rfl ?_
  obtain ⟨q1, hq2, h⟩ := ob_bind h
  refine u_callV (st := []) g wv_X3_106 [.ref (w.2.2.1 t1), .int (-1 : Int32)] (kX_lt (show kX 254 = 3 from rfl) rfl) (ceX_3 (show kX 254 = 3 from rfl)) rfl rfl (t_X3_gatherWithin w x.2.1 hq2) (by decide) (by decide) rfl (Nat.le_of_ble_eq_true rfl) rfl dX3_gatherHolding_3 ?_
  show U shX w x r q1 6 [(0, .ref (w.2.2.1 254)), (1, .ref (w.2.2.1 t1))] []
  refine u_aload_n g 0 dX3_gatherHolding_6 rfl ?_
  refine gfX3_0 g (c := 254) rfl wf_X3_12 dX3_gatherHolding_7 ?_
  obtain ⟨q3, hq4, h⟩ := ob_bind h
  refine u_callV (st := []) g wv_X3_110 [] (kX_lt (show kX 255 = 7 from rfl) rfl) (ceX_7 (show kX 255 = 7 from rfl)) rfl rfl (t_X7_closeUpwards w x.2.1 hq4) (by decide) (by decide) rfl (Nat.le_of_ble_eq_true rfl) rfl dX3_gatherHolding_10 ?_
  show U shX w x r q3 13 [(0, .ref (w.2.2.1 254)), (1, .ref (w.2.2.1 t1))] []
  exact u_vret g dX3_gatherHolding_13 (by rw [← hr]; obtain rfl := Option.some.inj h; rfl)
set_option maxRecDepth 100000 in
set_option maxHeartbeats 4000000 in
theorem s_X7_turnedWord_l1 {w : Wp} {x : Cx} {r : Option Value × Mem} (g : Gd shX w x RX7 cX7_turnedWord 6 (some .long) 0)   (M : Mem) : ∀ (n : Nat) (v2 : Int64) (v4 : Int32) (q : Int64), f_X7_turnedWord_l1 n v2 v4 = some q → U shX w x r M 48 [(2, .long q)] [] → U shX w x r M 5 [(2, .long v2), (4, .int v4)] [] := by
  intro n
  induction n with
  | zero => intro v2 v4 q h K; rw [f_X7_turnedWord_l1] at h; cases h
  | succ n ih =>
    intro v2 v4 q h K
    rw [f_X7_turnedWord_l1] at h
    refine u_iload g 1 dX7_turnedWord_5 rfl ?_
    refine u_bipush g (v := (6 : Int32)) dX7_turnedWord_7 rfl ?_
    refine u_icmp_ge g 48 dX7_turnedWord_9 (by decide) (fun b1 => ?_) (fun b1 => ?_)
    · have h := ob_pos b1 h
      obtain rfl := Option.some.inj h
      exact u_sub [0] rfl K
    · have h := ob_neg b1 h
      refine u_iconst g (v := (1 : Int32)) dX7_turnedWord_12 rfl ?_
      refine u_iload g 1 dX7_turnedWord_13 rfl ?_
      refine u_ishl g dX7_turnedWord_15 ?_
      refine u_istore g [(5, .int ((1 : Int32) <<< (v4 &&& 31))), (2, .long v2), (4, .int v4)] dX7_turnedWord_16 (by decide) rfl ?_
      refine u_lload_n g 1 dX7_turnedWord_18 rfl ?_
      refine u_getsW g wf_X7_86 dX7_turnedWord_19 ?_
      refine u_iload g 2 dX7_turnedWord_22 rfl ?_
      obtain ⟨e2, h⟩ := ob_if h
      refine u_tlW g (inB_in e2) dX7_turnedWord_24 ?_
      refine u_land g dX7_turnedWord_25 ?_
      refine u_iload g 0 dX7_turnedWord_26 rfl ?_
      refine u_lshl g dX7_turnedWord_28 ?_
      refine u_lload_n g 1 dX7_turnedWord_29 rfl ?_
      refine u_iload g 0 dX7_turnedWord_30 rfl ?_
      refine u_lushr g dX7_turnedWord_32 ?_
      refine u_getsW g wf_X7_86 dX7_turnedWord_33 ?_
      refine u_iload g 2 dX7_turnedWord_36 rfl ?_
      obtain ⟨e3, h⟩ := ob_if h
      refine u_tlW g (inB_in e3) dX7_turnedWord_38 ?_
      refine u_land g dX7_turnedWord_39 ?_
      refine u_lor g dX7_turnedWord_40 ?_
      refine u_lstore_n g [(2, .long ((lshl (v2 &&& (WL v4.toNatClampNeg)) ((1 : Int32) <<< (v4 &&& 31))) ||| ((lushr v2 ((1 : Int32) <<< (v4 &&& 31))) &&& (WL v4.toNatClampNeg)))), (5, .int ((1 : Int32) <<< (v4 &&& 31))), (4, .int v4)] dX7_turnedWord_41 (by decide) rfl ?_
      refine u_iinc g 2 [(4, .int (v4 + (1 : Int32))), (2, .long ((lshl (v2 &&& (WL v4.toNatClampNeg)) ((1 : Int32) <<< (v4 &&& 31))) ||| ((lushr v2 ((1 : Int32) <<< (v4 &&& 31))) &&& (WL v4.toNatClampNeg)))), (5, .int ((1 : Int32) <<< (v4 &&& 31)))] dX7_turnedWord_42 rfl rfl (by decide) rfl ?_
      refine u_goto g 5 dX7_turnedWord_45 (by decide) ?_
      exact u_sub [1, 0] rfl (ih ((lshl (v2 &&& (WL v4.toNatClampNeg)) ((1 : Int32) <<< (v4 &&& 31))) ||| ((lushr v2 ((1 : Int32) <<< (v4 &&& 31))) &&& (WL v4.toNatClampNeg))) (v4 + (1 : Int32)) _ h K)
set_option maxRecDepth 100000 in
set_option maxHeartbeats 4000000 in
theorem t_X7_turnedWord (w : Wp) (l : Launch) {a0 : Int64} {M : Mem} {q : Int64} (h : f_X7_turnedWord a0 = some q) : Ct shX w l yX7_turnedWord cX7_turnedWord 6 (some .long) 0 [.long a0] M (some (.long q), M) := by
  rw [f_X7_turnedWord] at h
  refine ct_of shX_loc (by decide) (Nat.le_of_ble_eq_true rfl) rfl (fun x hx g => ?_)
  subst hx
  show U shX w x _ M 0 [(0, .long a0)] []
  generalize hr : ((some (.long q), M) : Option Value × Mem) = r
  have g : Gd shX w x RX7 cX7_turnedWord 6 (some .long) 0 := g
  refine u_lload_n g 0 dX7_turnedWord_0 rfl ?_
  refine u_lstore_n g [(2, .long a0), (0, .long a0)] dX7_turnedWord_1 (by decide) rfl ?_
  refine u_iconst g (v := (0 : Int32)) dX7_turnedWord_2 rfl ?_
  refine u_istore g [(4, .int (0 : Int32)), (2, .long a0), (0, .long a0)] dX7_turnedWord_3 (by decide) rfl ?_
  obtain ⟨q1, hq2, h⟩ := ob_bind h
  refine u_sub [1, 0] rfl (s_X7_turnedWord_l1 g M fuelN a0 (0 : Int32) _ hq2 ?_)
  show U shX w x r M 48 [(2, .long q1)] []
  refine u_lload_n g 0 dX7_turnedWord_48 rfl ?_
  exact u_lret g dX7_turnedWord_49 (by rw [← hr]; obtain rfl := Option.some.inj h; rfl)
set_option maxRecDepth 100000 in
set_option maxHeartbeats 4000000 in
theorem s_X7_turnIntoMeeting_l1 {w : Wp} {x : Cx} {r : Option Value × Mem} (g : Gd shX w x RX7 cX7_turnIntoMeeting 7 none 1)   : ∀ (n : Nat) (v1 : Int32) (v2 : Int32) (M : Mem) (q : Mem), f_X7_turnIntoMeeting_l1 n v1 v2 M = some q → U shX w x r q 67 [] [] → U shX w x r M 9 [(0, .ref (w.2.2.1 255)), (1, .int v1), (2, .int v2)] [] := by
  intro n
  induction n with
  | zero => intro v1 v2 M q h K; rw [f_X7_turnIntoMeeting_l1] at h; cases h
  | succ n ih =>
    intro v1 v2 M q h K
    rw [f_X7_turnIntoMeeting_l1] at h
    refine u_iload_n g 1 dX7_turnIntoMeeting_9 rfl ?_
    refine u_iload_n g 2 dX7_turnIntoMeeting_10 rfl ?_
    refine u_icmp_gt g 67 dX7_turnIntoMeeting_11 (by decide) (fun b1 => ?_) (fun b1 => ?_)
    · have h := ob_pos b1 h
      obtain rfl := Option.some.inj h
      exact u_sub [] rfl K
    · have h := ob_neg b1 h
      refine u_aload_n g 0 dX7_turnIntoMeeting_14 rfl ?_
      refine gfX7_0 g (c := 255) rfl wf_X7_11 dX7_turnIntoMeeting_15 ?_
      refine u_iload_n g 1 dX7_turnIntoMeeting_18 rfl ?_
      obtain ⟨e2, h⟩ := ob_if h
      refine aX_lld g (c := 256) 1024 (by decide) rfl (v := (M.2 256 v1.toNatClampNeg)) (inB_in e2) rfl dX7_turnIntoMeeting_19 ?_
      obtain ⟨q3, hq4, h⟩ := ob_bind h
      refine u_callS (st := []) g wv_X7_40 [.long (M.2 256 v1.toNatClampNeg)] (t_X7_turnedWord w x.2.1 hq4) (by decide) (by decide) rfl (Nat.le_of_ble_eq_true rfl) rfl dX7_turnIntoMeeting_20 ?_
      show U shX w x r M 23 [(0, .ref (w.2.2.1 255)), (1, .int v1), (2, .int v2)] [.long q3]
      refine u_ldc2_w g wk_X7_38 dX7_turnIntoMeeting_23 ?_
      refine u_lxor g dX7_turnIntoMeeting_26 ?_
      refine u_lstore_n g [(3, .long (q3 ^^^ (-1 : Int64))), (0, .ref (w.2.2.1 255)), (1, .int v1), (2, .int v2)] dX7_turnIntoMeeting_27 (by decide) rfl ?_
      refine u_aload_n g 1 dX7_turnIntoMeeting_28 rfl ?_
      refine gfX7_0 g (c := 255) rfl wf_X7_11 dX7_turnIntoMeeting_29 ?_
      refine u_iload_n g 3 dX7_turnIntoMeeting_32 rfl ?_
      obtain ⟨e5, h⟩ := ob_if h
      refine aX_lld g (c := 256) 1024 (by decide) rfl (v := (M.2 256 v2.toNatClampNeg)) (inB_in e5) rfl dX7_turnIntoMeeting_33 ?_
      obtain ⟨q6, hq7, h⟩ := ob_bind h
      refine u_callS (st := []) g wv_X7_40 [.long (M.2 256 v2.toNatClampNeg)] (t_X7_turnedWord w x.2.1 hq7) (by decide) (by decide) rfl (Nat.le_of_ble_eq_true rfl) rfl dX7_turnIntoMeeting_34 ?_
      show U shX w x r M 37 [(3, .long (q3 ^^^ (-1 : Int64))), (0, .ref (w.2.2.1 255)), (1, .int v1), (2, .int v2)] [.long q6]
      refine u_ldc2_w g wk_X7_38 dX7_turnIntoMeeting_37 ?_
      refine u_lxor g dX7_turnIntoMeeting_40 ?_
      refine u_lstore g [(5, .long (q6 ^^^ (-1 : Int64))), (3, .long (q3 ^^^ (-1 : Int64))), (0, .ref (w.2.2.1 255)), (1, .int v1), (2, .int v2)] dX7_turnIntoMeeting_41 (by decide) rfl ?_
      refine u_aload_n g 2 dX7_turnIntoMeeting_43 rfl ?_
      refine gfX7_0 g (c := 255) rfl wf_X7_11 dX7_turnIntoMeeting_44 ?_
      refine u_iload_n g 3 dX7_turnIntoMeeting_47 rfl ?_
      refine u_lload g 0 dX7_turnIntoMeeting_48 rfl ?_
      obtain ⟨e8, h⟩ := ob_if h
      refine aX_lst g (c := 256) 1024 (by decide) rfl (inB_in e8) (j := v1.toNatClampNeg) rfl dX7_turnIntoMeeting_50 ?_
      refine u_aload_n g 2 dX7_turnIntoMeeting_51 rfl ?_
      refine gfX7_0 g (c := 255) rfl wf_X7_11 dX7_turnIntoMeeting_52 ?_
      refine u_iload_n g 4 dX7_turnIntoMeeting_55 rfl ?_
      refine u_lload_n g 1 dX7_turnIntoMeeting_56 rfl ?_
      obtain ⟨e9, h⟩ := ob_if h
      refine aX_lst g (c := 256) 1024 (by decide) rfl (inB_in e9) (j := v2.toNatClampNeg) rfl dX7_turnIntoMeeting_57 ?_
      refine u_iinc g 3 [(1, .int (v1 + (1 : Int32))), (5, .long (q6 ^^^ (-1 : Int64))), (3, .long (q3 ^^^ (-1 : Int64))), (0, .ref (w.2.2.1 255)), (2, .int v2)] dX7_turnIntoMeeting_58 rfl rfl (by decide) rfl ?_
      refine u_iinc g 4 [(2, .int (v2 + (-1 : Int32))), (1, .int (v1 + (1 : Int32))), (5, .long (q6 ^^^ (-1 : Int64))), (3, .long (q3 ^^^ (-1 : Int64))), (0, .ref (w.2.2.1 255))] dX7_turnIntoMeeting_61 rfl rfl (by decide) rfl ?_
      refine u_goto g 9 dX7_turnIntoMeeting_64 (by decide) ?_
      exact u_sub [4, 1, 0] rfl (ih (v1 + (1 : Int32)) (v2 + (-1 : Int32)) (sL (sL M 256 v1.toNatClampNeg (q6 ^^^ (-1 : Int64))) 256 v2.toNatClampNeg (q3 ^^^ (-1 : Int64))) _ h K)
set_option maxRecDepth 100000 in
set_option maxHeartbeats 4000000 in
theorem t_X7_turnIntoMeeting (w : Wp) (l : Launch)  {M : Mem} {q : Mem} (h : f_X7_turnIntoMeeting M = some q) : Ct shX w l yX7_turnIntoMeeting cX7_turnIntoMeeting 7 none 1 [.ref (w.2.2.1 255)] M (none, q) := by
  rw [f_X7_turnIntoMeeting] at h
  refine ct_of shX_loc (by decide) (Nat.le_of_ble_eq_true rfl) rfl (fun x hx g => ?_)
  subst hx
  show U shX w x _ M 0 [(0, .ref (w.2.2.1 255))] []
  generalize hr : ((none, q) : Option Value × Mem) = r
  have g : Gd shX w x RX7 cX7_turnIntoMeeting 7 none 1 := g
  refine u_iconst g (v := (0 : Int32)) dX7_turnIntoMeeting_0 rfl ?_
  refine u_istore_n g [(1, .int (0 : Int32)), (0, .ref (w.2.2.1 255))] dX7_turnIntoMeeting_1 (by decide) rfl ?_
  refine u_aload_n g 1 dX7_turnIntoMeeting_2 rfl ?_
  refine gfX7_2 g (c := 255) rfl wf_X7_18 (v := (M.1 255 2)) rfl dX7_turnIntoMeeting_3 ?_
  refine u_iconst g (v := (1 : Int32)) dX7_turnIntoMeeting_6 rfl ?_
  refine u_isub g dX7_turnIntoMeeting_7 ?_
  refine u_istore_n g [(2, .int ((M.1 255 2) - (1 : Int32))), (1, .int (0 : Int32)), (0, .ref (w.2.2.1 255))] dX7_turnIntoMeeting_8 (by decide) rfl ?_
  obtain ⟨q1, hq2, h⟩ := ob_bind h
  refine u_sub [2, 1, 0] rfl (s_X7_turnIntoMeeting_l1 g fuelN (0 : Int32) ((M.1 255 2) - (1 : Int32)) M _ hq2 ?_)
  show U shX w x r q1 67 [] []
  exact u_vret g dX7_turnIntoMeeting_67 (by rw [← hr]; obtain rfl := Option.some.inj h; rfl)
set_option maxRecDepth 100000 in
set_option maxHeartbeats 4000000 in
theorem t_X3_gatherMeeting (w : Wp) (l : Launch) {t1 : Nat} {M : Mem} {q : Mem} (h : f_X3_gatherMeeting t1 M = some q) : Ct shX w l yX3_gatherMeeting cX3_gatherMeeting 2 none 3 [.ref (w.2.2.1 254), .ref (w.2.2.1 t1)] M (none, q) := by
  rw [f_X3_gatherMeeting] at h
  obtain ⟨h1, h⟩ := ob_if h
  refine ct_of shX_loc (by decide) (Nat.le_of_ble_eq_true rfl) rfl (fun x hx g => ?_)
  subst hx
  show U shX w x _ M 0 [(0, .ref (w.2.2.1 254)), (1, .ref (w.2.2.1 t1))] []
  generalize hr : ((none, q) : Option Value × Mem) = r
  have g : Gd shX w x RX3 cX3_gatherMeeting 2 none 3 := g
  refine u_aload_n g 0 dX3_gatherMeeting_0 rfl ?_
  refine u_aload_n g 1 dX3_gatherMeeting_1 rfl ?_
  obtain ⟨q1, hq2, h⟩ := ob_bind h
  refine u_callV (st := []) g wv_X3_113 [.ref (w.2.2.1 t1)] (kX_lt (show kX 254 = 3 from rfl) rfl) (ceX_3 (show kX 254 = 3 from rfl)) rfl rfl (t_X3_gatherHolding w x.2.1 hq2) (by decide) (by decide) rfl (Nat.le_of_ble_eq_true rfl) rfl dX3_gatherMeeting_2 ?_
  show U shX w x r q1 5 [(0, .ref (w.2.2.1 254)), (1, .ref (w.2.2.1 t1))] []
  refine u_aload_n g 0 dX3_gatherMeeting_5 rfl ?_
  refine gfX3_0 g (c := 254) rfl wf_X3_12 dX3_gatherMeeting_6 ?_
  obtain ⟨q3, hq4, h⟩ := ob_bind h
  refine u_callV (st := []) g wv_X3_117 [] (kX_lt (show kX 255 = 7 from rfl) rfl) (ceX_7 (show kX 255 = 7 from rfl)) rfl rfl (t_X7_turnIntoMeeting w x.2.1 hq4) (by decide) (by decide) rfl (Nat.le_of_ble_eq_true rfl) rfl dX3_gatherMeeting_9 ?_
  show U shX w x r q3 12 [(0, .ref (w.2.2.1 254)), (1, .ref (w.2.2.1 t1))] []
  exact u_vret g dX3_gatherMeeting_12 (by rw [← hr]; obtain rfl := Option.some.inj h; rfl)
set_option maxRecDepth 100000 in
set_option maxHeartbeats 4000000 in
theorem s_X7_nextOpen_l1 {w : Wp} {x : Cx} {r : Option Value × Mem} (g : Gd shX w x RX7 cX7_nextOpen 5 (some .int) 2)   (M : Mem) : ∀ (n : Nat) (v2 : Int32) (q : (Unit) ⊕ (Int32)), f_X7_nextOpen_l1 M n v2 = some q → (∀ e : Unit, q = .inl e → U shX w x r M 67 [] []) → (∀ v : Int32, q = .inr v → r = (some (.int v), M)) → U shX w x r M 5 [(0, .ref (w.2.2.1 255)), (2, .int v2)] [] := by
  intro n
  induction n with
  | zero => intro v2 q h K1 K2; rw [f_X7_nextOpen_l1] at h; cases h
  | succ n ih =>
    intro v2 q h K1 K2
    rw [f_X7_nextOpen_l1] at h
    refine u_iload_n g 1 dX7_nextOpen_5 rfl ?_
    refine u_aload_n g 0 dX7_nextOpen_6 rfl ?_
    refine gfX7_2 g (c := 255) rfl wf_X7_18 (v := (M.1 255 2)) rfl dX7_nextOpen_7 ?_
    refine u_icmp_ge g 67 dX7_nextOpen_10 (by decide) (fun b1 => ?_) (fun b1 => ?_)
    · have h := ob_pos b1 h
      exact u_sub [] rfl (K1 _ (Option.some.inj h).symm)
    · have h := ob_neg b1 h
      refine u_aload_n g 0 dX7_nextOpen_13 rfl ?_
      refine gfX7_0 g (c := 255) rfl wf_X7_11 dX7_nextOpen_14 ?_
      refine u_iload_n g 1 dX7_nextOpen_17 rfl ?_
      obtain ⟨e2, h⟩ := ob_if h
      refine aX_lld g (c := 256) 1024 (by decide) rfl (v := (M.2 256 v2.toNatClampNeg)) (inB_in e2) rfl dX7_nextOpen_18 ?_
      refine u_ldc2_w g wk_X7_38 dX7_nextOpen_19 ?_
      refine u_lxor g dX7_nextOpen_22 ?_
      refine u_aload_n g 0 dX7_nextOpen_23 rfl ?_
      refine gfX7_0 g (c := 255) rfl wf_X7_11 dX7_nextOpen_24 ?_
      refine u_aload_n g 0 dX7_nextOpen_27 rfl ?_
      refine gfX7_2 g (c := 255) rfl wf_X7_18 (v := (M.1 255 2)) rfl dX7_nextOpen_28 ?_
      refine u_iconst g (v := (1 : Int32)) dX7_nextOpen_31 rfl ?_
      refine u_isub g dX7_nextOpen_32 ?_
      refine u_iload_n g 1 dX7_nextOpen_33 rfl ?_
      refine u_isub g dX7_nextOpen_34 ?_
      obtain ⟨e3, h⟩ := ob_if h
      refine aX_lld g (c := 256) 1024 (by decide) rfl (v := (M.2 256 (((M.1 255 2) - (1 : Int32)) - v2).toNatClampNeg)) (inB_in e3) rfl dX7_nextOpen_35 ?_
      obtain ⟨q4, hq5, h⟩ := ob_bind h
      refine u_callS (st := [.long ((M.2 256 v2.toNatClampNeg) ^^^ (-1 : Int64))]) g wv_X7_40 [.long (M.2 256 (((M.1 255 2) - (1 : Int32)) - v2).toNatClampNeg)] (t_X7_turnedWord w x.2.1 hq5) (by decide) (by decide) rfl (Nat.le_of_ble_eq_true rfl) rfl dX7_nextOpen_36 ?_
      show U shX w x r M 39 [(0, .ref (w.2.2.1 255)), (2, .int v2)] [.long q4, .long ((M.2 256 v2.toNatClampNeg) ^^^ (-1 : Int64))]
      refine u_ldc2_w g wk_X7_38 dX7_nextOpen_39 ?_
      refine u_lxor g dX7_nextOpen_42 ?_
      refine u_land g dX7_nextOpen_43 ?_
      refine u_lstore_n g [(3, .long (((M.2 256 v2.toNatClampNeg) ^^^ (-1 : Int64)) &&& (q4 ^^^ (-1 : Int64)))), (0, .ref (w.2.2.1 255)), (2, .int v2)] dX7_nextOpen_44 (by decide) rfl ?_
      refine u_lload_n g 0 dX7_nextOpen_45 rfl ?_
      refine u_lconst g (v := (0 : Int64)) dX7_nextOpen_46 rfl ?_
      refine u_lcmp g dX7_nextOpen_47 ?_
      refine u_if_eq g 61 dX7_nextOpen_48 (by decide) (fun b6 => ?_) (fun b6 => ?_)
      · have h := ob_pos b6 h
        refine u_iinc g 2 [(2, .int (v2 + (1 : Int32))), (3, .long (((M.2 256 v2.toNatClampNeg) ^^^ (-1 : Int64)) &&& (q4 ^^^ (-1 : Int64)))), (0, .ref (w.2.2.1 255))] dX7_nextOpen_61 rfl rfl (by decide) rfl ?_
        refine u_goto g 5 dX7_nextOpen_64 (by decide) ?_
        exact u_sub [2, 0] rfl (ih (v2 + (1 : Int32)) _ h K1 K2)
      · have h := ob_neg b6 h
        refine u_iload_n g 2 dX7_nextOpen_51 rfl ?_
        refine u_bipush g (v := (6 : Int32)) dX7_nextOpen_52 rfl ?_
        refine u_ishl g dX7_nextOpen_54 ?_
        refine u_lload_n g 0 dX7_nextOpen_55 rfl ?_
        obtain ⟨q7, hq8, h⟩ := ob_bind h
        refine u_callS (st := [.int (v2 <<< ((6 : Int32) &&& 31))]) g wv_X7_51 [.long (((M.2 256 v2.toNatClampNeg) ^^^ (-1 : Int64)) &&& (q4 ^^^ (-1 : Int64)))] (t_X7_lowestBit w x.2.1 hq8) (by decide) (by decide) rfl (Nat.le_of_ble_eq_true rfl) rfl dX7_nextOpen_56 ?_
        show U shX w x r M 59 [(3, .long (((M.2 256 v2.toNatClampNeg) ^^^ (-1 : Int64)) &&& (q4 ^^^ (-1 : Int64)))), (0, .ref (w.2.2.1 255)), (2, .int v2)] [.int q7, .int (v2 <<< ((6 : Int32) &&& 31))]
        refine u_iadd g dX7_nextOpen_59 ?_
        exact u_iret g dX7_nextOpen_60 (K2 _ (Option.some.inj h).symm)
set_option maxRecDepth 100000 in
set_option maxHeartbeats 4000000 in
theorem t_X7_nextOpen (w : Wp) (l : Launch) {a1 : Int32} {M : Mem} {q : Int32} (h : f_X7_nextOpen a1 M = some q) : Ct shX w l yX7_nextOpen cX7_nextOpen 5 (some .int) 2 [.ref (w.2.2.1 255), .int a1] M (some (.int q), M) := by
  rw [f_X7_nextOpen] at h
  refine ct_of shX_loc (by decide) (Nat.le_of_ble_eq_true rfl) rfl (fun x hx g => ?_)
  subst hx
  show U shX w x _ M 0 [(0, .ref (w.2.2.1 255)), (1, .int a1)] []
  generalize hr : ((some (.int q), M) : Option Value × Mem) = r
  have g : Gd shX w x RX7 cX7_nextOpen 5 (some .int) 2 := g
  refine u_iload_n g 1 dX7_nextOpen_0 rfl ?_
  refine u_bipush g (v := (6 : Int32)) dX7_nextOpen_1 rfl ?_
  refine u_iushr g dX7_nextOpen_3 ?_
  refine u_istore_n g [(2, .int (iushr a1 (6 : Int32))), (0, .ref (w.2.2.1 255)), (1, .int a1)] dX7_nextOpen_4 (by decide) rfl ?_
  obtain ⟨q1, hq2, h⟩ := ob_bind h
  refine u_sub [1, 0] rfl (s_X7_nextOpen_l1 g M fuelN (iushr a1 (6 : Int32)) _ hq2 (fun e3 he5 => ?_) (fun v4 he5 => ?_))
  · subst he5
    have h := ob_inl h
    refine u_iconst g (v := (-1 : Int32)) dX7_nextOpen_67 rfl ?_
    exact u_iret g dX7_nextOpen_68 (by rw [← hr]; obtain rfl := Option.some.inj h; rfl)
  · subst he5
    have h := ob_inr h
    obtain rfl := Option.some.inj h
    exact hr.symm
set_option maxRecDepth 100000 in
set_option maxHeartbeats 4000000 in
theorem s_X7_putUpwards_l1 {w : Wp} {x : Cx} {r : Option Value × Mem} (g : Gd shX w x RX7 cX7_putUpwards 6 none 1) (a2 : Int64) (a4 : Int32)  : ∀ (n : Nat) (v5 : Int32) (M : Mem) (q : Mem), f_X7_putUpwards_l1 a2 a4 n v5 M = some q → U shX w x r q 52 [] [] → U shX w x r M 20 [(0, .ref (w.2.2.1 255)), (2, .long a2), (4, .int a4), (5, .int v5)] [] := by
  intro n
  induction n with
  | zero => intro v5 M q h K; rw [f_X7_putUpwards_l1] at h; cases h
  | succ n ih =>
    intro v5 M q h K
    rw [f_X7_putUpwards_l1] at h
    refine u_iload g 3 dX7_putUpwards_20 rfl ?_
    refine u_aload_n g 0 dX7_putUpwards_22 rfl ?_
    refine gfX7_2 g (c := 255) rfl wf_X7_18 (v := (M.1 255 2)) rfl dX7_putUpwards_23 ?_
    refine u_icmp_ge g 52 dX7_putUpwards_26 (by decide) (fun b3 => ?_) (fun b3 => ?_)
    · have h := ob_pos b3 h
      obtain rfl := Option.some.inj h
      exact u_sub [] rfl K
    · have h := ob_neg b3 h
      refine u_aload_n g 0 dX7_putUpwards_29 rfl ?_
      refine gfX7_0 g (c := 255) rfl wf_X7_11 dX7_putUpwards_30 ?_
      refine u_iload g 3 dX7_putUpwards_33 rfl ?_
      refine u_dup2 g dX7_putUpwards_35 rfl rfl ?_
      obtain ⟨e4, h⟩ := ob_if h
      refine aX_lld g (c := 256) 1024 (by decide) rfl (v := (M.2 256 v5.toNatClampNeg)) (inB_in e4) rfl dX7_putUpwards_36 ?_
      refine u_lload_n g 1 dX7_putUpwards_37 rfl ?_
      refine u_lor g dX7_putUpwards_38 ?_
      obtain ⟨e5, h⟩ := ob_if h
      refine aX_lst g (c := 256) 1024 (by decide) rfl (inB_in e5) (j := v5.toNatClampNeg) rfl dX7_putUpwards_39 ?_
      refine u_iload g 3 dX7_putUpwards_40 rfl ?_
      refine u_iconst g (v := (1 : Int32)) dX7_putUpwards_42 rfl ?_
      refine u_iadd g dX7_putUpwards_43 ?_
      refine u_iload g 2 dX7_putUpwards_44 rfl ?_
      refine u_ior g dX7_putUpwards_46 ?_
      refine u_istore g [(5, .int ((v5 + (1 : Int32)) ||| a4)), (0, .ref (w.2.2.1 255)), (2, .long a2), (4, .int a4)] dX7_putUpwards_47 (by decide) rfl ?_
      refine u_goto g 20 dX7_putUpwards_49 (by decide) ?_
      exact u_sub [1, 2, 3, 0] rfl (ih ((v5 + (1 : Int32)) ||| a4) (sL M 256 v5.toNatClampNeg ((M.2 256 v5.toNatClampNeg) ||| a2)) _ h K)
set_option maxRecDepth 100000 in
set_option maxHeartbeats 4000000 in
theorem t_X7_putUpwards (w : Wp) (l : Launch) {a1 : Int32} {M : Mem} {q : Mem} (h : f_X7_putUpwards a1 M = some q) : Ct shX w l yX7_putUpwards cX7_putUpwards 6 none 1 [.ref (w.2.2.1 255), .int a1] M (none, q) := by
  rw [f_X7_putUpwards] at h
  refine ct_of shX_loc (by decide) (Nat.le_of_ble_eq_true rfl) rfl (fun x hx g => ?_)
  subst hx
  show U shX w x _ M 0 [(0, .ref (w.2.2.1 255)), (1, .int a1)] []
  generalize hr : ((none, q) : Option Value × Mem) = r
  have g : Gd shX w x RX7 cX7_putUpwards 6 none 1 := g
  refine u_lconst g (v := (1 : Int64)) dX7_putUpwards_0 rfl ?_
  refine u_iload_n g 1 dX7_putUpwards_1 rfl ?_
  refine u_bipush g (v := (63 : Int32)) dX7_putUpwards_2 rfl ?_
  refine u_iand g dX7_putUpwards_4 ?_
  refine u_lshl g dX7_putUpwards_5 ?_
  obtain ⟨q1, hq2, h⟩ := ob_bind h
  refine u_callS (st := []) g wv_X7_31 [.long (lshl (1 : Int64) (a1 &&& (63 : Int32)))] (t_X7_closedWord w x.2.1 hq2) (by decide) (by decide) rfl (Nat.le_of_ble_eq_true rfl) rfl dX7_putUpwards_6 ?_
  show U shX w x r M 9 [(0, .ref (w.2.2.1 255)), (1, .int a1)] [.long q1]
  refine u_lstore_n g [(2, .long q1), (0, .ref (w.2.2.1 255)), (1, .int a1)] dX7_putUpwards_9 (by decide) rfl ?_
  refine u_iload_n g 2 dX7_putUpwards_10 rfl ?_
  refine u_bipush g (v := (6 : Int32)) dX7_putUpwards_11 rfl ?_
  refine u_iushr g dX7_putUpwards_13 ?_
  refine u_istore g [(4, .int (iushr a1 (6 : Int32))), (2, .long q1), (0, .ref (w.2.2.1 255)), (1, .int a1)] dX7_putUpwards_14 (by decide) rfl ?_
  refine u_iload g 0 dX7_putUpwards_16 rfl ?_
  refine u_istore g [(5, .int (iushr a1 (6 : Int32))), (4, .int (iushr a1 (6 : Int32))), (2, .long q1), (0, .ref (w.2.2.1 255)), (1, .int a1)] dX7_putUpwards_18 (by decide) rfl ?_
  obtain ⟨q3, hq4, h⟩ := ob_bind h
  refine u_sub [3, 2, 1, 0] rfl (s_X7_putUpwards_l1 g q1 (iushr a1 (6 : Int32)) fuelN (iushr a1 (6 : Int32)) M _ hq4 ?_)
  show U shX w x r q3 52 [] []
  exact u_vret g dX7_putUpwards_52 (by rw [← hr]; obtain rfl := Option.some.inj h; rfl)
set_option maxRecDepth 100000 in
set_option maxHeartbeats 4000000 in
theorem s_X7_complete_l1 {w : Wp} {x : Cx} {r : Option Value × Mem} (g : Gd shX w x RX7 cX7_complete 4 none 3) (a1 : Int32)  : ∀ (n : Nat) (v2 : Int32) (v3 : Int32) (M : Mem) (q : Mem), f_X7_complete_l1 a1 n v2 v3 M = some q → U shX w x r q 34 [] [] → U shX w x r M 8 [(0, .ref (w.2.2.1 255)), (1, .int a1), (2, .int v2), (3, .int v3)] [] := by
  intro n
  induction n with
  | zero => intro v2 v3 M q h K; rw [f_X7_complete_l1] at h; cases h
  | succ n ih =>
    intro v2 v3 M q h K
    rw [f_X7_complete_l1] at h
    refine u_iload_n g 3 dX7_complete_8 rfl ?_
    refine u_if_lt g 34 dX7_complete_9 (by decide) (fun b3 => ?_) (fun b3 => ?_)
    · have h := ob_pos b3 h
      obtain rfl := Option.some.inj h
      exact u_sub [] rfl K
    · have h := ob_neg b3 h
      refine u_iload_n g 2 dX7_complete_12 rfl ?_
      refine u_iload_n g 1 dX7_complete_13 rfl ?_
      refine u_icmp_gt g 34 dX7_complete_14 (by decide) (fun b4 => ?_) (fun b4 => ?_)
      · have h := ob_pos b4 h
        obtain rfl := Option.some.inj h
        exact u_sub [] rfl K
      · have h := ob_neg b4 h
        refine u_aload_n g 0 dX7_complete_17 rfl ?_
        refine u_iload_n g 3 dX7_complete_18 rfl ?_
        obtain ⟨q5, hq6, h⟩ := ob_bind h
        refine u_callV (st := []) g wv_X7_47 [.int v3] (kX_lt (show kX 255 = 7 from rfl) rfl) (ceX_7 (show kX 255 = 7 from rfl)) rfl rfl (t_X7_putUpwards w x.2.1 hq6) (by decide) (by decide) rfl (Nat.le_of_ble_eq_true rfl) rfl dX7_complete_19 ?_
        show U shX w x r q5 22 [(0, .ref (w.2.2.1 255)), (1, .int a1), (2, .int v2), (3, .int v3)] []
        refine u_iinc g 2 [(2, .int (v2 + (1 : Int32))), (0, .ref (w.2.2.1 255)), (1, .int a1), (3, .int v3)] dX7_complete_22 rfl rfl (by decide) rfl ?_
        refine u_aload_n g 1 dX7_complete_25 rfl ?_
        refine u_iload_n g 3 dX7_complete_26 rfl ?_
        obtain ⟨q7, hq8, h⟩ := ob_bind h
        refine u_callV (st := []) g wv_X7_43 [.int v3] (kX_lt (show kX 255 = 7 from rfl) rfl) (ceX_7 (show kX 255 = 7 from rfl)) rfl rfl (t_X7_nextOpen w x.2.1 hq8) (by decide) (by decide) rfl (Nat.le_of_ble_eq_true rfl) rfl dX7_complete_27 ?_
        show U shX w x r q5 30 [(2, .int (v2 + (1 : Int32))), (0, .ref (w.2.2.1 255)), (1, .int a1), (3, .int v3)] [.int q7]
        refine u_istore_n g [(3, .int q7), (2, .int (v2 + (1 : Int32))), (0, .ref (w.2.2.1 255)), (1, .int a1)] dX7_complete_30 (by decide) rfl ?_
        refine u_goto g 8 dX7_complete_31 (by decide) ?_
        exact u_sub [2, 3, 1, 0] rfl (ih (v2 + (1 : Int32)) q7 q5 _ h K)
set_option maxRecDepth 100000 in
set_option maxHeartbeats 4000000 in
theorem t_X7_complete (w : Wp) (l : Launch) {a1 : Int32} {M : Mem} {q : Mem} (h : f_X7_complete a1 M = some q) : Ct shX w l yX7_complete cX7_complete 4 none 3 [.ref (w.2.2.1 255), .int a1] M (none, q) := by
  rw [f_X7_complete] at h
  refine ct_of shX_loc (by decide) (Nat.le_of_ble_eq_true rfl) rfl (fun x hx g => ?_)
  subst hx
  show U shX w x _ M 0 [(0, .ref (w.2.2.1 255)), (1, .int a1)] []
  generalize hr : ((none, q) : Option Value × Mem) = r
  have g : Gd shX w x RX7 cX7_complete 4 none 3 := g
  refine u_iconst g (v := (0 : Int32)) dX7_complete_0 rfl ?_
  refine u_istore_n g [(2, .int (0 : Int32)), (0, .ref (w.2.2.1 255)), (1, .int a1)] dX7_complete_1 (by decide) rfl ?_
  refine u_aload_n g 1 dX7_complete_2 rfl ?_
  refine u_iconst g (v := (0 : Int32)) dX7_complete_3 rfl ?_
  obtain ⟨q1, hq2, h⟩ := ob_bind h
  refine u_callV (st := []) g wv_X7_43 [.int (0 : Int32)] (kX_lt (show kX 255 = 7 from rfl) rfl) (ceX_7 (show kX 255 = 7 from rfl)) rfl rfl (t_X7_nextOpen w x.2.1 hq2) (by decide) (by decide) rfl (Nat.le_of_ble_eq_true rfl) rfl dX7_complete_4 ?_
  show U shX w x r M 7 [(2, .int (0 : Int32)), (0, .ref (w.2.2.1 255)), (1, .int a1)] [.int q1]
  refine u_istore_n g [(3, .int q1), (2, .int (0 : Int32)), (0, .ref (w.2.2.1 255)), (1, .int a1)] dX7_complete_7 (by decide) rfl ?_
  obtain ⟨q3, hq4, h⟩ := ob_bind h
  refine u_sub [2, 3, 1, 0] rfl (s_X7_complete_l1 g a1 fuelN (0 : Int32) q1 M _ hq4 ?_)
  show U shX w x r q3 34 [] []
  exact u_vret g dX7_complete_34 (by rw [← hr]; obtain rfl := Option.some.inj h; rfl)
set_option maxRecDepth 100000 in
set_option maxHeartbeats 4000000 in
theorem t_X3_gatherBetter (w : Wp) (l : Launch) {t1 : Nat} {M : Mem} {q : Mem} (h : f_X3_gatherBetter t1 M = some q) : Ct shX w l yX3_gatherBetter cX3_gatherBetter 2 none 4 [.ref (w.2.2.1 254), .ref (w.2.2.1 t1)] M (none, q) := by
  rw [f_X3_gatherBetter] at h
  obtain ⟨h1, h⟩ := ob_if h
  refine ct_of shX_loc (by decide) (Nat.le_of_ble_eq_true rfl) rfl (fun x hx g => ?_)
  subst hx
  show U shX w x _ M 0 [(0, .ref (w.2.2.1 254)), (1, .ref (w.2.2.1 t1))] []
  generalize hr : ((none, q) : Option Value × Mem) = r
  have g : Gd shX w x RX3 cX3_gatherBetter 2 none 4 := g
  refine u_aload_n g 0 dX3_gatherBetter_0 rfl ?_
  refine u_aload_n g 1 dX3_gatherBetter_1 rfl ?_
  obtain ⟨q1, hq2, h⟩ := ob_bind h
  refine u_callV (st := []) g wv_X3_113 [.ref (w.2.2.1 t1)] (kX_lt (show kX 254 = 3 from rfl) rfl) (ceX_3 (show kX 254 = 3 from rfl)) rfl rfl (t_X3_gatherHolding w x.2.1 hq2) (by decide) (by decide) rfl (Nat.le_of_ble_eq_true rfl) rfl dX3_gatherBetter_2 ?_
  show U shX w x r q1 5 [(0, .ref (w.2.2.1 254)), (1, .ref (w.2.2.1 t1))] []
  refine u_aload_n g 0 dX3_gatherBetter_5 rfl ?_
  refine gfX3_0 g (c := 254) rfl wf_X3_12 dX3_gatherBetter_6 ?_
  refine u_bipush g (v := (120 : Int32)) dX3_gatherBetter_9 rfl ?_
  obtain ⟨q3, hq4, h⟩ := ob_bind h
  refine u_callV (st := []) g wv_X3_120 [.int (120 : Int32)] (kX_lt (show kX 255 = 7 from rfl) rfl) (ceX_7 (show kX 255 = 7 from rfl)) rfl rfl (t_X7_complete w x.2.1 hq4) (by decide) (by decide) rfl (Nat.le_of_ble_eq_true rfl) rfl dX3_gatherBetter_11 ?_
  show U shX w x r q3 14 [(0, .ref (w.2.2.1 254)), (1, .ref (w.2.2.1 t1))] []
  exact u_vret g dX3_gatherBetter_14 (by rw [← hr]; obtain rfl := Option.some.inj h; rfl)
set_option maxRecDepth 100000 in
set_option maxHeartbeats 4000000 in
theorem t_X4_open (w : Wp) (l : Launch) {a1 : Int32} {a2 : Int32} {a3 : Int32} {M : Mem} {q : Option Nat × Mem} (h : f_X4_open a1 a2 a3 M = some q) : Ct shX w l yX4_open cX4_open 5 (some (.object "MeetHouse$Act")) 0 [.ref (w.2.2.1 10), .int a1, .int a2, .int a3] M (some (rv w q.1), q.2) := by
  rw [f_X4_open] at h
  refine ct_of shX_loc (by decide) (Nat.le_of_ble_eq_true rfl) rfl (fun x hx g => ?_)
  subst hx
  show U shX w x _ M 0 [(0, .ref (w.2.2.1 10)), (1, .int a1), (2, .int a2), (3, .int a3)] []
  generalize hr : ((some (rv w q.1), q.2) : Option Value × Mem) = r
  have g : Gd shX w x RX4 cX4_open 5 (some (.object "MeetHouse$Act")) 0 := g
  refine u_aload_n g 0 dX4_open_0 rfl ?_
  refine gfX4_2 g (c := 10) rfl wf_X4_21 (v := (M.1 10 2)) rfl dX4_open_1 ?_
  refine u_bipush g (v := (60 : Int32)) dX4_open_4 rfl ?_
  obtain ⟨q1, hq2, h⟩ := ob_bind h
  have K3 : U shX w x r q1 35 [(0, .ref (w.2.2.1 10)), (1, .int a1), (2, .int a2), (3, .int a3)] [] := by
    refine u_aload_n g 0 dX4_open_35 rfl ?_
    refine gfX4_0 g (c := 10) rfl wf_X4_11 dX4_open_36 ?_
    refine u_aload_n g 0 dX4_open_39 rfl ?_
    refine gfX4_1 g (c := 10) rfl wf_X4_17 (v := (q1.1 10 1)) rfl dX4_open_40 ?_
    refine u_aload_n g 0 dX4_open_43 rfl ?_
    refine gfX4_2 g (c := 10) rfl wf_X4_21 (v := (q1.1 10 2)) rfl dX4_open_44 ?_
    refine u_iadd g dX4_open_47 ?_
    refine u_iconst g (v := (1 : Int32)) dX4_open_48 rfl ?_
    refine u_isub g dX4_open_49 ?_
    refine u_bipush g (v := (60 : Int32)) dX4_open_50 rfl ?_
    refine u_irem g dX4_open_52 (by decide) ?_
    obtain ⟨e4, h⟩ := ob_if h
    refine aX_act g (inB_in e4) dX4_open_53 ?_
    refine u_astore g [(4, .ref (w.2.2.1 (12 + 4 * ((((q1.1 10 1) + (q1.1 10 2)) - (1 : Int32)) - (((q1.1 10 1) + (q1.1 10 2)) - (1 : Int32)) / (60 : Int32) * (60 : Int32)).toNatClampNeg))), (0, .ref (w.2.2.1 10)), (1, .int a1), (2, .int a2), (3, .int a3)] dX4_open_54 (by decide) rfl ?_
    refine u_aload g 0 dX4_open_56 rfl ?_
    refine u_iload_n g 2 dX4_open_58 rfl ?_
    refine pfX0_0 g (kX_act (vp_in_lt (inB_in e4))) wf_X4_25 dX4_open_59 ?_
    refine u_aload g 0 dX4_open_62 rfl ?_
    refine u_iload_n g 3 dX4_open_64 rfl ?_
    refine pfX0_1 g (kX_act (vp_in_lt (inB_in e4))) wf_X4_28 dX4_open_65 ?_
    refine u_aload g 0 dX4_open_68 rfl ?_
    refine u_iload_n g 4 dX4_open_70 rfl ?_
    refine pfX0_2 g (kX_act (vp_in_lt (inB_in e4))) wf_X4_31 dX4_open_71 ?_
    refine u_aload g 0 dX4_open_74 rfl ?_
    exact u_aret (v := some (12 + 4 * ((((q1.1 10 1) + (q1.1 10 2)) - (1 : Int32)) - (((q1.1 10 1) + (q1.1 10 2)) - (1 : Int32)) / (60 : Int32) * (60 : Int32)).toNatClampNeg)) g dX4_open_76 (by rw [← hr]; obtain rfl := Option.some.inj h; rfl)
  have h := hq2
  refine u_icmp_ge g 22 dX4_open_6 (by decide) (fun b5 => ?_) (fun b5 => ?_)
  · have h := ob_pos b5 h
    refine u_aload_n g 0 dX4_open_22 rfl ?_
    refine u_aload_n g 0 dX4_open_23 rfl ?_
    refine gfX4_1 g (c := 10) rfl wf_X4_17 (v := (M.1 10 1)) rfl dX4_open_24 ?_
    refine u_iconst g (v := (1 : Int32)) dX4_open_27 rfl ?_
    refine u_iadd g dX4_open_28 ?_
    refine u_bipush g (v := (60 : Int32)) dX4_open_29 rfl ?_
    refine u_irem g dX4_open_31 (by decide) ?_
    refine pfX4_1 g (c := 10) rfl wf_X4_17 dX4_open_32 ?_
    obtain rfl := Option.some.inj h
    exact u_sub [0, 1, 2, 3] rfl K3
  · have h := ob_neg b5 h
    refine u_aload_n g 0 dX4_open_9 rfl ?_
    refine u_dup g dX4_open_10 rfl ?_
    refine gfX4_2 g (c := 10) rfl wf_X4_21 (v := (M.1 10 2)) rfl dX4_open_11 ?_
    refine u_iconst g (v := (1 : Int32)) dX4_open_14 rfl ?_
    refine u_iadd g dX4_open_15 ?_
    refine pfX4_2 g (c := 10) rfl wf_X4_21 dX4_open_16 ?_
    refine u_goto g 35 dX4_open_19 (by decide) ?_
    obtain rfl := Option.some.inj h
    exact u_sub [0, 1, 2, 3] rfl K3
