set_option maxRecDepth 100000 in
set_option maxHeartbeats 4000000 in
theorem t_X9_become (w : Wp) (l : Launch) {t0 : Nat} {t1 : Nat} {M : Mem} {q : Mem} (h : f_X9_become t0 t1 M = some q) : Ct shX w l yX9_become cX9_become 2 none 1 [.ref (w.2.2.1 t0), .ref (w.2.2.1 t1)] M (none, q) := by
  rw [f_X9_become] at h
  obtain ⟨h0, h⟩ := ob_if h
  obtain ⟨h1, h⟩ := ob_if h
  refine ct_of shX_loc (by decide) (Nat.le_of_ble_eq_true rfl) rfl (fun x hx g => ?_)
  subst hx
  show U shX w x _ M 0 [(0, .ref (w.2.2.1 t0)), (1, .ref (w.2.2.1 t1))] []
  generalize hr : ((none, q) : Option Value × Mem) = r
  have g : Gd shX w x RX9 cX9_become 2 none 1 := g
  refine u_aload_n g 0 dX9_become_0 rfl ?_
  refine u_aload_n g 1 dX9_become_1 rfl ?_
  refine gfX9_0 g h1 wf_X9_9 (v := (M.1 t1 0)) rfl dX9_become_2 ?_
  refine pfX9_0 g h0 wf_X9_9 dX9_become_5 ?_
  refine u_aload_n g 0 dX9_become_8 rfl ?_
  refine u_aload_n g 1 dX9_become_9 rfl ?_
  refine gfX9_1 g h1 wf_X9_15 (v := ((sI M t0 0 (M.1 t1 0)).1 t1 1)) rfl dX9_become_10 ?_
  refine pfX9_1 g h0 wf_X9_15 dX9_become_13 ?_
  refine u_aload_n g 0 dX9_become_16 rfl ?_
  refine gfX9_0 g h0 wf_X9_9 (v := ((sI (sI M t0 0 (M.1 t1 0)) t0 1 ((sI M t0 0 (M.1 t1 0)).1 t1 1)).1 t0 0)) rfl dX9_become_17 ?_
  refine u_iconst g (v := (3 : Int32)) dX9_become_20 rfl ?_
  refine u_icmp_ne g 35 dX9_become_21 (by decide) (fun b1 => ?_) (fun b1 => ?_)
  · have h := ob_neg b1 h
    exact u_vret g dX9_become_35 (by rw [← hr]; obtain rfl := Option.some.inj h; rfl)
  · have h := ob_pos b1 h
    refine u_aload_n g 0 dX9_become_24 rfl ?_
    refine gfX9_2 g h0 wf_X9_21 dX9_become_25 ?_
    refine u_aload_n g 1 dX9_become_28 rfl ?_
    refine gfX9_2 g h1 wf_X9_21 dX9_become_29 ?_
    obtain ⟨q2, hq3, h⟩ := ob_bind h
    refine u_callV (st := []) g wv_X9_25 [.ref (w.2.2.1 (t1 + 1))] (kX_lt (kX_s9 h0) rfl) (ceX_6 (kX_s9 h0)) rfl rfl (t_X6_become w x.2.1 hq3) (by decide) (by decide) rfl (Nat.le_of_ble_eq_true rfl) rfl dX9_become_32 ?_
    show U shX w x r q2 35 [(0, .ref (w.2.2.1 t0)), (1, .ref (w.2.2.1 t1))] []
    exact u_vret g dX9_become_35 (by rw [← hr]; obtain rfl := Option.some.inj h; rfl)
set_option maxRecDepth 100000 in
set_option maxHeartbeats 4000000 in
theorem t_X10_areTenths (w : Wp) (l : Launch) {a0 : Int32} {M : Mem} {q : Int32} (h : f_X10_areTenths a0 = some q) : Ct shX w l yX10_areTenths cX10_areTenths 1 (some .boolean) 0 [.int a0] M (some (.int q), M) := by
  rw [f_X10_areTenths] at h
  refine ct_of shX_loc (by decide) (Nat.le_of_ble_eq_true rfl) rfl (fun x hx g => ?_)
  subst hx
  show U shX w x _ M 0 [(0, .int a0)] []
  generalize hr : ((some (.int q), M) : Option Value × Mem) = r
  have g : Gd shX w x RX10 cX10_areTenths 1 (some .boolean) 0 := g
  refine u_iload_n g 0 dX10_areTenths_0 rfl ?_
  refine u_if_lt g 14 dX10_areTenths_1 (by decide) (fun b1 => ?_) (fun b1 => ?_)
  · have h := ob_pos b1 h
    refine u_iconst g (v := (0 : Int32)) dX10_areTenths_14 rfl ?_
    exact u_zret g (Or.inl rfl) dX10_areTenths_15 (by rw [← hr]; obtain rfl := Option.some.inj h; rfl)
  · have h := ob_neg b1 h
    refine u_iload_n g 0 dX10_areTenths_4 rfl ?_
    refine u_bipush g (v := (10 : Int32)) dX10_areTenths_5 rfl ?_
    refine u_icmp_gt g 14 dX10_areTenths_7 (by decide) (fun b2 => ?_) (fun b2 => ?_)
    · have h := ob_pos b2 h
      refine u_iconst g (v := (0 : Int32)) dX10_areTenths_14 rfl ?_
      exact u_zret g (Or.inl rfl) dX10_areTenths_15 (by rw [← hr]; obtain rfl := Option.some.inj h; rfl)
    · have h := ob_neg b2 h
      refine u_iconst g (v := (1 : Int32)) dX10_areTenths_10 rfl ?_
      refine u_goto g 15 dX10_areTenths_11 (by decide) ?_
      exact u_zret g (Or.inr rfl) dX10_areTenths_15 (by rw [← hr]; obtain rfl := Option.some.inj h; rfl)
set_option maxRecDepth 100000 in
set_option maxHeartbeats 4000000 in
theorem t_X10_refuse (w : Wp) (l : Launch) {a1 : Int32} {M : Mem} {q : Int32 × Mem} (h : f_X10_refuse a1 M = some q) : Ct shX w l yX10_refuse cX10_refuse 2 (some .int) 0 [.ref (w.2.2.1 0), .int a1] M (some (.int q.1), q.2) := by
  rw [f_X10_refuse] at h
  refine ct_of shX_loc (by decide) (Nat.le_of_ble_eq_true rfl) rfl (fun x hx g => ?_)
  subst hx
  show U shX w x _ M 0 [(0, .ref (w.2.2.1 0)), (1, .int a1)] []
  generalize hr : ((some (.int q.1), q.2) : Option Value × Mem) = r
  have g : Gd shX w x RX10 cX10_refuse 2 (some .int) 0 := g
  refine u_aload_n g 0 dX10_refuse_0 rfl ?_
  refine u_iload_n g 1 dX10_refuse_1 rfl ?_
  refine pfX10_11 g (c := 0) rfl wf_X10_74 dX10_refuse_2 ?_
  refine u_iconst g (v := (-1 : Int32)) dX10_refuse_5 rfl ?_
  exact u_iret g dX10_refuse_6 (by rw [← hr]; obtain rfl := Option.some.inj h; rfl)
set_option maxRecDepth 100000 in
set_option maxHeartbeats 4000000 in
theorem t_X10_accept (w : Wp) (l : Launch) {a1 : Int32} {M : Mem} {q : Int32 × Mem} (h : f_X10_accept a1 M = some q) : Ct shX w l yX10_accept cX10_accept 2 (some .int) 0 [.ref (w.2.2.1 0), .int a1] M (some (.int q.1), q.2) := by
  rw [f_X10_accept] at h
  refine ct_of shX_loc (by decide) (Nat.le_of_ble_eq_true rfl) rfl (fun x hx g => ?_)
  subst hx
  show U shX w x _ M 0 [(0, .ref (w.2.2.1 0)), (1, .int a1)] []
  generalize hr : ((some (.int q.1), q.2) : Option Value × Mem) = r
  have g : Gd shX w x RX10 cX10_accept 2 (some .int) 0 := g
  refine u_aload_n g 0 dX10_accept_0 rfl ?_
  refine u_iconst g (v := (0 : Int32)) dX10_accept_1 rfl ?_
  refine pfX10_11 g (c := 0) rfl wf_X10_74 dX10_accept_2 ?_
  refine u_iload_n g 1 dX10_accept_5 rfl ?_
  exact u_iret g dX10_accept_6 (by rw [← hr]; obtain rfl := Option.some.inj h; rfl)
set_option maxRecDepth 100000 in
set_option maxHeartbeats 4000000 in
theorem t_X10_keeper (w : Wp) (l : Launch) {a1 : Int32} {a2 : Int32} {M : Mem} {q : Int32 × Mem} (h : f_X10_keeper a1 a2 M = some q) : Ct shX w l yX10_keeper cX10_keeper 4 (some .int) 1 [.ref (w.2.2.1 0), .int a1, .int a2] M (some (.int q.1), q.2) := by
  rw [f_X10_keeper] at h
  refine ct_of shX_loc (by decide) (Nat.le_of_ble_eq_true rfl) rfl (fun x hx g => ?_)
  subst hx
  show U shX w x _ M 0 [(0, .ref (w.2.2.1 0)), (1, .int a1), (2, .int a2)] []
  generalize hr : ((some (.int q.1), q.2) : Option Value × Mem) = r
  have g : Gd shX w x RX10 cX10_keeper 4 (some .int) 1 := g
  refine u_iload_n g 1 dX10_keeper_0 rfl ?_
  refine u_iconst g (v := (1 : Int32)) dX10_keeper_1 rfl ?_
  refine u_icmp_lt g 18 dX10_keeper_2 (by decide) (fun b1 => ?_) (fun b1 => ?_)
  · have h := ob_pos b1 h
    refine u_aload_n g 0 dX10_keeper_18 rfl ?_
    refine u_iconst g (v := (2 : Int32)) dX10_keeper_19 rfl ?_
    obtain ⟨q2, hq3, h⟩ := ob_bind h
    refine u_callV (st := []) g wv_X10_83 [.int (2 : Int32)] (kX_lt (show kX 0 = 10 from rfl) rfl) (ceX_10 (show kX 0 = 10 from rfl)) rfl rfl (t_X10_refuse w x.2.1 hq3) (by decide) (by decide) rfl (Nat.le_of_ble_eq_true rfl) rfl dX10_keeper_20 ?_
    show U shX w x r q2.2 23 [(0, .ref (w.2.2.1 0)), (1, .int a1), (2, .int a2)] [.int q2.1]
    exact u_iret g dX10_keeper_23 (by rw [← hr]; obtain rfl := Option.some.inj h; rfl)
  · have h := ob_neg b1 h
    refine u_iload_n g 1 dX10_keeper_5 rfl ?_
    refine u_bipush g (v := (100 : Int32)) dX10_keeper_6 rfl ?_
    refine u_icmp_gt g 18 dX10_keeper_8 (by decide) (fun b4 => ?_) (fun b4 => ?_)
    · have h := ob_pos b4 h
      refine u_aload_n g 0 dX10_keeper_18 rfl ?_
      refine u_iconst g (v := (2 : Int32)) dX10_keeper_19 rfl ?_
      obtain ⟨q5, hq6, h⟩ := ob_bind h
      refine u_callV (st := []) g wv_X10_83 [.int (2 : Int32)] (kX_lt (show kX 0 = 10 from rfl) rfl) (ceX_10 (show kX 0 = 10 from rfl)) rfl rfl (t_X10_refuse w x.2.1 hq6) (by decide) (by decide) rfl (Nat.le_of_ble_eq_true rfl) rfl dX10_keeper_20 ?_
      show U shX w x r q5.2 23 [(0, .ref (w.2.2.1 0)), (1, .int a1), (2, .int a2)] [.int q5.1]
      exact u_iret g dX10_keeper_23 (by rw [← hr]; obtain rfl := Option.some.inj h; rfl)
    · have h := ob_neg b4 h
      refine u_iload_n g 2 dX10_keeper_11 rfl ?_
      obtain ⟨q7, hq8, h⟩ := ob_bind h
      refine u_callS (st := []) g wv_X10_79 [.int a2] (t_X10_areTenths w x.2.1 hq8) (by decide) (by decide) rfl (Nat.le_of_ble_eq_true rfl) rfl dX10_keeper_12 ?_
      show U shX w x r M 15 [(0, .ref (w.2.2.1 0)), (1, .int a1), (2, .int a2)] [.int q7]
      refine u_if_ne g 24 dX10_keeper_15 (by decide) (fun b9 => ?_) (fun b9 => ?_)
      · have h := ob_neg b9 h
        refine u_aload_n g 0 dX10_keeper_24 rfl ?_
        refine gfX10_0 g (c := 0) rfl wf_X10_10 dX10_keeper_25 ?_
        refine gfX5_0 g (c := 1) rfl wf_X10_87 (v := (M.1 1 0)) rfl dX10_keeper_28 ?_
        refine u_istore_n g [(3, .int (M.1 1 0)), (0, .ref (w.2.2.1 0)), (1, .int a1), (2, .int a2)] dX10_keeper_31 (by decide) rfl ?_
        refine u_iload_n g 0 dX10_keeper_32 rfl ?_
        refine u_if_lt g 42 dX10_keeper_33 (by decide) (fun b10 => ?_) (fun b10 => ?_)
        · have h := ob_pos b10 h
          refine u_aload_n g 1 dX10_keeper_42 rfl ?_
          refine u_iconst g (v := (4 : Int32)) dX10_keeper_43 rfl ?_
          obtain ⟨q11, hq12, h⟩ := ob_bind h
          refine u_callV (st := []) g wv_X10_83 [.int (4 : Int32)] (kX_lt (show kX 0 = 10 from rfl) rfl) (ceX_10 (show kX 0 = 10 from rfl)) rfl rfl (t_X10_refuse w x.2.1 hq12) (by decide) (by decide) rfl (Nat.le_of_ble_eq_true rfl) rfl dX10_keeper_44 ?_
          show U shX w x r q11.2 47 [(3, .int (M.1 1 0)), (0, .ref (w.2.2.1 0)), (1, .int a1), (2, .int a2)] [.int q11.1]
          exact u_iret g dX10_keeper_47 (by rw [← hr]; obtain rfl := Option.some.inj h; rfl)
        · have h := ob_neg b10 h
          refine u_iload_n g 0 dX10_keeper_36 rfl ?_
          refine u_bipush g (v := (16 : Int32)) dX10_keeper_37 rfl ?_
          refine u_icmp_lt g 48 dX10_keeper_39 (by decide) (fun b13 => ?_) (fun b13 => ?_)
          · have h := ob_pos b13 h
            refine u_aload_n g 1 dX10_keeper_48 rfl ?_
            refine gfX10_0 g (c := 0) rfl wf_X10_10 dX10_keeper_49 ?_
            refine gfX5_1 g (c := 1) rfl wf_X10_90 dX10_keeper_52 ?_
            refine u_iload_n g 0 dX10_keeper_55 rfl ?_
            refine u_iload_n g 2 dX10_keeper_56 rfl ?_
            obtain ⟨e14, h⟩ := ob_if h
            refine aX_ist g (c := 2) 16 (by decide) rfl (inB_in e14) (j := (M.1 1 0).toNatClampNeg) rfl dX10_keeper_57 ?_
            refine u_aload_n g 1 dX10_keeper_58 rfl ?_
            refine gfX10_0 g (c := 0) rfl wf_X10_10 dX10_keeper_59 ?_
            refine gfX5_2 g (c := 1) rfl wf_X10_93 dX10_keeper_62 ?_
            refine u_iload_n g 0 dX10_keeper_65 rfl ?_
            refine u_iload_n g 3 dX10_keeper_66 rfl ?_
            obtain ⟨e15, h⟩ := ob_if h
            refine aX_ist g (c := 3) 16 (by decide) rfl (inB_in e15) (j := (M.1 1 0).toNatClampNeg) rfl dX10_keeper_67 ?_
            refine u_aload_n g 1 dX10_keeper_68 rfl ?_
            refine gfX10_0 g (c := 0) rfl wf_X10_10 dX10_keeper_69 ?_
            refine gfX5_3 g (c := 1) rfl wf_X10_96 dX10_keeper_72 ?_
            refine u_iload_n g 0 dX10_keeper_75 rfl ?_
            refine u_iconst g (v := (0 : Int32)) dX10_keeper_76 rfl ?_
            obtain ⟨e16, h⟩ := ob_if h
            refine aX_ist g (c := 4) 16 (by decide) rfl (inB_in e16) (j := (M.1 1 0).toNatClampNeg) rfl dX10_keeper_77 ?_
            refine u_aload_n g 1 dX10_keeper_78 rfl ?_
            refine gfX10_0 g (c := 0) rfl wf_X10_10 dX10_keeper_79 ?_
            refine u_iload_n g 0 dX10_keeper_82 rfl ?_
            refine u_iconst g (v := (1 : Int32)) dX10_keeper_83 rfl ?_
            refine u_iadd g dX10_keeper_84 ?_
            refine pfX5_0 g (c := 1) rfl wf_X10_87 dX10_keeper_85 ?_
            refine u_aload_n g 1 dX10_keeper_88 rfl ?_
            refine gfX10_7 g (c := 0) rfl wf_X10_49 dX10_keeper_89 ?_
            refine u_iconst g (v := (0 : Int32)) dX10_keeper_92 rfl ?_
            refine u_iload_n g 0 dX10_keeper_93 rfl ?_
            refine u_iconst g (v := (0 : Int32)) dX10_keeper_94 rfl ?_
            obtain ⟨⟨o19, M20⟩, hq18, h⟩ := ob_bind h
            refine u_callV (st := []) g wv_X10_99 [.int (0 : Int32), .int (M.1 1 0), .int (0 : Int32)] (kX_lt (show kX 10 = 4 from rfl) rfl) (ceX_4 (show kX 10 = 4 from rfl)) rfl rfl (t_X4_open w x.2.1 hq18) (by decide) (by decide) rfl (Nat.le_of_ble_eq_true rfl) rfl dX10_keeper_95 ?_
            show U shX w x r M20 98 [(3, .int (M.1 1 0)), (0, .ref (w.2.2.1 0)), (1, .int a1), (2, .int a2)] [rv w o19]
            refine u_pop g dX10_keeper_98 (rv_cat w _) ?_
            refine u_aload_n g 1 dX10_keeper_99 rfl ?_
            refine u_iload_n g 0 dX10_keeper_100 rfl ?_
            obtain ⟨q21, hq22, h⟩ := ob_bind h
            refine u_callV (st := []) g wv_X10_103 [.int (M.1 1 0)] (kX_lt (show kX 0 = 10 from rfl) rfl) (ceX_10 (show kX 0 = 10 from rfl)) rfl rfl (t_X10_accept w x.2.1 hq22) (by decide) (by decide) rfl (Nat.le_of_ble_eq_true rfl) rfl dX10_keeper_101 ?_
            show U shX w x r q21.2 104 [(3, .int (M.1 1 0)), (0, .ref (w.2.2.1 0)), (1, .int a1), (2, .int a2)] [.int q21.1]
            exact u_iret g dX10_keeper_104 (by rw [← hr]; obtain rfl := Option.some.inj h; rfl)
          · have h := ob_neg b13 h
            refine u_aload_n g 1 dX10_keeper_42 rfl ?_
            refine u_iconst g (v := (4 : Int32)) dX10_keeper_43 rfl ?_
            obtain ⟨q23, hq24, h⟩ := ob_bind h
            refine u_callV (st := []) g wv_X10_83 [.int (4 : Int32)] (kX_lt (show kX 0 = 10 from rfl) rfl) (ceX_10 (show kX 0 = 10 from rfl)) rfl rfl (t_X10_refuse w x.2.1 hq24) (by decide) (by decide) rfl (Nat.le_of_ble_eq_true rfl) rfl dX10_keeper_44 ?_
            show U shX w x r q23.2 47 [(3, .int (M.1 1 0)), (0, .ref (w.2.2.1 0)), (1, .int a1), (2, .int a2)] [.int q23.1]
            exact u_iret g dX10_keeper_47 (by rw [← hr]; obtain rfl := Option.some.inj h; rfl)
      · have h := ob_pos b9 h
        refine u_aload_n g 0 dX10_keeper_18 rfl ?_
        refine u_iconst g (v := (2 : Int32)) dX10_keeper_19 rfl ?_
        obtain ⟨q25, hq26, h⟩ := ob_bind h
        refine u_callV (st := []) g wv_X10_83 [.int (2 : Int32)] (kX_lt (show kX 0 = 10 from rfl) rfl) (ceX_10 (show kX 0 = 10 from rfl)) rfl rfl (t_X10_refuse w x.2.1 hq26) (by decide) (by decide) rfl (Nat.le_of_ble_eq_true rfl) rfl dX10_keeper_20 ?_
        show U shX w x r q25.2 23 [(0, .ref (w.2.2.1 0)), (1, .int a1), (2, .int a2)] [.int q25.1]
        exact u_iret g dX10_keeper_23 (by rw [← hr]; obtain rfl := Option.some.inj h; rfl)
set_option maxRecDepth 100000 in
set_option maxHeartbeats 4000000 in
theorem t_X10_refuseFalse (w : Wp) (l : Launch) {a1 : Int32} {M : Mem} {q : Int32 × Mem} (h : f_X10_refuseFalse a1 M = some q) : Ct shX w l yX10_refuseFalse cX10_refuseFalse 2 (some .boolean) 0 [.ref (w.2.2.1 0), .int a1] M (some (.int q.1), q.2) := by
  rw [f_X10_refuseFalse] at h
  refine ct_of shX_loc (by decide) (Nat.le_of_ble_eq_true rfl) rfl (fun x hx g => ?_)
  subst hx
  show U shX w x _ M 0 [(0, .ref (w.2.2.1 0)), (1, .int a1)] []
  generalize hr : ((some (.int q.1), q.2) : Option Value × Mem) = r
  have g : Gd shX w x RX10 cX10_refuseFalse 2 (some .boolean) 0 := g
  refine u_aload_n g 0 dX10_refuseFalse_0 rfl ?_
  refine u_iload_n g 1 dX10_refuseFalse_1 rfl ?_
  refine pfX10_11 g (c := 0) rfl wf_X10_74 dX10_refuseFalse_2 ?_
  refine u_iconst g (v := (0 : Int32)) dX10_refuseFalse_5 rfl ?_
  exact u_zret g (Or.inl rfl) dX10_refuseFalse_6 (by rw [← hr]; obtain rfl := Option.some.inj h; rfl)
set_option maxRecDepth 100000 in
set_option maxHeartbeats 4000000 in
theorem t_X10_acceptTrue (w : Wp) (l : Launch)  {M : Mem} {q : Int32 × Mem} (h : f_X10_acceptTrue M = some q) : Ct shX w l yX10_acceptTrue cX10_acceptTrue 1 (some .boolean) 0 [.ref (w.2.2.1 0)] M (some (.int q.1), q.2) := by
  rw [f_X10_acceptTrue] at h
  refine ct_of shX_loc (by decide) (Nat.le_of_ble_eq_true rfl) rfl (fun x hx g => ?_)
  subst hx
  show U shX w x _ M 0 [(0, .ref (w.2.2.1 0))] []
  generalize hr : ((some (.int q.1), q.2) : Option Value × Mem) = r
  have g : Gd shX w x RX10 cX10_acceptTrue 1 (some .boolean) 0 := g
  refine u_aload_n g 0 dX10_acceptTrue_0 rfl ?_
  refine u_iconst g (v := (0 : Int32)) dX10_acceptTrue_1 rfl ?_
  refine pfX10_11 g (c := 0) rfl wf_X10_74 dX10_acceptTrue_2 ?_
  refine u_iconst g (v := (1 : Int32)) dX10_acceptTrue_5 rfl ?_
  exact u_zret g (Or.inr rfl) dX10_acceptTrue_6 (by rw [← hr]; obtain rfl := Option.some.inj h; rfl)
set_option maxRecDepth 100000 in
set_option maxHeartbeats 4000000 in
theorem t_X10_tenths (w : Wp) (l : Launch) {a1 : Int32} {a2 : Int32} {M : Mem} {q : Int32 × Mem} (h : f_X10_tenths a1 a2 M = some q) : Ct shX w l yX10_tenths cX10_tenths 3 (some .boolean) 1 [.ref (w.2.2.1 0), .int a1, .int a2] M (some (.int q.1), q.2) := by
  rw [f_X10_tenths] at h
  refine ct_of shX_loc (by decide) (Nat.le_of_ble_eq_true rfl) rfl (fun x hx g => ?_)
  subst hx
  show U shX w x _ M 0 [(0, .ref (w.2.2.1 0)), (1, .int a1), (2, .int a2)] []
  generalize hr : ((some (.int q.1), q.2) : Option Value × Mem) = r
  have g : Gd shX w x RX10 cX10_tenths 3 (some .boolean) 1 := g
  refine u_aload_n g 0 dX10_tenths_0 rfl ?_
  refine gfX10_0 g (c := 0) rfl wf_X10_10 dX10_tenths_1 ?_
  refine u_iload_n g 1 dX10_tenths_4 rfl ?_
  obtain ⟨q1, hq2, h⟩ := ob_bind h
  refine u_callV (st := []) g wv_X10_106 [.int a1] (kX_lt (show kX 1 = 5 from rfl) rfl) (ceX_5 (show kX 1 = 5 from rfl)) rfl rfl (t_X5_isThere w x.2.1 hq2) (by decide) (by decide) rfl (Nat.le_of_ble_eq_true rfl) rfl dX10_tenths_5 ?_
  show U shX w x r M 8 [(0, .ref (w.2.2.1 0)), (1, .int a1), (2, .int a2)] [.int q1]
  refine u_if_ne g 17 dX10_tenths_8 (by decide) (fun b3 => ?_) (fun b3 => ?_)
  · have h := ob_neg b3 h
    refine u_iload_n g 2 dX10_tenths_17 rfl ?_
    obtain ⟨q4, hq5, h⟩ := ob_bind h
    refine u_callS (st := []) g wv_X10_79 [.int a2] (t_X10_areTenths w x.2.1 hq5) (by decide) (by decide) rfl (Nat.le_of_ble_eq_true rfl) rfl dX10_tenths_18 ?_
    show U shX w x r M 21 [(0, .ref (w.2.2.1 0)), (1, .int a1), (2, .int a2)] [.int q4]
    refine u_if_ne g 30 dX10_tenths_21 (by decide) (fun b6 => ?_) (fun b6 => ?_)
    · have h := ob_neg b6 h
      refine u_aload_n g 0 dX10_tenths_30 rfl ?_
      refine gfX10_7 g (c := 0) rfl wf_X10_49 dX10_tenths_31 ?_
      refine u_iconst g (v := (1 : Int32)) dX10_tenths_34 rfl ?_
      refine u_iload_n g 1 dX10_tenths_35 rfl ?_
      refine u_aload_n g 0 dX10_tenths_36 rfl ?_
      refine gfX10_0 g (c := 0) rfl wf_X10_10 dX10_tenths_37 ?_
      refine gfX5_2 g (c := 1) rfl wf_X10_93 dX10_tenths_40 ?_
      refine u_iload_n g 1 dX10_tenths_43 rfl ?_
      obtain ⟨e7, h⟩ := ob_if h
      refine aX_ild g (c := 3) 16 (by decide) rfl (v := (M.1 3 a1.toNatClampNeg)) (inB_in e7) rfl dX10_tenths_44 ?_
      obtain ⟨⟨o10, M11⟩, hq9, h⟩ := ob_bind h
      refine u_callV (st := []) g wv_X10_99 [.int (1 : Int32), .int a1, .int (M.1 3 a1.toNatClampNeg)] (kX_lt (show kX 10 = 4 from rfl) rfl) (ceX_4 (show kX 10 = 4 from rfl)) rfl rfl (t_X4_open w x.2.1 hq9) (by decide) (by decide) rfl (Nat.le_of_ble_eq_true rfl) rfl dX10_tenths_45 ?_
      show U shX w x r M11 48 [(0, .ref (w.2.2.1 0)), (1, .int a1), (2, .int a2)] [rv w o10]
      refine u_pop g dX10_tenths_48 (rv_cat w _) ?_
      refine u_aload_n g 0 dX10_tenths_49 rfl ?_
      refine gfX10_0 g (c := 0) rfl wf_X10_10 dX10_tenths_50 ?_
      refine gfX5_2 g (c := 1) rfl wf_X10_93 dX10_tenths_53 ?_
      refine u_iload_n g 1 dX10_tenths_56 rfl ?_
      refine u_iload_n g 2 dX10_tenths_57 rfl ?_
      obtain ⟨e12, h⟩ := ob_if h
      refine aX_ist g (c := 3) 16 (by decide) rfl (inB_in e12) (j := a1.toNatClampNeg) rfl dX10_tenths_58 ?_
      refine u_aload_n g 0 dX10_tenths_59 rfl ?_
      obtain ⟨q13, hq14, h⟩ := ob_bind h
      refine u_callV (st := []) g wv_X10_112 [] (kX_lt (show kX 0 = 10 from rfl) rfl) (ceX_10 (show kX 0 = 10 from rfl)) rfl rfl (t_X10_acceptTrue w x.2.1 hq14) (by decide) (by decide) rfl (Nat.le_of_ble_eq_true rfl) rfl dX10_tenths_60 ?_
      show U shX w x r q13.2 63 [(0, .ref (w.2.2.1 0)), (1, .int a1), (2, .int a2)] [.int q13.1]
      obtain ⟨hz, h⟩ := ob_if h
      exact u_zret g hz dX10_tenths_63 (by rw [← hr]; obtain rfl := Option.some.inj h; rfl)
    · have h := ob_pos b6 h
      refine u_aload_n g 0 dX10_tenths_24 rfl ?_
      refine u_iconst g (v := (2 : Int32)) dX10_tenths_25 rfl ?_
      obtain ⟨q15, hq16, h⟩ := ob_bind h
      refine u_callV (st := []) g wv_X10_109 [.int (2 : Int32)] (kX_lt (show kX 0 = 10 from rfl) rfl) (ceX_10 (show kX 0 = 10 from rfl)) rfl rfl (t_X10_refuseFalse w x.2.1 hq16) (by decide) (by decide) rfl (Nat.le_of_ble_eq_true rfl) rfl dX10_tenths_26 ?_
      show U shX w x r q15.2 29 [(0, .ref (w.2.2.1 0)), (1, .int a1), (2, .int a2)] [.int q15.1]
      obtain ⟨hz, h⟩ := ob_if h
      exact u_zret g hz dX10_tenths_29 (by rw [← hr]; obtain rfl := Option.some.inj h; rfl)
  · have h := ob_pos b3 h
    refine u_aload_n g 0 dX10_tenths_11 rfl ?_
    refine u_iconst g (v := (1 : Int32)) dX10_tenths_12 rfl ?_
    obtain ⟨q17, hq18, h⟩ := ob_bind h
    refine u_callV (st := []) g wv_X10_109 [.int (1 : Int32)] (kX_lt (show kX 0 = 10 from rfl) rfl) (ceX_10 (show kX 0 = 10 from rfl)) rfl rfl (t_X10_refuseFalse w x.2.1 hq18) (by decide) (by decide) rfl (Nat.le_of_ble_eq_true rfl) rfl dX10_tenths_13 ?_
    show U shX w x r q17.2 16 [(0, .ref (w.2.2.1 0)), (1, .int a1), (2, .int a2)] [.int q17.1]
    obtain ⟨hz, h⟩ := ob_if h
    exact u_zret g hz dX10_tenths_16 (by rw [← hr]; obtain rfl := Option.some.inj h; rfl)
set_option maxRecDepth 100000 in
set_option maxHeartbeats 4000000 in
theorem t_X10_keeperOf (w : Wp) (l : Launch) {a1 : Int32} {a2 : Int32} {M : Mem} {q : Int32} (h : f_X10_keeperOf a1 a2 M = some q) : Ct shX w l yX10_keeperOf cX10_keeperOf 3 (some .int) 1 [.ref (w.2.2.1 0), .int a1, .int a2] M (some (.int q), M) := by
  rw [f_X10_keeperOf] at h
  refine ct_of shX_loc (by decide) (Nat.le_of_ble_eq_true rfl) rfl (fun x hx g => ?_)
  subst hx
  show U shX w x _ M 0 [(0, .ref (w.2.2.1 0)), (1, .int a1), (2, .int a2)] []
  generalize hr : ((some (.int q), M) : Option Value × Mem) = r
  have g : Gd shX w x RX10 cX10_keeperOf 3 (some .int) 1 := g
  refine u_aload_n g 0 dX10_keeperOf_0 rfl ?_
  refine gfX10_0 g (c := 0) rfl wf_X10_10 dX10_keeperOf_1 ?_
  refine u_iload_n g 1 dX10_keeperOf_4 rfl ?_
  obtain ⟨q1, hq2, h⟩ := ob_bind h
  refine u_callV (st := []) g wv_X10_106 [.int a1] (kX_lt (show kX 1 = 5 from rfl) rfl) (ceX_5 (show kX 1 = 5 from rfl)) rfl rfl (t_X5_isThere w x.2.1 hq2) (by decide) (by decide) rfl (Nat.le_of_ble_eq_true rfl) rfl dX10_keeperOf_5 ?_
  show U shX w x r M 8 [(0, .ref (w.2.2.1 0)), (1, .int a1), (2, .int a2)] [.int q1]
  refine u_if_ne g 13 dX10_keeperOf_8 (by decide) (fun b3 => ?_) (fun b3 => ?_)
  · have h := ob_neg b3 h
    refine u_iload_n g 2 dX10_keeperOf_13 rfl ?_
    by_cases b4 : a2 = (0 : Int32)
    · have h := ob_pos b4 h
      refine u_tableIn g 40 dX10_keeperOf_14 (0 : Int32) b4 rfl rfl (by decide) ?_
      refine u_aload_n g 0 dX10_keeperOf_40 rfl ?_
      refine gfX10_0 g (c := 0) rfl wf_X10_10 dX10_keeperOf_41 ?_
      refine gfX5_1 g (c := 1) rfl wf_X10_90 dX10_keeperOf_44 ?_
      refine u_iload_n g 1 dX10_keeperOf_47 rfl ?_
      obtain ⟨e5, h⟩ := ob_if h
      refine aX_ild g (c := 2) 16 (by decide) rfl (v := (M.1 2 a1.toNatClampNeg)) (inB_in e5) rfl dX10_keeperOf_48 ?_
      exact u_iret g dX10_keeperOf_49 (by rw [← hr]; obtain rfl := Option.some.inj h; rfl)
    have h := ob_neg b4 h
    by_cases b6 : a2 = (1 : Int32)
    · have h := ob_pos b6 h
      refine u_tableIn g 50 dX10_keeperOf_14 (1 : Int32) b6 rfl rfl (by decide) ?_
      refine u_aload_n g 0 dX10_keeperOf_50 rfl ?_
      refine gfX10_0 g (c := 0) rfl wf_X10_10 dX10_keeperOf_51 ?_
      refine gfX5_2 g (c := 1) rfl wf_X10_93 dX10_keeperOf_54 ?_
      refine u_iload_n g 1 dX10_keeperOf_57 rfl ?_
      obtain ⟨e7, h⟩ := ob_if h
      refine aX_ild g (c := 3) 16 (by decide) rfl (v := (M.1 3 a1.toNatClampNeg)) (inB_in e7) rfl dX10_keeperOf_58 ?_
      exact u_iret g dX10_keeperOf_59 (by rw [← hr]; obtain rfl := Option.some.inj h; rfl)
    have h := ob_neg b6 h
    by_cases b8 : a2 = (2 : Int32)
    · have h := ob_pos b8 h
      refine u_tableIn g 60 dX10_keeperOf_14 (2 : Int32) b8 rfl rfl (by decide) ?_
      refine u_aload_n g 0 dX10_keeperOf_60 rfl ?_
      refine gfX10_0 g (c := 0) rfl wf_X10_10 dX10_keeperOf_61 ?_
      refine gfX5_3 g (c := 1) rfl wf_X10_96 dX10_keeperOf_64 ?_
      refine u_iload_n g 1 dX10_keeperOf_67 rfl ?_
      obtain ⟨e9, h⟩ := ob_if h
      refine aX_ild g (c := 4) 16 (by decide) rfl (v := (M.1 4 a1.toNatClampNeg)) (inB_in e9) rfl dX10_keeperOf_68 ?_
      exact u_iret g dX10_keeperOf_69 (by rw [← hr]; obtain rfl := Option.some.inj h; rfl)
    have h := ob_neg b8 h
    refine u_tableOut g 70 dX10_keeperOf_14 (sw_out 2 (by decide) _ rfl (fun j hj => match j, hj with | 0, _ => b4 | 1, _ => b6 | 2, _ => b8 | k + 3, hk => absurd hk (by omega))) (by decide) ?_
    refine u_iconst g (v := (-1 : Int32)) dX10_keeperOf_70 rfl ?_
    exact u_iret g dX10_keeperOf_71 (by rw [← hr]; obtain rfl := Option.some.inj h; rfl)
  · have h := ob_pos b3 h
    refine u_iconst g (v := (-1 : Int32)) dX10_keeperOf_11 rfl ?_
    exact u_iret g dX10_keeperOf_12 (by rw [← hr]; obtain rfl := Option.some.inj h; rfl)
set_option maxRecDepth 100000 in
set_option maxHeartbeats 4000000 in
theorem t_X10_list (w : Wp) (l : Launch) {a1 : Int32} {M : Mem} {q : Int32 × Mem} (h : f_X10_list a1 M = some q) : Ct shX w l yX10_list cX10_list 2 (some .int) 1 [.ref (w.2.2.1 0), .int a1] M (some (.int q.1), q.2) := by
  rw [f_X10_list] at h
  refine ct_of shX_loc (by decide) (Nat.le_of_ble_eq_true rfl) rfl (fun x hx g => ?_)
  subst hx
  show U shX w x _ M 0 [(0, .ref (w.2.2.1 0)), (1, .int a1)] []
  generalize hr : ((some (.int q.1), q.2) : Option Value × Mem) = r
  have g : Gd shX w x RX10 cX10_list 2 (some .int) 1 := g
  refine u_aload_n g 0 dX10_list_0 rfl ?_
  refine gfX10_0 g (c := 0) rfl wf_X10_10 dX10_list_1 ?_
  refine u_iload_n g 1 dX10_list_4 rfl ?_
  obtain ⟨q1, hq2, h⟩ := ob_bind h
  refine u_callV (st := []) g wv_X10_116 [.int a1] (kX_lt (show kX 1 = 5 from rfl) rfl) (ceX_5 (show kX 1 = 5 from rfl)) rfl rfl (t_X5_areASet w x.2.1 hq2) (by decide) (by decide) rfl (Nat.le_of_ble_eq_true rfl) rfl dX10_list_5 ?_
  show U shX w x r M 8 [(0, .ref (w.2.2.1 0)), (1, .int a1)] [.int q1]
  refine u_if_ne g 17 dX10_list_8 (by decide) (fun b3 => ?_) (fun b3 => ?_)
  · have h := ob_neg b3 h
    refine u_aload_n g 0 dX10_list_17 rfl ?_
    refine gfX10_4 g (c := 0) rfl wf_X10_30 (v := (M.1 0 4)) rfl dX10_list_18 ?_
    refine u_if_lt g 33 dX10_list_21 (by decide) (fun b4 => ?_) (fun b4 => ?_)
    · have h := ob_pos b4 h
      refine u_aload_n g 0 dX10_list_33 rfl ?_
      refine u_iconst g (v := (4 : Int32)) dX10_list_34 rfl ?_
      obtain ⟨q5, hq6, h⟩ := ob_bind h
      refine u_callV (st := []) g wv_X10_83 [.int (4 : Int32)] (kX_lt (show kX 0 = 10 from rfl) rfl) (ceX_10 (show kX 0 = 10 from rfl)) rfl rfl (t_X10_refuse w x.2.1 hq6) (by decide) (by decide) rfl (Nat.le_of_ble_eq_true rfl) rfl dX10_list_35 ?_
      show U shX w x r q5.2 38 [(0, .ref (w.2.2.1 0)), (1, .int a1)] [.int q5.1]
      exact u_iret g dX10_list_38 (by rw [← hr]; obtain rfl := Option.some.inj h; rfl)
    · have h := ob_neg b4 h
      refine u_aload_n g 0 dX10_list_24 rfl ?_
      refine gfX10_4 g (c := 0) rfl wf_X10_30 (v := (M.1 0 4)) rfl dX10_list_25 ?_
      refine u_bipush g (v := (120 : Int32)) dX10_list_28 rfl ?_
      refine u_icmp_lt g 39 dX10_list_30 (by decide) (fun b7 => ?_) (fun b7 => ?_)
      · have h := ob_pos b7 h
        refine u_aload_n g 0 dX10_list_39 rfl ?_
        refine gfX10_3 g (c := 0) rfl wf_X10_26 dX10_list_40 ?_
        refine u_aload_n g 0 dX10_list_43 rfl ?_
        refine gfX10_4 g (c := 0) rfl wf_X10_30 (v := (M.1 0 4)) rfl dX10_list_44 ?_
        refine u_iload_n g 1 dX10_list_47 rfl ?_
        obtain ⟨e8, h⟩ := ob_if h
        refine aX_ist g (c := 6) 120 (by decide) rfl (inB_in e8) (j := (M.1 0 4).toNatClampNeg) rfl dX10_list_48 ?_
        refine u_aload_n g 0 dX10_list_49 rfl ?_
        refine u_dup g dX10_list_50 rfl ?_
        refine gfX10_4 g (c := 0) rfl wf_X10_30 (v := (M.1 0 4)) rfl dX10_list_51 ?_
        refine u_iconst g (v := (1 : Int32)) dX10_list_54 rfl ?_
        refine u_iadd g dX10_list_55 ?_
        refine pfX10_4 g (c := 0) rfl wf_X10_30 dX10_list_56 ?_
        refine u_aload_n g 0 dX10_list_59 rfl ?_
        refine u_aload_n g 0 dX10_list_60 rfl ?_
        refine gfX10_4 g (c := 0) rfl wf_X10_30 (v := ((M.1 0 4) + (1 : Int32))) rfl dX10_list_61 ?_
        obtain ⟨q9, hq10, h⟩ := ob_bind h
        refine u_callV (st := []) g wv_X10_103 [.int ((M.1 0 4) + (1 : Int32))] (kX_lt (show kX 0 = 10 from rfl) rfl) (ceX_10 (show kX 0 = 10 from rfl)) rfl rfl (t_X10_accept w x.2.1 hq10) (by decide) (by decide) rfl (Nat.le_of_ble_eq_true rfl) rfl dX10_list_64 ?_
        show U shX w x r q9.2 67 [(0, .ref (w.2.2.1 0)), (1, .int a1)] [.int q9.1]
        exact u_iret g dX10_list_67 (by rw [← hr]; obtain rfl := Option.some.inj h; rfl)
      · have h := ob_neg b7 h
        refine u_aload_n g 0 dX10_list_33 rfl ?_
        refine u_iconst g (v := (4 : Int32)) dX10_list_34 rfl ?_
        obtain ⟨q11, hq12, h⟩ := ob_bind h
        refine u_callV (st := []) g wv_X10_83 [.int (4 : Int32)] (kX_lt (show kX 0 = 10 from rfl) rfl) (ceX_10 (show kX 0 = 10 from rfl)) rfl rfl (t_X10_refuse w x.2.1 hq12) (by decide) (by decide) rfl (Nat.le_of_ble_eq_true rfl) rfl dX10_list_35 ?_
        show U shX w x r q11.2 38 [(0, .ref (w.2.2.1 0)), (1, .int a1)] [.int q11.1]
        exact u_iret g dX10_list_38 (by rw [← hr]; obtain rfl := Option.some.inj h; rfl)
  · have h := ob_pos b3 h
    refine u_aload_n g 0 dX10_list_11 rfl ?_
    refine u_iconst g (v := (2 : Int32)) dX10_list_12 rfl ?_
    obtain ⟨q13, hq14, h⟩ := ob_bind h
    refine u_callV (st := []) g wv_X10_83 [.int (2 : Int32)] (kX_lt (show kX 0 = 10 from rfl) rfl) (ceX_10 (show kX 0 = 10 from rfl)) rfl rfl (t_X10_refuse w x.2.1 hq14) (by decide) (by decide) rfl (Nat.le_of_ble_eq_true rfl) rfl dX10_list_13 ?_
    show U shX w x r q13.2 16 [(0, .ref (w.2.2.1 0)), (1, .int a1)] [.int q13.1]
    exact u_iret g dX10_list_16 (by rw [← hr]; obtain rfl := Option.some.inj h; rfl)
set_option maxRecDepth 100000 in
set_option maxHeartbeats 4000000 in
theorem t_X10_roomForFamily (w : Wp) (l : Launch)  {M : Mem} {q : Int32} (h : f_X10_roomForFamily M = some q) : Ct shX w l yX10_roomForFamily cX10_roomForFamily 1 (some .boolean) 0 [.ref (w.2.2.1 0)] M (some (.int q), M) := by
  rw [f_X10_roomForFamily] at h
  refine ct_of shX_loc (by decide) (Nat.le_of_ble_eq_true rfl) rfl (fun x hx g => ?_)
  subst hx
  show U shX w x _ M 0 [(0, .ref (w.2.2.1 0))] []
  generalize hr : ((some (.int q), M) : Option Value × Mem) = r
  have g : Gd shX w x RX10 cX10_roomForFamily 1 (some .boolean) 0 := g
  refine u_aload_n g 0 dX10_roomForFamily_0 rfl ?_
  refine gfX10_2 g (c := 0) rfl wf_X10_22 (v := (M.1 0 2)) rfl dX10_roomForFamily_1 ?_
  refine u_if_lt g 20 dX10_roomForFamily_4 (by decide) (fun b1 => ?_) (fun b1 => ?_)
  · have h := ob_pos b1 h
    refine u_iconst g (v := (0 : Int32)) dX10_roomForFamily_20 rfl ?_
    exact u_zret g (Or.inl rfl) dX10_roomForFamily_21 (by rw [← hr]; obtain rfl := Option.some.inj h; rfl)
  · have h := ob_neg b1 h
    refine u_aload_n g 0 dX10_roomForFamily_7 rfl ?_
    refine gfX10_2 g (c := 0) rfl wf_X10_22 (v := (M.1 0 2)) rfl dX10_roomForFamily_8 ?_
    refine u_bipush g (v := (24 : Int32)) dX10_roomForFamily_11 rfl ?_
    refine u_icmp_ge g 20 dX10_roomForFamily_13 (by decide) (fun b2 => ?_) (fun b2 => ?_)
    · have h := ob_pos b2 h
      refine u_iconst g (v := (0 : Int32)) dX10_roomForFamily_20 rfl ?_
      exact u_zret g (Or.inl rfl) dX10_roomForFamily_21 (by rw [← hr]; obtain rfl := Option.some.inj h; rfl)
    · have h := ob_neg b2 h
      refine u_iconst g (v := (1 : Int32)) dX10_roomForFamily_16 rfl ?_
      refine u_goto g 21 dX10_roomForFamily_17 (by decide) ?_
      exact u_zret g (Or.inr rfl) dX10_roomForFamily_21 (by rw [← hr]; obtain rfl := Option.some.inj h; rfl)
set_option maxRecDepth 100000 in
set_option maxHeartbeats 4000000 in
theorem t_X10_settle (w : Wp) (l : Launch) {a1 : Int32} {M : Mem} {q : Int32 × Mem} (h : f_X10_settle a1 M = some q) : Ct shX w l yX10_settle cX10_settle 3 (some .int) 4 [.ref (w.2.2.1 0), .int a1] M (some (.int q.1), q.2) := by
  rw [f_X10_settle] at h
  refine ct_of shX_loc (by decide) (Nat.le_of_ble_eq_true rfl) rfl (fun x hx g => ?_)
  subst hx
  show U shX w x _ M 0 [(0, .ref (w.2.2.1 0)), (1, .int a1)] []
  generalize hr : ((some (.int q.1), q.2) : Option Value × Mem) = r
  have g : Gd shX w x RX10 cX10_settle 3 (some .int) 4 := g
  refine u_aload_n g 0 dX10_settle_0 rfl ?_
  refine gfX10_9 g (c := 0) rfl wf_X10_63 dX10_settle_1 ?_
  refine gfX3_0 g (c := 254) rfl wf_X10_126 dX10_settle_4 ?_
  obtain ⟨q1, hq2, h⟩ := ob_bind h
  refine u_callV (st := []) g wv_X10_225 [] (kX_lt (show kX 255 = 7 from rfl) rfl) (ceX_7 (show kX 255 = 7 from rfl)) rfl rfl (t_X7_keepLeast w x.2.1 hq2) (by decide) (by decide) rfl (Nat.le_of_ble_eq_true rfl) rfl dX10_settle_7 ?_
  show U shX w x r q1 10 [(0, .ref (w.2.2.1 0)), (1, .int a1)] []
  refine u_aload_n g 0 dX10_settle_10 rfl ?_
  refine gfX10_9 g (c := 0) rfl wf_X10_63 dX10_settle_11 ?_
  refine gfX3_0 g (c := 254) rfl wf_X10_126 dX10_settle_14 ?_
  obtain ⟨q3, hq4, h⟩ := ob_bind h
  refine u_callV (st := []) g wv_X10_228 [] (kX_lt (show kX 255 = 7 from rfl) rfl) (ceX_7 (show kX 255 = 7 from rfl)) rfl rfl (t_X7_countSets w x.2.1 hq4) (by decide) (by decide) rfl (Nat.le_of_ble_eq_true rfl) rfl dX10_settle_17 ?_
  show U shX w x r q1 20 [(0, .ref (w.2.2.1 0)), (1, .int a1)] [.int q3]
  refine u_bipush g (v := (120 : Int32)) dX10_settle_20 rfl ?_
  refine u_icmp_le g 31 dX10_settle_22 (by decide) (fun b5 => ?_) (fun b5 => ?_)
  · have h := ob_pos b5 h
    refine u_aload_n g 0 dX10_settle_31 rfl ?_
    refine gfX10_2 g (c := 0) rfl wf_X10_22 (v := (q1.1 0 2)) rfl dX10_settle_32 ?_
    refine u_istore_n g [(2, .int (q1.1 0 2)), (0, .ref (w.2.2.1 0)), (1, .int a1)] dX10_settle_35 (by decide) rfl ?_
    refine u_iload_n g 0 dX10_settle_36 rfl ?_
    refine u_if_lt g 46 dX10_settle_37 (by decide) (fun b6 => ?_) (fun b6 => ?_)
    · have h := ob_pos b6 h
      refine u_aload_n g 1 dX10_settle_46 rfl ?_
      refine u_iconst g (v := (4 : Int32)) dX10_settle_47 rfl ?_
      obtain ⟨q7, hq8, h⟩ := ob_bind h
      refine u_callV (st := []) g wv_X10_83 [.int (4 : Int32)] (kX_lt (show kX 0 = 10 from rfl) rfl) (ceX_10 (show kX 0 = 10 from rfl)) rfl rfl (t_X10_refuse w x.2.1 hq8) (by decide) (by decide) rfl (Nat.le_of_ble_eq_true rfl) rfl dX10_settle_48 ?_
      show U shX w x r q7.2 51 [(2, .int (q1.1 0 2)), (0, .ref (w.2.2.1 0)), (1, .int a1)] [.int q7.1]
      exact u_iret g dX10_settle_51 (by rw [← hr]; obtain rfl := Option.some.inj h; rfl)
    · have h := ob_neg b6 h
      refine u_iload_n g 0 dX10_settle_40 rfl ?_
      refine u_bipush g (v := (24 : Int32)) dX10_settle_41 rfl ?_
      refine u_icmp_lt g 52 dX10_settle_43 (by decide) (fun b9 => ?_) (fun b9 => ?_)
      · have h := ob_pos b9 h
        refine u_aload_n g 1 dX10_settle_52 rfl ?_
        refine gfX10_1 g (c := 0) rfl wf_X10_18 dX10_settle_53 ?_
        refine u_iload_n g 0 dX10_settle_56 rfl ?_
        obtain ⟨e10, h⟩ := ob_if h
        refine aX_fam g (inB_in e10) dX10_settle_57 ?_
        refine u_iload_n g 2 dX10_settle_58 rfl ?_
        refine u_aload_n g 1 dX10_settle_59 rfl ?_
        refine gfX10_9 g (c := 0) rfl wf_X10_63 dX10_settle_60 ?_
        refine gfX3_0 g (c := 254) rfl wf_X10_126 dX10_settle_63 ?_
        obtain ⟨q11, hq12, h⟩ := ob_bind h
        refine u_callV (st := []) g wv_X10_231 [.int a1, .ref (w.2.2.1 255)] (kX_lt (kX_fam (vp_in_lt (inB_in e10))) rfl) (ceX_1 (kX_fam (vp_in_lt (inB_in e10)))) rfl rfl (t_X1_take w x.2.1 hq12) (by decide) (by decide) rfl (Nat.le_of_ble_eq_true rfl) rfl dX10_settle_66 ?_
        show U shX w x r q11 69 [(2, .int (q1.1 0 2)), (0, .ref (w.2.2.1 0)), (1, .int a1)] []
        refine u_aload_n g 1 dX10_settle_69 rfl ?_
        refine u_iload_n g 0 dX10_settle_70 rfl ?_
        refine u_iconst g (v := (1 : Int32)) dX10_settle_71 rfl ?_
        refine u_iadd g dX10_settle_72 ?_
        refine pfX10_2 g (c := 0) rfl wf_X10_22 dX10_settle_73 ?_
        refine u_aload_n g 1 dX10_settle_76 rfl ?_
        refine gfX10_7 g (c := 0) rfl wf_X10_49 dX10_settle_77 ?_
        refine u_iconst g (v := (2 : Int32)) dX10_settle_80 rfl ?_
        refine u_iload_n g 0 dX10_settle_81 rfl ?_
        refine u_iconst g (v := (0 : Int32)) dX10_settle_82 rfl ?_
        obtain ⟨⟨o15, M16⟩, hq14, h⟩ := ob_bind h
        refine u_callV (st := []) g wv_X10_99 [.int (2 : Int32), .int (q1.1 0 2), .int (0 : Int32)] (kX_lt (show kX 10 = 4 from rfl) rfl) (ceX_4 (show kX 10 = 4 from rfl)) rfl rfl (t_X4_open w x.2.1 hq14) (by decide) (by decide) rfl (Nat.le_of_ble_eq_true rfl) rfl dX10_settle_83 ?_
        show U shX w x r M16 86 [(2, .int (q1.1 0 2)), (0, .ref (w.2.2.1 0)), (1, .int a1)] [rv w o15]
        refine u_pop g dX10_settle_86 (rv_cat w _) ?_
        refine u_aload_n g 1 dX10_settle_87 rfl ?_
        refine u_iload_n g 0 dX10_settle_88 rfl ?_
        obtain ⟨q17, hq18, h⟩ := ob_bind h
        refine u_callV (st := []) g wv_X10_103 [.int (q1.1 0 2)] (kX_lt (show kX 0 = 10 from rfl) rfl) (ceX_10 (show kX 0 = 10 from rfl)) rfl rfl (t_X10_accept w x.2.1 hq18) (by decide) (by decide) rfl (Nat.le_of_ble_eq_true rfl) rfl dX10_settle_89 ?_
        show U shX w x r q17.2 92 [(2, .int (q1.1 0 2)), (0, .ref (w.2.2.1 0)), (1, .int a1)] [.int q17.1]
        exact u_iret g dX10_settle_92 (by rw [← hr]; obtain rfl := Option.some.inj h; rfl)
      · have h := ob_neg b9 h
        refine u_aload_n g 1 dX10_settle_46 rfl ?_
        refine u_iconst g (v := (4 : Int32)) dX10_settle_47 rfl ?_
        obtain ⟨q19, hq20, h⟩ := ob_bind h
        refine u_callV (st := []) g wv_X10_83 [.int (4 : Int32)] (kX_lt (show kX 0 = 10 from rfl) rfl) (ceX_10 (show kX 0 = 10 from rfl)) rfl rfl (t_X10_refuse w x.2.1 hq20) (by decide) (by decide) rfl (Nat.le_of_ble_eq_true rfl) rfl dX10_settle_48 ?_
        show U shX w x r q19.2 51 [(2, .int (q1.1 0 2)), (0, .ref (w.2.2.1 0)), (1, .int a1)] [.int q19.1]
        exact u_iret g dX10_settle_51 (by rw [← hr]; obtain rfl := Option.some.inj h; rfl)
  · have h := ob_neg b5 h
    refine u_aload_n g 0 dX10_settle_25 rfl ?_
    refine u_iconst g (v := (3 : Int32)) dX10_settle_26 rfl ?_
    obtain ⟨q21, hq22, h⟩ := ob_bind h
    refine u_callV (st := []) g wv_X10_83 [.int (3 : Int32)] (kX_lt (show kX 0 = 10 from rfl) rfl) (ceX_10 (show kX 0 = 10 from rfl)) rfl rfl (t_X10_refuse w x.2.1 hq22) (by decide) (by decide) rfl (Nat.le_of_ble_eq_true rfl) rfl dX10_settle_27 ?_
    show U shX w x r q21.2 30 [(0, .ref (w.2.2.1 0)), (1, .int a1)] [.int q21.1]
    exact u_iret g dX10_settle_30 (by rw [← hr]; obtain rfl := Option.some.inj h; rfl)
set_option maxRecDepth 100000 in
set_option maxHeartbeats 4000000 in
theorem t_X10_settleGathered (w : Wp) (l : Launch) {a1 : Int32} {M : Mem} {q : Int32 × Mem} (h : f_X10_settleGathered a1 M = some q) : Ct shX w l yX10_settleGathered cX10_settleGathered 2 (some .int) 5 [.ref (w.2.2.1 0), .int a1] M (some (.int q.1), q.2) := by
  rw [f_X10_settleGathered] at h
  refine ct_of shX_loc (by decide) (Nat.le_of_ble_eq_true rfl) rfl (fun x hx g => ?_)
  subst hx
  show U shX w x _ M 0 [(0, .ref (w.2.2.1 0)), (1, .int a1)] []
  generalize hr : ((some (.int q.1), q.2) : Option Value × Mem) = r
  have g : Gd shX w x RX10 cX10_settleGathered 2 (some .int) 5 := g
  refine u_aload_n g 0 dX10_settleGathered_0 rfl ?_
  refine gfX10_9 g (c := 0) rfl wf_X10_63 dX10_settleGathered_1 ?_
  refine gfX3_0 g (c := 254) rfl wf_X10_126 dX10_settleGathered_4 ?_
  obtain ⟨q1, hq2, h⟩ := ob_bind h
  refine u_callV (st := []) g wv_X10_222 [] (kX_lt (show kX 255 = 7 from rfl) rfl) (ceX_7 (show kX 255 = 7 from rfl)) rfl rfl (t_X7_closeUpwards w x.2.1 hq2) (by decide) (by decide) rfl (Nat.le_of_ble_eq_true rfl) rfl dX10_settleGathered_7 ?_
  show U shX w x r q1 10 [(0, .ref (w.2.2.1 0)), (1, .int a1)] []
  refine u_aload_n g 0 dX10_settleGathered_10 rfl ?_
  refine u_iload_n g 1 dX10_settleGathered_11 rfl ?_
  obtain ⟨q3, hq4, h⟩ := ob_bind h
  refine u_callV (st := []) g wv_X10_178 [.int a1] (kX_lt (show kX 0 = 10 from rfl) rfl) (ceX_10 (show kX 0 = 10 from rfl)) rfl rfl (t_X10_settle w x.2.1 hq4) (by decide) (by decide) rfl (Nat.le_of_ble_eq_true rfl) rfl dX10_settleGathered_12 ?_
  show U shX w x r q3.2 15 [(0, .ref (w.2.2.1 0)), (1, .int a1)] [.int q3.1]
  exact u_iret g dX10_settleGathered_15 (by rw [← hr]; obtain rfl := Option.some.inj h; rfl)
set_option maxRecDepth 100000 in
set_option maxHeartbeats 4000000 in
theorem s_X10_told_l1 {w : Wp} {x : Cx} {r : Option Value × Mem} (g : Gd shX w x RX10 cX10_told 2 (some .int) 6)   : ∀ (n : Nat) (v1 : Int32) (M : Mem) (q : Mem), f_X10_told_l1 n v1 M = some q → U shX w x r q 78 [(0, .ref (w.2.2.1 0))] [] → U shX w x r M 42 [(0, .ref (w.2.2.1 0)), (1, .int v1)] [] := by
  intro n
  induction n with
  | zero => intro v1 M q h K; rw [f_X10_told_l1] at h; cases h
  | succ n ih =>
    intro v1 M q h K
    rw [f_X10_told_l1] at h
    refine u_iload_n g 1 dX10_told_42 rfl ?_
    refine u_aload_n g 0 dX10_told_43 rfl ?_
    refine gfX10_4 g (c := 0) rfl wf_X10_30 (v := (M.1 0 4)) rfl dX10_told_44 ?_
    refine u_icmp_ge g 78 dX10_told_47 (by decide) (fun b7 => ?_) (fun b7 => ?_)
    · have h := ob_pos b7 h
      obtain rfl := Option.some.inj h
      exact u_sub [0] rfl K
    · have h := ob_neg b7 h
      refine u_iload_n g 1 dX10_told_50 rfl ?_
      refine u_bipush g (v := (120 : Int32)) dX10_told_51 rfl ?_
      refine u_icmp_ge g 78 dX10_told_53 (by decide) (fun b8 => ?_) (fun b8 => ?_)
      · have h := ob_pos b8 h
        obtain rfl := Option.some.inj h
        exact u_sub [0] rfl K
      · have h := ob_neg b8 h
        refine u_aload_n g 0 dX10_told_56 rfl ?_
        refine gfX10_9 g (c := 0) rfl wf_X10_63 dX10_told_57 ?_
        refine gfX3_0 g (c := 254) rfl wf_X10_126 dX10_told_60 ?_
        refine u_aload_n g 0 dX10_told_63 rfl ?_
        refine gfX10_3 g (c := 0) rfl wf_X10_26 dX10_told_64 ?_
        refine u_iload_n g 1 dX10_told_67 rfl ?_
        obtain ⟨e9, h⟩ := ob_if h
        refine aX_ild g (c := 6) 120 (by decide) rfl (v := (M.1 6 v1.toNatClampNeg)) (inB_in e9) rfl dX10_told_68 ?_
        obtain ⟨q10, hq11, h⟩ := ob_bind h
        refine u_callV (st := []) g wv_X10_130 [.int (M.1 6 v1.toNatClampNeg)] (kX_lt (show kX 255 = 7 from rfl) rfl) (ceX_7 (show kX 255 = 7 from rfl)) rfl rfl (t_X7_put w x.2.1 hq11) (by decide) (by decide) rfl (Nat.le_of_ble_eq_true rfl) rfl dX10_told_69 ?_
        show U shX w x r q10 72 [(0, .ref (w.2.2.1 0)), (1, .int v1)] []
        refine u_iinc g 1 [(1, .int (v1 + (1 : Int32))), (0, .ref (w.2.2.1 0))] dX10_told_72 rfl rfl (by decide) rfl ?_
        refine u_goto g 42 dX10_told_75 (by decide) ?_
        exact u_sub [1, 0] rfl (ih (v1 + (1 : Int32)) q10 _ h K)
set_option maxRecDepth 100000 in
set_option maxHeartbeats 4000000 in
theorem t_X10_told (w : Wp) (l : Launch)  {M : Mem} {q : Int32 × Mem} (h : f_X10_told M = some q) : Ct shX w l yX10_told cX10_told 2 (some .int) 6 [.ref (w.2.2.1 0)] M (some (.int q.1), q.2) := by
  rw [f_X10_told] at h
  refine ct_of shX_loc (by decide) (Nat.le_of_ble_eq_true rfl) rfl (fun x hx g => ?_)
  subst hx
  show U shX w x _ M 0 [(0, .ref (w.2.2.1 0))] []
  generalize hr : ((some (.int q.1), q.2) : Option Value × Mem) = r
  have g : Gd shX w x RX10 cX10_told 2 (some .int) 6 := g
  refine u_aload_n g 0 dX10_told_0 rfl ?_
  refine gfX10_4 g (c := 0) rfl wf_X10_30 (v := (M.1 0 4)) rfl dX10_told_1 ?_
  refine u_if_ne g 13 dX10_told_4 (by decide) (fun b1 => ?_) (fun b1 => ?_)
  · have h := ob_neg b1 h
    refine u_aload_n g 0 dX10_told_13 rfl ?_
    obtain ⟨q2, hq3, h⟩ := ob_bind h
    refine u_callV (st := []) g wv_X10_119 [] (kX_lt (show kX 0 = 10 from rfl) rfl) (ceX_10 (show kX 0 = 10 from rfl)) rfl rfl (t_X10_roomForFamily w x.2.1 hq3) (by decide) (by decide) rfl (Nat.le_of_ble_eq_true rfl) rfl dX10_told_14 ?_
    show U shX w x r M 17 [(0, .ref (w.2.2.1 0))] [.int q2]
    refine u_if_ne g 26 dX10_told_17 (by decide) (fun b4 => ?_) (fun b4 => ?_)
    · have h := ob_neg b4 h
      refine u_aload_n g 0 dX10_told_26 rfl ?_
      refine gfX10_9 g (c := 0) rfl wf_X10_63 dX10_told_27 ?_
      refine u_aload_n g 0 dX10_told_30 rfl ?_
      refine gfX10_0 g (c := 0) rfl wf_X10_10 dX10_told_31 ?_
      refine gfX5_0 g (c := 1) rfl wf_X10_87 (v := (M.1 1 0)) rfl dX10_told_34 ?_
      obtain ⟨q5, hq6, h⟩ := ob_bind h
      refine u_callV (st := []) g wv_X10_122 [.int (M.1 1 0)] (kX_lt (show kX 254 = 3 from rfl) rfl) (ceX_3 (show kX 254 = 3 from rfl)) rfl rfl (t_X3_begin w x.2.1 hq6) (by decide) (by decide) rfl (Nat.le_of_ble_eq_true rfl) rfl dX10_told_37 ?_
      show U shX w x r q5 40 [(0, .ref (w.2.2.1 0))] []
      refine u_iconst g (v := (0 : Int32)) dX10_told_40 rfl ?_
      refine u_istore_n g [(1, .int (0 : Int32)), (0, .ref (w.2.2.1 0))] dX10_told_41 (by decide) rfl ?_
      obtain ⟨q7, hq8, h⟩ := ob_bind h
      refine u_sub [1, 0] rfl (s_X10_told_l1 g fuelN (0 : Int32) q5 _ hq8 ?_)
      show U shX w x r q7 78 [(0, .ref (w.2.2.1 0))] []
      refine u_aload_n g 0 dX10_told_78 rfl ?_
      refine u_iconst g (v := (0 : Int32)) dX10_told_79 rfl ?_
      refine pfX10_4 g (c := 0) rfl wf_X10_30 dX10_told_80 ?_
      refine u_aload_n g 0 dX10_told_83 rfl ?_
      refine u_iconst g (v := (0 : Int32)) dX10_told_84 rfl ?_
      obtain ⟨q9, hq10, h⟩ := ob_bind h
      refine u_callV (st := []) g wv_X10_135 [.int (0 : Int32)] (kX_lt (show kX 0 = 10 from rfl) rfl) (ceX_10 (show kX 0 = 10 from rfl)) rfl rfl (t_X10_settleGathered w x.2.1 hq10) (by decide) (by decide) rfl (Nat.le_of_ble_eq_true rfl) rfl dX10_told_85 ?_
      show U shX w x r q9.2 88 [(0, .ref (w.2.2.1 0))] [.int q9.1]
      exact u_iret g dX10_told_88 (by rw [← hr]; obtain rfl := Option.some.inj h; rfl)
    · have h := ob_pos b4 h
      refine u_aload_n g 0 dX10_told_20 rfl ?_
      refine u_iconst g (v := (4 : Int32)) dX10_told_21 rfl ?_
      obtain ⟨q11, hq12, h⟩ := ob_bind h
      refine u_callV (st := []) g wv_X10_83 [.int (4 : Int32)] (kX_lt (show kX 0 = 10 from rfl) rfl) (ceX_10 (show kX 0 = 10 from rfl)) rfl rfl (t_X10_refuse w x.2.1 hq12) (by decide) (by decide) rfl (Nat.le_of_ble_eq_true rfl) rfl dX10_told_22 ?_
      show U shX w x r q11.2 25 [(0, .ref (w.2.2.1 0))] [.int q11.1]
      exact u_iret g dX10_told_25 (by rw [← hr]; obtain rfl := Option.some.inj h; rfl)
  · have h := ob_pos b1 h
    refine u_aload_n g 0 dX10_told_7 rfl ?_
    refine u_iconst g (v := (5 : Int32)) dX10_told_8 rfl ?_
    obtain ⟨q13, hq14, h⟩ := ob_bind h
    refine u_callV (st := []) g wv_X10_83 [.int (5 : Int32)] (kX_lt (show kX 0 = 10 from rfl) rfl) (ceX_10 (show kX 0 = 10 from rfl)) rfl rfl (t_X10_refuse w x.2.1 hq14) (by decide) (by decide) rfl (Nat.le_of_ble_eq_true rfl) rfl dX10_told_9 ?_
    show U shX w x r q13.2 12 [(0, .ref (w.2.2.1 0))] [.int q13.1]
    exact u_iret g dX10_told_12 (by rw [← hr]; obtain rfl := Option.some.inj h; rfl)
set_option maxRecDepth 100000 in
set_option maxHeartbeats 4000000 in
theorem t_X10_most (w : Wp) (l : Launch) {a1 : Int32} {M : Mem} {q : Int32 × Mem} (h : f_X10_most a1 M = some q) : Ct shX w l yX10_most cX10_most 2 (some .int) 45 [.ref (w.2.2.1 0), .int a1] M (some (.int q.1), q.2) := by
  rw [f_X10_most] at h
  refine ct_of shX_loc (by decide) (Nat.le_of_ble_eq_true rfl) rfl (fun x hx g => ?_)
  subst hx
  show U shX w x _ M 0 [(0, .ref (w.2.2.1 0)), (1, .int a1)] []
  generalize hr : ((some (.int q.1), q.2) : Option Value × Mem) = r
  have g : Gd shX w x RX10 cX10_most 2 (some .int) 45 := g
  refine u_aload_n g 0 dX10_most_0 rfl ?_
  refine gfX10_0 g (c := 0) rfl wf_X10_10 dX10_most_1 ?_
  refine u_iload_n g 1 dX10_most_4 rfl ?_
  obtain ⟨q1, hq2, h⟩ := ob_bind h
  refine u_callV (st := []) g wv_X10_116 [.int a1] (kX_lt (show kX 1 = 5 from rfl) rfl) (ceX_5 (show kX 1 = 5 from rfl)) rfl rfl (t_X5_areASet w x.2.1 hq2) (by decide) (by decide) rfl (Nat.le_of_ble_eq_true rfl) rfl dX10_most_5 ?_
  show U shX w x r M 8 [(0, .ref (w.2.2.1 0)), (1, .int a1)] [.int q1]
  refine u_if_ne g 17 dX10_most_8 (by decide) (fun b3 => ?_) (fun b3 => ?_)
  · have h := ob_neg b3 h
    refine u_aload_n g 0 dX10_most_17 rfl ?_
    obtain ⟨q4, hq5, h⟩ := ob_bind h
    refine u_callV (st := []) g wv_X10_119 [] (kX_lt (show kX 0 = 10 from rfl) rfl) (ceX_10 (show kX 0 = 10 from rfl)) rfl rfl (t_X10_roomForFamily w x.2.1 hq5) (by decide) (by decide) rfl (Nat.le_of_ble_eq_true rfl) rfl dX10_most_18 ?_
    show U shX w x r M 21 [(0, .ref (w.2.2.1 0)), (1, .int a1)] [.int q4]
    refine u_if_ne g 30 dX10_most_21 (by decide) (fun b6 => ?_) (fun b6 => ?_)
    · have h := ob_neg b6 h
      refine u_aload_n g 0 dX10_most_30 rfl ?_
      refine gfX10_9 g (c := 0) rfl wf_X10_63 dX10_most_31 ?_
      refine u_aload_n g 0 dX10_most_34 rfl ?_
      refine gfX10_0 g (c := 0) rfl wf_X10_10 dX10_most_35 ?_
      refine gfX5_0 g (c := 1) rfl wf_X10_87 (v := (M.1 1 0)) rfl dX10_most_38 ?_
      obtain ⟨q7, hq8, h⟩ := ob_bind h
      refine u_callV (st := []) g wv_X10_122 [.int (M.1 1 0)] (kX_lt (show kX 254 = 3 from rfl) rfl) (ceX_3 (show kX 254 = 3 from rfl)) rfl rfl (t_X3_begin w x.2.1 hq8) (by decide) (by decide) rfl (Nat.le_of_ble_eq_true rfl) rfl dX10_most_41 ?_
      show U shX w x r q7 44 [(0, .ref (w.2.2.1 0)), (1, .int a1)] []
      refine u_aload_n g 0 dX10_most_44 rfl ?_
      refine gfX10_9 g (c := 0) rfl wf_X10_63 dX10_most_45 ?_
      refine u_aload_n g 0 dX10_most_48 rfl ?_
      refine gfX10_0 g (c := 0) rfl wf_X10_10 dX10_most_49 ?_
      refine u_iload_n g 1 dX10_most_52 rfl ?_
      obtain ⟨q9, hq10, h⟩ := ob_bind h
      refine u_callV (st := []) g wv_X10_138 [.ref (w.2.2.1 1), .int a1] (kX_lt (show kX 254 = 3 from rfl) rfl) (ceX_3 (show kX 254 = 3 from rfl)) rfl rfl (t_X3_gatherMost w x.2.1 hq10) (by decide) (by decide) rfl (Nat.le_of_ble_eq_true rfl) rfl dX10_most_53 ?_
      show U shX w x r q9 56 [(0, .ref (w.2.2.1 0)), (1, .int a1)] []
      refine u_aload_n g 0 dX10_most_56 rfl ?_
      refine u_iconst g (v := (1 : Int32)) dX10_most_57 rfl ?_
      obtain ⟨q11, hq12, h⟩ := ob_bind h
      refine u_callV (st := []) g wv_X10_135 [.int (1 : Int32)] (kX_lt (show kX 0 = 10 from rfl) rfl) (ceX_10 (show kX 0 = 10 from rfl)) rfl rfl (t_X10_settleGathered w x.2.1 hq12) (by decide) (by decide) rfl (Nat.le_of_ble_eq_true rfl) rfl dX10_most_58 ?_
      show U shX w x r q11.2 61 [(0, .ref (w.2.2.1 0)), (1, .int a1)] [.int q11.1]
      exact u_iret g dX10_most_61 (by rw [← hr]; obtain rfl := Option.some.inj h; rfl)
    · have h := ob_pos b6 h
      refine u_aload_n g 0 dX10_most_24 rfl ?_
      refine u_iconst g (v := (4 : Int32)) dX10_most_25 rfl ?_
      obtain ⟨q13, hq14, h⟩ := ob_bind h
      refine u_callV (st := []) g wv_X10_83 [.int (4 : Int32)] (kX_lt (show kX 0 = 10 from rfl) rfl) (ceX_10 (show kX 0 = 10 from rfl)) rfl rfl (t_X10_refuse w x.2.1 hq14) (by decide) (by decide) rfl (Nat.le_of_ble_eq_true rfl) rfl dX10_most_26 ?_
      show U shX w x r q13.2 29 [(0, .ref (w.2.2.1 0)), (1, .int a1)] [.int q13.1]
      exact u_iret g dX10_most_29 (by rw [← hr]; obtain rfl := Option.some.inj h; rfl)
  · have h := ob_pos b3 h
    refine u_aload_n g 0 dX10_most_11 rfl ?_
    refine u_iconst g (v := (2 : Int32)) dX10_most_12 rfl ?_
    obtain ⟨q15, hq16, h⟩ := ob_bind h
    refine u_callV (st := []) g wv_X10_83 [.int (2 : Int32)] (kX_lt (show kX 0 = 10 from rfl) rfl) (ceX_10 (show kX 0 = 10 from rfl)) rfl rfl (t_X10_refuse w x.2.1 hq16) (by decide) (by decide) rfl (Nat.le_of_ble_eq_true rfl) rfl dX10_most_13 ?_
    show U shX w x r q15.2 16 [(0, .ref (w.2.2.1 0)), (1, .int a1)] [.int q15.1]
    exact u_iret g dX10_most_16 (by rw [← hr]; obtain rfl := Option.some.inj h; rfl)
set_option maxRecDepth 100000 in
set_option maxHeartbeats 4000000 in
theorem t_X10_settleRows (w : Wp) (l : Launch) {a1 : Int32} {a2 : Int32} {M : Mem} {q : Int32 × Mem} (h : f_X10_settleRows a1 a2 M = some q) : Ct shX w l yX10_settleRows cX10_settleRows 3 (some .int) 6 [.ref (w.2.2.1 0), .int a1, .int a2] M (some (.int q.1), q.2) := by
  rw [f_X10_settleRows] at h
  refine ct_of shX_loc (by decide) (Nat.le_of_ble_eq_true rfl) rfl (fun x hx g => ?_)
  subst hx
  show U shX w x _ M 0 [(0, .ref (w.2.2.1 0)), (1, .int a1), (2, .int a2)] []
  generalize hr : ((some (.int q.1), q.2) : Option Value × Mem) = r
  have g : Gd shX w x RX10 cX10_settleRows 3 (some .int) 6 := g
  refine u_aload_n g 0 dX10_settleRows_0 rfl ?_
  refine gfX10_0 g (c := 0) rfl wf_X10_10 dX10_settleRows_1 ?_
  refine u_iload_n g 1 dX10_settleRows_4 rfl ?_
  refine u_aload_n g 0 dX10_settleRows_5 rfl ?_
  refine gfX10_9 g (c := 0) rfl wf_X10_63 dX10_settleRows_6 ?_
  obtain ⟨q1, hq2, h⟩ := ob_bind h
  refine u_callV (st := [.int a1, .ref (w.2.2.1 1)]) g wv_X10_216 [] (kX_lt (show kX 254 = 3 from rfl) rfl) (ceX_3 (show kX 254 = 3 from rfl)) rfl rfl (t_X3_keepersOfRows w x.2.1 hq2) (by decide) (by decide) rfl (Nat.le_of_ble_eq_true rfl) rfl dX10_settleRows_9 ?_
  show U shX w x r M 12 [(0, .ref (w.2.2.1 0)), (1, .int a1), (2, .int a2)] [.int q1, .int a1, .ref (w.2.2.1 1)]
  obtain ⟨q3, hq4, h⟩ := ob_bind h
  refine u_callV (st := []) g wv_X10_155 [.int a1, .int q1] (kX_lt (show kX 1 = 5 from rfl) rfl) (ceX_5 (show kX 1 = 5 from rfl)) rfl rfl (t_X5_areThere w x.2.1 hq4) (by decide) (by decide) rfl (Nat.le_of_ble_eq_true rfl) rfl dX10_settleRows_12 ?_
  show U shX w x r M 15 [(0, .ref (w.2.2.1 0)), (1, .int a1), (2, .int a2)] [.int q3]
  refine u_if_ne g 24 dX10_settleRows_15 (by decide) (fun b5 => ?_) (fun b5 => ?_)
  · have h := ob_neg b5 h
    refine u_aload_n g 0 dX10_settleRows_24 rfl ?_
    obtain ⟨q6, hq7, h⟩ := ob_bind h
    refine u_callV (st := []) g wv_X10_119 [] (kX_lt (show kX 0 = 10 from rfl) rfl) (ceX_10 (show kX 0 = 10 from rfl)) rfl rfl (t_X10_roomForFamily w x.2.1 hq7) (by decide) (by decide) rfl (Nat.le_of_ble_eq_true rfl) rfl dX10_settleRows_25 ?_
    show U shX w x r M 28 [(0, .ref (w.2.2.1 0)), (1, .int a1), (2, .int a2)] [.int q6]
    refine u_if_ne g 37 dX10_settleRows_28 (by decide) (fun b8 => ?_) (fun b8 => ?_)
    · have h := ob_neg b8 h
      refine u_aload_n g 0 dX10_settleRows_37 rfl ?_
      refine gfX10_9 g (c := 0) rfl wf_X10_63 dX10_settleRows_38 ?_
      refine u_aload_n g 0 dX10_settleRows_41 rfl ?_
      refine gfX10_0 g (c := 0) rfl wf_X10_10 dX10_settleRows_42 ?_
      refine gfX5_0 g (c := 1) rfl wf_X10_87 (v := (M.1 1 0)) rfl dX10_settleRows_45 ?_
      obtain ⟨q9, hq10, h⟩ := ob_bind h
      refine u_callV (st := []) g wv_X10_122 [.int (M.1 1 0)] (kX_lt (show kX 254 = 3 from rfl) rfl) (ceX_3 (show kX 254 = 3 from rfl)) rfl rfl (t_X3_begin w x.2.1 hq10) (by decide) (by decide) rfl (Nat.le_of_ble_eq_true rfl) rfl dX10_settleRows_48 ?_
      show U shX w x r q9 51 [(0, .ref (w.2.2.1 0)), (1, .int a1), (2, .int a2)] []
      refine u_aload_n g 0 dX10_settleRows_51 rfl ?_
      refine gfX10_9 g (c := 0) rfl wf_X10_63 dX10_settleRows_52 ?_
      refine u_iload_n g 1 dX10_settleRows_55 rfl ?_
      obtain ⟨q11, hq12, h⟩ := ob_bind h
      refine u_callV (st := []) g wv_X10_219 [.int a1] (kX_lt (show kX 254 = 3 from rfl) rfl) (ceX_3 (show kX 254 = 3 from rfl)) rfl rfl (t_X3_gatherRows w x.2.1 hq12) (by decide) (by decide) rfl (Nat.le_of_ble_eq_true rfl) rfl dX10_settleRows_56 ?_
      show U shX w x r q11 59 [(0, .ref (w.2.2.1 0)), (1, .int a1), (2, .int a2)] []
      refine u_aload_n g 0 dX10_settleRows_59 rfl ?_
      refine u_iload_n g 2 dX10_settleRows_60 rfl ?_
      obtain ⟨q13, hq14, h⟩ := ob_bind h
      refine u_callV (st := []) g wv_X10_135 [.int a2] (kX_lt (show kX 0 = 10 from rfl) rfl) (ceX_10 (show kX 0 = 10 from rfl)) rfl rfl (t_X10_settleGathered w x.2.1 hq14) (by decide) (by decide) rfl (Nat.le_of_ble_eq_true rfl) rfl dX10_settleRows_61 ?_
      show U shX w x r q13.2 64 [(0, .ref (w.2.2.1 0)), (1, .int a1), (2, .int a2)] [.int q13.1]
      exact u_iret g dX10_settleRows_64 (by rw [← hr]; obtain rfl := Option.some.inj h; rfl)
    · have h := ob_pos b8 h
      refine u_aload_n g 0 dX10_settleRows_31 rfl ?_
      refine u_iconst g (v := (4 : Int32)) dX10_settleRows_32 rfl ?_
      obtain ⟨q15, hq16, h⟩ := ob_bind h
      refine u_callV (st := []) g wv_X10_83 [.int (4 : Int32)] (kX_lt (show kX 0 = 10 from rfl) rfl) (ceX_10 (show kX 0 = 10 from rfl)) rfl rfl (t_X10_refuse w x.2.1 hq16) (by decide) (by decide) rfl (Nat.le_of_ble_eq_true rfl) rfl dX10_settleRows_33 ?_
      show U shX w x r q15.2 36 [(0, .ref (w.2.2.1 0)), (1, .int a1), (2, .int a2)] [.int q15.1]
      exact u_iret g dX10_settleRows_36 (by rw [← hr]; obtain rfl := Option.some.inj h; rfl)
  · have h := ob_pos b5 h
    refine u_aload_n g 0 dX10_settleRows_18 rfl ?_
    refine u_iconst g (v := (1 : Int32)) dX10_settleRows_19 rfl ?_
    obtain ⟨q17, hq18, h⟩ := ob_bind h
    refine u_callV (st := []) g wv_X10_83 [.int (1 : Int32)] (kX_lt (show kX 0 = 10 from rfl) rfl) (ceX_10 (show kX 0 = 10 from rfl)) rfl rfl (t_X10_refuse w x.2.1 hq18) (by decide) (by decide) rfl (Nat.le_of_ble_eq_true rfl) rfl dX10_settleRows_20 ?_
    show U shX w x r q17.2 23 [(0, .ref (w.2.2.1 0)), (1, .int a1), (2, .int a2)] [.int q17.1]
    exact u_iret g dX10_settleRows_23 (by rw [← hr]; obtain rfl := Option.some.inj h; rfl)
set_option maxRecDepth 100000 in
set_option maxHeartbeats 4000000 in
theorem s_X10_grid_l1 {w : Wp} {x : Cx} {r : Option Value × Mem} (g : Gd shX w x RX10 cX10_grid 5 (some .int) 7) (a1 : Int32) (a2 : Int32) (a3 : Int32)  : ∀ (n : Nat) (v4 : Int32) (M : Mem) (q : Mem), f_X10_grid_l1 a1 a2 a3 n v4 M = some q → U shX w x r q 65 [(0, .ref (w.2.2.1 0)), (3, .int a3)] [] → U shX w x r M 38 [(0, .ref (w.2.2.1 0)), (1, .int a1), (2, .int a2), (3, .int a3), (4, .int v4)] [] := by
  intro n
  induction n with
  | zero => intro v4 M q h K; rw [f_X10_grid_l1] at h; cases h
  | succ n ih =>
    intro v4 M q h K
    rw [f_X10_grid_l1] at h
    refine u_iload g 4 dX10_grid_38 rfl ?_
    refine u_iload_n g 1 dX10_grid_40 rfl ?_
    refine u_icmp_ge g 65 dX10_grid_41 (by decide) (fun b13 => ?_) (fun b13 => ?_)
    · have h := ob_pos b13 h
      obtain rfl := Option.some.inj h
      exact u_sub [0, 3] rfl K
    · have h := ob_neg b13 h
      refine u_iload g 4 dX10_grid_44 rfl ?_
      refine u_bipush g (v := (16 : Int32)) dX10_grid_46 rfl ?_
      refine u_icmp_ge g 65 dX10_grid_48 (by decide) (fun b14 => ?_) (fun b14 => ?_)
      · have h := ob_pos b14 h
        obtain rfl := Option.some.inj h
        exact u_sub [0, 3] rfl K
      · have h := ob_neg b14 h
        refine u_aload_n g 0 dX10_grid_51 rfl ?_
        refine gfX10_9 g (c := 0) rfl wf_X10_63 dX10_grid_52 ?_
        refine u_iload_n g 2 dX10_grid_55 rfl ?_
        obtain ⟨q15, hq16, h⟩ := ob_bind h
        refine u_callV (st := []) g wv_X10_145 [.int a2] (kX_lt (show kX 254 = 3 from rfl) rfl) (ceX_3 (show kX 254 = 3 from rfl)) rfl rfl (t_X3_addRow w x.2.1 hq16) (by decide) (by decide) rfl (Nat.le_of_ble_eq_true rfl) rfl dX10_grid_56 ?_
        show U shX w x r q15 59 [(0, .ref (w.2.2.1 0)), (1, .int a1), (2, .int a2), (3, .int a3), (4, .int v4)] []
        refine u_iinc g 4 [(4, .int (v4 + (1 : Int32))), (0, .ref (w.2.2.1 0)), (1, .int a1), (2, .int a2), (3, .int a3)] dX10_grid_59 rfl rfl (by decide) rfl ?_
        refine u_goto g 38 dX10_grid_62 (by decide) ?_
        exact u_sub [1, 2, 3, 4, 0] rfl (ih (v4 + (1 : Int32)) q15 _ h K)
set_option maxRecDepth 100000 in
set_option maxHeartbeats 4000000 in
theorem t_X10_grid (w : Wp) (l : Launch) {a1 : Int32} {a2 : Int32} {a3 : Int32} {M : Mem} {q : Int32 × Mem} (h : f_X10_grid a1 a2 a3 M = some q) : Ct shX w l yX10_grid cX10_grid 5 (some .int) 7 [.ref (w.2.2.1 0), .int a1, .int a2, .int a3] M (some (.int q.1), q.2) := by
  rw [f_X10_grid] at h
  refine ct_of shX_loc (by decide) (Nat.le_of_ble_eq_true rfl) rfl (fun x hx g => ?_)
  subst hx
  show U shX w x _ M 0 [(0, .ref (w.2.2.1 0)), (1, .int a1), (2, .int a2), (3, .int a3)] []
  generalize hr : ((some (.int q.1), q.2) : Option Value × Mem) = r
  have g : Gd shX w x RX10 cX10_grid 5 (some .int) 7 := g
  refine u_iload_n g 1 dX10_grid_0 rfl ?_
  refine u_iconst g (v := (1 : Int32)) dX10_grid_1 rfl ?_
  refine u_icmp_lt g 22 dX10_grid_2 (by decide) (fun b1 => ?_) (fun b1 => ?_)
  · have h := ob_pos b1 h
    refine u_aload_n g 0 dX10_grid_22 rfl ?_
    refine u_iconst g (v := (2 : Int32)) dX10_grid_23 rfl ?_
    obtain ⟨q2, hq3, h⟩ := ob_bind h
    refine u_callV (st := []) g wv_X10_83 [.int (2 : Int32)] (kX_lt (show kX 0 = 10 from rfl) rfl) (ceX_10 (show kX 0 = 10 from rfl)) rfl rfl (t_X10_refuse w x.2.1 hq3) (by decide) (by decide) rfl (Nat.le_of_ble_eq_true rfl) rfl dX10_grid_24 ?_
    show U shX w x r q2.2 27 [(0, .ref (w.2.2.1 0)), (1, .int a1), (2, .int a2), (3, .int a3)] [.int q2.1]
    exact u_iret g dX10_grid_27 (by rw [← hr]; obtain rfl := Option.some.inj h; rfl)
  · have h := ob_neg b1 h
    refine u_iload_n g 1 dX10_grid_5 rfl ?_
    refine u_bipush g (v := (16 : Int32)) dX10_grid_6 rfl ?_
    refine u_icmp_gt g 22 dX10_grid_8 (by decide) (fun b4 => ?_) (fun b4 => ?_)
    · have h := ob_pos b4 h
      refine u_aload_n g 0 dX10_grid_22 rfl ?_
      refine u_iconst g (v := (2 : Int32)) dX10_grid_23 rfl ?_
      obtain ⟨q5, hq6, h⟩ := ob_bind h
      refine u_callV (st := []) g wv_X10_83 [.int (2 : Int32)] (kX_lt (show kX 0 = 10 from rfl) rfl) (ceX_10 (show kX 0 = 10 from rfl)) rfl rfl (t_X10_refuse w x.2.1 hq6) (by decide) (by decide) rfl (Nat.le_of_ble_eq_true rfl) rfl dX10_grid_24 ?_
      show U shX w x r q5.2 27 [(0, .ref (w.2.2.1 0)), (1, .int a1), (2, .int a2), (3, .int a3)] [.int q5.1]
      exact u_iret g dX10_grid_27 (by rw [← hr]; obtain rfl := Option.some.inj h; rfl)
    · have h := ob_neg b4 h
      refine u_iload_n g 2 dX10_grid_11 rfl ?_
      refine u_iconst g (v := (1 : Int32)) dX10_grid_12 rfl ?_
      refine u_icmp_lt g 22 dX10_grid_13 (by decide) (fun b7 => ?_) (fun b7 => ?_)
      · have h := ob_pos b7 h
        refine u_aload_n g 0 dX10_grid_22 rfl ?_
        refine u_iconst g (v := (2 : Int32)) dX10_grid_23 rfl ?_
        obtain ⟨q8, hq9, h⟩ := ob_bind h
        refine u_callV (st := []) g wv_X10_83 [.int (2 : Int32)] (kX_lt (show kX 0 = 10 from rfl) rfl) (ceX_10 (show kX 0 = 10 from rfl)) rfl rfl (t_X10_refuse w x.2.1 hq9) (by decide) (by decide) rfl (Nat.le_of_ble_eq_true rfl) rfl dX10_grid_24 ?_
        show U shX w x r q8.2 27 [(0, .ref (w.2.2.1 0)), (1, .int a1), (2, .int a2), (3, .int a3)] [.int q8.1]
        exact u_iret g dX10_grid_27 (by rw [← hr]; obtain rfl := Option.some.inj h; rfl)
      · have h := ob_neg b7 h
        refine u_iload_n g 2 dX10_grid_16 rfl ?_
        refine u_bipush g (v := (16 : Int32)) dX10_grid_17 rfl ?_
        refine u_icmp_le g 28 dX10_grid_19 (by decide) (fun b10 => ?_) (fun b10 => ?_)
        · have h := ob_pos b10 h
          refine u_aload_n g 0 dX10_grid_28 rfl ?_
          refine gfX10_9 g (c := 0) rfl wf_X10_63 dX10_grid_29 ?_
          obtain ⟨q11, hq12, h⟩ := ob_bind h
          refine u_callV (st := []) g wv_X10_142 [] (kX_lt (show kX 254 = 3 from rfl) rfl) (ceX_3 (show kX 254 = 3 from rfl)) rfl rfl (t_X3_dropRows w x.2.1 hq12) (by decide) (by decide) rfl (Nat.le_of_ble_eq_true rfl) rfl dX10_grid_32 ?_
          show U shX w x r q11 35 [(0, .ref (w.2.2.1 0)), (1, .int a1), (2, .int a2), (3, .int a3)] []
          refine u_iconst g (v := (0 : Int32)) dX10_grid_35 rfl ?_
          refine u_istore g [(4, .int (0 : Int32)), (0, .ref (w.2.2.1 0)), (1, .int a1), (2, .int a2), (3, .int a3)] dX10_grid_36 (by decide) rfl ?_
          obtain ⟨q13, hq14, h⟩ := ob_bind h
          refine u_sub [1, 2, 3, 4, 0] rfl (s_X10_grid_l1 g a1 a2 a3 fuelN (0 : Int32) q11 _ hq14 ?_)
          show U shX w x r q13 65 [(0, .ref (w.2.2.1 0)), (3, .int a3)] []
          refine u_aload_n g 0 dX10_grid_65 rfl ?_
          refine u_iload_n g 1 dX10_grid_66 rfl ?_
          refine u_iconst g (v := (2 : Int32)) dX10_grid_67 rfl ?_
          obtain ⟨q15, hq16, h⟩ := ob_bind h
          refine u_callV (st := []) g wv_X10_148 [.int a3, .int (2 : Int32)] (kX_lt (show kX 0 = 10 from rfl) rfl) (ceX_10 (show kX 0 = 10 from rfl)) rfl rfl (t_X10_settleRows w x.2.1 hq16) (by decide) (by decide) rfl (Nat.le_of_ble_eq_true rfl) rfl dX10_grid_68 ?_
          show U shX w x r q15.2 71 [(0, .ref (w.2.2.1 0)), (3, .int a3)] [.int q15.1]
          exact u_iret g dX10_grid_71 (by rw [← hr]; obtain rfl := Option.some.inj h; rfl)
        · have h := ob_neg b10 h
          refine u_aload_n g 0 dX10_grid_22 rfl ?_
          refine u_iconst g (v := (2 : Int32)) dX10_grid_23 rfl ?_
          obtain ⟨q17, hq18, h⟩ := ob_bind h
          refine u_callV (st := []) g wv_X10_83 [.int (2 : Int32)] (kX_lt (show kX 0 = 10 from rfl) rfl) (ceX_10 (show kX 0 = 10 from rfl)) rfl rfl (t_X10_refuse w x.2.1 hq18) (by decide) (by decide) rfl (Nat.le_of_ble_eq_true rfl) rfl dX10_grid_24 ?_
          show U shX w x r q17.2 27 [(0, .ref (w.2.2.1 0)), (1, .int a1), (2, .int a2), (3, .int a3)] [.int q17.1]
          exact u_iret g dX10_grid_27 (by rw [← hr]; obtain rfl := Option.some.inj h; rfl)
set_option maxRecDepth 100000 in
set_option maxHeartbeats 4000000 in
theorem t_X10_isLength (w : Wp) (l : Launch) {a0 : Int32} {M : Mem} {q : Int32} (h : f_X10_isLength a0 = some q) : Ct shX w l yX10_isLength cX10_isLength 1 (some .boolean) 0 [.int a0] M (some (.int q), M) := by
  rw [f_X10_isLength] at h
  refine ct_of shX_loc (by decide) (Nat.le_of_ble_eq_true rfl) rfl (fun x hx g => ?_)
  subst hx
  show U shX w x _ M 0 [(0, .int a0)] []
  generalize hr : ((some (.int q), M) : Option Value × Mem) = r
  have g : Gd shX w x RX10 cX10_isLength 1 (some .boolean) 0 := g
  refine u_iload_n g 0 dX10_isLength_0 rfl ?_
  refine u_if_lt g 14 dX10_isLength_1 (by decide) (fun b1 => ?_) (fun b1 => ?_)
  · have h := ob_pos b1 h
    refine u_iconst g (v := (0 : Int32)) dX10_isLength_14 rfl ?_
    exact u_zret g (Or.inl rfl) dX10_isLength_15 (by rw [← hr]; obtain rfl := Option.some.inj h; rfl)
  · have h := ob_neg b1 h
    refine u_iload_n g 0 dX10_isLength_4 rfl ?_
    refine u_bipush g (v := (16 : Int32)) dX10_isLength_5 rfl ?_
    refine u_icmp_gt g 14 dX10_isLength_7 (by decide) (fun b2 => ?_) (fun b2 => ?_)
    · have h := ob_pos b2 h
      refine u_iconst g (v := (0 : Int32)) dX10_isLength_14 rfl ?_
      exact u_zret g (Or.inl rfl) dX10_isLength_15 (by rw [← hr]; obtain rfl := Option.some.inj h; rfl)
    · have h := ob_neg b2 h
      refine u_iconst g (v := (1 : Int32)) dX10_isLength_10 rfl ?_
      refine u_goto g 15 dX10_isLength_11 (by decide) ?_
      exact u_zret g (Or.inr rfl) dX10_isLength_15 (by rw [← hr]; obtain rfl := Option.some.inj h; rfl)
set_option maxRecDepth 100000 in
set_option maxHeartbeats 4000000 in
theorem t_X10_wall (w : Wp) (l : Launch) {a1 : Int32} {a2 : Int32} {a3 : Int32} {a4 : Int32} {a5 : Int32} {a6 : Int32} {M : Mem} {q : Int32 × Mem} (h : f_X10_wall a1 a2 a3 a4 a5 a6 M = some q) : Ct shX w l yX10_wall cX10_wall 8 (some .int) 7 [.ref (w.2.2.1 0), .int a1, .int a2, .int a3, .int a4, .int a5, .int a6] M (some (.int q.1), q.2) := by
  rw [f_X10_wall] at h
  refine ct_of shX_loc (by decide) (Nat.le_of_ble_eq_true rfl) rfl (fun x hx g => ?_)
  subst hx
  show U shX w x _ M 0 [(0, .ref (w.2.2.1 0)), (1, .int a1), (2, .int a2), (3, .int a3), (4, .int a4), (5, .int a5), (6, .int a6)] []
  generalize hr : ((some (.int q.1), q.2) : Option Value × Mem) = r
  have g : Gd shX w x RX10 cX10_wall 8 (some .int) 7 := g
  refine u_iload_n g 2 dX10_wall_0 rfl ?_
  obtain ⟨q1, hq2, h⟩ := ob_bind h
  refine u_callS (st := []) g wv_X10_152 [.int a2] (t_X10_isLength w x.2.1 hq2) (by decide) (by decide) rfl (Nat.le_of_ble_eq_true rfl) rfl dX10_wall_1 ?_
  show U shX w x r M 4 [(0, .ref (w.2.2.1 0)), (1, .int a1), (2, .int a2), (3, .int a3), (4, .int a4), (5, .int a5), (6, .int a6)] [.int q1]
  obtain ⟨q3, hq4, h⟩ := ob_bind h
  have K5 : U shX w x r M 43 [(0, .ref (w.2.2.1 0)), (1, .int a1), (2, .int a2), (3, .int a3), (4, .int a4), (5, .int a5), (6, .int a6)] [.int q3] := by
    refine u_istore g [(7, .int q3), (0, .ref (w.2.2.1 0)), (1, .int a1), (2, .int a2), (3, .int a3), (4, .int a4), (5, .int a5), (6, .int a6)] dX10_wall_43 (by decide) rfl ?_
    refine u_iload g 0 dX10_wall_45 rfl ?_
    refine u_if_eq g 54 dX10_wall_47 (by decide) (fun b6 => ?_) (fun b6 => ?_)
    · have h := ob_pos b6 h
      refine u_aload_n g 1 dX10_wall_54 rfl ?_
      refine u_iconst g (v := (2 : Int32)) dX10_wall_55 rfl ?_
      obtain ⟨q7, hq8, h⟩ := ob_bind h
      refine u_callV (st := []) g wv_X10_83 [.int (2 : Int32)] (kX_lt (show kX 0 = 10 from rfl) rfl) (ceX_10 (show kX 0 = 10 from rfl)) rfl rfl (t_X10_refuse w x.2.1 hq8) (by decide) (by decide) rfl (Nat.le_of_ble_eq_true rfl) rfl dX10_wall_56 ?_
      show U shX w x r q7.2 59 [(7, .int q3), (0, .ref (w.2.2.1 0)), (1, .int a1), (2, .int a2), (3, .int a3), (4, .int a4), (5, .int a5), (6, .int a6)] [.int q7.1]
      exact u_iret g dX10_wall_59 (by rw [← hr]; obtain rfl := Option.some.inj h; rfl)
    · have h := ob_neg b6 h
      refine u_iload_n g 3 dX10_wall_50 rfl ?_
      refine u_if_ne g 60 dX10_wall_51 (by decide) (fun b9 => ?_) (fun b9 => ?_)
      · have h := ob_neg b9 h
        refine u_aload_n g 1 dX10_wall_60 rfl ?_
        refine gfX10_9 g (c := 0) rfl wf_X10_63 dX10_wall_61 ?_
        obtain ⟨q10, hq11, h⟩ := ob_bind h
        refine u_callV (st := []) g wv_X10_142 [] (kX_lt (show kX 254 = 3 from rfl) rfl) (ceX_3 (show kX 254 = 3 from rfl)) rfl rfl (t_X3_dropRows w x.2.1 hq11) (by decide) (by decide) rfl (Nat.le_of_ble_eq_true rfl) rfl dX10_wall_64 ?_
        show U shX w x r q10 67 [(7, .int q3), (0, .ref (w.2.2.1 0)), (1, .int a1), (2, .int a2), (3, .int a3), (4, .int a4), (5, .int a5), (6, .int a6)] []
        refine u_aload_n g 1 dX10_wall_67 rfl ?_
        refine gfX10_9 g (c := 0) rfl wf_X10_63 dX10_wall_68 ?_
        refine u_iload_n g 3 dX10_wall_71 rfl ?_
        obtain ⟨q12, hq13, h⟩ := ob_bind h
        refine u_callV (st := []) g wv_X10_145 [.int a2] (kX_lt (show kX 254 = 3 from rfl) rfl) (ceX_3 (show kX 254 = 3 from rfl)) rfl rfl (t_X3_addRow w x.2.1 hq13) (by decide) (by decide) rfl (Nat.le_of_ble_eq_true rfl) rfl dX10_wall_72 ?_
        show U shX w x r q12 75 [(7, .int q3), (0, .ref (w.2.2.1 0)), (1, .int a1), (2, .int a2), (3, .int a3), (4, .int a4), (5, .int a5), (6, .int a6)] []
        refine u_aload_n g 1 dX10_wall_75 rfl ?_
        refine gfX10_9 g (c := 0) rfl wf_X10_63 dX10_wall_76 ?_
        refine u_iload_n g 4 dX10_wall_79 rfl ?_
        obtain ⟨q14, hq15, h⟩ := ob_bind h
        refine u_callV (st := []) g wv_X10_145 [.int a3] (kX_lt (show kX 254 = 3 from rfl) rfl) (ceX_3 (show kX 254 = 3 from rfl)) rfl rfl (t_X3_addRow w x.2.1 hq15) (by decide) (by decide) rfl (Nat.le_of_ble_eq_true rfl) rfl dX10_wall_80 ?_
        show U shX w x r q14 83 [(7, .int q3), (0, .ref (w.2.2.1 0)), (1, .int a1), (2, .int a2), (3, .int a3), (4, .int a4), (5, .int a5), (6, .int a6)] []
        refine u_aload_n g 1 dX10_wall_83 rfl ?_
        refine gfX10_9 g (c := 0) rfl wf_X10_63 dX10_wall_84 ?_
        refine u_iload g 5 dX10_wall_87 rfl ?_
        obtain ⟨q16, hq17, h⟩ := ob_bind h
        refine u_callV (st := []) g wv_X10_145 [.int a4] (kX_lt (show kX 254 = 3 from rfl) rfl) (ceX_3 (show kX 254 = 3 from rfl)) rfl rfl (t_X3_addRow w x.2.1 hq17) (by decide) (by decide) rfl (Nat.le_of_ble_eq_true rfl) rfl dX10_wall_89 ?_
        show U shX w x r q16 92 [(7, .int q3), (0, .ref (w.2.2.1 0)), (1, .int a1), (2, .int a2), (3, .int a3), (4, .int a4), (5, .int a5), (6, .int a6)] []
        refine u_aload_n g 1 dX10_wall_92 rfl ?_
        refine gfX10_9 g (c := 0) rfl wf_X10_63 dX10_wall_93 ?_
        refine u_iload g 6 dX10_wall_96 rfl ?_
        obtain ⟨q18, hq19, h⟩ := ob_bind h
        refine u_callV (st := []) g wv_X10_145 [.int a5] (kX_lt (show kX 254 = 3 from rfl) rfl) (ceX_3 (show kX 254 = 3 from rfl)) rfl rfl (t_X3_addRow w x.2.1 hq19) (by decide) (by decide) rfl (Nat.le_of_ble_eq_true rfl) rfl dX10_wall_98 ?_
        show U shX w x r q18 101 [(7, .int q3), (0, .ref (w.2.2.1 0)), (1, .int a1), (2, .int a2), (3, .int a3), (4, .int a4), (5, .int a5), (6, .int a6)] []
        refine u_aload_n g 1 dX10_wall_101 rfl ?_
        refine gfX10_9 g (c := 0) rfl wf_X10_63 dX10_wall_102 ?_
        refine u_iload g 7 dX10_wall_105 rfl ?_
        obtain ⟨q20, hq21, h⟩ := ob_bind h
        refine u_callV (st := []) g wv_X10_145 [.int a6] (kX_lt (show kX 254 = 3 from rfl) rfl) (ceX_3 (show kX 254 = 3 from rfl)) rfl rfl (t_X3_addRow w x.2.1 hq21) (by decide) (by decide) rfl (Nat.le_of_ble_eq_true rfl) rfl dX10_wall_107 ?_
        show U shX w x r q20 110 [(7, .int q3), (0, .ref (w.2.2.1 0)), (1, .int a1), (2, .int a2), (3, .int a3), (4, .int a4), (5, .int a5), (6, .int a6)] []
        refine u_aload_n g 1 dX10_wall_110 rfl ?_
        refine u_iload_n g 2 dX10_wall_111 rfl ?_
        refine u_iconst g (v := (3 : Int32)) dX10_wall_112 rfl ?_
        obtain ⟨q22, hq23, h⟩ := ob_bind h
        refine u_callV (st := []) g wv_X10_148 [.int a1, .int (3 : Int32)] (kX_lt (show kX 0 = 10 from rfl) rfl) (ceX_10 (show kX 0 = 10 from rfl)) rfl rfl (t_X10_settleRows w x.2.1 hq23) (by decide) (by decide) rfl (Nat.le_of_ble_eq_true rfl) rfl dX10_wall_113 ?_
        show U shX w x r q22.2 116 [(7, .int q3), (0, .ref (w.2.2.1 0)), (1, .int a1), (2, .int a2), (3, .int a3), (4, .int a4), (5, .int a5), (6, .int a6)] [.int q22.1]
        exact u_iret g dX10_wall_116 (by rw [← hr]; obtain rfl := Option.some.inj h; rfl)
      · have h := ob_pos b9 h
        refine u_aload_n g 1 dX10_wall_54 rfl ?_
        refine u_iconst g (v := (2 : Int32)) dX10_wall_55 rfl ?_
        obtain ⟨q24, hq25, h⟩ := ob_bind h
        refine u_callV (st := []) g wv_X10_83 [.int (2 : Int32)] (kX_lt (show kX 0 = 10 from rfl) rfl) (ceX_10 (show kX 0 = 10 from rfl)) rfl rfl (t_X10_refuse w x.2.1 hq25) (by decide) (by decide) rfl (Nat.le_of_ble_eq_true rfl) rfl dX10_wall_56 ?_
        show U shX w x r q24.2 59 [(7, .int q3), (0, .ref (w.2.2.1 0)), (1, .int a1), (2, .int a2), (3, .int a3), (4, .int a4), (5, .int a5), (6, .int a6)] [.int q24.1]
        exact u_iret g dX10_wall_59 (by rw [← hr]; obtain rfl := Option.some.inj h; rfl)
  have h := hq4
  refine u_if_eq g 42 dX10_wall_4 (by decide) (fun b26 => ?_) (fun b26 => ?_)
  · have h := ob_pos b26 h
    refine u_iconst g (v := (0 : Int32)) dX10_wall_42 rfl ?_
    obtain rfl := Option.some.inj h
    exact u_sub [0, 1, 2, 3, 4, 5, 6] rfl K5
  · have h := ob_neg b26 h
    refine u_iload_n g 3 dX10_wall_7 rfl ?_
    obtain ⟨q27, hq28, h⟩ := ob_bind h
    refine u_callS (st := []) g wv_X10_152 [.int a3] (t_X10_isLength w x.2.1 hq28) (by decide) (by decide) rfl (Nat.le_of_ble_eq_true rfl) rfl dX10_wall_8 ?_
    show U shX w x r M 11 [(0, .ref (w.2.2.1 0)), (1, .int a1), (2, .int a2), (3, .int a3), (4, .int a4), (5, .int a5), (6, .int a6)] [.int q27]
    refine u_if_eq g 42 dX10_wall_11 (by decide) (fun b29 => ?_) (fun b29 => ?_)
    · have h := ob_pos b29 h
      refine u_iconst g (v := (0 : Int32)) dX10_wall_42 rfl ?_
      obtain rfl := Option.some.inj h
      exact u_sub [0, 1, 2, 3, 4, 5, 6] rfl K5
    · have h := ob_neg b29 h
      refine u_iload g 4 dX10_wall_14 rfl ?_
      obtain ⟨q30, hq31, h⟩ := ob_bind h
      refine u_callS (st := []) g wv_X10_152 [.int a4] (t_X10_isLength w x.2.1 hq31) (by decide) (by decide) rfl (Nat.le_of_ble_eq_true rfl) rfl dX10_wall_16 ?_
      show U shX w x r M 19 [(0, .ref (w.2.2.1 0)), (1, .int a1), (2, .int a2), (3, .int a3), (4, .int a4), (5, .int a5), (6, .int a6)] [.int q30]
      refine u_if_eq g 42 dX10_wall_19 (by decide) (fun b32 => ?_) (fun b32 => ?_)
      · have h := ob_pos b32 h
        refine u_iconst g (v := (0 : Int32)) dX10_wall_42 rfl ?_
        obtain rfl := Option.some.inj h
        exact u_sub [0, 1, 2, 3, 4, 5, 6] rfl K5
      · have h := ob_neg b32 h
        refine u_iload g 5 dX10_wall_22 rfl ?_
        obtain ⟨q33, hq34, h⟩ := ob_bind h
        refine u_callS (st := []) g wv_X10_152 [.int a5] (t_X10_isLength w x.2.1 hq34) (by decide) (by decide) rfl (Nat.le_of_ble_eq_true rfl) rfl dX10_wall_24 ?_
        show U shX w x r M 27 [(0, .ref (w.2.2.1 0)), (1, .int a1), (2, .int a2), (3, .int a3), (4, .int a4), (5, .int a5), (6, .int a6)] [.int q33]
        refine u_if_eq g 42 dX10_wall_27 (by decide) (fun b35 => ?_) (fun b35 => ?_)
        · have h := ob_pos b35 h
          refine u_iconst g (v := (0 : Int32)) dX10_wall_42 rfl ?_
          obtain rfl := Option.some.inj h
          exact u_sub [0, 1, 2, 3, 4, 5, 6] rfl K5
        · have h := ob_neg b35 h
          refine u_iload g 6 dX10_wall_30 rfl ?_
          obtain ⟨q36, hq37, h⟩ := ob_bind h
          refine u_callS (st := []) g wv_X10_152 [.int a6] (t_X10_isLength w x.2.1 hq37) (by decide) (by decide) rfl (Nat.le_of_ble_eq_true rfl) rfl dX10_wall_32 ?_
          show U shX w x r M 35 [(0, .ref (w.2.2.1 0)), (1, .int a1), (2, .int a2), (3, .int a3), (4, .int a4), (5, .int a5), (6, .int a6)] [.int q36]
          refine u_if_eq g 42 dX10_wall_35 (by decide) (fun b38 => ?_) (fun b38 => ?_)
          · have h := ob_pos b38 h
            refine u_iconst g (v := (0 : Int32)) dX10_wall_42 rfl ?_
            obtain rfl := Option.some.inj h
            exact u_sub [0, 1, 2, 3, 4, 5, 6] rfl K5
          · have h := ob_neg b38 h
            refine u_iconst g (v := (1 : Int32)) dX10_wall_38 rfl ?_
            refine u_goto g 43 dX10_wall_39 (by decide) ?_
            obtain rfl := Option.some.inj h
            exact u_sub [0, 1, 2, 3, 4, 5, 6] rfl K5
set_option maxRecDepth 100000 in
set_option maxHeartbeats 4000000 in
theorem t_X10_tree (w : Wp) (l : Launch) {a1 : Int32} {a2 : Int32} {M : Mem} {q : Int32 × Mem} (h : f_X10_tree a1 a2 M = some q) : Ct shX w l yX10_tree cX10_tree 4 (some .int) 6 [.ref (w.2.2.1 0), .int a1, .int a2] M (some (.int q.1), q.2) := by
  rw [f_X10_tree] at h
  refine ct_of shX_loc (by decide) (Nat.le_of_ble_eq_true rfl) rfl (fun x hx g => ?_)
  subst hx
  show U shX w x _ M 0 [(0, .ref (w.2.2.1 0)), (1, .int a1), (2, .int a2)] []
  generalize hr : ((some (.int q.1), q.2) : Option Value × Mem) = r
  have g : Gd shX w x RX10 cX10_tree 4 (some .int) 6 := g
  refine u_iload_n g 1 dX10_tree_0 rfl ?_
  refine u_iconst g (v := (1 : Int32)) dX10_tree_1 rfl ?_
  refine u_icmp_lt g 10 dX10_tree_2 (by decide) (fun b1 => ?_) (fun b1 => ?_)
  · have h := ob_pos b1 h
    refine u_aload_n g 0 dX10_tree_10 rfl ?_
    refine u_iconst g (v := (2 : Int32)) dX10_tree_11 rfl ?_
    obtain ⟨q2, hq3, h⟩ := ob_bind h
    refine u_callV (st := []) g wv_X10_83 [.int (2 : Int32)] (kX_lt (show kX 0 = 10 from rfl) rfl) (ceX_10 (show kX 0 = 10 from rfl)) rfl rfl (t_X10_refuse w x.2.1 hq3) (by decide) (by decide) rfl (Nat.le_of_ble_eq_true rfl) rfl dX10_tree_12 ?_
    show U shX w x r q2.2 15 [(0, .ref (w.2.2.1 0)), (1, .int a1), (2, .int a2)] [.int q2.1]
    exact u_iret g dX10_tree_15 (by rw [← hr]; obtain rfl := Option.some.inj h; rfl)
  · have h := ob_neg b1 h
    refine u_iload_n g 1 dX10_tree_5 rfl ?_
    refine u_iconst g (v := (4 : Int32)) dX10_tree_6 rfl ?_
    refine u_icmp_le g 16 dX10_tree_7 (by decide) (fun b4 => ?_) (fun b4 => ?_)
    · have h := ob_pos b4 h
      refine u_iconst g (v := (1 : Int32)) dX10_tree_16 rfl ?_
      refine u_iload_n g 1 dX10_tree_17 rfl ?_
      refine u_ishl g dX10_tree_18 ?_
      refine u_iconst g (v := (1 : Int32)) dX10_tree_19 rfl ?_
      refine u_isub g dX10_tree_20 ?_
      refine u_istore_n g [(3, .int (((1 : Int32) <<< (a1 &&& 31)) - (1 : Int32))), (0, .ref (w.2.2.1 0)), (1, .int a1), (2, .int a2)] dX10_tree_21 (by decide) rfl ?_
      refine u_aload_n g 1 dX10_tree_22 rfl ?_
      refine gfX10_0 g (c := 0) rfl wf_X10_10 dX10_tree_23 ?_
      refine u_iload_n g 3 dX10_tree_26 rfl ?_
      refine u_iload_n g 0 dX10_tree_27 rfl ?_
      obtain ⟨q5, hq6, h⟩ := ob_bind h
      refine u_callV (st := []) g wv_X10_155 [.int a2, .int (((1 : Int32) <<< (a1 &&& 31)) - (1 : Int32))] (kX_lt (show kX 1 = 5 from rfl) rfl) (ceX_5 (show kX 1 = 5 from rfl)) rfl rfl (t_X5_areThere w x.2.1 hq6) (by decide) (by decide) rfl (Nat.le_of_ble_eq_true rfl) rfl dX10_tree_28 ?_
      show U shX w x r M 31 [(3, .int (((1 : Int32) <<< (a1 &&& 31)) - (1 : Int32))), (0, .ref (w.2.2.1 0)), (1, .int a1), (2, .int a2)] [.int q5]
      refine u_if_ne g 40 dX10_tree_31 (by decide) (fun b7 => ?_) (fun b7 => ?_)
      · have h := ob_neg b7 h
        refine u_aload_n g 1 dX10_tree_40 rfl ?_
        obtain ⟨q8, hq9, h⟩ := ob_bind h
        refine u_callV (st := []) g wv_X10_119 [] (kX_lt (show kX 0 = 10 from rfl) rfl) (ceX_10 (show kX 0 = 10 from rfl)) rfl rfl (t_X10_roomForFamily w x.2.1 hq9) (by decide) (by decide) rfl (Nat.le_of_ble_eq_true rfl) rfl dX10_tree_41 ?_
        show U shX w x r M 44 [(3, .int (((1 : Int32) <<< (a1 &&& 31)) - (1 : Int32))), (0, .ref (w.2.2.1 0)), (1, .int a1), (2, .int a2)] [.int q8]
        refine u_if_ne g 53 dX10_tree_44 (by decide) (fun b10 => ?_) (fun b10 => ?_)
        · have h := ob_neg b10 h
          refine u_aload_n g 1 dX10_tree_53 rfl ?_
          refine gfX10_9 g (c := 0) rfl wf_X10_63 dX10_tree_54 ?_
          refine u_aload_n g 1 dX10_tree_57 rfl ?_
          refine gfX10_0 g (c := 0) rfl wf_X10_10 dX10_tree_58 ?_
          refine gfX5_0 g (c := 1) rfl wf_X10_87 (v := (M.1 1 0)) rfl dX10_tree_61 ?_
          obtain ⟨q11, hq12, h⟩ := ob_bind h
          refine u_callV (st := []) g wv_X10_122 [.int (M.1 1 0)] (kX_lt (show kX 254 = 3 from rfl) rfl) (ceX_3 (show kX 254 = 3 from rfl)) rfl rfl (t_X3_begin w x.2.1 hq12) (by decide) (by decide) rfl (Nat.le_of_ble_eq_true rfl) rfl dX10_tree_64 ?_
          show U shX w x r q11 67 [(3, .int (((1 : Int32) <<< (a1 &&& 31)) - (1 : Int32))), (0, .ref (w.2.2.1 0)), (1, .int a1), (2, .int a2)] []
          refine u_aload_n g 1 dX10_tree_67 rfl ?_
          refine gfX10_9 g (c := 0) rfl wf_X10_63 dX10_tree_68 ?_
          refine u_iload_n g 0 dX10_tree_71 rfl ?_
          refine u_iload_n g 3 dX10_tree_72 rfl ?_
          obtain ⟨q13, hq14, h⟩ := ob_bind h
          refine u_callV (st := []) g wv_X10_159 [.int (((1 : Int32) <<< (a1 &&& 31)) - (1 : Int32)), .int a2] (kX_lt (show kX 254 = 3 from rfl) rfl) (ceX_3 (show kX 254 = 3 from rfl)) rfl rfl (t_X3_gatherTree w x.2.1 hq14) (by decide) (by decide) rfl (Nat.le_of_ble_eq_true rfl) rfl dX10_tree_73 ?_
          show U shX w x r q13 76 [(3, .int (((1 : Int32) <<< (a1 &&& 31)) - (1 : Int32))), (0, .ref (w.2.2.1 0)), (1, .int a1), (2, .int a2)] []
          refine u_aload_n g 1 dX10_tree_76 rfl ?_
          refine u_iconst g (v := (4 : Int32)) dX10_tree_77 rfl ?_
          obtain ⟨q15, hq16, h⟩ := ob_bind h
          refine u_callV (st := []) g wv_X10_135 [.int (4 : Int32)] (kX_lt (show kX 0 = 10 from rfl) rfl) (ceX_10 (show kX 0 = 10 from rfl)) rfl rfl (t_X10_settleGathered w x.2.1 hq16) (by decide) (by decide) rfl (Nat.le_of_ble_eq_true rfl) rfl dX10_tree_78 ?_
          show U shX w x r q15.2 81 [(3, .int (((1 : Int32) <<< (a1 &&& 31)) - (1 : Int32))), (0, .ref (w.2.2.1 0)), (1, .int a1), (2, .int a2)] [.int q15.1]
          exact u_iret g dX10_tree_81 (by rw [← hr]; obtain rfl := Option.some.inj h; rfl)
        · have h := ob_pos b10 h
          refine u_aload_n g 1 dX10_tree_47 rfl ?_
          refine u_iconst g (v := (4 : Int32)) dX10_tree_48 rfl ?_
          obtain ⟨q17, hq18, h⟩ := ob_bind h
          refine u_callV (st := []) g wv_X10_83 [.int (4 : Int32)] (kX_lt (show kX 0 = 10 from rfl) rfl) (ceX_10 (show kX 0 = 10 from rfl)) rfl rfl (t_X10_refuse w x.2.1 hq18) (by decide) (by decide) rfl (Nat.le_of_ble_eq_true rfl) rfl dX10_tree_49 ?_
          show U shX w x r q17.2 52 [(3, .int (((1 : Int32) <<< (a1 &&& 31)) - (1 : Int32))), (0, .ref (w.2.2.1 0)), (1, .int a1), (2, .int a2)] [.int q17.1]
          exact u_iret g dX10_tree_52 (by rw [← hr]; obtain rfl := Option.some.inj h; rfl)
      · have h := ob_pos b7 h
        refine u_aload_n g 1 dX10_tree_34 rfl ?_
        refine u_iconst g (v := (1 : Int32)) dX10_tree_35 rfl ?_
        obtain ⟨q19, hq20, h⟩ := ob_bind h
        refine u_callV (st := []) g wv_X10_83 [.int (1 : Int32)] (kX_lt (show kX 0 = 10 from rfl) rfl) (ceX_10 (show kX 0 = 10 from rfl)) rfl rfl (t_X10_refuse w x.2.1 hq20) (by decide) (by decide) rfl (Nat.le_of_ble_eq_true rfl) rfl dX10_tree_36 ?_
        show U shX w x r q19.2 39 [(3, .int (((1 : Int32) <<< (a1 &&& 31)) - (1 : Int32))), (0, .ref (w.2.2.1 0)), (1, .int a1), (2, .int a2)] [.int q19.1]
        exact u_iret g dX10_tree_39 (by rw [← hr]; obtain rfl := Option.some.inj h; rfl)
    · have h := ob_neg b4 h
      refine u_aload_n g 0 dX10_tree_10 rfl ?_
      refine u_iconst g (v := (2 : Int32)) dX10_tree_11 rfl ?_
      obtain ⟨q21, hq22, h⟩ := ob_bind h
      refine u_callV (st := []) g wv_X10_83 [.int (2 : Int32)] (kX_lt (show kX 0 = 10 from rfl) rfl) (ceX_10 (show kX 0 = 10 from rfl)) rfl rfl (t_X10_refuse w x.2.1 hq22) (by decide) (by decide) rfl (Nat.le_of_ble_eq_true rfl) rfl dX10_tree_12 ?_
      show U shX w x r q21.2 15 [(0, .ref (w.2.2.1 0)), (1, .int a1), (2, .int a2)] [.int q21.1]
      exact u_iret g dX10_tree_15 (by rw [← hr]; obtain rfl := Option.some.inj h; rfl)
set_option maxRecDepth 100000 in
set_option maxHeartbeats 4000000 in
theorem t_X10_plane (w : Wp) (l : Launch) {a1 : Int32} {a2 : Int32} {M : Mem} {q : Int32 × Mem} (h : f_X10_plane a1 a2 M = some q) : Ct shX w l yX10_plane cX10_plane 4 (some .int) 6 [.ref (w.2.2.1 0), .int a1, .int a2] M (some (.int q.1), q.2) := by
  rw [f_X10_plane] at h
  refine ct_of shX_loc (by decide) (Nat.le_of_ble_eq_true rfl) rfl (fun x hx g => ?_)
  subst hx
  show U shX w x _ M 0 [(0, .ref (w.2.2.1 0)), (1, .int a1), (2, .int a2)] []
  generalize hr : ((some (.int q.1), q.2) : Option Value × Mem) = r
  have g : Gd shX w x RX10 cX10_plane 4 (some .int) 6 := g
  refine u_iload_n g 1 dX10_plane_0 rfl ?_
  refine u_iconst g (v := (2 : Int32)) dX10_plane_1 rfl ?_
  refine u_icmp_eq g 16 dX10_plane_2 (by decide) (fun b1 => ?_) (fun b1 => ?_)
  · have h := ob_pos b1 h
    refine u_iload_n g 1 dX10_plane_16 rfl ?_
    refine u_iconst g (v := (2 : Int32)) dX10_plane_17 rfl ?_
    obtain ⟨q2, hq3, h⟩ := ob_bind h
    have K4 : U shX w x r M 28 [(0, .ref (w.2.2.1 0)), (2, .int a2)] [.int q2] := by
      refine u_istore_n g [(3, .int q2), (0, .ref (w.2.2.1 0)), (2, .int a2)] dX10_plane_28 (by decide) rfl ?_
      refine u_aload_n g 1 dX10_plane_29 rfl ?_
      refine gfX10_0 g (c := 0) rfl wf_X10_10 dX10_plane_30 ?_
      refine u_iload_n g 2 dX10_plane_33 rfl ?_
      refine u_iload_n g 0 dX10_plane_34 rfl ?_
      obtain ⟨q5, hq6, h⟩ := ob_bind h
      refine u_callV (st := []) g wv_X10_155 [.int a2, .int q2] (kX_lt (show kX 1 = 5 from rfl) rfl) (ceX_5 (show kX 1 = 5 from rfl)) rfl rfl (t_X5_areThere w x.2.1 hq6) (by decide) (by decide) rfl (Nat.le_of_ble_eq_true rfl) rfl dX10_plane_35 ?_
      show U shX w x r M 38 [(3, .int q2), (0, .ref (w.2.2.1 0)), (2, .int a2)] [.int q5]
      refine u_if_ne g 47 dX10_plane_38 (by decide) (fun b7 => ?_) (fun b7 => ?_)
      · have h := ob_neg b7 h
        refine u_aload_n g 1 dX10_plane_47 rfl ?_
        obtain ⟨q8, hq9, h⟩ := ob_bind h
        refine u_callV (st := []) g wv_X10_119 [] (kX_lt (show kX 0 = 10 from rfl) rfl) (ceX_10 (show kX 0 = 10 from rfl)) rfl rfl (t_X10_roomForFamily w x.2.1 hq9) (by decide) (by decide) rfl (Nat.le_of_ble_eq_true rfl) rfl dX10_plane_48 ?_
        show U shX w x r M 51 [(3, .int q2), (0, .ref (w.2.2.1 0)), (2, .int a2)] [.int q8]
        refine u_if_ne g 60 dX10_plane_51 (by decide) (fun b10 => ?_) (fun b10 => ?_)
        · have h := ob_neg b10 h
          refine u_aload_n g 1 dX10_plane_60 rfl ?_
          refine gfX10_9 g (c := 0) rfl wf_X10_63 dX10_plane_61 ?_
          refine u_aload_n g 1 dX10_plane_64 rfl ?_
          refine gfX10_0 g (c := 0) rfl wf_X10_10 dX10_plane_65 ?_
          refine gfX5_0 g (c := 1) rfl wf_X10_87 (v := (M.1 1 0)) rfl dX10_plane_68 ?_
          obtain ⟨q11, hq12, h⟩ := ob_bind h
          refine u_callV (st := []) g wv_X10_122 [.int (M.1 1 0)] (kX_lt (show kX 254 = 3 from rfl) rfl) (ceX_3 (show kX 254 = 3 from rfl)) rfl rfl (t_X3_begin w x.2.1 hq12) (by decide) (by decide) rfl (Nat.le_of_ble_eq_true rfl) rfl dX10_plane_71 ?_
          show U shX w x r q11 74 [(3, .int q2), (0, .ref (w.2.2.1 0)), (2, .int a2)] []
          refine u_aload_n g 1 dX10_plane_74 rfl ?_
          refine gfX10_9 g (c := 0) rfl wf_X10_63 dX10_plane_75 ?_
          refine u_iload_n g 0 dX10_plane_78 rfl ?_
          refine u_iload_n g 2 dX10_plane_79 rfl ?_
          obtain ⟨q13, hq14, h⟩ := ob_bind h
          refine u_callV (st := []) g wv_X10_163 [.int q2, .int a2] (kX_lt (show kX 254 = 3 from rfl) rfl) (ceX_3 (show kX 254 = 3 from rfl)) rfl rfl (t_X3_gatherPlane w x.2.1 hq14) (by decide) (by decide) rfl (Nat.le_of_ble_eq_true rfl) rfl dX10_plane_80 ?_
          show U shX w x r q13 83 [(3, .int q2), (0, .ref (w.2.2.1 0)), (2, .int a2)] []
          refine u_aload_n g 1 dX10_plane_83 rfl ?_
          refine u_iconst g (v := (5 : Int32)) dX10_plane_84 rfl ?_
          obtain ⟨q15, hq16, h⟩ := ob_bind h
          refine u_callV (st := []) g wv_X10_135 [.int (5 : Int32)] (kX_lt (show kX 0 = 10 from rfl) rfl) (ceX_10 (show kX 0 = 10 from rfl)) rfl rfl (t_X10_settleGathered w x.2.1 hq16) (by decide) (by decide) rfl (Nat.le_of_ble_eq_true rfl) rfl dX10_plane_85 ?_
          show U shX w x r q15.2 88 [(3, .int q2), (0, .ref (w.2.2.1 0)), (2, .int a2)] [.int q15.1]
          exact u_iret g dX10_plane_88 (by rw [← hr]; obtain rfl := Option.some.inj h; rfl)
        · have h := ob_pos b10 h
          refine u_aload_n g 1 dX10_plane_54 rfl ?_
          refine u_iconst g (v := (4 : Int32)) dX10_plane_55 rfl ?_
          obtain ⟨q17, hq18, h⟩ := ob_bind h
          refine u_callV (st := []) g wv_X10_83 [.int (4 : Int32)] (kX_lt (show kX 0 = 10 from rfl) rfl) (ceX_10 (show kX 0 = 10 from rfl)) rfl rfl (t_X10_refuse w x.2.1 hq18) (by decide) (by decide) rfl (Nat.le_of_ble_eq_true rfl) rfl dX10_plane_56 ?_
          show U shX w x r q17.2 59 [(3, .int q2), (0, .ref (w.2.2.1 0)), (2, .int a2)] [.int q17.1]
          exact u_iret g dX10_plane_59 (by rw [← hr]; obtain rfl := Option.some.inj h; rfl)
      · have h := ob_pos b7 h
        refine u_aload_n g 1 dX10_plane_41 rfl ?_
        refine u_iconst g (v := (1 : Int32)) dX10_plane_42 rfl ?_
        obtain ⟨q19, hq20, h⟩ := ob_bind h
        refine u_callV (st := []) g wv_X10_83 [.int (1 : Int32)] (kX_lt (show kX 0 = 10 from rfl) rfl) (ceX_10 (show kX 0 = 10 from rfl)) rfl rfl (t_X10_refuse w x.2.1 hq20) (by decide) (by decide) rfl (Nat.le_of_ble_eq_true rfl) rfl dX10_plane_43 ?_
        show U shX w x r q19.2 46 [(3, .int q2), (0, .ref (w.2.2.1 0)), (2, .int a2)] [.int q19.1]
        exact u_iret g dX10_plane_46 (by rw [← hr]; obtain rfl := Option.some.inj h; rfl)
    have h := hq3
    refine u_icmp_ne g 26 dX10_plane_18 (by decide) (fun b21 => ?_) (fun b21 => ?_)
    · have h := ob_neg b21 h
      refine u_bipush g (v := (13 : Int32)) dX10_plane_26 rfl ?_
      obtain rfl := Option.some.inj h
      exact u_sub [0, 2] rfl K4
    · have h := ob_pos b21 h
      refine u_bipush g (v := (7 : Int32)) dX10_plane_21 rfl ?_
      refine u_goto g 28 dX10_plane_23 (by decide) ?_
      obtain rfl := Option.some.inj h
      exact u_sub [0, 2] rfl K4
  · have h := ob_neg b1 h
    refine u_iload_n g 1 dX10_plane_5 rfl ?_
    refine u_iconst g (v := (3 : Int32)) dX10_plane_6 rfl ?_
    refine u_icmp_eq g 16 dX10_plane_7 (by decide) (fun b22 => ?_) (fun b22 => ?_)
    · have h := ob_pos b22 h
      refine u_iload_n g 1 dX10_plane_16 rfl ?_
      refine u_iconst g (v := (2 : Int32)) dX10_plane_17 rfl ?_
      obtain ⟨q23, hq24, h⟩ := ob_bind h
      have K25 : U shX w x r M 28 [(0, .ref (w.2.2.1 0)), (2, .int a2)] [.int q23] := by
        refine u_istore_n g [(3, .int q23), (0, .ref (w.2.2.1 0)), (2, .int a2)] dX10_plane_28 (by decide) rfl ?_
        refine u_aload_n g 1 dX10_plane_29 rfl ?_
        refine gfX10_0 g (c := 0) rfl wf_X10_10 dX10_plane_30 ?_
        refine u_iload_n g 2 dX10_plane_33 rfl ?_
        refine u_iload_n g 0 dX10_plane_34 rfl ?_
        obtain ⟨q26, hq27, h⟩ := ob_bind h
        refine u_callV (st := []) g wv_X10_155 [.int a2, .int q23] (kX_lt (show kX 1 = 5 from rfl) rfl) (ceX_5 (show kX 1 = 5 from rfl)) rfl rfl (t_X5_areThere w x.2.1 hq27) (by decide) (by decide) rfl (Nat.le_of_ble_eq_true rfl) rfl dX10_plane_35 ?_
        show U shX w x r M 38 [(3, .int q23), (0, .ref (w.2.2.1 0)), (2, .int a2)] [.int q26]
        refine u_if_ne g 47 dX10_plane_38 (by decide) (fun b28 => ?_) (fun b28 => ?_)
        · have h := ob_neg b28 h
          refine u_aload_n g 1 dX10_plane_47 rfl ?_
          obtain ⟨q29, hq30, h⟩ := ob_bind h
          refine u_callV (st := []) g wv_X10_119 [] (kX_lt (show kX 0 = 10 from rfl) rfl) (ceX_10 (show kX 0 = 10 from rfl)) rfl rfl (t_X10_roomForFamily w x.2.1 hq30) (by decide) (by decide) rfl (Nat.le_of_ble_eq_true rfl) rfl dX10_plane_48 ?_
          show U shX w x r M 51 [(3, .int q23), (0, .ref (w.2.2.1 0)), (2, .int a2)] [.int q29]
          refine u_if_ne g 60 dX10_plane_51 (by decide) (fun b31 => ?_) (fun b31 => ?_)
          · have h := ob_neg b31 h
            refine u_aload_n g 1 dX10_plane_60 rfl ?_
            refine gfX10_9 g (c := 0) rfl wf_X10_63 dX10_plane_61 ?_
            refine u_aload_n g 1 dX10_plane_64 rfl ?_
            refine gfX10_0 g (c := 0) rfl wf_X10_10 dX10_plane_65 ?_
            refine gfX5_0 g (c := 1) rfl wf_X10_87 (v := (M.1 1 0)) rfl dX10_plane_68 ?_
            obtain ⟨q32, hq33, h⟩ := ob_bind h
            refine u_callV (st := []) g wv_X10_122 [.int (M.1 1 0)] (kX_lt (show kX 254 = 3 from rfl) rfl) (ceX_3 (show kX 254 = 3 from rfl)) rfl rfl (t_X3_begin w x.2.1 hq33) (by decide) (by decide) rfl (Nat.le_of_ble_eq_true rfl) rfl dX10_plane_71 ?_
            show U shX w x r q32 74 [(3, .int q23), (0, .ref (w.2.2.1 0)), (2, .int a2)] []
            refine u_aload_n g 1 dX10_plane_74 rfl ?_
            refine gfX10_9 g (c := 0) rfl wf_X10_63 dX10_plane_75 ?_
            refine u_iload_n g 0 dX10_plane_78 rfl ?_
            refine u_iload_n g 2 dX10_plane_79 rfl ?_
            obtain ⟨q34, hq35, h⟩ := ob_bind h
            refine u_callV (st := []) g wv_X10_163 [.int q23, .int a2] (kX_lt (show kX 254 = 3 from rfl) rfl) (ceX_3 (show kX 254 = 3 from rfl)) rfl rfl (t_X3_gatherPlane w x.2.1 hq35) (by decide) (by decide) rfl (Nat.le_of_ble_eq_true rfl) rfl dX10_plane_80 ?_
            show U shX w x r q34 83 [(3, .int q23), (0, .ref (w.2.2.1 0)), (2, .int a2)] []
            refine u_aload_n g 1 dX10_plane_83 rfl ?_
            refine u_iconst g (v := (5 : Int32)) dX10_plane_84 rfl ?_
            obtain ⟨q36, hq37, h⟩ := ob_bind h
            refine u_callV (st := []) g wv_X10_135 [.int (5 : Int32)] (kX_lt (show kX 0 = 10 from rfl) rfl) (ceX_10 (show kX 0 = 10 from rfl)) rfl rfl (t_X10_settleGathered w x.2.1 hq37) (by decide) (by decide) rfl (Nat.le_of_ble_eq_true rfl) rfl dX10_plane_85 ?_
            show U shX w x r q36.2 88 [(3, .int q23), (0, .ref (w.2.2.1 0)), (2, .int a2)] [.int q36.1]
            exact u_iret g dX10_plane_88 (by rw [← hr]; obtain rfl := Option.some.inj h; rfl)
          · have h := ob_pos b31 h
            refine u_aload_n g 1 dX10_plane_54 rfl ?_
            refine u_iconst g (v := (4 : Int32)) dX10_plane_55 rfl ?_
            obtain ⟨q38, hq39, h⟩ := ob_bind h
            refine u_callV (st := []) g wv_X10_83 [.int (4 : Int32)] (kX_lt (show kX 0 = 10 from rfl) rfl) (ceX_10 (show kX 0 = 10 from rfl)) rfl rfl (t_X10_refuse w x.2.1 hq39) (by decide) (by decide) rfl (Nat.le_of_ble_eq_true rfl) rfl dX10_plane_56 ?_
            show U shX w x r q38.2 59 [(3, .int q23), (0, .ref (w.2.2.1 0)), (2, .int a2)] [.int q38.1]
            exact u_iret g dX10_plane_59 (by rw [← hr]; obtain rfl := Option.some.inj h; rfl)
        · have h := ob_pos b28 h
          refine u_aload_n g 1 dX10_plane_41 rfl ?_
          refine u_iconst g (v := (1 : Int32)) dX10_plane_42 rfl ?_
          obtain ⟨q40, hq41, h⟩ := ob_bind h
          refine u_callV (st := []) g wv_X10_83 [.int (1 : Int32)] (kX_lt (show kX 0 = 10 from rfl) rfl) (ceX_10 (show kX 0 = 10 from rfl)) rfl rfl (t_X10_refuse w x.2.1 hq41) (by decide) (by decide) rfl (Nat.le_of_ble_eq_true rfl) rfl dX10_plane_43 ?_
          show U shX w x r q40.2 46 [(3, .int q23), (0, .ref (w.2.2.1 0)), (2, .int a2)] [.int q40.1]
          exact u_iret g dX10_plane_46 (by rw [← hr]; obtain rfl := Option.some.inj h; rfl)
      have h := hq24
      refine u_icmp_ne g 26 dX10_plane_18 (by decide) (fun b42 => ?_) (fun b42 => ?_)
      · have h := ob_neg b42 h
        refine u_bipush g (v := (13 : Int32)) dX10_plane_26 rfl ?_
        obtain rfl := Option.some.inj h
        exact u_sub [0, 2] rfl K25
      · have h := ob_pos b42 h
        refine u_bipush g (v := (7 : Int32)) dX10_plane_21 rfl ?_
        refine u_goto g 28 dX10_plane_23 (by decide) ?_
        obtain rfl := Option.some.inj h
        exact u_sub [0, 2] rfl K25
    · have h := ob_neg b22 h
      refine u_aload_n g 0 dX10_plane_10 rfl ?_
      refine u_iconst g (v := (2 : Int32)) dX10_plane_11 rfl ?_
      obtain ⟨q43, hq44, h⟩ := ob_bind h
      refine u_callV (st := []) g wv_X10_83 [.int (2 : Int32)] (kX_lt (show kX 0 = 10 from rfl) rfl) (ceX_10 (show kX 0 = 10 from rfl)) rfl rfl (t_X10_refuse w x.2.1 hq44) (by decide) (by decide) rfl (Nat.le_of_ble_eq_true rfl) rfl dX10_plane_12 ?_
      show U shX w x r q43.2 15 [(0, .ref (w.2.2.1 0)), (1, .int a1), (2, .int a2)] [.int q43.1]
      exact u_iret g dX10_plane_15 (by rw [← hr]; obtain rfl := Option.some.inj h; rfl)
set_option maxRecDepth 100000 in
set_option maxHeartbeats 4000000 in
theorem t_X10_familyAt (w : Wp) (l : Launch) {a1 : Int32} {M : Mem} {q : Option Nat} (h : f_X10_familyAt a1 M = some q) : Ct shX w l yX10_familyAt cX10_familyAt 2 (some (.object "MeetHouse$Family")) 0 [.ref (w.2.2.1 0), .int a1] M (some (rv w q), M) := by
  rw [f_X10_familyAt] at h
  refine ct_of shX_loc (by decide) (Nat.le_of_ble_eq_true rfl) rfl (fun x hx g => ?_)
  subst hx
  show U shX w x _ M 0 [(0, .ref (w.2.2.1 0)), (1, .int a1)] []
  generalize hr : ((some (rv w q), M) : Option Value × Mem) = r
  have g : Gd shX w x RX10 cX10_familyAt 2 (some (.object "MeetHouse$Family")) 0 := g
  refine u_iload_n g 1 dX10_familyAt_0 rfl ?_
  refine u_if_lt g 18 dX10_familyAt_1 (by decide) (fun b1 => ?_) (fun b1 => ?_)
  · have h := ob_pos b1 h
    refine u_null g dX10_familyAt_18 ?_
    exact u_aret (v := none) g dX10_familyAt_19 (by rw [← hr]; obtain rfl := Option.some.inj h; rfl)
  · have h := ob_neg b1 h
    refine u_iload_n g 1 dX10_familyAt_4 rfl ?_
    refine u_aload_n g 0 dX10_familyAt_5 rfl ?_
    refine gfX10_2 g (c := 0) rfl wf_X10_22 (v := (M.1 0 2)) rfl dX10_familyAt_6 ?_
    refine u_icmp_ge g 18 dX10_familyAt_9 (by decide) (fun b2 => ?_) (fun b2 => ?_)
    · have h := ob_pos b2 h
      refine u_null g dX10_familyAt_18 ?_
      exact u_aret (v := none) g dX10_familyAt_19 (by rw [← hr]; obtain rfl := Option.some.inj h; rfl)
    · have h := ob_neg b2 h
      refine u_iload_n g 1 dX10_familyAt_12 rfl ?_
      refine u_bipush g (v := (24 : Int32)) dX10_familyAt_13 rfl ?_
      refine u_icmp_lt g 20 dX10_familyAt_15 (by decide) (fun b3 => ?_) (fun b3 => ?_)
      · have h := ob_pos b3 h
        refine u_aload_n g 0 dX10_familyAt_20 rfl ?_
        refine gfX10_1 g (c := 0) rfl wf_X10_18 dX10_familyAt_21 ?_
        refine u_iload_n g 1 dX10_familyAt_24 rfl ?_
        obtain ⟨e4, h⟩ := ob_if h
        refine aX_fam g (inB_in e4) dX10_familyAt_25 ?_
        exact u_aret (v := some (264 + 2 * a1.toNatClampNeg)) g dX10_familyAt_26 (by rw [← hr]; obtain rfl := Option.some.inj h; rfl)
      · have h := ob_neg b3 h
        refine u_null g dX10_familyAt_18 ?_
        exact u_aret (v := none) g dX10_familyAt_19 (by rw [← hr]; obtain rfl := Option.some.inj h; rfl)
set_option maxRecDepth 100000 in
set_option maxHeartbeats 4000000 in
theorem t_X10_join (w : Wp) (l : Launch) {a1 : Int32} {a2 : Int32} {a3 : Int32} {M : Mem} {q : Int32 × Mem} (h : f_X10_join a1 a2 a3 M = some q) : Ct shX w l yX10_join cX10_join 6 (some .int) 6 [.ref (w.2.2.1 0), .int a1, .int a2, .int a3] M (some (.int q.1), q.2) := by
  rw [f_X10_join] at h
  refine ct_of shX_loc (by decide) (Nat.le_of_ble_eq_true rfl) rfl (fun x hx g => ?_)
  subst hx
  show U shX w x _ M 0 [(0, .ref (w.2.2.1 0)), (1, .int a1), (2, .int a2), (3, .int a3)] []
  generalize hr : ((some (.int q.1), q.2) : Option Value × Mem) = r
  have g : Gd shX w x RX10 cX10_join 6 (some .int) 6 := g
  refine u_aload_n g 0 dX10_join_0 rfl ?_
  refine u_iload_n g 1 dX10_join_1 rfl ?_
  obtain ⟨q1, hq2, h⟩ := ob_bind h
  refine u_callV (st := []) g wv_X10_166 [.int a1] (kX_lt (show kX 0 = 10 from rfl) rfl) (ceX_10 (show kX 0 = 10 from rfl)) rfl rfl (t_X10_familyAt w x.2.1 hq2) (by decide) (by decide) rfl (Nat.le_of_ble_eq_true rfl) rfl dX10_join_2 ?_
  show U shX w x r M 5 [(0, .ref (w.2.2.1 0)), (1, .int a1), (2, .int a2), (3, .int a3)] [rv w q1]
  refine u_astoreO g [(4, rv w q1), (0, .ref (w.2.2.1 0)), (1, .int a1), (2, .int a2), (3, .int a3)] dX10_join_5 (by decide) rfl ?_
  refine u_aload_n g 1 dX10_join_7 rfl ?_
  refine u_iload_n g 4 dX10_join_8 rfl ?_
  obtain ⟨q3, hq4, h⟩ := ob_bind h
  refine u_callV (st := []) g wv_X10_166 [.int a3] (kX_lt (show kX 0 = 10 from rfl) rfl) (ceX_10 (show kX 0 = 10 from rfl)) rfl rfl (t_X10_familyAt w x.2.1 hq4) (by decide) (by decide) rfl (Nat.le_of_ble_eq_true rfl) rfl dX10_join_9 ?_
  show U shX w x r M 12 [(4, rv w q1), (0, .ref (w.2.2.1 0)), (1, .int a1), (2, .int a2), (3, .int a3)] [rv w q3]
  refine u_astoreO g [(5, rv w q3), (4, rv w q1), (0, .ref (w.2.2.1 0)), (1, .int a1), (2, .int a2), (3, .int a3)] dX10_join_12 (by decide) (by simp [rv_cat]) ?_
  refine u_aloadO g 1 dX10_join_14 rfl ?_
  cases q1 with
  | none =>
    have h := ob_none h
    refine u_isnullN g 35 dX10_join_16 (by decide) ?_
    show U shX w x r M 35 [(5, rv w q3), (4, .null), (0, .ref (w.2.2.1 0)), (1, .int a1), (2, .int a2), (3, .int a3)] []
    refine u_aload_n g 2 dX10_join_35 rfl ?_
    refine u_iconst g (v := (1 : Int32)) dX10_join_36 rfl ?_
    obtain ⟨q7, hq8, h⟩ := ob_bind h
    refine u_callV (st := []) g wv_X10_83 [.int (1 : Int32)] (kX_lt (show kX 0 = 10 from rfl) rfl) (ceX_10 (show kX 0 = 10 from rfl)) rfl rfl (t_X10_refuse w x.2.1 hq8) (by decide) (by decide) rfl (Nat.le_of_ble_eq_true rfl) rfl dX10_join_37 ?_
    show U shX w x r q7.2 40 [(5, rv w q3), (4, .null), (0, .ref (w.2.2.1 0)), (1, .int a1), (2, .int a2), (3, .int a3)] [.int q7.1]
    exact u_iret g dX10_join_40 (by rw [← hr]; obtain rfl := Option.some.inj h; rfl)
  | some c5 =>
    have h := ob_some h
    obtain ⟨k6, h⟩ := ob_if h
    refine u_isnull g dX10_join_16 ?_
    show U shX w x r M 19 [(5, rv w q3), (4, .ref (w.2.2.1 c5)), (0, .ref (w.2.2.1 0)), (1, .int a1), (2, .int a2), (3, .int a3)] []
    refine u_aloadO g 0 dX10_join_19 rfl ?_
    cases q3 with
    | none =>
      have h := ob_none h
      refine u_isnullN g 35 dX10_join_21 (by decide) ?_
      show U shX w x r M 35 [(5, .null), (4, .ref (w.2.2.1 c5)), (0, .ref (w.2.2.1 0)), (1, .int a1), (2, .int a2), (3, .int a3)] []
      refine u_aload_n g 2 dX10_join_35 rfl ?_
      refine u_iconst g (v := (1 : Int32)) dX10_join_36 rfl ?_
      obtain ⟨q11, hq12, h⟩ := ob_bind h
      refine u_callV (st := []) g wv_X10_83 [.int (1 : Int32)] (kX_lt (show kX 0 = 10 from rfl) rfl) (ceX_10 (show kX 0 = 10 from rfl)) rfl rfl (t_X10_refuse w x.2.1 hq12) (by decide) (by decide) rfl (Nat.le_of_ble_eq_true rfl) rfl dX10_join_37 ?_
      show U shX w x r q11.2 40 [(5, .null), (4, .ref (w.2.2.1 c5)), (0, .ref (w.2.2.1 0)), (1, .int a1), (2, .int a2), (3, .int a3)] [.int q11.1]
      exact u_iret g dX10_join_40 (by rw [← hr]; obtain rfl := Option.some.inj h; rfl)
    | some c9 =>
      have h := ob_some h
      obtain ⟨k10, h⟩ := ob_if h
      refine u_isnull g dX10_join_21 ?_
      show U shX w x r M 24 [(5, .ref (w.2.2.1 c9)), (4, .ref (w.2.2.1 c5)), (0, .ref (w.2.2.1 0)), (1, .int a1), (2, .int a2), (3, .int a3)] []
      refine u_aload_n g 2 dX10_join_24 rfl ?_
      refine gfX10_0 g (c := 0) rfl wf_X10_10 dX10_join_25 ?_
      refine u_iload_n g 4 dX10_join_28 rfl ?_
      obtain ⟨q13, hq14, h⟩ := ob_bind h
      refine u_callV (st := []) g wv_X10_106 [.int a2] (kX_lt (show kX 1 = 5 from rfl) rfl) (ceX_5 (show kX 1 = 5 from rfl)) rfl rfl (t_X5_isThere w x.2.1 hq14) (by decide) (by decide) rfl (Nat.le_of_ble_eq_true rfl) rfl dX10_join_29 ?_
      show U shX w x r M 32 [(5, .ref (w.2.2.1 c9)), (4, .ref (w.2.2.1 c5)), (0, .ref (w.2.2.1 0)), (1, .int a1), (2, .int a2), (3, .int a3)] [.int q13]
      refine u_if_ne g 41 dX10_join_32 (by decide) (fun b15 => ?_) (fun b15 => ?_)
      · have h := ob_neg b15 h
        refine u_aload_n g 2 dX10_join_41 rfl ?_
        obtain ⟨q16, hq17, h⟩ := ob_bind h
        refine u_callV (st := []) g wv_X10_119 [] (kX_lt (show kX 0 = 10 from rfl) rfl) (ceX_10 (show kX 0 = 10 from rfl)) rfl rfl (t_X10_roomForFamily w x.2.1 hq17) (by decide) (by decide) rfl (Nat.le_of_ble_eq_true rfl) rfl dX10_join_42 ?_
        show U shX w x r M 45 [(5, .ref (w.2.2.1 c9)), (4, .ref (w.2.2.1 c5)), (0, .ref (w.2.2.1 0)), (1, .int a1), (2, .int a2), (3, .int a3)] [.int q16]
        refine u_if_ne g 54 dX10_join_45 (by decide) (fun b18 => ?_) (fun b18 => ?_)
        · have h := ob_neg b18 h
          refine u_aload_n g 2 dX10_join_54 rfl ?_
          refine gfX10_9 g (c := 0) rfl wf_X10_63 dX10_join_55 ?_
          refine u_aload_n g 2 dX10_join_58 rfl ?_
          refine gfX10_0 g (c := 0) rfl wf_X10_10 dX10_join_59 ?_
          refine gfX5_0 g (c := 1) rfl wf_X10_87 (v := (M.1 1 0)) rfl dX10_join_62 ?_
          obtain ⟨q19, hq20, h⟩ := ob_bind h
          refine u_callV (st := []) g wv_X10_122 [.int (M.1 1 0)] (kX_lt (show kX 254 = 3 from rfl) rfl) (ceX_3 (show kX 254 = 3 from rfl)) rfl rfl (t_X3_begin w x.2.1 hq20) (by decide) (by decide) rfl (Nat.le_of_ble_eq_true rfl) rfl dX10_join_65 ?_
          show U shX w x r q19 68 [(5, .ref (w.2.2.1 c9)), (4, .ref (w.2.2.1 c5)), (0, .ref (w.2.2.1 0)), (1, .int a1), (2, .int a2), (3, .int a3)] []
          refine u_aload_n g 2 dX10_join_68 rfl ?_
          refine gfX10_9 g (c := 0) rfl wf_X10_63 dX10_join_69 ?_
          refine u_aload g 1 dX10_join_72 rfl ?_
          refine u_iload_n g 4 dX10_join_74 rfl ?_
          refine u_aload g 0 dX10_join_75 rfl ?_
          obtain ⟨q21, hq22, h⟩ := ob_bind h
          refine u_callV (st := []) g wv_X10_170 [.ref (w.2.2.1 c5), .int a2, .ref (w.2.2.1 c9)] (kX_lt (show kX 254 = 3 from rfl) rfl) (ceX_3 (show kX 254 = 3 from rfl)) rfl rfl (t_X3_gatherJoin w x.2.1 hq22) (by decide) (by decide) rfl (Nat.le_of_ble_eq_true rfl) rfl dX10_join_77 ?_
          show U shX w x r q21 80 [(5, .ref (w.2.2.1 c9)), (4, .ref (w.2.2.1 c5)), (0, .ref (w.2.2.1 0)), (1, .int a1), (2, .int a2), (3, .int a3)] []
          refine u_aload_n g 2 dX10_join_80 rfl ?_
          refine u_bipush g (v := (6 : Int32)) dX10_join_81 rfl ?_
          obtain ⟨q23, hq24, h⟩ := ob_bind h
          refine u_callV (st := []) g wv_X10_135 [.int (6 : Int32)] (kX_lt (show kX 0 = 10 from rfl) rfl) (ceX_10 (show kX 0 = 10 from rfl)) rfl rfl (t_X10_settleGathered w x.2.1 hq24) (by decide) (by decide) rfl (Nat.le_of_ble_eq_true rfl) rfl dX10_join_83 ?_
          show U shX w x r q23.2 86 [(5, .ref (w.2.2.1 c9)), (4, .ref (w.2.2.1 c5)), (0, .ref (w.2.2.1 0)), (1, .int a1), (2, .int a2), (3, .int a3)] [.int q23.1]
          exact u_iret g dX10_join_86 (by rw [← hr]; obtain rfl := Option.some.inj h; rfl)
        · have h := ob_pos b18 h
          refine u_aload_n g 2 dX10_join_48 rfl ?_
          refine u_iconst g (v := (4 : Int32)) dX10_join_49 rfl ?_
          obtain ⟨q25, hq26, h⟩ := ob_bind h
          refine u_callV (st := []) g wv_X10_83 [.int (4 : Int32)] (kX_lt (show kX 0 = 10 from rfl) rfl) (ceX_10 (show kX 0 = 10 from rfl)) rfl rfl (t_X10_refuse w x.2.1 hq26) (by decide) (by decide) rfl (Nat.le_of_ble_eq_true rfl) rfl dX10_join_50 ?_
          show U shX w x r q25.2 53 [(5, .ref (w.2.2.1 c9)), (4, .ref (w.2.2.1 c5)), (0, .ref (w.2.2.1 0)), (1, .int a1), (2, .int a2), (3, .int a3)] [.int q25.1]
          exact u_iret g dX10_join_53 (by rw [← hr]; obtain rfl := Option.some.inj h; rfl)
      · have h := ob_pos b15 h
        refine u_aload_n g 2 dX10_join_35 rfl ?_
        refine u_iconst g (v := (1 : Int32)) dX10_join_36 rfl ?_
        obtain ⟨q27, hq28, h⟩ := ob_bind h
        refine u_callV (st := []) g wv_X10_83 [.int (1 : Int32)] (kX_lt (show kX 0 = 10 from rfl) rfl) (ceX_10 (show kX 0 = 10 from rfl)) rfl rfl (t_X10_refuse w x.2.1 hq28) (by decide) (by decide) rfl (Nat.le_of_ble_eq_true rfl) rfl dX10_join_37 ?_
        show U shX w x r q27.2 40 [(5, .ref (w.2.2.1 c9)), (4, .ref (w.2.2.1 c5)), (0, .ref (w.2.2.1 0)), (1, .int a1), (2, .int a2), (3, .int a3)] [.int q27.1]
        exact u_iret g dX10_join_40 (by rw [← hr]; obtain rfl := Option.some.inj h; rfl)
set_option maxRecDepth 100000 in
set_option maxHeartbeats 4000000 in
theorem t_X10_dual (w : Wp) (l : Launch) {a1 : Int32} {M : Mem} {q : Int32 × Mem} (h : f_X10_dual a1 M = some q) : Ct shX w l yX10_dual cX10_dual 3 (some .int) 5 [.ref (w.2.2.1 0), .int a1] M (some (.int q.1), q.2) := by
  rw [f_X10_dual] at h
  refine ct_of shX_loc (by decide) (Nat.le_of_ble_eq_true rfl) rfl (fun x hx g => ?_)
  subst hx
  show U shX w x _ M 0 [(0, .ref (w.2.2.1 0)), (1, .int a1)] []
  generalize hr : ((some (.int q.1), q.2) : Option Value × Mem) = r
  have g : Gd shX w x RX10 cX10_dual 3 (some .int) 5 := g
  refine u_aload_n g 0 dX10_dual_0 rfl ?_
  refine u_iload_n g 1 dX10_dual_1 rfl ?_
  obtain ⟨q1, hq2, h⟩ := ob_bind h
  refine u_callV (st := []) g wv_X10_166 [.int a1] (kX_lt (show kX 0 = 10 from rfl) rfl) (ceX_10 (show kX 0 = 10 from rfl)) rfl rfl (t_X10_familyAt w x.2.1 hq2) (by decide) (by decide) rfl (Nat.le_of_ble_eq_true rfl) rfl dX10_dual_2 ?_
  show U shX w x r M 5 [(0, .ref (w.2.2.1 0)), (1, .int a1)] [rv w q1]
  refine u_astore_nO g [(2, rv w q1), (0, .ref (w.2.2.1 0)), (1, .int a1)] dX10_dual_5 (by decide) rfl ?_
  refine u_aload_nO g 0 dX10_dual_6 rfl ?_
  cases q1 with
  | none =>
    have h := ob_none h
    refine u_nonnullN g dX10_dual_7 ?_
    show U shX w x r M 10 [(2, .null), (0, .ref (w.2.2.1 0)), (1, .int a1)] []
    refine u_aload_n g 1 dX10_dual_10 rfl ?_
    refine u_iconst g (v := (1 : Int32)) dX10_dual_11 rfl ?_
    obtain ⟨q5, hq6, h⟩ := ob_bind h
    refine u_callV (st := []) g wv_X10_83 [.int (1 : Int32)] (kX_lt (show kX 0 = 10 from rfl) rfl) (ceX_10 (show kX 0 = 10 from rfl)) rfl rfl (t_X10_refuse w x.2.1 hq6) (by decide) (by decide) rfl (Nat.le_of_ble_eq_true rfl) rfl dX10_dual_12 ?_
    show U shX w x r q5.2 15 [(2, .null), (0, .ref (w.2.2.1 0)), (1, .int a1)] [.int q5.1]
    exact u_iret g dX10_dual_15 (by rw [← hr]; obtain rfl := Option.some.inj h; rfl)
  | some c3 =>
    have h := ob_some h
    obtain ⟨k4, h⟩ := ob_if h
    refine u_nonnull g 16 dX10_dual_7 (by decide) ?_
    show U shX w x r M 16 [(2, .ref (w.2.2.1 c3)), (0, .ref (w.2.2.1 0)), (1, .int a1)] []
    refine u_aload_n g 1 dX10_dual_16 rfl ?_
    obtain ⟨q7, hq8, h⟩ := ob_bind h
    refine u_callV (st := []) g wv_X10_119 [] (kX_lt (show kX 0 = 10 from rfl) rfl) (ceX_10 (show kX 0 = 10 from rfl)) rfl rfl (t_X10_roomForFamily w x.2.1 hq8) (by decide) (by decide) rfl (Nat.le_of_ble_eq_true rfl) rfl dX10_dual_17 ?_
    show U shX w x r M 20 [(2, .ref (w.2.2.1 c3)), (0, .ref (w.2.2.1 0)), (1, .int a1)] [.int q7]
    refine u_if_ne g 29 dX10_dual_20 (by decide) (fun b9 => ?_) (fun b9 => ?_)
    · have h := ob_neg b9 h
      refine u_aload_n g 1 dX10_dual_29 rfl ?_
      refine gfX10_9 g (c := 0) rfl wf_X10_63 dX10_dual_30 ?_
      refine u_aload_n g 1 dX10_dual_33 rfl ?_
      refine gfX10_0 g (c := 0) rfl wf_X10_10 dX10_dual_34 ?_
      refine gfX5_0 g (c := 1) rfl wf_X10_87 (v := (M.1 1 0)) rfl dX10_dual_37 ?_
      obtain ⟨q10, hq11, h⟩ := ob_bind h
      refine u_callV (st := []) g wv_X10_122 [.int (M.1 1 0)] (kX_lt (show kX 254 = 3 from rfl) rfl) (ceX_3 (show kX 254 = 3 from rfl)) rfl rfl (t_X3_begin w x.2.1 hq11) (by decide) (by decide) rfl (Nat.le_of_ble_eq_true rfl) rfl dX10_dual_40 ?_
      show U shX w x r q10 43 [(2, .ref (w.2.2.1 c3)), (0, .ref (w.2.2.1 0)), (1, .int a1)] []
      refine u_aload_n g 1 dX10_dual_43 rfl ?_
      refine gfX10_9 g (c := 0) rfl wf_X10_63 dX10_dual_44 ?_
      refine u_aload_n g 0 dX10_dual_47 rfl ?_
      obtain ⟨q12, hq13, h⟩ := ob_bind h
      refine u_callV (st := []) g wv_X10_174 [.ref (w.2.2.1 c3)] (kX_lt (show kX 254 = 3 from rfl) rfl) (ceX_3 (show kX 254 = 3 from rfl)) rfl rfl (t_X3_gatherMeeting w x.2.1 hq13) (by decide) (by decide) rfl (Nat.le_of_ble_eq_true rfl) rfl dX10_dual_48 ?_
      show U shX w x r q12 51 [(2, .ref (w.2.2.1 c3)), (0, .ref (w.2.2.1 0)), (1, .int a1)] []
      refine u_aload_n g 1 dX10_dual_51 rfl ?_
      refine u_bipush g (v := (7 : Int32)) dX10_dual_52 rfl ?_
      obtain ⟨q14, hq15, h⟩ := ob_bind h
      refine u_callV (st := []) g wv_X10_178 [.int (7 : Int32)] (kX_lt (show kX 0 = 10 from rfl) rfl) (ceX_10 (show kX 0 = 10 from rfl)) rfl rfl (t_X10_settle w x.2.1 hq15) (by decide) (by decide) rfl (Nat.le_of_ble_eq_true rfl) rfl dX10_dual_54 ?_
      show U shX w x r q14.2 57 [(2, .ref (w.2.2.1 c3)), (0, .ref (w.2.2.1 0)), (1, .int a1)] [.int q14.1]
      exact u_iret g dX10_dual_57 (by rw [← hr]; obtain rfl := Option.some.inj h; rfl)
    · have h := ob_pos b9 h
      refine u_aload_n g 1 dX10_dual_23 rfl ?_
      refine u_iconst g (v := (4 : Int32)) dX10_dual_24 rfl ?_
      obtain ⟨q16, hq17, h⟩ := ob_bind h
      refine u_callV (st := []) g wv_X10_83 [.int (4 : Int32)] (kX_lt (show kX 0 = 10 from rfl) rfl) (ceX_10 (show kX 0 = 10 from rfl)) rfl rfl (t_X10_refuse w x.2.1 hq17) (by decide) (by decide) rfl (Nat.le_of_ble_eq_true rfl) rfl dX10_dual_25 ?_
      show U shX w x r q16.2 28 [(2, .ref (w.2.2.1 c3)), (0, .ref (w.2.2.1 0)), (1, .int a1)] [.int q16.1]
      exact u_iret g dX10_dual_28 (by rw [← hr]; obtain rfl := Option.some.inj h; rfl)
set_option maxRecDepth 100000 in
set_option maxHeartbeats 4000000 in
theorem t_X10_thin (w : Wp) (l : Launch) {a1 : Int32} {a2 : Int32} {M : Mem} {q : Int32 × Mem} (h : f_X10_thin a1 a2 M = some q) : Ct shX w l yX10_thin cX10_thin 4 (some .int) 6 [.ref (w.2.2.1 0), .int a1, .int a2] M (some (.int q.1), q.2) := by
  rw [f_X10_thin] at h
  refine ct_of shX_loc (by decide) (Nat.le_of_ble_eq_true rfl) rfl (fun x hx g => ?_)
  subst hx
  show U shX w x _ M 0 [(0, .ref (w.2.2.1 0)), (1, .int a1), (2, .int a2)] []
  generalize hr : ((some (.int q.1), q.2) : Option Value × Mem) = r
  have g : Gd shX w x RX10 cX10_thin 4 (some .int) 6 := g
  refine u_aload_n g 0 dX10_thin_0 rfl ?_
  refine u_iload_n g 1 dX10_thin_1 rfl ?_
  obtain ⟨q1, hq2, h⟩ := ob_bind h
  refine u_callV (st := []) g wv_X10_166 [.int a1] (kX_lt (show kX 0 = 10 from rfl) rfl) (ceX_10 (show kX 0 = 10 from rfl)) rfl rfl (t_X10_familyAt w x.2.1 hq2) (by decide) (by decide) rfl (Nat.le_of_ble_eq_true rfl) rfl dX10_thin_2 ?_
  show U shX w x r M 5 [(0, .ref (w.2.2.1 0)), (1, .int a1), (2, .int a2)] [rv w q1]
  refine u_astore_nO g [(3, rv w q1), (0, .ref (w.2.2.1 0)), (1, .int a1), (2, .int a2)] dX10_thin_5 (by decide) rfl ?_
  refine u_aload_nO g 0 dX10_thin_6 rfl ?_
  cases q1 with
  | none =>
    have h := ob_none h
    refine u_nonnullN g dX10_thin_7 ?_
    show U shX w x r M 10 [(3, .null), (0, .ref (w.2.2.1 0)), (1, .int a1), (2, .int a2)] []
    refine u_aload_n g 1 dX10_thin_10 rfl ?_
    refine u_iconst g (v := (1 : Int32)) dX10_thin_11 rfl ?_
    obtain ⟨q5, hq6, h⟩ := ob_bind h
    refine u_callV (st := []) g wv_X10_83 [.int (1 : Int32)] (kX_lt (show kX 0 = 10 from rfl) rfl) (ceX_10 (show kX 0 = 10 from rfl)) rfl rfl (t_X10_refuse w x.2.1 hq6) (by decide) (by decide) rfl (Nat.le_of_ble_eq_true rfl) rfl dX10_thin_12 ?_
    show U shX w x r q5.2 15 [(3, .null), (0, .ref (w.2.2.1 0)), (1, .int a1), (2, .int a2)] [.int q5.1]
    exact u_iret g dX10_thin_15 (by rw [← hr]; obtain rfl := Option.some.inj h; rfl)
  | some c3 =>
    have h := ob_some h
    obtain ⟨k4, h⟩ := ob_if h
    refine u_nonnull g 16 dX10_thin_7 (by decide) ?_
    show U shX w x r M 16 [(3, .ref (w.2.2.1 c3)), (0, .ref (w.2.2.1 0)), (1, .int a1), (2, .int a2)] []
    refine u_aload_n g 1 dX10_thin_16 rfl ?_
    obtain ⟨q7, hq8, h⟩ := ob_bind h
    refine u_callV (st := []) g wv_X10_119 [] (kX_lt (show kX 0 = 10 from rfl) rfl) (ceX_10 (show kX 0 = 10 from rfl)) rfl rfl (t_X10_roomForFamily w x.2.1 hq8) (by decide) (by decide) rfl (Nat.le_of_ble_eq_true rfl) rfl dX10_thin_17 ?_
    show U shX w x r M 20 [(3, .ref (w.2.2.1 c3)), (0, .ref (w.2.2.1 0)), (1, .int a1), (2, .int a2)] [.int q7]
    refine u_if_ne g 29 dX10_thin_20 (by decide) (fun b9 => ?_) (fun b9 => ?_)
    · have h := ob_neg b9 h
      refine u_aload_n g 0 dX10_thin_29 rfl ?_
      refine u_iload_n g 3 dX10_thin_30 rfl ?_
      obtain ⟨q10, hq11, h⟩ := ob_bind h
      refine u_callV (st := []) g wv_X10_181 [.int a2] (kX_lt k4 rfl) (ceX_1 k4) rfl rfl (t_X1_isHeldBy w x.2.1 hq11) (by decide) (by decide) rfl (Nat.le_of_ble_eq_true rfl) rfl dX10_thin_31 ?_
      show U shX w x r M 34 [(3, .ref (w.2.2.1 c3)), (0, .ref (w.2.2.1 0)), (1, .int a1), (2, .int a2)] [.int q10]
      refine u_if_ne g 43 dX10_thin_34 (by decide) (fun b12 => ?_) (fun b12 => ?_)
      · have h := ob_neg b12 h
        refine u_aload_n g 1 dX10_thin_43 rfl ?_
        refine gfX10_9 g (c := 0) rfl wf_X10_63 dX10_thin_44 ?_
        refine u_aload_n g 1 dX10_thin_47 rfl ?_
        refine gfX10_0 g (c := 0) rfl wf_X10_10 dX10_thin_48 ?_
        refine gfX5_0 g (c := 1) rfl wf_X10_87 (v := (M.1 1 0)) rfl dX10_thin_51 ?_
        obtain ⟨q13, hq14, h⟩ := ob_bind h
        refine u_callV (st := []) g wv_X10_122 [.int (M.1 1 0)] (kX_lt (show kX 254 = 3 from rfl) rfl) (ceX_3 (show kX 254 = 3 from rfl)) rfl rfl (t_X3_begin w x.2.1 hq14) (by decide) (by decide) rfl (Nat.le_of_ble_eq_true rfl) rfl dX10_thin_54 ?_
        show U shX w x r q13 57 [(3, .ref (w.2.2.1 c3)), (0, .ref (w.2.2.1 0)), (1, .int a1), (2, .int a2)] []
        refine u_aload_n g 1 dX10_thin_57 rfl ?_
        refine gfX10_9 g (c := 0) rfl wf_X10_63 dX10_thin_58 ?_
        refine u_aload_n g 0 dX10_thin_61 rfl ?_
        refine u_iload_n g 3 dX10_thin_62 rfl ?_
        obtain ⟨q15, hq16, h⟩ := ob_bind h
        refine u_callV (st := []) g wv_X10_184 [.ref (w.2.2.1 c3), .int a2] (kX_lt (show kX 254 = 3 from rfl) rfl) (ceX_3 (show kX 254 = 3 from rfl)) rfl rfl (t_X3_gatherWithin w x.2.1 hq16) (by decide) (by decide) rfl (Nat.le_of_ble_eq_true rfl) rfl dX10_thin_63 ?_
        show U shX w x r q15 66 [(3, .ref (w.2.2.1 c3)), (0, .ref (w.2.2.1 0)), (1, .int a1), (2, .int a2)] []
        refine u_aload_n g 1 dX10_thin_66 rfl ?_
        refine u_bipush g (v := (8 : Int32)) dX10_thin_67 rfl ?_
        obtain ⟨q17, hq18, h⟩ := ob_bind h
        refine u_callV (st := []) g wv_X10_135 [.int (8 : Int32)] (kX_lt (show kX 0 = 10 from rfl) rfl) (ceX_10 (show kX 0 = 10 from rfl)) rfl rfl (t_X10_settleGathered w x.2.1 hq18) (by decide) (by decide) rfl (Nat.le_of_ble_eq_true rfl) rfl dX10_thin_69 ?_
        show U shX w x r q17.2 72 [(3, .ref (w.2.2.1 c3)), (0, .ref (w.2.2.1 0)), (1, .int a1), (2, .int a2)] [.int q17.1]
        exact u_iret g dX10_thin_72 (by rw [← hr]; obtain rfl := Option.some.inj h; rfl)
      · have h := ob_pos b12 h
        refine u_aload_n g 1 dX10_thin_37 rfl ?_
        refine u_iconst g (v := (5 : Int32)) dX10_thin_38 rfl ?_
        obtain ⟨q19, hq20, h⟩ := ob_bind h
        refine u_callV (st := []) g wv_X10_83 [.int (5 : Int32)] (kX_lt (show kX 0 = 10 from rfl) rfl) (ceX_10 (show kX 0 = 10 from rfl)) rfl rfl (t_X10_refuse w x.2.1 hq20) (by decide) (by decide) rfl (Nat.le_of_ble_eq_true rfl) rfl dX10_thin_39 ?_
        show U shX w x r q19.2 42 [(3, .ref (w.2.2.1 c3)), (0, .ref (w.2.2.1 0)), (1, .int a1), (2, .int a2)] [.int q19.1]
        exact u_iret g dX10_thin_42 (by rw [← hr]; obtain rfl := Option.some.inj h; rfl)
    · have h := ob_pos b9 h
      refine u_aload_n g 1 dX10_thin_23 rfl ?_
      refine u_iconst g (v := (4 : Int32)) dX10_thin_24 rfl ?_
      obtain ⟨q21, hq22, h⟩ := ob_bind h
      refine u_callV (st := []) g wv_X10_83 [.int (4 : Int32)] (kX_lt (show kX 0 = 10 from rfl) rfl) (ceX_10 (show kX 0 = 10 from rfl)) rfl rfl (t_X10_refuse w x.2.1 hq22) (by decide) (by decide) rfl (Nat.le_of_ble_eq_true rfl) rfl dX10_thin_25 ?_
      show U shX w x r q21.2 28 [(3, .ref (w.2.2.1 c3)), (0, .ref (w.2.2.1 0)), (1, .int a1), (2, .int a2)] [.int q21.1]
      exact u_iret g dX10_thin_28 (by rw [← hr]; obtain rfl := Option.some.inj h; rfl)
