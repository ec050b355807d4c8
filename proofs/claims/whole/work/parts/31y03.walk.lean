set_option maxRecDepth 100000 in
set_option maxHeartbeats 4000000 in
theorem s_X11_liars_l2 {w : Wp} {x : Cx} {r : Option Value × Mem} (g : Gd shY w x RX11 cX11_liars 7 (some .int) 2) (a1 : Int32) (a2 : Int32) (a4 : Int32)  (M : Mem) : ∀ (n : Nat) (v3 : Int32) (v5 : Int32) (q : Int32), f_X11_liars_l2 a1 a2 a4 M n v3 v5 = some q → U shY w x r M 106 [(0, .ref (w.2.2.1 0)), (1, .int a1), (2, .int a2), (3, .int q), (4, .int a4)] [] → U shY w x r M 55 [(0, .ref (w.2.2.1 0)), (1, .int a1), (2, .int a2), (3, .int v3), (4, .int a4), (5, .int v5)] [] := by
  intro n
  induction n with
  | zero => intro v3 v5 q h K; rw [f_X11_liars_l2] at h; cases h
  | succ n ih =>
    intro v3 v5 q h K
    rw [f_X11_liars_l2] at h
    refine u_iload g 5 dX11_liars_55 rfl ?_
    refine u_aload_n g 0 dX11_liars_57 rfl ?_
    refine gfX11_9 g wf_X11_25 dX11_liars_58 ?_
    refine u_iload_n g 1 dX11_liars_61 rfl ?_
    obtain ⟨e10, h⟩ := ob_if h
    refine aY_ild g (c := 6) 24 (by decide) rfl (v := (M.1 6 a1.toNatClampNeg)) (inB_in e10) rfl dX11_liars_62 ?_
    refine u_icmp_ge g 106 dX11_liars_63 (by decide) (fun b11 => ?_) (fun b11 => ?_)
    · have h := ob_pos b11 h
      obtain rfl := Option.some.inj h
      exact u_sub [0, 1, 2, 3, 4] rfl K
    · have h := ob_neg b11 h
      refine u_aload_n g 0 dX11_liars_66 rfl ?_
      refine u_aload_n g 0 dX11_liars_67 rfl ?_
      refine u_iload_n g 1 dX11_liars_68 rfl ?_
      refine u_iload g 4 dX11_liars_69 rfl ?_
      obtain ⟨q12, hq13, h⟩ := ob_bind h
      refine u_callV (st := [.ref (w.2.2.1 0)]) g wv_X11_136 [.int a1, .int a4] (show 0 < shY.1 by decide) ceY_0 rfl rfl (t_X11_quorumOf w x.2.1 hq13) (by decide) (by decide) rfl (Nat.le_of_ble_eq_true rfl) rfl dX11_liars_71 ?_
      show U shY w x r M 74 [(0, .ref (w.2.2.1 0)), (1, .int a1), (2, .int a2), (3, .int v3), (4, .int a4), (5, .int v5)] [.int q12, .ref (w.2.2.1 0)]
      refine u_aload_n g 0 dX11_liars_74 rfl ?_
      refine u_iload_n g 1 dX11_liars_75 rfl ?_
      refine u_iload g 5 dX11_liars_76 rfl ?_
      obtain ⟨q14, hq15, h⟩ := ob_bind h
      refine u_callV (st := [.int q12, .ref (w.2.2.1 0)]) g wv_X11_136 [.int a1, .int v5] (show 0 < shY.1 by decide) ceY_0 rfl rfl (t_X11_quorumOf w x.2.1 hq15) (by decide) (by decide) rfl (Nat.le_of_ble_eq_true rfl) rfl dX11_liars_78 ?_
      show U shY w x r M 81 [(0, .ref (w.2.2.1 0)), (1, .int a1), (2, .int a2), (3, .int v3), (4, .int a4), (5, .int v5)] [.int q14, .int q12, .ref (w.2.2.1 0)]
      refine u_iand g dX11_liars_81 ?_
      obtain ⟨q16, hq17, h⟩ := ob_bind h
      refine u_callV (st := []) g wv_X11_179 [.int (q12 &&& q14)] (show 0 < shY.1 by decide) ceY_0 rfl rfl (t_X11_bitsOf w x.2.1 hq17) (by decide) (by decide) rfl (Nat.le_of_ble_eq_true rfl) rfl dX11_liars_82 ?_
      show U shY w x r M 85 [(0, .ref (w.2.2.1 0)), (1, .int a1), (2, .int a2), (3, .int v3), (4, .int a4), (5, .int v5)] [.int q16]
      refine u_istore g [(6, .int q16), (0, .ref (w.2.2.1 0)), (1, .int a1), (2, .int a2), (3, .int v3), (4, .int a4), (5, .int v5)] dX11_liars_85 (by decide) rfl ?_
      refine u_iload g 0 dX11_liars_87 rfl ?_
      refine u_iload_n g 4 dX11_liars_89 rfl ?_
      obtain ⟨q18, hq19, h⟩ := ob_bind h
      have K20 : U shY w x r M 99 [(0, .ref (w.2.2.1 0)), (1, .int a1), (2, .int a2), (4, .int a4), (5, .int v5)] [.int q18] := by
        refine u_istore_n g [(3, .int q18), (0, .ref (w.2.2.1 0)), (1, .int a1), (2, .int a2), (4, .int a4), (5, .int v5)] dX11_liars_99 (by decide) rfl ?_
        refine u_iinc g 5 [(5, .int (v5 + (1 : Int32))), (3, .int q18), (0, .ref (w.2.2.1 0)), (1, .int a1), (2, .int a2), (4, .int a4)] dX11_liars_100 rfl rfl (by decide) rfl ?_
        refine u_goto g 55 dX11_liars_103 (by decide) ?_
        exact u_sub [2, 3, 4, 1, 5, 0] rfl (ih q18 (v5 + (1 : Int32)) _ h K)
      have h := hq19
      refine u_icmp_ge g 98 dX11_liars_90 (by decide) (fun b21 => ?_) (fun b21 => ?_)
      · have h := ob_pos b21 h
        refine u_iload_n g 4 dX11_liars_98 rfl ?_
        obtain rfl := Option.some.inj h
        exact u_sub [1, 2, 3, 5, 6] rfl K20
      · have h := ob_neg b21 h
        refine u_iload g 0 dX11_liars_93 rfl ?_
        refine u_goto g 99 dX11_liars_95 (by decide) ?_
        obtain rfl := Option.some.inj h
        exact u_sub [1, 2, 3, 5, 6] rfl K20
set_option maxRecDepth 100000 in
set_option maxHeartbeats 4000000 in
theorem s_X11_liars_l1 {w : Wp} {x : Cx} {r : Option Value × Mem} (g : Gd shY w x RX11 cX11_liars 7 (some .int) 2) (a1 : Int32) (a2 : Int32)  (M : Mem) : ∀ (n : Nat) (v3 : Int32) (v4 : Int32) (q : Int32), f_X11_liars_l1 a1 a2 M n v3 v4 = some q → U shY w x r M 112 [(2, .int a2), (3, .int q)] [] → U shY w x r M 38 [(0, .ref (w.2.2.1 0)), (1, .int a1), (2, .int a2), (3, .int v3), (4, .int v4)] [] := by
  intro n
  induction n with
  | zero => intro v3 v4 q h K; rw [f_X11_liars_l1] at h; cases h
  | succ n ih =>
    intro v3 v4 q h K
    rw [f_X11_liars_l1] at h
    refine u_iload g 4 dX11_liars_38 rfl ?_
    refine u_aload_n g 0 dX11_liars_40 rfl ?_
    refine gfX11_9 g wf_X11_25 dX11_liars_41 ?_
    refine u_iload_n g 1 dX11_liars_44 rfl ?_
    obtain ⟨e8, h⟩ := ob_if h
    refine aY_ild g (c := 6) 24 (by decide) rfl (v := (M.1 6 a1.toNatClampNeg)) (inB_in e8) rfl dX11_liars_45 ?_
    refine u_icmp_ge g 112 dX11_liars_46 (by decide) (fun b9 => ?_) (fun b9 => ?_)
    · have h := ob_pos b9 h
      obtain rfl := Option.some.inj h
      exact u_sub [2, 3] rfl K
    · have h := ob_neg b9 h
      refine u_iload g 4 dX11_liars_49 rfl ?_
      refine u_iconst g (v := (1 : Int32)) dX11_liars_51 rfl ?_
      refine u_iadd g dX11_liars_52 ?_
      refine u_istore g [(5, .int (v4 + (1 : Int32))), (0, .ref (w.2.2.1 0)), (1, .int a1), (2, .int a2), (3, .int v3), (4, .int v4)] dX11_liars_53 (by decide) rfl ?_
      obtain ⟨q10, hq11, h⟩ := ob_bind h
      refine u_sub [1, 2, 3, 4, 5, 0] rfl (s_X11_liars_l2 g a1 a2 v4 M fuelN v3 (v4 + (1 : Int32)) _ hq11 ?_)
      show U shY w x r M 106 [(0, .ref (w.2.2.1 0)), (1, .int a1), (2, .int a2), (3, .int q10), (4, .int v4)] []
      refine u_iinc g 4 [(4, .int (v4 + (1 : Int32))), (0, .ref (w.2.2.1 0)), (1, .int a1), (2, .int a2), (3, .int q10)] dX11_liars_106 rfl rfl (by decide) rfl ?_
      refine u_goto g 38 dX11_liars_109 (by decide) ?_
      exact u_sub [1, 2, 3, 4, 0] rfl (ih q10 (v4 + (1 : Int32)) _ h K)
set_option maxRecDepth 100000 in
set_option maxHeartbeats 4000000 in
theorem t_X11_liars (w : Wp) (l : Launch) {a1 : Int32} {a2 : Int32} {M : Mem} {q : Int32 × Mem} (h : f_X11_liars a1 a2 M = some q) : Ct shY w l yX11_liars cX11_liars 7 (some .int) 2 [.ref (w.2.2.1 0), .int a1, .int a2] M (some (.int q.1), q.2) := by
  rw [f_X11_liars] at h
  refine ct_of shY_loc (by decide) (Nat.le_of_ble_eq_true rfl) rfl (fun x hx g => ?_)
  subst hx
  show U shY w x _ M 0 [(0, .ref (w.2.2.1 0)), (1, .int a1), (2, .int a2)] []
  generalize hr : ((some (.int q.1), q.2) : Option Value × Mem) = r
  have g : Gd shY w x RX11 cX11_liars 7 (some .int) 2 := g
  refine u_aload_n g 0 dX11_liars_0 rfl ?_
  refine u_iconst g (v := (0 : Int32)) dX11_liars_1 rfl ?_
  refine pfX11_5 g wf_X11_84 dX11_liars_2 ?_
  refine u_aload_n g 0 dX11_liars_5 rfl ?_
  refine u_iload_n g 1 dX11_liars_6 rfl ?_
  obtain ⟨q1, hq2, h⟩ := ob_bind h
  refine u_callV (st := []) g wv_X11_163 [.int a1] (show 0 < shY.1 by decide) ceY_0 rfl rfl (t_X11_isFamily w x.2.1 hq2) (by decide) (by decide) rfl (Nat.le_of_ble_eq_true rfl) rfl dX11_liars_7 ?_
  show U shY w x r (sI M 0 5 (0 : Int32)) 10 [(0, .ref (w.2.2.1 0)), (1, .int a1), (2, .int a2)] [.int q1]
  refine u_if_ne g 19 dX11_liars_10 (by decide) (fun b3 => ?_) (fun b3 => ?_)
  · have h := ob_neg b3 h
    refine u_aload_n g 0 dX11_liars_19 rfl ?_
    refine u_iconst g (v := (0 : Int32)) dX11_liars_20 rfl ?_
    refine pfX11_4 g wf_X11_88 dX11_liars_21 ?_
    refine u_aload_n g 0 dX11_liars_24 rfl ?_
    refine u_aload_n g 0 dX11_liars_25 rfl ?_
    refine u_iload_n g 1 dX11_liars_26 rfl ?_
    refine u_iconst g (v := (0 : Int32)) dX11_liars_27 rfl ?_
    obtain ⟨q4, hq5, h⟩ := ob_bind h
    refine u_callV (st := [.ref (w.2.2.1 0)]) g wv_X11_136 [.int a1, .int (0 : Int32)] (show 0 < shY.1 by decide) ceY_0 rfl rfl (t_X11_quorumOf w x.2.1 hq5) (by decide) (by decide) rfl (Nat.le_of_ble_eq_true rfl) rfl dX11_liars_28 ?_
    show U shY w x r (sI (sI M 0 5 (0 : Int32)) 0 4 (0 : Int32)) 31 [(0, .ref (w.2.2.1 0)), (1, .int a1), (2, .int a2)] [.int q4, .ref (w.2.2.1 0)]
    obtain ⟨q6, hq7, h⟩ := ob_bind h
    refine u_callV (st := []) g wv_X11_179 [.int q4] (show 0 < shY.1 by decide) ceY_0 rfl rfl (t_X11_bitsOf w x.2.1 hq7) (by decide) (by decide) rfl (Nat.le_of_ble_eq_true rfl) rfl dX11_liars_31 ?_
    show U shY w x r (sI (sI M 0 5 (0 : Int32)) 0 4 (0 : Int32)) 34 [(0, .ref (w.2.2.1 0)), (1, .int a1), (2, .int a2)] [.int q6]
    refine u_istore_n g [(3, .int q6), (0, .ref (w.2.2.1 0)), (1, .int a1), (2, .int a2)] dX11_liars_34 (by decide) rfl ?_
    refine u_iconst g (v := (0 : Int32)) dX11_liars_35 rfl ?_
    refine u_istore g [(4, .int (0 : Int32)), (3, .int q6), (0, .ref (w.2.2.1 0)), (1, .int a1), (2, .int a2)] dX11_liars_36 (by decide) rfl ?_
    obtain ⟨q8, hq9, h⟩ := ob_bind h
    refine u_sub [2, 3, 4, 1, 0] rfl (s_X11_liars_l1 g a1 a2 (sI (sI M 0 5 (0 : Int32)) 0 4 (0 : Int32)) fuelN q6 (0 : Int32) _ hq9 ?_)
    show U shY w x r (sI (sI M 0 5 (0 : Int32)) 0 4 (0 : Int32)) 112 [(2, .int a2), (3, .int q8)] []
    refine u_iload_n g 1 dX11_liars_112 rfl ?_
    refine u_if_ne g 120 dX11_liars_113 (by decide) (fun b10 => ?_) (fun b10 => ?_)
    · have h := ob_neg b10 h
      refine u_iload_n g 0 dX11_liars_120 rfl ?_
      refine u_if_eq g 132 dX11_liars_121 (by decide) (fun b11 => ?_) (fun b11 => ?_)
      · have h := ob_pos b11 h
        refine u_iload_n g 1 dX11_liars_132 rfl ?_
        refine u_iconst g (v := (1 : Int32)) dX11_liars_133 rfl ?_
        refine u_isub g dX11_liars_134 ?_
        exact u_iret g dX11_liars_135 (by rw [← hr]; obtain rfl := Option.some.inj h; rfl)
      · have h := ob_neg b11 h
        refine u_iload_n g 1 dX11_liars_124 rfl ?_
        refine u_iconst g (v := (1 : Int32)) dX11_liars_125 rfl ?_
        refine u_isub g dX11_liars_126 ?_
        refine u_iconst g (v := (2 : Int32)) dX11_liars_127 rfl ?_
        refine u_idiv g dX11_liars_128 (by decide) ?_
        refine u_goto g 135 dX11_liars_129 (by decide) ?_
        exact u_iret g dX11_liars_135 (by rw [← hr]; obtain rfl := Option.some.inj h; rfl)
    · have h := ob_pos b10 h
      refine u_iconst g (v := (-1 : Int32)) dX11_liars_116 rfl ?_
      refine u_goto g 135 dX11_liars_117 (by decide) ?_
      exact u_iret g dX11_liars_135 (by rw [← hr]; obtain rfl := Option.some.inj h; rfl)
  · have h := ob_pos b3 h
    refine u_aload_n g 0 dX11_liars_13 rfl ?_
    refine u_iconst g (v := (1 : Int32)) dX11_liars_14 rfl ?_
    obtain ⟨q12, hq13, h⟩ := ob_bind h
    refine u_callV (st := []) g wv_X11_115 [.int (1 : Int32)] (show 0 < shY.1 by decide) ceY_0 rfl rfl (t_X11_no w x.2.1 hq13) (by decide) (by decide) rfl (Nat.le_of_ble_eq_true rfl) rfl dX11_liars_15 ?_
    show U shY w x r q12.2 18 [(0, .ref (w.2.2.1 0)), (1, .int a1), (2, .int a2)] [.int q12.1]
    exact u_iret g dX11_liars_18 (by rw [← hr]; obtain rfl := Option.some.inj h; rfl)
set_option maxRecDepth 100000 in
set_option maxHeartbeats 4000000 in
theorem s_X11_chance_l2 {w : Wp} {x : Cx} {r : Option Value × Mem} (g : Gd shY w x RX11 cX11_chance 9 (some .long) 2) (a1 : Int32) (a2 : Int32) (a3 : Int64) (a5 : Int32)  (M : Mem) : ∀ (n : Nat) (v6 : Int64) (v8 : Int32) (q : Int64), f_X11_chance_l2 a1 a2 a3 a5 M n v6 v8 = some q → U shY w x r M 126 [(0, .ref (w.2.2.1 0)), (1, .int a1), (2, .int a2), (3, .long a3), (5, .int a5), (6, .long q)] [] → U shY w x r M 60 [(0, .ref (w.2.2.1 0)), (1, .int a1), (2, .int a2), (3, .long a3), (5, .int a5), (6, .long v6), (8, .int v8)] [] := by
  intro n
  induction n with
  | zero => intro v6 v8 q h K; rw [f_X11_chance_l2] at h; cases h
  | succ n ih =>
    intro v6 v8 q h K
    rw [f_X11_chance_l2] at h
    refine u_iload g 6 dX11_chance_60 rfl ?_
    refine u_bipush g (v := (16 : Int32)) dX11_chance_62 rfl ?_
    refine u_icmp_ge g 126 dX11_chance_64 (by decide) (fun b10 => ?_) (fun b10 => ?_)
    · have h := ob_pos b10 h
      obtain rfl := Option.some.inj h
      exact u_sub [0, 1, 2, 3, 4, 5] rfl K
    · have h := ob_neg b10 h
      refine u_lload g 5 dX11_chance_67 rfl ?_
      refine u_iload_n g 2 dX11_chance_69 rfl ?_
      refine u_iload g 6 dX11_chance_70 rfl ?_
      refine u_ishr g dX11_chance_72 ?_
      refine u_iconst g (v := (1 : Int32)) dX11_chance_73 rfl ?_
      refine u_iand g dX11_chance_74 ?_
      obtain ⟨q11, hq12, h⟩ := ob_bind h
      have K13 : U shY w x r M 117 [(0, .ref (w.2.2.1 0)), (1, .int a1), (2, .int a2), (3, .long a3), (5, .int a5), (8, .int v8)] [.long q11, .long v6] := by
        refine u_lmul g dX11_chance_117 ?_
        refine u_lstore g [(6, .long (v6 * q11)), (0, .ref (w.2.2.1 0)), (1, .int a1), (2, .int a2), (3, .long a3), (5, .int a5), (8, .int v8)] dX11_chance_118 (by decide) rfl ?_
        refine u_iinc g 6 [(8, .int (v8 + (1 : Int32))), (6, .long (v6 * q11)), (0, .ref (w.2.2.1 0)), (1, .int a1), (2, .int a2), (3, .long a3), (5, .int a5)] dX11_chance_120 rfl rfl (by decide) rfl ?_
        refine u_goto g 60 dX11_chance_123 (by decide) ?_
        exact u_sub [2, 3, 4, 5, 6, 1, 0] rfl (ih (v6 * q11) (v8 + (1 : Int32)) _ h K)
      have h := hq12
      refine u_if_ne g 84 dX11_chance_75 (by decide) (fun b14 => ?_) (fun b14 => ?_)
      · have h := ob_neg b14 h
        refine u_iload g 4 dX11_chance_84 rfl ?_
        refine u_iload g 6 dX11_chance_86 rfl ?_
        refine u_ishr g dX11_chance_88 ?_
        refine u_iconst g (v := (1 : Int32)) dX11_chance_89 rfl ?_
        refine u_iand g dX11_chance_90 ?_
        refine u_iconst g (v := (1 : Int32)) dX11_chance_91 rfl ?_
        refine u_icmp_ne g 106 dX11_chance_92 (by decide) (fun b15 => ?_) (fun b15 => ?_)
        · have h := ob_neg b15 h
          refine u_bipush g (v := (10 : Int32)) dX11_chance_106 rfl ?_
          refine u_aload_n g 0 dX11_chance_108 rfl ?_
          refine gfX11_1 g wf_X11_13 dX11_chance_109 ?_
          refine u_iload g 6 dX11_chance_112 rfl ?_
          obtain ⟨e16, h⟩ := ob_if h
          refine aY_ild g (c := 2) 16 (by decide) rfl (v := (M.1 2 v8.toNatClampNeg)) (inB_in e16) rfl dX11_chance_114 ?_
          refine u_isub g dX11_chance_115 ?_
          refine u_i2l g dX11_chance_116 ?_
          obtain rfl := Option.some.inj h
          exact u_sub [0, 1, 2, 3, 4, 6] rfl K13
        · have h := ob_pos b15 h
          refine u_aload_n g 0 dX11_chance_95 rfl ?_
          refine gfX11_1 g wf_X11_13 dX11_chance_96 ?_
          refine u_iload g 6 dX11_chance_99 rfl ?_
          obtain ⟨e17, h⟩ := ob_if h
          refine aY_ild g (c := 2) 16 (by decide) rfl (v := (M.1 2 v8.toNatClampNeg)) (inB_in e17) rfl dX11_chance_101 ?_
          refine u_i2l g dX11_chance_102 ?_
          refine u_goto g 117 dX11_chance_103 (by decide) ?_
          obtain rfl := Option.some.inj h
          exact u_sub [0, 1, 2, 3, 4, 6] rfl K13
      · have h := ob_pos b14 h
        refine u_ldc2_w g wk_X11_188 dX11_chance_78 ?_
        refine u_goto g 117 dX11_chance_81 (by decide) ?_
        obtain rfl := Option.some.inj h
        exact u_sub [0, 1, 2, 3, 4, 6] rfl K13
set_option maxRecDepth 100000 in
set_option maxHeartbeats 4000000 in
theorem s_X11_chance_l1 {w : Wp} {x : Cx} {r : Option Value × Mem} (g : Gd shY w x RX11 cX11_chance 9 (some .long) 2) (a1 : Int32) (a2 : Int32)  (M : Mem) : ∀ (n : Nat) (v3 : Int64) (v5 : Int32) (q : Int64), f_X11_chance_l1 a1 a2 M n v3 v5 = some q → U shY w x r M 142 [(3, .long q)] [] → U shY w x r M 36 [(0, .ref (w.2.2.1 0)), (1, .int a1), (2, .int a2), (3, .long v3), (5, .int v5)] [] := by
  intro n
  induction n with
  | zero => intro v3 v5 q h K; rw [f_X11_chance_l1] at h; cases h
  | succ n ih =>
    intro v3 v5 q h K
    rw [f_X11_chance_l1] at h
    refine u_iload g 4 dX11_chance_36 rfl ?_
    refine u_if_le g 142 dX11_chance_38 (by decide) (fun b6 => ?_) (fun b6 => ?_)
    · have h := ob_pos b6 h
      obtain rfl := Option.some.inj h
      exact u_sub [3] rfl K
    · have h := ob_neg b6 h
      refine u_aload_n g 0 dX11_chance_41 rfl ?_
      refine u_iload_n g 1 dX11_chance_42 rfl ?_
      refine u_iload g 4 dX11_chance_43 rfl ?_
      obtain ⟨q7, hq8, h⟩ := ob_bind h
      refine u_callV (st := []) g wv_X11_182 [.int a1, .int v5] (show 0 < shY.1 by decide) ceY_0 rfl rfl (t_X11_hasOne w x.2.1 hq8) (by decide) (by decide) rfl (Nat.le_of_ble_eq_true rfl) rfl dX11_chance_45 ?_
      show U shY w x r M 48 [(0, .ref (w.2.2.1 0)), (1, .int a1), (2, .int a2), (3, .long v3), (5, .int v5)] [.int q7]
      obtain ⟨q9, hq10, h⟩ := ob_bind h
      have K11 : U shY w x r M 131 [(0, .ref (w.2.2.1 0)), (1, .int a1), (2, .int a2), (3, .long q9), (5, .int v5)] [] := by
        refine u_iload g 4 dX11_chance_131 rfl ?_
        refine u_iconst g (v := (1 : Int32)) dX11_chance_133 rfl ?_
        refine u_isub g dX11_chance_134 ?_
        refine u_iload_n g 2 dX11_chance_135 rfl ?_
        refine u_iand g dX11_chance_136 ?_
        refine u_istore g [(5, .int ((v5 - (1 : Int32)) &&& a2)), (0, .ref (w.2.2.1 0)), (1, .int a1), (2, .int a2), (3, .long q9)] dX11_chance_137 (by decide) rfl ?_
        refine u_goto g 36 dX11_chance_139 (by decide) ?_
        exact u_sub [1, 2, 3, 4, 0] rfl (ih q9 ((v5 - (1 : Int32)) &&& a2) _ h K)
      have h := hq10
      refine u_if_ne g 54 dX11_chance_48 (by decide) (fun b12 => ?_) (fun b12 => ?_)
      · have h := ob_neg b12 h
        refine u_lconst g (v := (1 : Int64)) dX11_chance_54 rfl ?_
        refine u_lstore g [(6, .long (1 : Int64)), (0, .ref (w.2.2.1 0)), (1, .int a1), (2, .int a2), (3, .long v3), (5, .int v5)] dX11_chance_55 (by decide) rfl ?_
        refine u_iconst g (v := (0 : Int32)) dX11_chance_57 rfl ?_
        refine u_istore g [(8, .int (0 : Int32)), (6, .long (1 : Int64)), (0, .ref (w.2.2.1 0)), (1, .int a1), (2, .int a2), (3, .long v3), (5, .int v5)] dX11_chance_58 (by decide) rfl ?_
        obtain ⟨q13, hq14, h⟩ := ob_bind h
        refine u_sub [2, 3, 4, 5, 6, 1, 0] rfl (s_X11_chance_l2 g a1 a2 v3 v5 M fuelN (1 : Int64) (0 : Int32) _ hq14 ?_)
        show U shY w x r M 126 [(0, .ref (w.2.2.1 0)), (1, .int a1), (2, .int a2), (3, .long v3), (5, .int v5), (6, .long q13)] []
        refine u_lload_n g 3 dX11_chance_126 rfl ?_
        refine u_lload g 5 dX11_chance_127 rfl ?_
        refine u_ladd g dX11_chance_129 ?_
        refine u_lstore_n g [(3, .long (v3 + q13)), (0, .ref (w.2.2.1 0)), (1, .int a1), (2, .int a2), (5, .int v5), (6, .long q13)] dX11_chance_130 (by decide) rfl ?_
        obtain rfl := Option.some.inj h
        exact u_sub [1, 2, 3, 0, 4] rfl K11
      · have h := ob_pos b12 h
        refine u_goto g 131 dX11_chance_51 (by decide) ?_
        obtain rfl := Option.some.inj h
        exact u_sub [0, 1, 2, 3, 4] rfl K11
set_option maxRecDepth 100000 in
set_option maxHeartbeats 4000000 in
theorem t_X11_chance (w : Wp) (l : Launch) {a1 : Int32} {M : Mem} {q : Int64 × Mem} (h : f_X11_chance a1 M = some q) : Ct shY w l yX11_chance cX11_chance 9 (some .long) 2 [.ref (w.2.2.1 0), .int a1] M (some (.long q.1), q.2) := by
  rw [f_X11_chance] at h
  refine ct_of shY_loc (by decide) (Nat.le_of_ble_eq_true rfl) rfl (fun x hx g => ?_)
  subst hx
  show U shY w x _ M 0 [(0, .ref (w.2.2.1 0)), (1, .int a1)] []
  generalize hr : ((some (.long q.1), q.2) : Option Value × Mem) = r
  have g : Gd shY w x RX11 cX11_chance 9 (some .long) 2 := g
  refine u_aload_n g 0 dX11_chance_0 rfl ?_
  refine u_iconst g (v := (0 : Int32)) dX11_chance_1 rfl ?_
  refine pfX11_5 g wf_X11_84 dX11_chance_2 ?_
  refine u_aload_n g 0 dX11_chance_5 rfl ?_
  refine u_iload_n g 1 dX11_chance_6 rfl ?_
  obtain ⟨q1, hq2, h⟩ := ob_bind h
  refine u_callV (st := []) g wv_X11_163 [.int a1] (show 0 < shY.1 by decide) ceY_0 rfl rfl (t_X11_isFamily w x.2.1 hq2) (by decide) (by decide) rfl (Nat.le_of_ble_eq_true rfl) rfl dX11_chance_7 ?_
  show U shY w x r (sI M 0 5 (0 : Int32)) 10 [(0, .ref (w.2.2.1 0)), (1, .int a1)] [.int q1]
  refine u_if_ne g 20 dX11_chance_10 (by decide) (fun b3 => ?_) (fun b3 => ?_)
  · have h := ob_neg b3 h
    refine u_aload_n g 0 dX11_chance_20 rfl ?_
    refine u_iconst g (v := (0 : Int32)) dX11_chance_21 rfl ?_
    refine pfX11_4 g wf_X11_88 dX11_chance_22 ?_
    refine u_aload_n g 0 dX11_chance_25 rfl ?_
    refine u_iload_n g 1 dX11_chance_26 rfl ?_
    obtain ⟨q4, hq5, h⟩ := ob_bind h
    refine u_callV (st := []) g wv_X11_166 [.int a1] (show 0 < shY.1 by decide) ceY_0 rfl rfl (t_X11_allOf w x.2.1 hq5) (by decide) (by decide) rfl (Nat.le_of_ble_eq_true rfl) rfl dX11_chance_27 ?_
    show U shY w x r (sI (sI M 0 5 (0 : Int32)) 0 4 (0 : Int32)) 30 [(0, .ref (w.2.2.1 0)), (1, .int a1)] [.int q4]
    refine u_istore_n g [(2, .int q4), (0, .ref (w.2.2.1 0)), (1, .int a1)] dX11_chance_30 (by decide) rfl ?_
    refine u_lconst g (v := (0 : Int64)) dX11_chance_31 rfl ?_
    refine u_lstore_n g [(3, .long (0 : Int64)), (2, .int q4), (0, .ref (w.2.2.1 0)), (1, .int a1)] dX11_chance_32 (by decide) rfl ?_
    refine u_iload_n g 1 dX11_chance_33 rfl ?_
    refine u_istore g [(5, .int q4), (3, .long (0 : Int64)), (2, .int q4), (0, .ref (w.2.2.1 0)), (1, .int a1)] dX11_chance_34 (by decide) rfl ?_
    obtain ⟨q6, hq7, h⟩ := ob_bind h
    refine u_sub [3, 4, 2, 1, 0] rfl (s_X11_chance_l1 g a1 q4 (sI (sI M 0 5 (0 : Int32)) 0 4 (0 : Int32)) fuelN (0 : Int64) q4 _ hq7 ?_)
    show U shY w x r (sI (sI M 0 5 (0 : Int32)) 0 4 (0 : Int32)) 142 [(3, .long q6)] []
    refine u_lload_n g 0 dX11_chance_142 rfl ?_
    exact u_lret g dX11_chance_143 (by rw [← hr]; obtain rfl := Option.some.inj h; rfl)
  · have h := ob_pos b3 h
    refine u_aload_n g 0 dX11_chance_13 rfl ?_
    refine u_iconst g (v := (1 : Int32)) dX11_chance_14 rfl ?_
    obtain ⟨q8, hq9, h⟩ := ob_bind h
    refine u_callV (st := []) g wv_X11_115 [.int (1 : Int32)] (show 0 < shY.1 by decide) ceY_0 rfl rfl (t_X11_no w x.2.1 hq9) (by decide) (by decide) rfl (Nat.le_of_ble_eq_true rfl) rfl dX11_chance_15 ?_
    show U shY w x r q8.2 18 [(0, .ref (w.2.2.1 0)), (1, .int a1)] [.int q8.1]
    refine u_i2l g dX11_chance_18 ?_
    exact u_lret g dX11_chance_19 (by rw [← hr]; obtain rfl := Option.some.inj h; rfl)
set_option maxRecDepth 100000 in
set_option maxHeartbeats 4000000 in
theorem s_X11_even_l1 {w : Wp} {x : Cx} {r : Option Value × Mem} (g : Gd shY w x RX11 cX11_even 3 (some .boolean) 2) (a1 : Int32)  : ∀ (n : Nat) (v2 : Int32) (M : Mem) (q : Mem), f_X11_even_l1 a1 n v2 M = some q → U shY w x r q 72 [] [] → U shY w x r M 37 [(0, .ref (w.2.2.1 0)), (1, .int a1), (2, .int v2)] [] := by
  intro n
  induction n with
  | zero => intro v2 M q h K; rw [f_X11_even_l1] at h; cases h
  | succ n ih =>
    intro v2 M q h K
    rw [f_X11_even_l1] at h
    refine u_iload_n g 2 dX11_even_37 rfl ?_
    refine u_bipush g (v := (120 : Int32)) dX11_even_38 rfl ?_
    refine u_icmp_ge g 72 dX11_even_40 (by decide) (fun b6 => ?_) (fun b6 => ?_)
    · have h := ob_pos b6 h
      obtain rfl := Option.some.inj h
      exact u_sub [] rfl K
    · have h := ob_neg b6 h
      refine u_aload_n g 0 dX11_even_43 rfl ?_
      refine gfX11_12 g wf_X11_31 dX11_even_44 ?_
      refine u_iconst g (v := (1 : Int32)) dX11_even_47 rfl ?_
      refine u_iload_n g 2 dX11_even_48 rfl ?_
      refine u_iadd g dX11_even_49 ?_
      refine u_iload_n g 2 dX11_even_50 rfl ?_
      refine u_aload_n g 0 dX11_even_51 rfl ?_
      refine gfX11_9 g wf_X11_25 dX11_even_52 ?_
      refine u_iload_n g 1 dX11_even_55 rfl ?_
      obtain ⟨e7, h⟩ := ob_if h
      refine aY_ild g (c := 6) 24 (by decide) rfl (v := (M.1 6 a1.toNatClampNeg)) (inB_in e7) rfl dX11_even_56 ?_
      obtain ⟨q8, hq9, h⟩ := ob_bind h
      have K10 : U shY w x r M 65 [(0, .ref (w.2.2.1 0)), (1, .int a1), (2, .int v2)] [.int q8, .int ((1 : Int32) + v2), .ref (w.2.2.1 8)] := by
        obtain ⟨e11, h⟩ := ob_if h
        refine aY_ist g (c := 8) 121 (by decide) rfl (inB_in e11) (j := ((1 : Int32) + v2).toNatClampNeg) rfl dX11_even_65 ?_
        refine u_iinc g 2 [(2, .int (v2 + (1 : Int32))), (0, .ref (w.2.2.1 0)), (1, .int a1)] dX11_even_66 rfl rfl (by decide) rfl ?_
        refine u_goto g 37 dX11_even_69 (by decide) ?_
        exact u_sub [1, 2, 0] rfl (ih (v2 + (1 : Int32)) (sI M 8 ((1 : Int32) + v2).toNatClampNeg q8) _ h K)
      have h := hq9
      refine u_icmp_ge g 64 dX11_even_57 (by decide) (fun b12 => ?_) (fun b12 => ?_)
      · have h := ob_pos b12 h
        refine u_iconst g (v := (0 : Int32)) dX11_even_64 rfl ?_
        obtain rfl := Option.some.inj h
        exact u_sub [0, 1, 2] rfl K10
      · have h := ob_neg b12 h
        refine u_iconst g (v := (1 : Int32)) dX11_even_60 rfl ?_
        refine u_goto g 65 dX11_even_61 (by decide) ?_
        obtain rfl := Option.some.inj h
        exact u_sub [0, 1, 2] rfl K10
set_option maxRecDepth 100000 in
set_option maxHeartbeats 4000000 in
theorem t_X11_even (w : Wp) (l : Launch) {a1 : Int32} {M : Mem} {q : Int32 × Mem} (h : f_X11_even a1 M = some q) : Ct shY w l yX11_even cX11_even 3 (some .boolean) 2 [.ref (w.2.2.1 0), .int a1] M (some (.int q.1), q.2) := by
  rw [f_X11_even] at h
  refine ct_of shY_loc (by decide) (Nat.le_of_ble_eq_true rfl) rfl (fun x hx g => ?_)
  subst hx
  show U shY w x _ M 0 [(0, .ref (w.2.2.1 0)), (1, .int a1)] []
  generalize hr : ((some (.int q.1), q.2) : Option Value × Mem) = r
  have g : Gd shY w x RX11 cX11_even 3 (some .boolean) 2 := g
  refine u_aload_n g 0 dX11_even_0 rfl ?_
  refine u_iconst g (v := (0 : Int32)) dX11_even_1 rfl ?_
  refine pfX11_5 g wf_X11_84 dX11_even_2 ?_
  refine u_aload_n g 0 dX11_even_5 rfl ?_
  refine u_iload_n g 1 dX11_even_6 rfl ?_
  obtain ⟨q1, hq2, h⟩ := ob_bind h
  refine u_callV (st := []) g wv_X11_163 [.int a1] (show 0 < shY.1 by decide) ceY_0 rfl rfl (t_X11_isFamily w x.2.1 hq2) (by decide) (by decide) rfl (Nat.le_of_ble_eq_true rfl) rfl dX11_even_7 ?_
  show U shY w x r (sI M 0 5 (0 : Int32)) 10 [(0, .ref (w.2.2.1 0)), (1, .int a1)] [.int q1]
  refine u_if_ne g 19 dX11_even_10 (by decide) (fun b3 => ?_) (fun b3 => ?_)
  · have h := ob_neg b3 h
    refine u_aload_n g 0 dX11_even_19 rfl ?_
    obtain ⟨q4, hq5, h⟩ := ob_bind h
    refine u_callV (st := []) g wv_X11_190 [] (show 0 < shY.1 by decide) ceY_0 rfl rfl (t_X11_planActs w x.2.1 hq5) (by decide) (by decide) rfl (Nat.le_of_ble_eq_true rfl) rfl dX11_even_20 ?_
    show U shY w x r q4 23 [(0, .ref (w.2.2.1 0)), (1, .int a1)] []
    refine u_aload_n g 0 dX11_even_23 rfl ?_
    refine u_iconst g (v := (1 : Int32)) dX11_even_24 rfl ?_
    refine pfX11_13 g wf_X11_104 (Or.inr rfl) dX11_even_25 ?_
    refine u_aload_n g 0 dX11_even_28 rfl ?_
    refine gfX11_12 g wf_X11_31 dX11_even_29 ?_
    refine u_iconst g (v := (0 : Int32)) dX11_even_32 rfl ?_
    refine u_iload_n g 1 dX11_even_33 rfl ?_
    refine aY_ist g (c := 8) 121 (by decide) rfl (inB_in rfl) (j := 0) rfl dX11_even_34 ?_
    refine u_iconst g (v := (0 : Int32)) dX11_even_35 rfl ?_
    refine u_istore_n g [(2, .int (0 : Int32)), (0, .ref (w.2.2.1 0)), (1, .int a1)] dX11_even_36 (by decide) rfl ?_
    obtain ⟨q6, hq7, h⟩ := ob_bind h
    refine u_sub [1, 2, 0] rfl (s_X11_even_l1 g a1 fuelN (0 : Int32) (sI (sI q4 0 13 (1 : Int32)) 8 0 a1) _ hq7 ?_)
    show U shY w x r q6 72 [] []
    refine u_iconst g (v := (1 : Int32)) dX11_even_72 rfl ?_
    exact u_zret g (Or.inr rfl) dX11_even_73 (by rw [← hr]; obtain rfl := Option.some.inj h; rfl)
  · have h := ob_pos b3 h
    refine u_aload_n g 0 dX11_even_13 rfl ?_
    refine u_iconst g (v := (1 : Int32)) dX11_even_14 rfl ?_
    obtain ⟨q8, hq9, h⟩ := ob_bind h
    refine u_callV (st := []) g wv_X11_119 [.int (1 : Int32)] (show 0 < shY.1 by decide) ceY_0 rfl rfl (t_X11_not w x.2.1 hq9) (by decide) (by decide) rfl (Nat.le_of_ble_eq_true rfl) rfl dX11_even_15 ?_
    show U shY w x r q8.2 18 [(0, .ref (w.2.2.1 0)), (1, .int a1)] [.int q8.1]
    obtain ⟨hz, h⟩ := ob_if h
    exact u_zret g hz dX11_even_18 (by rw [← hr]; obtain rfl := Option.some.inj h; rfl)
set_option maxRecDepth 100000 in
set_option maxHeartbeats 4000000 in
theorem t_X11_isPart (w : Wp) (l : Launch) {a1 : Int32} {M : Mem} {q : Int32} (h : f_X11_isPart a1 M = some q) : Ct shY w l yX11_isPart cX11_isPart 2 (some .boolean) 1 [.ref (w.2.2.1 0), .int a1] M (some (.int q), M) := by
  rw [f_X11_isPart] at h
  refine ct_of shY_loc (by decide) (Nat.le_of_ble_eq_true rfl) rfl (fun x hx g => ?_)
  subst hx
  show U shY w x _ M 0 [(0, .ref (w.2.2.1 0)), (1, .int a1)] []
  generalize hr : ((some (.int q), M) : Option Value × Mem) = r
  have g : Gd shY w x RX11 cX11_isPart 2 (some .boolean) 1 := g
  refine u_aload_n g 0 dX11_isPart_0 rfl ?_
  refine gfX11_13 g wf_X11_104 (v := (M.1 0 13)) rfl dX11_isPart_1 ?_
  refine u_if_eq g 33 dX11_isPart_4 (by decide) (fun b1 => ?_) (fun b1 => ?_)
  · have h := ob_pos b1 h
    refine u_iconst g (v := (0 : Int32)) dX11_isPart_33 rfl ?_
    exact u_zret g (Or.inl rfl) dX11_isPart_34 (by rw [← hr]; obtain rfl := Option.some.inj h; rfl)
  · have h := ob_neg b1 h
    refine u_aload_n g 0 dX11_isPart_7 rfl ?_
    refine u_iload_n g 1 dX11_isPart_8 rfl ?_
    refine u_iconst g (v := (0 : Int32)) dX11_isPart_9 rfl ?_
    refine u_aload_n g 0 dX11_isPart_10 rfl ?_
    refine gfX11_9 g wf_X11_25 dX11_isPart_11 ?_
    refine u_aload_n g 0 dX11_isPart_14 rfl ?_
    refine gfX11_12 g wf_X11_31 dX11_isPart_15 ?_
    refine u_iconst g (v := (0 : Int32)) dX11_isPart_18 rfl ?_
    refine aY_ild g (c := 8) 121 (by decide) rfl (v := (M.1 8 0)) (inB_in rfl) rfl dX11_isPart_19 ?_
    obtain ⟨e2, h⟩ := ob_if h
    refine aY_ild g (c := 6) 24 (by decide) rfl (v := (M.1 6 (M.1 8 0).toNatClampNeg)) (inB_in e2) rfl dX11_isPart_20 ?_
    refine u_iconst g (v := (1 : Int32)) dX11_isPart_21 rfl ?_
    refine u_isub g dX11_isPart_22 ?_
    obtain ⟨q3, hq4, h⟩ := ob_bind h
    refine u_callV (st := []) g wv_X11_97 [.int a1, .int (0 : Int32), .int ((M.1 6 (M.1 8 0).toNatClampNeg) - (1 : Int32))] (show 0 < shY.1 by decide) ceY_0 rfl rfl (t_X11_in w x.2.1 hq4) (by decide) (by decide) rfl (Nat.le_of_ble_eq_true rfl) rfl dX11_isPart_23 ?_
    show U shY w x r M 26 [(0, .ref (w.2.2.1 0)), (1, .int a1)] [.int q3]
    refine u_if_eq g 33 dX11_isPart_26 (by decide) (fun b5 => ?_) (fun b5 => ?_)
    · have h := ob_pos b5 h
      refine u_iconst g (v := (0 : Int32)) dX11_isPart_33 rfl ?_
      exact u_zret g (Or.inl rfl) dX11_isPart_34 (by rw [← hr]; obtain rfl := Option.some.inj h; rfl)
    · have h := ob_neg b5 h
      refine u_iconst g (v := (1 : Int32)) dX11_isPart_29 rfl ?_
      refine u_goto g 34 dX11_isPart_30 (by decide) ?_
      exact u_zret g (Or.inr rfl) dX11_isPart_34 (by rw [← hr]; obtain rfl := Option.some.inj h; rfl)
set_option maxRecDepth 100000 in
set_option maxHeartbeats 4000000 in
theorem s_X11_allParts_l1 {w : Wp} {x : Cx} {r : Option Value × Mem} (g : Gd shY w x RX11 cX11_allParts 3 (some .int) 0)   (M : Mem) : ∀ (n : Nat) (v1 : Int32) (v2 : Int32) (q : Int32), f_X11_allParts_l1 M n v1 v2 = some q → U shY w x r M 36 [(1, .int q)] [] → U shY w x r M 4 [(0, .ref (w.2.2.1 0)), (1, .int v1), (2, .int v2)] [] := by
  intro n
  induction n with
  | zero => intro v1 v2 q h K; rw [f_X11_allParts_l1] at h; cases h
  | succ n ih =>
    intro v1 v2 q h K
    rw [f_X11_allParts_l1] at h
    refine u_iload_n g 2 dX11_allParts_4 rfl ?_
    refine u_aload_n g 0 dX11_allParts_5 rfl ?_
    refine gfX11_9 g wf_X11_25 dX11_allParts_6 ?_
    refine u_aload_n g 0 dX11_allParts_9 rfl ?_
    refine gfX11_12 g wf_X11_31 dX11_allParts_10 ?_
    refine u_iconst g (v := (0 : Int32)) dX11_allParts_13 rfl ?_
    refine aY_ild g (c := 8) 121 (by decide) rfl (v := (M.1 8 0)) (inB_in rfl) rfl dX11_allParts_14 ?_
    obtain ⟨e1, h⟩ := ob_if h
    refine aY_ild g (c := 6) 24 (by decide) rfl (v := (M.1 6 (M.1 8 0).toNatClampNeg)) (inB_in e1) rfl dX11_allParts_15 ?_
    refine u_icmp_ge g 36 dX11_allParts_16 (by decide) (fun b2 => ?_) (fun b2 => ?_)
    · have h := ob_pos b2 h
      obtain rfl := Option.some.inj h
      exact u_sub [1] rfl K
    · have h := ob_neg b2 h
      refine u_iload_n g 1 dX11_allParts_19 rfl ?_
      refine u_aload_n g 0 dX11_allParts_20 rfl ?_
      refine gfX11_12 g wf_X11_31 dX11_allParts_21 ?_
      refine u_iconst g (v := (1 : Int32)) dX11_allParts_24 rfl ?_
      refine u_iload_n g 2 dX11_allParts_25 rfl ?_
      refine u_iadd g dX11_allParts_26 ?_
      obtain ⟨e3, h⟩ := ob_if h
      refine aY_ild g (c := 8) 121 (by decide) rfl (v := (M.1 8 ((1 : Int32) + v2).toNatClampNeg)) (inB_in e3) rfl dX11_allParts_27 ?_
      refine u_iadd g dX11_allParts_28 ?_
      refine u_istore_n g [(1, .int (v1 + (M.1 8 ((1 : Int32) + v2).toNatClampNeg))), (0, .ref (w.2.2.1 0)), (2, .int v2)] dX11_allParts_29 (by decide) rfl ?_
      refine u_iinc g 2 [(2, .int (v2 + (1 : Int32))), (1, .int (v1 + (M.1 8 ((1 : Int32) + v2).toNatClampNeg))), (0, .ref (w.2.2.1 0))] dX11_allParts_30 rfl rfl (by decide) rfl ?_
      refine u_goto g 4 dX11_allParts_33 (by decide) ?_
      exact u_sub [2, 1, 0] rfl (ih (v1 + (M.1 8 ((1 : Int32) + v2).toNatClampNeg)) (v2 + (1 : Int32)) _ h K)
set_option maxRecDepth 100000 in
set_option maxHeartbeats 4000000 in
theorem t_X11_allParts (w : Wp) (l : Launch)  {M : Mem} {q : Int32} (h : f_X11_allParts M = some q) : Ct shY w l yX11_allParts cX11_allParts 3 (some .int) 0 [.ref (w.2.2.1 0)] M (some (.int q), M) := by
  rw [f_X11_allParts] at h
  refine ct_of shY_loc (by decide) (Nat.le_of_ble_eq_true rfl) rfl (fun x hx g => ?_)
  subst hx
  show U shY w x _ M 0 [(0, .ref (w.2.2.1 0))] []
  generalize hr : ((some (.int q), M) : Option Value × Mem) = r
  have g : Gd shY w x RX11 cX11_allParts 3 (some .int) 0 := g
  refine u_iconst g (v := (0 : Int32)) dX11_allParts_0 rfl ?_
  refine u_istore_n g [(1, .int (0 : Int32)), (0, .ref (w.2.2.1 0))] dX11_allParts_1 (by decide) rfl ?_
  refine u_iconst g (v := (0 : Int32)) dX11_allParts_2 rfl ?_
  refine u_istore_n g [(2, .int (0 : Int32)), (1, .int (0 : Int32)), (0, .ref (w.2.2.1 0))] dX11_allParts_3 (by decide) rfl ?_
  obtain ⟨q1, hq2, h⟩ := ob_bind h
  refine u_sub [2, 1, 0] rfl (s_X11_allParts_l1 g M fuelN (0 : Int32) (0 : Int32) _ hq2 ?_)
  show U shY w x r M 36 [(1, .int q1)] []
  refine u_iload_n g 0 dX11_allParts_36 rfl ?_
  exact u_iret g dX11_allParts_37 (by rw [← hr]; obtain rfl := Option.some.inj h; rfl)
set_option maxRecDepth 100000 in
set_option maxHeartbeats 4000000 in
theorem t_X11_part (w : Wp) (l : Launch) {a1 : Int32} {a2 : Int32} {M : Mem} {q : Int32 × Mem} (h : f_X11_part a1 a2 M = some q) : Ct shY w l yX11_part cX11_part 3 (some .boolean) 2 [.ref (w.2.2.1 0), .int a1, .int a2] M (some (.int q.1), q.2) := by
  rw [f_X11_part] at h
  refine ct_of shY_loc (by decide) (Nat.le_of_ble_eq_true rfl) rfl (fun x hx g => ?_)
  subst hx
  show U shY w x _ M 0 [(0, .ref (w.2.2.1 0)), (1, .int a1), (2, .int a2)] []
  generalize hr : ((some (.int q.1), q.2) : Option Value × Mem) = r
  have g : Gd shY w x RX11 cX11_part 3 (some .boolean) 2 := g
  refine u_aload_n g 0 dX11_part_0 rfl ?_
  refine u_iconst g (v := (0 : Int32)) dX11_part_1 rfl ?_
  refine pfX11_5 g wf_X11_84 dX11_part_2 ?_
  refine u_aload_n g 0 dX11_part_5 rfl ?_
  refine u_iload_n g 1 dX11_part_6 rfl ?_
  obtain ⟨q1, hq2, h⟩ := ob_bind h
  refine u_callV (st := []) g wv_X11_193 [.int a1] (show 0 < shY.1 by decide) ceY_0 rfl rfl (t_X11_isPart w x.2.1 hq2) (by decide) (by decide) rfl (Nat.le_of_ble_eq_true rfl) rfl dX11_part_7 ?_
  show U shY w x r (sI M 0 5 (0 : Int32)) 10 [(0, .ref (w.2.2.1 0)), (1, .int a1), (2, .int a2)] [.int q1]
  refine u_if_ne g 19 dX11_part_10 (by decide) (fun b3 => ?_) (fun b3 => ?_)
  · have h := ob_neg b3 h
    refine u_aload_n g 0 dX11_part_19 rfl ?_
    refine u_iload_n g 2 dX11_part_20 rfl ?_
    refine u_iconst g (v := (0 : Int32)) dX11_part_21 rfl ?_
    refine u_sipush g (v := (1000 : Int32)) dX11_part_22 rfl ?_
    obtain ⟨q4, hq5, h⟩ := ob_bind h
    refine u_callV (st := []) g wv_X11_97 [.int a2, .int (0 : Int32), .int (1000 : Int32)] (show 0 < shY.1 by decide) ceY_0 rfl rfl (t_X11_in w x.2.1 hq5) (by decide) (by decide) rfl (Nat.le_of_ble_eq_true rfl) rfl dX11_part_25 ?_
    show U shY w x r (sI M 0 5 (0 : Int32)) 28 [(0, .ref (w.2.2.1 0)), (1, .int a1), (2, .int a2)] [.int q4]
    refine u_if_eq g 49 dX11_part_28 (by decide) (fun b6 => ?_) (fun b6 => ?_)
    · have h := ob_pos b6 h
      refine u_aload_n g 0 dX11_part_49 rfl ?_
      refine u_iconst g (v := (2 : Int32)) dX11_part_50 rfl ?_
      obtain ⟨q7, hq8, h⟩ := ob_bind h
      refine u_callV (st := []) g wv_X11_119 [.int (2 : Int32)] (show 0 < shY.1 by decide) ceY_0 rfl rfl (t_X11_not w x.2.1 hq8) (by decide) (by decide) rfl (Nat.le_of_ble_eq_true rfl) rfl dX11_part_51 ?_
      show U shY w x r q7.2 54 [(0, .ref (w.2.2.1 0)), (1, .int a1), (2, .int a2)] [.int q7.1]
      obtain ⟨hz, h⟩ := ob_if h
      exact u_zret g hz dX11_part_54 (by rw [← hr]; obtain rfl := Option.some.inj h; rfl)
    · have h := ob_neg b6 h
      refine u_aload_n g 0 dX11_part_31 rfl ?_
      obtain ⟨q9, hq10, h⟩ := ob_bind h
      refine u_callV (st := []) g wv_X11_196 [] (show 0 < shY.1 by decide) ceY_0 rfl rfl (t_X11_allParts w x.2.1 hq10) (by decide) (by decide) rfl (Nat.le_of_ble_eq_true rfl) rfl dX11_part_32 ?_
      show U shY w x r (sI M 0 5 (0 : Int32)) 35 [(0, .ref (w.2.2.1 0)), (1, .int a1), (2, .int a2)] [.int q9]
      refine u_aload_n g 0 dX11_part_35 rfl ?_
      refine gfX11_12 g wf_X11_31 dX11_part_36 ?_
      refine u_iconst g (v := (1 : Int32)) dX11_part_39 rfl ?_
      refine u_iload_n g 1 dX11_part_40 rfl ?_
      refine u_iadd g dX11_part_41 ?_
      obtain ⟨e11, h⟩ := ob_if h
      refine aY_ild g (c := 8) 121 (by decide) rfl (v := (M.1 8 ((1 : Int32) + a1).toNatClampNeg)) (inB_in e11) rfl dX11_part_42 ?_
      refine u_isub g dX11_part_43 ?_
      refine u_iload_n g 2 dX11_part_44 rfl ?_
      refine u_iadd g dX11_part_45 ?_
      refine u_if_ne g 55 dX11_part_46 (by decide) (fun b12 => ?_) (fun b12 => ?_)
      · have h := ob_neg b12 h
        refine u_aload_n g 0 dX11_part_55 rfl ?_
        obtain ⟨q13, hq14, h⟩ := ob_bind h
        refine u_callV (st := []) g wv_X11_190 [] (show 0 < shY.1 by decide) ceY_0 rfl rfl (t_X11_planActs w x.2.1 hq14) (by decide) (by decide) rfl (Nat.le_of_ble_eq_true rfl) rfl dX11_part_56 ?_
        show U shY w x r q13 59 [(0, .ref (w.2.2.1 0)), (1, .int a1), (2, .int a2)] []
        refine u_aload_n g 0 dX11_part_59 rfl ?_
        refine gfX11_12 g wf_X11_31 dX11_part_60 ?_
        refine u_iconst g (v := (1 : Int32)) dX11_part_63 rfl ?_
        refine u_iload_n g 1 dX11_part_64 rfl ?_
        refine u_iadd g dX11_part_65 ?_
        refine u_iload_n g 2 dX11_part_66 rfl ?_
        obtain ⟨e15, h⟩ := ob_if h
        refine aY_ist g (c := 8) 121 (by decide) rfl (inB_in e15) (j := ((1 : Int32) + a1).toNatClampNeg) rfl dX11_part_67 ?_
        refine u_iconst g (v := (1 : Int32)) dX11_part_68 rfl ?_
        exact u_zret g (Or.inr rfl) dX11_part_69 (by rw [← hr]; obtain rfl := Option.some.inj h; rfl)
      · have h := ob_pos b12 h
        refine u_aload_n g 0 dX11_part_49 rfl ?_
        refine u_iconst g (v := (2 : Int32)) dX11_part_50 rfl ?_
        obtain ⟨q16, hq17, h⟩ := ob_bind h
        refine u_callV (st := []) g wv_X11_119 [.int (2 : Int32)] (show 0 < shY.1 by decide) ceY_0 rfl rfl (t_X11_not w x.2.1 hq17) (by decide) (by decide) rfl (Nat.le_of_ble_eq_true rfl) rfl dX11_part_51 ?_
        show U shY w x r q16.2 54 [(0, .ref (w.2.2.1 0)), (1, .int a1), (2, .int a2)] [.int q16.1]
        obtain ⟨hz, h⟩ := ob_if h
        exact u_zret g hz dX11_part_54 (by rw [← hr]; obtain rfl := Option.some.inj h; rfl)
  · have h := ob_pos b3 h
    refine u_aload_n g 0 dX11_part_13 rfl ?_
    refine u_iconst g (v := (1 : Int32)) dX11_part_14 rfl ?_
    obtain ⟨q18, hq19, h⟩ := ob_bind h
    refine u_callV (st := []) g wv_X11_119 [.int (1 : Int32)] (show 0 < shY.1 by decide) ceY_0 rfl rfl (t_X11_not w x.2.1 hq19) (by decide) (by decide) rfl (Nat.le_of_ble_eq_true rfl) rfl dX11_part_15 ?_
    show U shY w x r q18.2 18 [(0, .ref (w.2.2.1 0)), (1, .int a1), (2, .int a2)] [.int q18.1]
    obtain ⟨hz, h⟩ := ob_if h
    exact u_zret g hz dX11_part_18 (by rw [← hr]; obtain rfl := Option.some.inj h; rfl)
set_option maxRecDepth 100000 in
set_option maxHeartbeats 4000000 in
theorem t_X11_partOf (w : Wp) (l : Launch) {a1 : Int32} {M : Mem} {q : Int32 × Mem} (h : f_X11_partOf a1 M = some q) : Ct shY w l yX11_partOf cX11_partOf 2 (some .int) 2 [.ref (w.2.2.1 0), .int a1] M (some (.int q.1), q.2) := by
  rw [f_X11_partOf] at h
  refine ct_of shY_loc (by decide) (Nat.le_of_ble_eq_true rfl) rfl (fun x hx g => ?_)
  subst hx
  show U shY w x _ M 0 [(0, .ref (w.2.2.1 0)), (1, .int a1)] []
  generalize hr : ((some (.int q.1), q.2) : Option Value × Mem) = r
  have g : Gd shY w x RX11 cX11_partOf 2 (some .int) 2 := g
  refine u_aload_n g 0 dX11_partOf_0 rfl ?_
  refine u_iconst g (v := (0 : Int32)) dX11_partOf_1 rfl ?_
  refine pfX11_5 g wf_X11_84 dX11_partOf_2 ?_
  refine u_aload_n g 0 dX11_partOf_5 rfl ?_
  refine u_iload_n g 1 dX11_partOf_6 rfl ?_
  obtain ⟨q1, hq2, h⟩ := ob_bind h
  refine u_callV (st := []) g wv_X11_193 [.int a1] (show 0 < shY.1 by decide) ceY_0 rfl rfl (t_X11_isPart w x.2.1 hq2) (by decide) (by decide) rfl (Nat.le_of_ble_eq_true rfl) rfl dX11_partOf_7 ?_
  show U shY w x r (sI M 0 5 (0 : Int32)) 10 [(0, .ref (w.2.2.1 0)), (1, .int a1)] [.int q1]
  refine u_if_eq g 24 dX11_partOf_10 (by decide) (fun b3 => ?_) (fun b3 => ?_)
  · have h := ob_pos b3 h
    refine u_iconst g (v := (-1 : Int32)) dX11_partOf_24 rfl ?_
    exact u_iret g dX11_partOf_25 (by rw [← hr]; obtain rfl := Option.some.inj h; rfl)
  · have h := ob_neg b3 h
    refine u_aload_n g 0 dX11_partOf_13 rfl ?_
    refine gfX11_12 g wf_X11_31 dX11_partOf_14 ?_
    refine u_iconst g (v := (1 : Int32)) dX11_partOf_17 rfl ?_
    refine u_iload_n g 1 dX11_partOf_18 rfl ?_
    refine u_iadd g dX11_partOf_19 ?_
    obtain ⟨e4, h⟩ := ob_if h
    refine aY_ild g (c := 8) 121 (by decide) rfl (v := (M.1 8 ((1 : Int32) + a1).toNatClampNeg)) (inB_in e4) rfl dX11_partOf_20 ?_
    refine u_goto g 25 dX11_partOf_21 (by decide) ?_
    exact u_iret g dX11_partOf_25 (by rw [← hr]; obtain rfl := Option.some.inj h; rfl)
set_option maxRecDepth 100000 in
set_option maxHeartbeats 4000000 in
theorem s_X11_divisor_l1 {w : Wp} {x : Cx} {r : Option Value × Mem} (g : Gd shY w x RX11 cX11_divisor 6 (some .int) 0)   (M : Mem) : ∀ (n : Nat) (v3 : Int32) (v4 : Int32) (q : Int32), f_X11_divisor_l1 n v3 v4 = some q → U shY w x r M 26 [(3, .int q)] [] → U shY w x r M 5 [(3, .int v3), (4, .int v4)] [] := by
  intro n
  induction n with
  | zero => intro v3 v4 q h K; rw [f_X11_divisor_l1] at h; cases h
  | succ n ih =>
    intro v3 v4 q h K
    rw [f_X11_divisor_l1] at h
    refine u_iload g 1 dX11_divisor_5 rfl ?_
    refine u_if_eq g 26 dX11_divisor_7 (by decide) (fun b1 => ?_) (fun b1 => ?_)
    · have h := ob_pos b1 h
      obtain rfl := Option.some.inj h
      exact u_sub [0] rfl K
    · have h := ob_neg b1 h
      refine u_iload_n g 0 dX11_divisor_10 rfl ?_
      refine u_iload g 1 dX11_divisor_11 rfl ?_
      obtain ⟨e2, h⟩ := ob_if h
      refine u_irem g dX11_divisor_13 e2 ?_
      refine u_istore g [(5, .int (v3 - v3 / v4 * v4)), (3, .int v3), (4, .int v4)] dX11_divisor_14 (by decide) rfl ?_
      refine u_iload g 2 dX11_divisor_16 rfl ?_
      refine u_istore_n g [(3, .int v4), (5, .int (v3 - v3 / v4 * v4)), (4, .int v4)] dX11_divisor_18 (by decide) rfl ?_
      refine u_iload g 1 dX11_divisor_19 rfl ?_
      refine u_istore g [(4, .int (v3 - v3 / v4 * v4)), (3, .int v4), (5, .int (v3 - v3 / v4 * v4))] dX11_divisor_21 (by decide) rfl ?_
      refine u_goto g 5 dX11_divisor_23 (by decide) ?_
      exact u_sub [1, 0] rfl (ih v4 (v3 - v3 / v4 * v4) _ h K)
set_option maxRecDepth 100000 in
set_option maxHeartbeats 4000000 in
theorem t_X11_divisor (w : Wp) (l : Launch) {a1 : Int32} {a2 : Int32} {M : Mem} {q : Int32} (h : f_X11_divisor a1 a2 = some q) : Ct shY w l yX11_divisor cX11_divisor 6 (some .int) 0 [.ref (w.2.2.1 0), .int a1, .int a2] M (some (.int q), M) := by
  rw [f_X11_divisor] at h
  refine ct_of shY_loc (by decide) (Nat.le_of_ble_eq_true rfl) rfl (fun x hx g => ?_)
  subst hx
  show U shY w x _ M 0 [(0, .ref (w.2.2.1 0)), (1, .int a1), (2, .int a2)] []
  generalize hr : ((some (.int q), M) : Option Value × Mem) = r
  have g : Gd shY w x RX11 cX11_divisor 6 (some .int) 0 := g
  refine u_iload_n g 1 dX11_divisor_0 rfl ?_
  refine u_istore_n g [(3, .int a1), (0, .ref (w.2.2.1 0)), (1, .int a1), (2, .int a2)] dX11_divisor_1 (by decide) rfl ?_
  refine u_iload_n g 3 dX11_divisor_2 rfl ?_
  refine u_istore g [(4, .int a2), (3, .int a1), (0, .ref (w.2.2.1 0)), (1, .int a1), (2, .int a2)] dX11_divisor_3 (by decide) rfl ?_
  obtain ⟨q1, hq2, h⟩ := ob_bind h
  refine u_sub [1, 0] rfl (s_X11_divisor_l1 g M fuelN a1 a2 _ hq2 ?_)
  show U shY w x r M 26 [(3, .int q1)] []
  refine u_iload_n g 0 dX11_divisor_26 rfl ?_
  exact u_iret g dX11_divisor_27 (by rw [← hr]; obtain rfl := Option.some.inj h; rfl)
set_option maxRecDepth 100000 in
set_option maxHeartbeats 4000000 in
theorem t_X11_fraction (w : Wp) (l : Launch) {a1 : Int32} {a2 : Int32} {M : Mem} {q : Mem} (h : f_X11_fraction a1 a2 M = some q) : Ct shY w l yX11_fraction cX11_fraction 4 none 1 [.ref (w.2.2.1 0), .int a1, .int a2] M (none, q) := by
  rw [f_X11_fraction] at h
  refine ct_of shY_loc (by decide) (Nat.le_of_ble_eq_true rfl) rfl (fun x hx g => ?_)
  subst hx
  show U shY w x _ M 0 [(0, .ref (w.2.2.1 0)), (1, .int a1), (2, .int a2)] []
  generalize hr : ((none, q) : Option Value × Mem) = r
  have g : Gd shY w x RX11 cX11_fraction 4 none 1 := g
  refine u_aload_n g 0 dX11_fraction_0 rfl ?_
  refine u_iload_n g 1 dX11_fraction_1 rfl ?_
  refine u_iload_n g 2 dX11_fraction_2 rfl ?_
  obtain ⟨q1, hq2, h⟩ := ob_bind h
  refine u_callV (st := []) g wv_X11_200 [.int a1, .int a2] (show 0 < shY.1 by decide) ceY_0 rfl rfl (t_X11_divisor w x.2.1 hq2) (by decide) (by decide) rfl (Nat.le_of_ble_eq_true rfl) rfl dX11_fraction_3 ?_
  show U shY w x r M 6 [(0, .ref (w.2.2.1 0)), (1, .int a1), (2, .int a2)] [.int q1]
  refine u_istore_n g [(3, .int q1), (0, .ref (w.2.2.1 0)), (1, .int a1), (2, .int a2)] dX11_fraction_6 (by decide) rfl ?_
  refine u_aload_n g 1 dX11_fraction_7 rfl ?_
  refine u_iload_n g 2 dX11_fraction_8 rfl ?_
  refine u_iload_n g 0 dX11_fraction_9 rfl ?_
  obtain ⟨e3, h⟩ := ob_if h
  refine u_idiv g dX11_fraction_10 e3 ?_
  refine pfX11_33 g wf_X11_203 dX11_fraction_11 ?_
  refine u_aload_n g 1 dX11_fraction_14 rfl ?_
  refine u_iload_n g 3 dX11_fraction_15 rfl ?_
  refine u_iload_n g 0 dX11_fraction_16 rfl ?_
  obtain ⟨e4, h⟩ := ob_if h
  refine u_idiv g dX11_fraction_17 e4 ?_
  refine pfX11_34 g wf_X11_206 dX11_fraction_18 ?_
  exact u_vret g dX11_fraction_21 (by rw [← hr]; obtain rfl := Option.some.inj h; rfl)
set_option maxRecDepth 100000 in
set_option maxHeartbeats 4000000 in
theorem s_X11_loadsOf_l1 {w : Wp} {x : Cx} {r : Option Value × Mem} (g : Gd shY w x RX11 cX11_loadsOf 4 none 2) (a1 : Int32)  (M : Mem) : ∀ (n : Nat) (v2 : Int32) (v3 : Int32) (q : Int32), f_X11_loadsOf_l1 a1 M n v2 v3 = some q → U shY w x r M 59 [(0, .ref (w.2.2.1 0)), (1, .int a1), (2, .int q)] [] → U shY w x r M 4 [(0, .ref (w.2.2.1 0)), (1, .int a1), (2, .int v2), (3, .int v3)] [] := by
  intro n
  induction n with
  | zero => intro v2 v3 q h K; rw [f_X11_loadsOf_l1] at h; cases h
  | succ n ih =>
    intro v2 v3 q h K
    rw [f_X11_loadsOf_l1] at h
    refine u_iload_n g 3 dX11_loadsOf_4 rfl ?_
    refine u_aload_n g 0 dX11_loadsOf_5 rfl ?_
    refine gfX11_9 g wf_X11_25 dX11_loadsOf_6 ?_
    refine u_aload_n g 0 dX11_loadsOf_9 rfl ?_
    refine gfX11_12 g wf_X11_31 dX11_loadsOf_10 ?_
    refine u_iconst g (v := (0 : Int32)) dX11_loadsOf_13 rfl ?_
    refine aY_ild g (c := 8) 121 (by decide) rfl (v := (M.1 8 0)) (inB_in rfl) rfl dX11_loadsOf_14 ?_
    obtain ⟨e1, h⟩ := ob_if h
    refine aY_ild g (c := 6) 24 (by decide) rfl (v := (M.1 6 (M.1 8 0).toNatClampNeg)) (inB_in e1) rfl dX11_loadsOf_15 ?_
    refine u_icmp_ge g 59 dX11_loadsOf_16 (by decide) (fun b2 => ?_) (fun b2 => ?_)
    · have h := ob_pos b2 h
      obtain rfl := Option.some.inj h
      exact u_sub [0, 1, 2] rfl K
    · have h := ob_neg b2 h
      refine u_iload_n g 2 dX11_loadsOf_19 rfl ?_
      refine u_aload_n g 0 dX11_loadsOf_20 rfl ?_
      refine u_aload_n g 0 dX11_loadsOf_21 rfl ?_
      refine gfX11_12 g wf_X11_31 dX11_loadsOf_22 ?_
      refine u_iconst g (v := (0 : Int32)) dX11_loadsOf_25 rfl ?_
      refine aY_ild g (c := 8) 121 (by decide) rfl (v := (M.1 8 0)) (inB_in rfl) rfl dX11_loadsOf_26 ?_
      refine u_iload_n g 3 dX11_loadsOf_27 rfl ?_
      obtain ⟨q3, hq4, h⟩ := ob_bind h
      refine u_callV (st := [.int v2]) g wv_X11_136 [.int (M.1 8 0), .int v3] (show 0 < shY.1 by decide) ceY_0 rfl rfl (t_X11_quorumOf w x.2.1 hq4) (by decide) (by decide) rfl (Nat.le_of_ble_eq_true rfl) rfl dX11_loadsOf_28 ?_
      show U shY w x r M 31 [(0, .ref (w.2.2.1 0)), (1, .int a1), (2, .int v2), (3, .int v3)] [.int q3, .int v2]
      refine u_iload_n g 1 dX11_loadsOf_31 rfl ?_
      refine u_ishr g dX11_loadsOf_32 ?_
      refine u_iconst g (v := (1 : Int32)) dX11_loadsOf_33 rfl ?_
      refine u_iand g dX11_loadsOf_34 ?_
      refine u_iconst g (v := (1 : Int32)) dX11_loadsOf_35 rfl ?_
      obtain ⟨q5, hq6, h⟩ := ob_bind h
      have K7 : U shY w x r M 51 [(0, .ref (w.2.2.1 0)), (1, .int a1), (3, .int v3)] [.int q5, .int v2] := by
        refine u_iadd g dX11_loadsOf_51 ?_
        refine u_istore_n g [(2, .int (v2 + q5)), (0, .ref (w.2.2.1 0)), (1, .int a1), (3, .int v3)] dX11_loadsOf_52 (by decide) rfl ?_
        refine u_iinc g 3 [(3, .int (v3 + (1 : Int32))), (2, .int (v2 + q5)), (0, .ref (w.2.2.1 0)), (1, .int a1)] dX11_loadsOf_53 rfl rfl (by decide) rfl ?_
        refine u_goto g 4 dX11_loadsOf_56 (by decide) ?_
        exact u_sub [2, 3, 1, 0] rfl (ih (v2 + q5) (v3 + (1 : Int32)) _ h K)
      have h := hq6
      refine u_icmp_ne g 50 dX11_loadsOf_36 (by decide) (fun b8 => ?_) (fun b8 => ?_)
      · have h := ob_neg b8 h
        refine u_iconst g (v := (0 : Int32)) dX11_loadsOf_50 rfl ?_
        obtain rfl := Option.some.inj h
        exact u_sub [0, 1, 3] rfl K7
      · have h := ob_pos b8 h
        refine u_aload_n g 0 dX11_loadsOf_39 rfl ?_
        refine gfX11_12 g wf_X11_31 dX11_loadsOf_40 ?_
        refine u_iconst g (v := (1 : Int32)) dX11_loadsOf_43 rfl ?_
        refine u_iload_n g 3 dX11_loadsOf_44 rfl ?_
        refine u_iadd g dX11_loadsOf_45 ?_
        obtain ⟨e9, h⟩ := ob_if h
        refine aY_ild g (c := 8) 121 (by decide) rfl (v := (M.1 8 ((1 : Int32) + v3).toNatClampNeg)) (inB_in e9) rfl dX11_loadsOf_46 ?_
        refine u_goto g 51 dX11_loadsOf_47 (by decide) ?_
        obtain rfl := Option.some.inj h
        exact u_sub [0, 1, 3] rfl K7
set_option maxRecDepth 100000 in
set_option maxHeartbeats 4000000 in
theorem t_X11_loadsOf (w : Wp) (l : Launch) {a1 : Int32} {M : Mem} {q : Mem} (h : f_X11_loadsOf a1 M = some q) : Ct shY w l yX11_loadsOf cX11_loadsOf 4 none 2 [.ref (w.2.2.1 0), .int a1] M (none, q) := by
  rw [f_X11_loadsOf] at h
  refine ct_of shY_loc (by decide) (Nat.le_of_ble_eq_true rfl) rfl (fun x hx g => ?_)
  subst hx
  show U shY w x _ M 0 [(0, .ref (w.2.2.1 0)), (1, .int a1)] []
  generalize hr : ((none, q) : Option Value × Mem) = r
  have g : Gd shY w x RX11 cX11_loadsOf 4 none 2 := g
  refine u_iconst g (v := (0 : Int32)) dX11_loadsOf_0 rfl ?_
  refine u_istore_n g [(2, .int (0 : Int32)), (0, .ref (w.2.2.1 0)), (1, .int a1)] dX11_loadsOf_1 (by decide) rfl ?_
  refine u_iconst g (v := (0 : Int32)) dX11_loadsOf_2 rfl ?_
  refine u_istore_n g [(3, .int (0 : Int32)), (2, .int (0 : Int32)), (0, .ref (w.2.2.1 0)), (1, .int a1)] dX11_loadsOf_3 (by decide) rfl ?_
  obtain ⟨q1, hq2, h⟩ := ob_bind h
  refine u_sub [2, 3, 1, 0] rfl (s_X11_loadsOf_l1 g a1 M fuelN (0 : Int32) (0 : Int32) _ hq2 ?_)
  show U shY w x r M 59 [(0, .ref (w.2.2.1 0)), (1, .int a1), (2, .int q1)] []
  refine u_aload_n g 0 dX11_loadsOf_59 rfl ?_
  refine u_iload_n g 2 dX11_loadsOf_60 rfl ?_
  refine u_aload_n g 0 dX11_loadsOf_61 rfl ?_
  obtain ⟨q3, hq4, h⟩ := ob_bind h
  refine u_callV (st := [.int q1, .ref (w.2.2.1 0)]) g wv_X11_196 [] (show 0 < shY.1 by decide) ceY_0 rfl rfl (t_X11_allParts w x.2.1 hq4) (by decide) (by decide) rfl (Nat.le_of_ble_eq_true rfl) rfl dX11_loadsOf_62 ?_
  show U shY w x r M 65 [(0, .ref (w.2.2.1 0)), (1, .int a1), (2, .int q1)] [.int q3, .int q1, .ref (w.2.2.1 0)]
  refine u_aload_n g 0 dX11_loadsOf_65 rfl ?_
  refine gfX11_0 g wf_X11_7 dX11_loadsOf_66 ?_
  refine u_iload_n g 1 dX11_loadsOf_69 rfl ?_
  obtain ⟨e5, h⟩ := ob_if h
  refine aY_ild g (c := 1) 16 (by decide) rfl (v := (M.1 1 a1.toNatClampNeg)) (inB_in e5) rfl dX11_loadsOf_70 ?_
  refine u_imul g dX11_loadsOf_71 ?_
  obtain ⟨q6, hq7, h⟩ := ob_bind h
  refine u_callV (st := []) g wv_X11_209 [.int q1, .int (q3 * (M.1 1 a1.toNatClampNeg))] (show 0 < shY.1 by decide) ceY_0 rfl rfl (t_X11_fraction w x.2.1 hq7) (by decide) (by decide) rfl (Nat.le_of_ble_eq_true rfl) rfl dX11_loadsOf_72 ?_
  show U shY w x r q6 75 [(0, .ref (w.2.2.1 0)), (1, .int a1), (2, .int q1)] []
  exact u_vret g dX11_loadsOf_75 (by rw [← hr]; obtain rfl := Option.some.inj h; rfl)
set_option maxRecDepth 100000 in
set_option maxHeartbeats 4000000 in
theorem s_X11_loaded_l1 {w : Wp} {x : Cx} {r : Option Value × Mem} (g : Gd shY w x RX11 cX11_loaded 5 (some .int) 3)   : ∀ (n : Nat) (v1 : Int32) (v2 : Int32) (v3 : Int32) (v4 : Int32) (M : Mem) (q : Int32 × Int32 × Int32 × Mem), f_X11_loaded_l1 n v1 v2 v3 v4 M = some q → U shY w x r q.2.2.2 66 [(0, .ref (w.2.2.1 0)), (1, .int q.1), (2, .int q.2.1), (3, .int q.2.2.1)] [] → U shY w x r M 9 [(0, .ref (w.2.2.1 0)), (1, .int v1), (2, .int v2), (3, .int v3), (4, .int v4)] [] := by
  intro n
  induction n with
  | zero => intro v1 v2 v3 v4 M q h K; rw [f_X11_loaded_l1] at h; cases h
  | succ n ih =>
    intro v1 v2 v3 v4 M q h K
    rw [f_X11_loaded_l1] at h
    refine u_iload g 4 dX11_loaded_9 rfl ?_
    refine u_aload_n g 0 dX11_loaded_11 rfl ?_
    refine gfX11_3 g wf_X11_91 (v := (M.1 0 3)) rfl dX11_loaded_12 ?_
    refine u_icmp_ge g 66 dX11_loaded_15 (by decide) (fun b1 => ?_) (fun b1 => ?_)
    · have h := ob_pos b1 h
      obtain rfl := Option.some.inj h
      exact u_sub [0, 1, 2, 3] rfl K
    · have h := ob_neg b1 h
      refine u_aload_n g 0 dX11_loaded_18 rfl ?_
      refine u_iload g 4 dX11_loaded_19 rfl ?_
      obtain ⟨q2, hq3, h⟩ := ob_bind h
      refine u_callV (st := []) g wv_X11_212 [.int v4] (show 0 < shY.1 by decide) ceY_0 rfl rfl (t_X11_loadsOf w x.2.1 hq3) (by decide) (by decide) rfl (Nat.le_of_ble_eq_true rfl) rfl dX11_loaded_21 ?_
      show U shY w x r q2 24 [(0, .ref (w.2.2.1 0)), (1, .int v1), (2, .int v2), (3, .int v3), (4, .int v4)] []
      refine u_aload_n g 0 dX11_loaded_24 rfl ?_
      refine gfX11_33 g wf_X11_203 (v := (q2.1 0 33)) rfl dX11_loaded_25 ?_
      refine u_i2l g dX11_loaded_28 ?_
      refine u_iload_n g 3 dX11_loaded_29 rfl ?_
      refine u_i2l g dX11_loaded_30 ?_
      refine u_lmul g dX11_loaded_31 ?_
      refine u_iload_n g 2 dX11_loaded_32 rfl ?_
      refine u_i2l g dX11_loaded_33 ?_
      refine u_aload_n g 0 dX11_loaded_34 rfl ?_
      refine gfX11_34 g wf_X11_206 (v := (q2.1 0 34)) rfl dX11_loaded_35 ?_
      refine u_i2l g dX11_loaded_38 ?_
      refine u_lmul g dX11_loaded_39 ?_
      refine u_lcmp g dX11_loaded_40 ?_
      obtain ⟨q4, hq5, h⟩ := ob_bind h
      have K6 : U shY w x r q2 60 [(0, .ref (w.2.2.1 0)), (1, .int q4.1), (2, .int q4.2.1), (3, .int q4.2.2), (4, .int v4)] [] := by
        refine u_iinc g 4 [(4, .int (v4 + (1 : Int32))), (0, .ref (w.2.2.1 0)), (1, .int q4.1), (2, .int q4.2.1), (3, .int q4.2.2)] dX11_loaded_60 rfl rfl (by decide) rfl ?_
        refine u_goto g 9 dX11_loaded_63 (by decide) ?_
        exact u_sub [1, 2, 3, 4, 0] rfl (ih q4.1 q4.2.1 q4.2.2 (v4 + (1 : Int32)) q2 _ h K)
      have h := hq5
      refine u_if_gt g 47 dX11_loaded_41 (by decide) (fun b7 => ?_) (fun b7 => ?_)
      · have h := ob_pos b7 h
        refine u_iload g 4 dX11_loaded_47 rfl ?_
        refine u_istore_n g [(1, .int v4), (0, .ref (w.2.2.1 0)), (2, .int v2), (3, .int v3), (4, .int v4)] dX11_loaded_49 (by decide) rfl ?_
        refine u_aload_n g 1 dX11_loaded_50 rfl ?_
        refine gfX11_33 g wf_X11_203 (v := (q2.1 0 33)) rfl dX11_loaded_51 ?_
        refine u_istore_n g [(2, .int (q2.1 0 33)), (1, .int v4), (0, .ref (w.2.2.1 0)), (3, .int v3), (4, .int v4)] dX11_loaded_54 (by decide) rfl ?_
        refine u_aload_n g 2 dX11_loaded_55 rfl ?_
        refine gfX11_34 g wf_X11_206 (v := (q2.1 0 34)) rfl dX11_loaded_56 ?_
        refine u_istore_n g [(3, .int (q2.1 0 34)), (2, .int (q2.1 0 33)), (1, .int v4), (0, .ref (w.2.2.1 0)), (4, .int v4)] dX11_loaded_59 (by decide) rfl ?_
        obtain rfl := Option.some.inj h
        exact u_sub [3, 2, 1, 0, 4] rfl K6
      · have h := ob_neg b7 h
        refine u_goto g 60 dX11_loaded_44 (by decide) ?_
        obtain rfl := Option.some.inj h
        exact u_sub [0, 1, 2, 3, 4] rfl K6
set_option maxRecDepth 100000 in
set_option maxHeartbeats 4000000 in
theorem t_X11_loaded (w : Wp) (l : Launch)  {M : Mem} {q : Int32 × Mem} (h : f_X11_loaded M = some q) : Ct shY w l yX11_loaded cX11_loaded 5 (some .int) 3 [.ref (w.2.2.1 0)] M (some (.int q.1), q.2) := by
  rw [f_X11_loaded] at h
  refine ct_of shY_loc (by decide) (Nat.le_of_ble_eq_true rfl) rfl (fun x hx g => ?_)
  subst hx
  show U shY w x _ M 0 [(0, .ref (w.2.2.1 0))] []
  generalize hr : ((some (.int q.1), q.2) : Option Value × Mem) = r
  have g : Gd shY w x RX11 cX11_loaded 5 (some .int) 3 := g
  refine u_iconst g (v := (0 : Int32)) dX11_loaded_0 rfl ?_
  refine u_istore_n g [(1, .int (0 : Int32)), (0, .ref (w.2.2.1 0))] dX11_loaded_1 (by decide) rfl ?_
  refine u_iconst g (v := (0 : Int32)) dX11_loaded_2 rfl ?_
  refine u_istore_n g [(2, .int (0 : Int32)), (1, .int (0 : Int32)), (0, .ref (w.2.2.1 0))] dX11_loaded_3 (by decide) rfl ?_
  refine u_iconst g (v := (1 : Int32)) dX11_loaded_4 rfl ?_
  refine u_istore_n g [(3, .int (1 : Int32)), (2, .int (0 : Int32)), (1, .int (0 : Int32)), (0, .ref (w.2.2.1 0))] dX11_loaded_5 (by decide) rfl ?_
  refine u_iconst g (v := (0 : Int32)) dX11_loaded_6 rfl ?_
  refine u_istore g [(4, .int (0 : Int32)), (3, .int (1 : Int32)), (2, .int (0 : Int32)), (1, .int (0 : Int32)), (0, .ref (w.2.2.1 0))] dX11_loaded_7 (by decide) rfl ?_
  obtain ⟨q1, hq2, h⟩ := ob_bind h
  refine u_sub [4, 3, 2, 1, 0] rfl (s_X11_loaded_l1 g fuelN (0 : Int32) (0 : Int32) (1 : Int32) (0 : Int32) M _ hq2 ?_)
  show U shY w x r q1.2.2.2 66 [(0, .ref (w.2.2.1 0)), (1, .int q1.1), (2, .int q1.2.1), (3, .int q1.2.2.1)] []
  refine u_aload_n g 0 dX11_loaded_66 rfl ?_
  refine u_iload_n g 2 dX11_loaded_67 rfl ?_
  refine pfX11_33 g wf_X11_203 dX11_loaded_68 ?_
  refine u_aload_n g 0 dX11_loaded_71 rfl ?_
  refine u_iload_n g 3 dX11_loaded_72 rfl ?_
  refine pfX11_34 g wf_X11_206 dX11_loaded_73 ?_
  refine u_iload_n g 1 dX11_loaded_76 rfl ?_
  exact u_iret g dX11_loaded_77 (by rw [← hr]; obtain rfl := Option.some.inj h; rfl)
set_option maxRecDepth 100000 in
set_option maxHeartbeats 4000000 in
theorem t_X11_load (w : Wp) (l : Launch) {a1 : Int32} {M : Mem} {q : Int32 × Mem} (h : f_X11_load a1 M = some q) : Ct shY w l yX11_load cX11_load 3 (some .int) 4 [.ref (w.2.2.1 0), .int a1] M (some (.int q.1), q.2) := by
  rw [f_X11_load] at h
  refine ct_of shY_loc (by decide) (Nat.le_of_ble_eq_true rfl) rfl (fun x hx g => ?_)
  subst hx
  show U shY w x _ M 0 [(0, .ref (w.2.2.1 0)), (1, .int a1)] []
  generalize hr : ((some (.int q.1), q.2) : Option Value × Mem) = r
  have g : Gd shY w x RX11 cX11_load 3 (some .int) 4 := g
  refine u_aload_n g 0 dX11_load_0 rfl ?_
  refine u_iconst g (v := (0 : Int32)) dX11_load_1 rfl ?_
  refine pfX11_5 g wf_X11_84 dX11_load_2 ?_
  refine u_aload_n g 0 dX11_load_5 rfl ?_
  refine gfX11_13 g wf_X11_104 (v := (M.1 0 13)) rfl dX11_load_6 ?_
  refine u_if_eq g 22 dX11_load_9 (by decide) (fun b1 => ?_) (fun b1 => ?_)
  · have h := ob_pos b1 h
    refine u_iconst g (v := (-1 : Int32)) dX11_load_22 rfl ?_
    exact u_iret g dX11_load_23 (by rw [← hr]; obtain rfl := Option.some.inj h; rfl)
  · have h := ob_neg b1 h
    refine u_aload_n g 0 dX11_load_12 rfl ?_
    refine u_iload_n g 1 dX11_load_13 rfl ?_
    refine u_iconst g (v := (0 : Int32)) dX11_load_14 rfl ?_
    refine u_iconst g (v := (3 : Int32)) dX11_load_15 rfl ?_
    obtain ⟨q2, hq3, h⟩ := ob_bind h
    refine u_callV (st := []) g wv_X11_97 [.int a1, .int (0 : Int32), .int (3 : Int32)] (show 0 < shY.1 by decide) ceY_0 rfl rfl (t_X11_in w x.2.1 hq3) (by decide) (by decide) rfl (Nat.le_of_ble_eq_true rfl) rfl dX11_load_16 ?_
    show U shY w x r (sI M 0 5 (0 : Int32)) 19 [(0, .ref (w.2.2.1 0)), (1, .int a1)] [.int q2]
    refine u_if_ne g 24 dX11_load_19 (by decide) (fun b4 => ?_) (fun b4 => ?_)
    · have h := ob_neg b4 h
      refine u_aload_n g 0 dX11_load_24 rfl ?_
      obtain ⟨q5, hq6, h⟩ := ob_bind h
      refine u_callV (st := []) g wv_X11_215 [] (show 0 < shY.1 by decide) ceY_0 rfl rfl (t_X11_loaded w x.2.1 hq6) (by decide) (by decide) rfl (Nat.le_of_ble_eq_true rfl) rfl dX11_load_25 ?_
      show U shY w x r q5.2 28 [(0, .ref (w.2.2.1 0)), (1, .int a1)] [.int q5.1]
      refine u_istore_n g [(2, .int q5.1), (0, .ref (w.2.2.1 0)), (1, .int a1)] dX11_load_28 (by decide) rfl ?_
      refine u_iload_n g 2 dX11_load_29 rfl ?_
      refine u_if_ne g 42 dX11_load_30 (by decide) (fun b7 => ?_) (fun b7 => ?_)
      · have h := ob_neg b7 h
        refine u_iload_n g 2 dX11_load_42 rfl ?_
        refine u_iconst g (v := (1 : Int32)) dX11_load_43 rfl ?_
        refine u_icmp_ne g 54 dX11_load_44 (by decide) (fun b8 => ?_) (fun b8 => ?_)
        · have h := ob_neg b8 h
          refine u_iload_n g 2 dX11_load_54 rfl ?_
          refine u_iconst g (v := (2 : Int32)) dX11_load_55 rfl ?_
          refine u_icmp_ne g 66 dX11_load_56 (by decide) (fun b9 => ?_) (fun b9 => ?_)
          · have h := ob_neg b9 h
            refine u_iload_n g 0 dX11_load_66 rfl ?_
            exact u_iret g dX11_load_67 (by rw [← hr]; obtain rfl := Option.some.inj h; rfl)
          · have h := ob_pos b9 h
            refine u_aload_n g 1 dX11_load_59 rfl ?_
            refine gfX11_34 g wf_X11_206 (v := (q5.2.1 0 34)) rfl dX11_load_60 ?_
            refine u_goto g 67 dX11_load_63 (by decide) ?_
            exact u_iret g dX11_load_67 (by rw [← hr]; obtain rfl := Option.some.inj h; rfl)
        · have h := ob_pos b8 h
          refine u_aload_n g 1 dX11_load_47 rfl ?_
          refine gfX11_33 g wf_X11_203 (v := (q5.2.1 0 33)) rfl dX11_load_48 ?_
          refine u_goto g 67 dX11_load_51 (by decide) ?_
          exact u_iret g dX11_load_67 (by rw [← hr]; obtain rfl := Option.some.inj h; rfl)
      · have h := ob_pos b7 h
        refine u_aload_n g 1 dX11_load_33 rfl ?_
        refine gfX11_12 g wf_X11_31 dX11_load_34 ?_
        refine u_iconst g (v := (0 : Int32)) dX11_load_37 rfl ?_
        refine aY_ild g (c := 8) 121 (by decide) rfl (v := (q5.2.1 8 0)) (inB_in rfl) rfl dX11_load_38 ?_
        refine u_goto g 67 dX11_load_39 (by decide) ?_
        exact u_iret g dX11_load_67 (by rw [← hr]; obtain rfl := Option.some.inj h; rfl)
    · have h := ob_pos b4 h
      refine u_iconst g (v := (-1 : Int32)) dX11_load_22 rfl ?_
      exact u_iret g dX11_load_23 (by rw [← hr]; obtain rfl := Option.some.inj h; rfl)
set_option maxRecDepth 100000 in
set_option maxHeartbeats 4000000 in
theorem t_X11_loadOf (w : Wp) (l : Launch) {a1 : Int32} {a2 : Int32} {M : Mem} {q : Int32 × Mem} (h : f_X11_loadOf a1 a2 M = some q) : Ct shY w l yX11_loadOf cX11_loadOf 3 (some .int) 3 [.ref (w.2.2.1 0), .int a1, .int a2] M (some (.int q.1), q.2) := by
  rw [f_X11_loadOf] at h
  refine ct_of shY_loc (by decide) (Nat.le_of_ble_eq_true rfl) rfl (fun x hx g => ?_)
  subst hx
  show U shY w x _ M 0 [(0, .ref (w.2.2.1 0)), (1, .int a1), (2, .int a2)] []
  generalize hr : ((some (.int q.1), q.2) : Option Value × Mem) = r
  have g : Gd shY w x RX11 cX11_loadOf 3 (some .int) 3 := g
  refine u_aload_n g 0 dX11_loadOf_0 rfl ?_
  refine u_iconst g (v := (0 : Int32)) dX11_loadOf_1 rfl ?_
  refine pfX11_5 g wf_X11_84 dX11_loadOf_2 ?_
  refine u_aload_n g 0 dX11_loadOf_5 rfl ?_
  refine gfX11_13 g wf_X11_104 (v := (M.1 0 13)) rfl dX11_loadOf_6 ?_
  refine u_if_eq g 27 dX11_loadOf_9 (by decide) (fun b1 => ?_) (fun b1 => ?_)
  · have h := ob_pos b1 h
    refine u_iconst g (v := (-1 : Int32)) dX11_loadOf_27 rfl ?_
    exact u_iret g dX11_loadOf_28 (by rw [← hr]; obtain rfl := Option.some.inj h; rfl)
  · have h := ob_neg b1 h
    refine u_aload_n g 0 dX11_loadOf_12 rfl ?_
    refine u_iload_n g 1 dX11_loadOf_13 rfl ?_
    refine u_iconst g (v := (0 : Int32)) dX11_loadOf_14 rfl ?_
    refine u_aload_n g 0 dX11_loadOf_15 rfl ?_
    refine gfX11_3 g wf_X11_91 (v := (M.1 0 3)) rfl dX11_loadOf_16 ?_
    refine u_iconst g (v := (1 : Int32)) dX11_loadOf_19 rfl ?_
    refine u_isub g dX11_loadOf_20 ?_
    obtain ⟨q2, hq3, h⟩ := ob_bind h
    refine u_callV (st := []) g wv_X11_97 [.int a1, .int (0 : Int32), .int ((M.1 0 3) - (1 : Int32))] (show 0 < shY.1 by decide) ceY_0 rfl rfl (t_X11_in w x.2.1 hq3) (by decide) (by decide) rfl (Nat.le_of_ble_eq_true rfl) rfl dX11_loadOf_21 ?_
    show U shY w x r (sI M 0 5 (0 : Int32)) 24 [(0, .ref (w.2.2.1 0)), (1, .int a1), (2, .int a2)] [.int q2]
    refine u_if_ne g 29 dX11_loadOf_24 (by decide) (fun b4 => ?_) (fun b4 => ?_)
    · have h := ob_neg b4 h
      refine u_aload_n g 0 dX11_loadOf_29 rfl ?_
      refine u_iload_n g 1 dX11_loadOf_30 rfl ?_
      obtain ⟨q5, hq6, h⟩ := ob_bind h
      refine u_callV (st := []) g wv_X11_212 [.int a1] (show 0 < shY.1 by decide) ceY_0 rfl rfl (t_X11_loadsOf w x.2.1 hq6) (by decide) (by decide) rfl (Nat.le_of_ble_eq_true rfl) rfl dX11_loadOf_31 ?_
      show U shY w x r q5 34 [(0, .ref (w.2.2.1 0)), (1, .int a1), (2, .int a2)] []
      refine u_iload_n g 2 dX11_loadOf_34 rfl ?_
      refine u_if_eq g 45 dX11_loadOf_35 (by decide) (fun b7 => ?_) (fun b7 => ?_)
      · have h := ob_pos b7 h
        refine u_aload_n g 0 dX11_loadOf_45 rfl ?_
        refine gfX11_33 g wf_X11_203 (v := (q5.1 0 33)) rfl dX11_loadOf_46 ?_
        exact u_iret g dX11_loadOf_49 (by rw [← hr]; obtain rfl := Option.some.inj h; rfl)
      · have h := ob_neg b7 h
        refine u_aload_n g 0 dX11_loadOf_38 rfl ?_
        refine gfX11_34 g wf_X11_206 (v := (q5.1 0 34)) rfl dX11_loadOf_39 ?_
        refine u_goto g 49 dX11_loadOf_42 (by decide) ?_
        exact u_iret g dX11_loadOf_49 (by rw [← hr]; obtain rfl := Option.some.inj h; rfl)
    · have h := ob_pos b4 h
      refine u_iconst g (v := (-1 : Int32)) dX11_loadOf_27 rfl ?_
      exact u_iret g dX11_loadOf_28 (by rw [← hr]; obtain rfl := Option.some.inj h; rfl)
set_option maxRecDepth 100000 in
set_option maxHeartbeats 4000000 in
theorem t_X11_weight (w : Wp) (l : Launch) {a1 : Int32} {a2 : Int32} {M : Mem} {q : Int32 × Mem} (h : f_X11_weight a1 a2 M = some q) : Ct shY w l yX11_weight cX11_weight 3 (some .boolean) 1 [.ref (w.2.2.1 0), .int a1, .int a2] M (some (.int q.1), q.2) := by
  rw [f_X11_weight] at h
  refine ct_of shY_loc (by decide) (Nat.le_of_ble_eq_true rfl) rfl (fun x hx g => ?_)
  subst hx
  show U shY w x _ M 0 [(0, .ref (w.2.2.1 0)), (1, .int a1), (2, .int a2)] []
  generalize hr : ((some (.int q.1), q.2) : Option Value × Mem) = r
  have g : Gd shY w x RX11 cX11_weight 3 (some .boolean) 1 := g
  refine u_aload_n g 0 dX11_weight_0 rfl ?_
  refine u_iconst g (v := (0 : Int32)) dX11_weight_1 rfl ?_
  refine pfX11_5 g wf_X11_84 dX11_weight_2 ?_
  refine u_aload_n g 0 dX11_weight_5 rfl ?_
  refine u_iload_n g 1 dX11_weight_6 rfl ?_
  refine u_iconst g (v := (0 : Int32)) dX11_weight_7 rfl ?_
  refine u_aload_n g 0 dX11_weight_8 rfl ?_
  refine gfX11_3 g wf_X11_91 (v := (M.1 0 3)) rfl dX11_weight_9 ?_
  refine u_iconst g (v := (1 : Int32)) dX11_weight_12 rfl ?_
  refine u_isub g dX11_weight_13 ?_
  obtain ⟨q1, hq2, h⟩ := ob_bind h
  refine u_callV (st := []) g wv_X11_97 [.int a1, .int (0 : Int32), .int ((M.1 0 3) - (1 : Int32))] (show 0 < shY.1 by decide) ceY_0 rfl rfl (t_X11_in w x.2.1 hq2) (by decide) (by decide) rfl (Nat.le_of_ble_eq_true rfl) rfl dX11_weight_14 ?_
  show U shY w x r (sI M 0 5 (0 : Int32)) 17 [(0, .ref (w.2.2.1 0)), (1, .int a1), (2, .int a2)] [.int q1]
  refine u_if_ne g 26 dX11_weight_17 (by decide) (fun b3 => ?_) (fun b3 => ?_)
  · have h := ob_neg b3 h
    refine u_aload_n g 0 dX11_weight_26 rfl ?_
    refine u_iload_n g 2 dX11_weight_27 rfl ?_
    refine u_iconst g (v := (0 : Int32)) dX11_weight_28 rfl ?_
    refine u_sipush g (v := (1000 : Int32)) dX11_weight_29 rfl ?_
    obtain ⟨q4, hq5, h⟩ := ob_bind h
    refine u_callV (st := []) g wv_X11_97 [.int a2, .int (0 : Int32), .int (1000 : Int32)] (show 0 < shY.1 by decide) ceY_0 rfl rfl (t_X11_in w x.2.1 hq5) (by decide) (by decide) rfl (Nat.le_of_ble_eq_true rfl) rfl dX11_weight_32 ?_
    show U shY w x r (sI M 0 5 (0 : Int32)) 35 [(0, .ref (w.2.2.1 0)), (1, .int a1), (2, .int a2)] [.int q4]
    refine u_if_ne g 44 dX11_weight_35 (by decide) (fun b6 => ?_) (fun b6 => ?_)
    · have h := ob_neg b6 h
      refine u_aload_n g 0 dX11_weight_44 rfl ?_
      refine u_iconst g (v := (3 : Int32)) dX11_weight_45 rfl ?_
      refine u_iload_n g 1 dX11_weight_46 rfl ?_
      refine u_aload_n g 0 dX11_weight_47 rfl ?_
      refine gfX11_2 g wf_X11_16 dX11_weight_48 ?_
      refine u_iload_n g 1 dX11_weight_51 rfl ?_
      obtain ⟨e7, h⟩ := ob_if h
      refine aY_ild g (c := 3) 16 (by decide) rfl (v := (M.1 3 a1.toNatClampNeg)) (inB_in e7) rfl dX11_weight_52 ?_
      obtain ⟨q8, hq9, h⟩ := ob_bind h
      refine u_callV (st := []) g wv_X11_108 [.int (3 : Int32), .int a1, .int (M.1 3 a1.toNatClampNeg)] (show 0 < shY.1 by decide) ceY_0 rfl rfl (t_X11_act w x.2.1 hq9) (by decide) (by decide) rfl (Nat.le_of_ble_eq_true rfl) rfl dX11_weight_53 ?_
      show U shY w x r q8 56 [(0, .ref (w.2.2.1 0)), (1, .int a1), (2, .int a2)] []
      refine u_aload_n g 0 dX11_weight_56 rfl ?_
      refine gfX11_2 g wf_X11_16 dX11_weight_57 ?_
      refine u_iload_n g 1 dX11_weight_60 rfl ?_
      refine u_iload_n g 2 dX11_weight_61 rfl ?_
      obtain ⟨e10, h⟩ := ob_if h
      refine aY_ist g (c := 3) 16 (by decide) rfl (inB_in e10) (j := a1.toNatClampNeg) rfl dX11_weight_62 ?_
      refine u_iconst g (v := (1 : Int32)) dX11_weight_63 rfl ?_
      exact u_zret g (Or.inr rfl) dX11_weight_64 (by rw [← hr]; obtain rfl := Option.some.inj h; rfl)
    · have h := ob_pos b6 h
      refine u_aload_n g 0 dX11_weight_38 rfl ?_
      refine u_iconst g (v := (2 : Int32)) dX11_weight_39 rfl ?_
      obtain ⟨q11, hq12, h⟩ := ob_bind h
      refine u_callV (st := []) g wv_X11_119 [.int (2 : Int32)] (show 0 < shY.1 by decide) ceY_0 rfl rfl (t_X11_not w x.2.1 hq12) (by decide) (by decide) rfl (Nat.le_of_ble_eq_true rfl) rfl dX11_weight_40 ?_
      show U shY w x r q11.2 43 [(0, .ref (w.2.2.1 0)), (1, .int a1), (2, .int a2)] [.int q11.1]
      obtain ⟨hz, h⟩ := ob_if h
      exact u_zret g hz dX11_weight_43 (by rw [← hr]; obtain rfl := Option.some.inj h; rfl)
  · have h := ob_pos b3 h
    refine u_aload_n g 0 dX11_weight_20 rfl ?_
    refine u_iconst g (v := (1 : Int32)) dX11_weight_21 rfl ?_
    obtain ⟨q13, hq14, h⟩ := ob_bind h
    refine u_callV (st := []) g wv_X11_119 [.int (1 : Int32)] (show 0 < shY.1 by decide) ceY_0 rfl rfl (t_X11_not w x.2.1 hq14) (by decide) (by decide) rfl (Nat.le_of_ble_eq_true rfl) rfl dX11_weight_22 ?_
    show U shY w x r q13.2 25 [(0, .ref (w.2.2.1 0)), (1, .int a1), (2, .int a2)] [.int q13.1]
    obtain ⟨hz, h⟩ := ob_if h
    exact u_zret g hz dX11_weight_25 (by rw [← hr]; obtain rfl := Option.some.inj h; rfl)
set_option maxRecDepth 100000 in
set_option maxHeartbeats 4000000 in
theorem s_X11_boundOf_l1 {w : Wp} {x : Cx} {r : Option Value × Mem} (g : Gd shY w x RX11 cX11_boundOf 7 none 2) (a1 : Int32)  (M : Mem) : ∀ (n : Nat) (v2 : Int32) (v3 : Int32) (q : Int32), f_X11_boundOf_l1 a1 M n v2 v3 = some q → U shY w x r M 34 [(0, .ref (w.2.2.1 0)), (1, .int a1), (2, .int q)] [] → U shY w x r M 4 [(0, .ref (w.2.2.1 0)), (1, .int a1), (2, .int v2), (3, .int v3)] [] := by
  intro n
  induction n with
  | zero => intro v2 v3 q h K; rw [f_X11_boundOf_l1] at h; cases h
  | succ n ih =>
    intro v2 v3 q h K
    rw [f_X11_boundOf_l1] at h
    refine u_iload_n g 3 dX11_boundOf_4 rfl ?_
    refine u_aload_n g 0 dX11_boundOf_5 rfl ?_
    refine gfX11_3 g wf_X11_91 (v := (M.1 0 3)) rfl dX11_boundOf_6 ?_
    refine u_icmp_ge g 34 dX11_boundOf_9 (by decide) (fun b1 => ?_) (fun b1 => ?_)
    · have h := ob_pos b1 h
      obtain rfl := Option.some.inj h
      exact u_sub [0, 1, 2] rfl K
    · have h := ob_neg b1 h
      refine u_iload_n g 2 dX11_boundOf_12 rfl ?_
      refine u_aload_n g 0 dX11_boundOf_13 rfl ?_
      refine gfX11_2 g wf_X11_16 dX11_boundOf_14 ?_
      refine u_iload_n g 3 dX11_boundOf_17 rfl ?_
      obtain ⟨e2, h⟩ := ob_if h
      refine aY_ild g (c := 3) 16 (by decide) rfl (v := (M.1 3 v3.toNatClampNeg)) (inB_in e2) rfl dX11_boundOf_18 ?_
      refine u_aload_n g 0 dX11_boundOf_19 rfl ?_
      refine gfX11_0 g wf_X11_7 dX11_boundOf_20 ?_
      refine u_iload_n g 3 dX11_boundOf_23 rfl ?_
      obtain ⟨e3, h⟩ := ob_if h
      refine aY_ild g (c := 1) 16 (by decide) rfl (v := (M.1 1 v3.toNatClampNeg)) (inB_in e3) rfl dX11_boundOf_24 ?_
      refine u_imul g dX11_boundOf_25 ?_
      refine u_iadd g dX11_boundOf_26 ?_
      refine u_istore_n g [(2, .int (v2 + ((M.1 3 v3.toNatClampNeg) * (M.1 1 v3.toNatClampNeg)))), (0, .ref (w.2.2.1 0)), (1, .int a1), (3, .int v3)] dX11_boundOf_27 (by decide) rfl ?_
      refine u_iinc g 3 [(3, .int (v3 + (1 : Int32))), (2, .int (v2 + ((M.1 3 v3.toNatClampNeg) * (M.1 1 v3.toNatClampNeg)))), (0, .ref (w.2.2.1 0)), (1, .int a1)] dX11_boundOf_28 rfl rfl (by decide) rfl ?_
      refine u_goto g 4 dX11_boundOf_31 (by decide) ?_
      exact u_sub [2, 3, 1, 0] rfl (ih (v2 + ((M.1 3 v3.toNatClampNeg) * (M.1 1 v3.toNatClampNeg))) (v3 + (1 : Int32)) _ h K)
set_option maxRecDepth 100000 in
set_option maxHeartbeats 4000000 in
theorem s_X11_boundOf_l3 {w : Wp} {x : Cx} {r : Option Value × Mem} (g : Gd shY w x RX11 cX11_boundOf 7 none 2) (a1 : Int32) (a2 : Int32) (a3 : Int32) (a4 : Int32)  (M : Mem) : ∀ (n : Nat) (v5 : Int32) (v6 : Int32) (q : Int32), f_X11_boundOf_l3 a1 a2 a3 a4 M n v5 v6 = some q → U shY w x r M 105 [(0, .ref (w.2.2.1 0)), (1, .int a1), (2, .int a2), (3, .int a3), (4, .int a4), (5, .int q)] [] → U shY w x r M 58 [(0, .ref (w.2.2.1 0)), (1, .int a1), (2, .int a2), (3, .int a3), (4, .int a4), (5, .int v5), (6, .int v6)] [] := by
  intro n
  induction n with
  | zero => intro v5 v6 q h K; rw [f_X11_boundOf_l3] at h; cases h
  | succ n ih =>
    intro v5 v6 q h K
    rw [f_X11_boundOf_l3] at h
    refine u_iload g 6 dX11_boundOf_58 rfl ?_
    refine u_aload_n g 0 dX11_boundOf_60 rfl ?_
    refine gfX11_3 g wf_X11_91 (v := (M.1 0 3)) rfl dX11_boundOf_61 ?_
    refine u_icmp_ge g 105 dX11_boundOf_64 (by decide) (fun b5 => ?_) (fun b5 => ?_)
    · have h := ob_pos b5 h
      obtain rfl := Option.some.inj h
      exact u_sub [0, 1, 2, 3, 4, 5] rfl K
    · have h := ob_neg b5 h
      refine u_iload g 5 dX11_boundOf_67 rfl ?_
      refine u_aload_n g 0 dX11_boundOf_69 rfl ?_
      refine u_iload_n g 1 dX11_boundOf_70 rfl ?_
      refine u_iload g 4 dX11_boundOf_71 rfl ?_
      obtain ⟨q6, hq7, h⟩ := ob_bind h
      refine u_callV (st := [.int v5]) g wv_X11_136 [.int a1, .int a4] (show 0 < shY.1 by decide) ceY_0 rfl rfl (t_X11_quorumOf w x.2.1 hq7) (by decide) (by decide) rfl (Nat.le_of_ble_eq_true rfl) rfl dX11_boundOf_73 ?_
      show U shY w x r M 76 [(0, .ref (w.2.2.1 0)), (1, .int a1), (2, .int a2), (3, .int a3), (4, .int a4), (5, .int v5), (6, .int v6)] [.int q6, .int v5]
      refine u_iload g 6 dX11_boundOf_76 rfl ?_
      refine u_ishr g dX11_boundOf_78 ?_
      refine u_iconst g (v := (1 : Int32)) dX11_boundOf_79 rfl ?_
      refine u_iand g dX11_boundOf_80 ?_
      refine u_iconst g (v := (1 : Int32)) dX11_boundOf_81 rfl ?_
      obtain ⟨q8, hq9, h⟩ := ob_bind h
      have K10 : U shY w x r M 96 [(0, .ref (w.2.2.1 0)), (1, .int a1), (2, .int a2), (3, .int a3), (4, .int a4), (6, .int v6)] [.int q8, .int v5] := by
        refine u_iadd g dX11_boundOf_96 ?_
        refine u_istore g [(5, .int (v5 + q8)), (0, .ref (w.2.2.1 0)), (1, .int a1), (2, .int a2), (3, .int a3), (4, .int a4), (6, .int v6)] dX11_boundOf_97 (by decide) rfl ?_
        refine u_iinc g 6 [(6, .int (v6 + (1 : Int32))), (5, .int (v5 + q8)), (0, .ref (w.2.2.1 0)), (1, .int a1), (2, .int a2), (3, .int a3), (4, .int a4)] dX11_boundOf_99 rfl rfl (by decide) rfl ?_
        refine u_goto g 58 dX11_boundOf_102 (by decide) ?_
        exact u_sub [2, 3, 4, 5, 6, 1, 0] rfl (ih (v5 + q8) (v6 + (1 : Int32)) _ h K)
      have h := hq9
      refine u_icmp_ne g 95 dX11_boundOf_82 (by decide) (fun b11 => ?_) (fun b11 => ?_)
      · have h := ob_neg b11 h
        refine u_iconst g (v := (0 : Int32)) dX11_boundOf_95 rfl ?_
        obtain rfl := Option.some.inj h
        exact u_sub [0, 1, 2, 3, 4, 6] rfl K10
      · have h := ob_pos b11 h
        refine u_aload_n g 0 dX11_boundOf_85 rfl ?_
        refine gfX11_2 g wf_X11_16 dX11_boundOf_86 ?_
        refine u_iload g 6 dX11_boundOf_89 rfl ?_
        obtain ⟨e12, h⟩ := ob_if h
        refine aY_ild g (c := 3) 16 (by decide) rfl (v := (M.1 3 v6.toNatClampNeg)) (inB_in e12) rfl dX11_boundOf_91 ?_
        refine u_goto g 96 dX11_boundOf_92 (by decide) ?_
        obtain rfl := Option.some.inj h
        exact u_sub [0, 1, 2, 3, 4, 6] rfl K10
set_option maxRecDepth 100000 in
set_option maxHeartbeats 4000000 in
theorem s_X11_boundOf_l2 {w : Wp} {x : Cx} {r : Option Value × Mem} (g : Gd shY w x RX11 cX11_boundOf 7 none 2) (a1 : Int32) (a2 : Int32)  (M : Mem) : ∀ (n : Nat) (v3 : Int32) (v4 : Int32) (q : Int32), f_X11_boundOf_l2 a1 a2 M n v3 v4 = some q → U shY w x r M 124 [(0, .ref (w.2.2.1 0)), (2, .int a2), (3, .int q)] [] → U shY w x r M 41 [(0, .ref (w.2.2.1 0)), (1, .int a1), (2, .int a2), (3, .int v3), (4, .int v4)] [] := by
  intro n
  induction n with
  | zero => intro v3 v4 q h K; rw [f_X11_boundOf_l2] at h; cases h
  | succ n ih =>
    intro v3 v4 q h K
    rw [f_X11_boundOf_l2] at h
    refine u_iload g 4 dX11_boundOf_41 rfl ?_
    refine u_aload_n g 0 dX11_boundOf_43 rfl ?_
    refine gfX11_9 g wf_X11_25 dX11_boundOf_44 ?_
    refine u_iload_n g 1 dX11_boundOf_47 rfl ?_
    obtain ⟨e3, h⟩ := ob_if h
    refine aY_ild g (c := 6) 24 (by decide) rfl (v := (M.1 6 a1.toNatClampNeg)) (inB_in e3) rfl dX11_boundOf_48 ?_
    refine u_icmp_ge g 124 dX11_boundOf_49 (by decide) (fun b4 => ?_) (fun b4 => ?_)
    · have h := ob_pos b4 h
      obtain rfl := Option.some.inj h
      exact u_sub [0, 2, 3] rfl K
    · have h := ob_neg b4 h
      refine u_iconst g (v := (0 : Int32)) dX11_boundOf_52 rfl ?_
      refine u_istore g [(5, .int (0 : Int32)), (0, .ref (w.2.2.1 0)), (1, .int a1), (2, .int a2), (3, .int v3), (4, .int v4)] dX11_boundOf_53 (by decide) rfl ?_
      refine u_iconst g (v := (0 : Int32)) dX11_boundOf_55 rfl ?_
      refine u_istore g [(6, .int (0 : Int32)), (5, .int (0 : Int32)), (0, .ref (w.2.2.1 0)), (1, .int a1), (2, .int a2), (3, .int v3), (4, .int v4)] dX11_boundOf_56 (by decide) rfl ?_
      obtain ⟨q5, hq6, h⟩ := ob_bind h
      refine u_sub [2, 3, 4, 5, 6, 1, 0] rfl (s_X11_boundOf_l3 g a1 a2 v3 v4 M fuelN (0 : Int32) (0 : Int32) _ hq6 ?_)
      show U shY w x r M 105 [(0, .ref (w.2.2.1 0)), (1, .int a1), (2, .int a2), (3, .int v3), (4, .int v4), (5, .int q5)] []
      refine u_iload g 5 dX11_boundOf_105 rfl ?_
      refine u_iload_n g 3 dX11_boundOf_107 rfl ?_
      obtain ⟨q7, hq8, h⟩ := ob_bind h
      have K9 : U shY w x r M 117 [(0, .ref (w.2.2.1 0)), (1, .int a1), (2, .int a2), (4, .int v4)] [.int q7] := by
        refine u_istore_n g [(3, .int q7), (0, .ref (w.2.2.1 0)), (1, .int a1), (2, .int a2), (4, .int v4)] dX11_boundOf_117 (by decide) rfl ?_
        refine u_iinc g 4 [(4, .int (v4 + (1 : Int32))), (3, .int q7), (0, .ref (w.2.2.1 0)), (1, .int a1), (2, .int a2)] dX11_boundOf_118 rfl rfl (by decide) rfl ?_
        refine u_goto g 41 dX11_boundOf_121 (by decide) ?_
        exact u_sub [2, 3, 4, 1, 0] rfl (ih q7 (v4 + (1 : Int32)) _ h K)
      have h := hq8
      refine u_icmp_ge g 116 dX11_boundOf_108 (by decide) (fun b10 => ?_) (fun b10 => ?_)
      · have h := ob_pos b10 h
        refine u_iload_n g 3 dX11_boundOf_116 rfl ?_
        obtain rfl := Option.some.inj h
        exact u_sub [0, 1, 2, 4] rfl K9
      · have h := ob_neg b10 h
        refine u_iload g 5 dX11_boundOf_111 rfl ?_
        refine u_goto g 117 dX11_boundOf_113 (by decide) ?_
        obtain rfl := Option.some.inj h
        exact u_sub [0, 1, 2, 4] rfl K9
set_option maxRecDepth 100000 in
set_option maxHeartbeats 4000000 in
theorem t_X11_boundOf (w : Wp) (l : Launch) {a1 : Int32} {M : Mem} {q : Mem} (h : f_X11_boundOf a1 M = some q) : Ct shY w l yX11_boundOf cX11_boundOf 7 none 2 [.ref (w.2.2.1 0), .int a1] M (none, q) := by
  rw [f_X11_boundOf] at h
  refine ct_of shY_loc (by decide) (Nat.le_of_ble_eq_true rfl) rfl (fun x hx g => ?_)
  subst hx
  show U shY w x _ M 0 [(0, .ref (w.2.2.1 0)), (1, .int a1)] []
  generalize hr : ((none, q) : Option Value × Mem) = r
  have g : Gd shY w x RX11 cX11_boundOf 7 none 2 := g
  refine u_iconst g (v := (0 : Int32)) dX11_boundOf_0 rfl ?_
  refine u_istore_n g [(2, .int (0 : Int32)), (0, .ref (w.2.2.1 0)), (1, .int a1)] dX11_boundOf_1 (by decide) rfl ?_
  refine u_iconst g (v := (0 : Int32)) dX11_boundOf_2 rfl ?_
  refine u_istore_n g [(3, .int (0 : Int32)), (2, .int (0 : Int32)), (0, .ref (w.2.2.1 0)), (1, .int a1)] dX11_boundOf_3 (by decide) rfl ?_
  obtain ⟨q1, hq2, h⟩ := ob_bind h
  refine u_sub [2, 3, 1, 0] rfl (s_X11_boundOf_l1 g a1 M fuelN (0 : Int32) (0 : Int32) _ hq2 ?_)
  show U shY w x r M 34 [(0, .ref (w.2.2.1 0)), (1, .int a1), (2, .int q1)] []
  refine u_sipush g (v := (16000 : Int32)) dX11_boundOf_34 rfl ?_
  refine u_istore_n g [(3, .int (16000 : Int32)), (0, .ref (w.2.2.1 0)), (1, .int a1), (2, .int q1)] dX11_boundOf_37 (by decide) rfl ?_
  refine u_iconst g (v := (0 : Int32)) dX11_boundOf_38 rfl ?_
  refine u_istore g [(4, .int (0 : Int32)), (3, .int (16000 : Int32)), (0, .ref (w.2.2.1 0)), (1, .int a1), (2, .int q1)] dX11_boundOf_39 (by decide) rfl ?_
  obtain ⟨q3, hq4, h⟩ := ob_bind h
  refine u_sub [2, 3, 4, 1, 0] rfl (s_X11_boundOf_l2 g a1 q1 M fuelN (16000 : Int32) (0 : Int32) _ hq4 ?_)
  show U shY w x r M 124 [(0, .ref (w.2.2.1 0)), (2, .int q1), (3, .int q3)] []
  refine u_iload_n g 1 dX11_boundOf_124 rfl ?_
  refine u_if_ne g 137 dX11_boundOf_125 (by decide) (fun b5 => ?_) (fun b5 => ?_)
  · have h := ob_neg b5 h
    refine u_aload_n g 0 dX11_boundOf_137 rfl ?_
    refine u_iload_n g 2 dX11_boundOf_138 rfl ?_
    refine u_iload_n g 1 dX11_boundOf_139 rfl ?_
    obtain ⟨q6, hq7, h⟩ := ob_bind h
    refine u_callV (st := []) g wv_X11_209 [.int q3, .int q1] (show 0 < shY.1 by decide) ceY_0 rfl rfl (t_X11_fraction w x.2.1 hq7) (by decide) (by decide) rfl (Nat.le_of_ble_eq_true rfl) rfl dX11_boundOf_140 ?_
    show U shY w x r q6 143 [(0, .ref (w.2.2.1 0)), (2, .int q1), (3, .int q3)] []
    exact u_vret g dX11_boundOf_143 (by rw [← hr]; obtain rfl := Option.some.inj h; rfl)
  · have h := ob_pos b5 h
    refine u_aload_n g 0 dX11_boundOf_128 rfl ?_
    refine u_iconst g (v := (0 : Int32)) dX11_boundOf_129 rfl ?_
    refine u_iconst g (v := (1 : Int32)) dX11_boundOf_130 rfl ?_
    obtain ⟨q8, hq9, h⟩ := ob_bind h
    refine u_callV (st := []) g wv_X11_209 [.int (0 : Int32), .int (1 : Int32)] (show 0 < shY.1 by decide) ceY_0 rfl rfl (t_X11_fraction w x.2.1 hq9) (by decide) (by decide) rfl (Nat.le_of_ble_eq_true rfl) rfl dX11_boundOf_131 ?_
    show U shY w x r q8 134 [(0, .ref (w.2.2.1 0)), (2, .int q1), (3, .int q3)] []
    refine u_goto g 143 dX11_boundOf_134 (by decide) ?_
    exact u_vret g dX11_boundOf_143 (by rw [← hr]; obtain rfl := Option.some.inj h; rfl)
set_option maxRecDepth 100000 in
set_option maxHeartbeats 4000000 in
theorem t_X11_bound (w : Wp) (l : Launch) {a1 : Int32} {a2 : Int32} {M : Mem} {q : Int32 × Mem} (h : f_X11_bound a1 a2 M = some q) : Ct shY w l yX11_bound cX11_bound 3 (some .int) 3 [.ref (w.2.2.1 0), .int a1, .int a2] M (some (.int q.1), q.2) := by
  rw [f_X11_bound] at h
  refine ct_of shY_loc (by decide) (Nat.le_of_ble_eq_true rfl) rfl (fun x hx g => ?_)
  subst hx
  show U shY w x _ M 0 [(0, .ref (w.2.2.1 0)), (1, .int a1), (2, .int a2)] []
  generalize hr : ((some (.int q.1), q.2) : Option Value × Mem) = r
  have g : Gd shY w x RX11 cX11_bound 3 (some .int) 3 := g
  refine u_aload_n g 0 dX11_bound_0 rfl ?_
  refine u_iconst g (v := (0 : Int32)) dX11_bound_1 rfl ?_
  refine pfX11_5 g wf_X11_84 dX11_bound_2 ?_
  refine u_aload_n g 0 dX11_bound_5 rfl ?_
  refine u_iload_n g 1 dX11_bound_6 rfl ?_
  obtain ⟨q1, hq2, h⟩ := ob_bind h
  refine u_callV (st := []) g wv_X11_163 [.int a1] (show 0 < shY.1 by decide) ceY_0 rfl rfl (t_X11_isFamily w x.2.1 hq2) (by decide) (by decide) rfl (Nat.le_of_ble_eq_true rfl) rfl dX11_bound_7 ?_
  show U shY w x r (sI M 0 5 (0 : Int32)) 10 [(0, .ref (w.2.2.1 0)), (1, .int a1), (2, .int a2)] [.int q1]
  refine u_if_ne g 19 dX11_bound_10 (by decide) (fun b3 => ?_) (fun b3 => ?_)
  · have h := ob_neg b3 h
    refine u_aload_n g 0 dX11_bound_19 rfl ?_
    refine u_iconst g (v := (0 : Int32)) dX11_bound_20 rfl ?_
    refine pfX11_4 g wf_X11_88 dX11_bound_21 ?_
    refine u_aload_n g 0 dX11_bound_24 rfl ?_
    refine u_iload_n g 1 dX11_bound_25 rfl ?_
    obtain ⟨q4, hq5, h⟩ := ob_bind h
    refine u_callV (st := []) g wv_X11_218 [.int a1] (show 0 < shY.1 by decide) ceY_0 rfl rfl (t_X11_boundOf w x.2.1 hq5) (by decide) (by decide) rfl (Nat.le_of_ble_eq_true rfl) rfl dX11_bound_26 ?_
    show U shY w x r q4 29 [(0, .ref (w.2.2.1 0)), (1, .int a1), (2, .int a2)] []
    refine u_iload_n g 2 dX11_bound_29 rfl ?_
    refine u_if_eq g 40 dX11_bound_30 (by decide) (fun b6 => ?_) (fun b6 => ?_)
    · have h := ob_pos b6 h
      refine u_aload_n g 0 dX11_bound_40 rfl ?_
      refine gfX11_33 g wf_X11_203 (v := (q4.1 0 33)) rfl dX11_bound_41 ?_
      exact u_iret g dX11_bound_44 (by rw [← hr]; obtain rfl := Option.some.inj h; rfl)
    · have h := ob_neg b6 h
      refine u_aload_n g 0 dX11_bound_33 rfl ?_
      refine gfX11_34 g wf_X11_206 (v := (q4.1 0 34)) rfl dX11_bound_34 ?_
      refine u_goto g 44 dX11_bound_37 (by decide) ?_
      exact u_iret g dX11_bound_44 (by rw [← hr]; obtain rfl := Option.some.inj h; rfl)
  · have h := ob_pos b3 h
    refine u_aload_n g 0 dX11_bound_13 rfl ?_
    refine u_iconst g (v := (1 : Int32)) dX11_bound_14 rfl ?_
    obtain ⟨q7, hq8, h⟩ := ob_bind h
    refine u_callV (st := []) g wv_X11_115 [.int (1 : Int32)] (show 0 < shY.1 by decide) ceY_0 rfl rfl (t_X11_no w x.2.1 hq8) (by decide) (by decide) rfl (Nat.le_of_ble_eq_true rfl) rfl dX11_bound_15 ?_
    show U shY w x r q7.2 18 [(0, .ref (w.2.2.1 0)), (1, .int a1), (2, .int a2)] [.int q7.1]
    exact u_iret g dX11_bound_18 (by rw [← hr]; obtain rfl := Option.some.inj h; rfl)
set_option maxRecDepth 100000 in
set_option maxHeartbeats 4000000 in
theorem t_X11_proved (w : Wp) (l : Launch)  {M : Mem} {q : Int32 × Mem} (h : f_X11_proved M = some q) : Ct shY w l yX11_proved cX11_proved 4 (some .int) 4 [.ref (w.2.2.1 0)] M (some (.int q.1), q.2) := by
  rw [f_X11_proved] at h
  refine ct_of shY_loc (by decide) (Nat.le_of_ble_eq_true rfl) rfl (fun x hx g => ?_)
  subst hx
  show U shY w x _ M 0 [(0, .ref (w.2.2.1 0))] []
  generalize hr : ((some (.int q.1), q.2) : Option Value × Mem) = r
  have g : Gd shY w x RX11 cX11_proved 4 (some .int) 4 := g
  refine u_aload_n g 0 dX11_proved_0 rfl ?_
  refine u_iconst g (v := (0 : Int32)) dX11_proved_1 rfl ?_
  refine pfX11_5 g wf_X11_84 dX11_proved_2 ?_
  refine u_aload_n g 0 dX11_proved_5 rfl ?_
  refine gfX11_13 g wf_X11_104 (v := (M.1 0 13)) rfl dX11_proved_6 ?_
  refine u_if_ne g 18 dX11_proved_9 (by decide) (fun b1 => ?_) (fun b1 => ?_)
  · have h := ob_neg b1 h
    refine u_aload_n g 0 dX11_proved_18 rfl ?_
    refine u_iconst g (v := (0 : Int32)) dX11_proved_19 rfl ?_
    refine pfX11_4 g wf_X11_88 dX11_proved_20 ?_
    refine u_aload_n g 0 dX11_proved_23 rfl ?_
    obtain ⟨q2, hq3, h⟩ := ob_bind h
    refine u_callV (st := []) g wv_X11_215 [] (show 0 < shY.1 by decide) ceY_0 rfl rfl (t_X11_loaded w x.2.1 hq3) (by decide) (by decide) rfl (Nat.le_of_ble_eq_true rfl) rfl dX11_proved_24 ?_
    show U shY w x r q2.2 27 [(0, .ref (w.2.2.1 0))] [.int q2.1]
    refine u_istore_n g [(1, .int q2.1), (0, .ref (w.2.2.1 0))] dX11_proved_27 (by decide) rfl ?_
    refine u_aload_n g 1 dX11_proved_28 rfl ?_
    refine gfX11_33 g wf_X11_203 (v := (q2.2.1 0 33)) rfl dX11_proved_29 ?_
    refine u_istore_n g [(2, .int (q2.2.1 0 33)), (1, .int q2.1), (0, .ref (w.2.2.1 0))] dX11_proved_32 (by decide) rfl ?_
    refine u_aload_n g 2 dX11_proved_33 rfl ?_
    refine gfX11_34 g wf_X11_206 (v := (q2.2.1 0 34)) rfl dX11_proved_34 ?_
    refine u_istore_n g [(3, .int (q2.2.1 0 34)), (2, .int (q2.2.1 0 33)), (1, .int q2.1), (0, .ref (w.2.2.1 0))] dX11_proved_37 (by decide) rfl ?_
    refine u_aload_n g 3 dX11_proved_38 rfl ?_
    refine u_aload_n g 3 dX11_proved_39 rfl ?_
    refine gfX11_12 g wf_X11_31 dX11_proved_40 ?_
    refine u_iconst g (v := (0 : Int32)) dX11_proved_43 rfl ?_
    refine aY_ild g (c := 8) 121 (by decide) rfl (v := (q2.2.1 8 0)) (inB_in rfl) rfl dX11_proved_44 ?_
    obtain ⟨q4, hq5, h⟩ := ob_bind h
    refine u_callV (st := []) g wv_X11_218 [.int (q2.2.1 8 0)] (show 0 < shY.1 by decide) ceY_0 rfl rfl (t_X11_boundOf w x.2.1 hq5) (by decide) (by decide) rfl (Nat.le_of_ble_eq_true rfl) rfl dX11_proved_45 ?_
    show U shY w x r q4 48 [(3, .int (q2.2.1 0 34)), (2, .int (q2.2.1 0 33)), (1, .int q2.1), (0, .ref (w.2.2.1 0))] []
    refine u_iload_n g 1 dX11_proved_48 rfl ?_
    refine u_aload_n g 3 dX11_proved_49 rfl ?_
    refine gfX11_33 g wf_X11_203 (v := (q4.1 0 33)) rfl dX11_proved_50 ?_
    refine u_icmp_ne g 68 dX11_proved_53 (by decide) (fun b6 => ?_) (fun b6 => ?_)
    · have h := ob_neg b6 h
      refine u_iconst g (v := (1 : Int32)) dX11_proved_68 rfl ?_
      exact u_iret g dX11_proved_69 (by rw [← hr]; obtain rfl := Option.some.inj h; rfl)
    · have h := ob_pos b6 h
      refine u_iload_n g 0 dX11_proved_56 rfl ?_
      refine u_aload_n g 3 dX11_proved_57 rfl ?_
      refine gfX11_34 g wf_X11_206 (v := (q4.1 0 34)) rfl dX11_proved_58 ?_
      refine u_icmp_ne g 68 dX11_proved_61 (by decide) (fun b7 => ?_) (fun b7 => ?_)
      · have h := ob_neg b7 h
        refine u_iconst g (v := (1 : Int32)) dX11_proved_68 rfl ?_
        exact u_iret g dX11_proved_69 (by rw [← hr]; obtain rfl := Option.some.inj h; rfl)
      · have h := ob_pos b7 h
        refine u_iconst g (v := (0 : Int32)) dX11_proved_64 rfl ?_
        refine u_goto g 69 dX11_proved_65 (by decide) ?_
        exact u_iret g dX11_proved_69 (by rw [← hr]; obtain rfl := Option.some.inj h; rfl)
  · have h := ob_pos b1 h
    refine u_aload_n g 0 dX11_proved_12 rfl ?_
    refine u_iconst g (v := (1 : Int32)) dX11_proved_13 rfl ?_
    obtain ⟨q8, hq9, h⟩ := ob_bind h
    refine u_callV (st := []) g wv_X11_115 [.int (1 : Int32)] (show 0 < shY.1 by decide) ceY_0 rfl rfl (t_X11_no w x.2.1 hq9) (by decide) (by decide) rfl (Nat.le_of_ble_eq_true rfl) rfl dX11_proved_14 ?_
    show U shY w x r q8.2 17 [(0, .ref (w.2.2.1 0))] [.int q8.1]
    exact u_iret g dX11_proved_17 (by rw [← hr]; obtain rfl := Option.some.inj h; rfl)
set_option maxRecDepth 100000 in
set_option maxHeartbeats 4000000 in
theorem s_X11_witness_l3 {w : Wp} {x : Cx} {r : Option Value × Mem} (g : Gd shY w x RX11 cX11_witness 6 (some .int) 2) (a1 : Int32) (a2 : Int32) (a3 : Int32) (a4 : Int32)  (M : Mem) : ∀ (n : Nat) (v5 : Int32) (q : Int32), f_X11_witness_l3 a1 a2 a3 a4 M n v5 = some q → U shY w x r M 96 [(0, .ref (w.2.2.1 0)), (1, .int a1), (2, .int a2), (3, .int a3), (5, .int q)] [] → U shY w x r M 73 [(0, .ref (w.2.2.1 0)), (1, .int a1), (2, .int a2), (3, .int a3), (4, .int a4), (5, .int v5)] [] := by
  intro n
  induction n with
  | zero => intro v5 q h K; rw [f_X11_witness_l3] at h; cases h
  | succ n ih =>
    intro v5 q h K
    rw [f_X11_witness_l3] at h
    refine u_iload g 5 dX11_witness_73 rfl ?_
    refine u_bipush g (v := (16 : Int32)) dX11_witness_75 rfl ?_
    refine u_icmp_ge g 96 dX11_witness_77 (by decide) (fun b12 => ?_) (fun b12 => ?_)
    · have h := ob_pos b12 h
      obtain rfl := Option.some.inj h
      exact u_sub [0, 1, 2, 3, 5] rfl K
    · have h := ob_neg b12 h
      refine u_iload g 4 dX11_witness_80 rfl ?_
      refine u_iload g 5 dX11_witness_82 rfl ?_
      refine u_ishr g dX11_witness_84 ?_
      refine u_iconst g (v := (1 : Int32)) dX11_witness_85 rfl ?_
      refine u_iand g dX11_witness_86 ?_
      refine u_if_ne g 96 dX11_witness_87 (by decide) (fun b13 => ?_) (fun b13 => ?_)
      · have h := ob_neg b13 h
        obtain rfl := Option.some.inj h
        exact u_sub [0, 1, 2, 3, 5] rfl K
      · have h := ob_pos b13 h
        refine u_iinc g 5 [(5, .int (v5 + (1 : Int32))), (0, .ref (w.2.2.1 0)), (1, .int a1), (2, .int a2), (3, .int a3), (4, .int a4)] dX11_witness_90 rfl rfl (by decide) rfl ?_
        refine u_goto g 73 dX11_witness_93 (by decide) ?_
        exact u_sub [1, 2, 3, 4, 5, 0] rfl (ih (v5 + (1 : Int32)) _ h K)
set_option maxRecDepth 100000 in
set_option maxHeartbeats 4000000 in
theorem s_X11_witness_l2 {w : Wp} {x : Cx} {r : Option Value × Mem} (g : Gd shY w x RX11 cX11_witness 6 (some .int) 2) (a1 : Int32) (a2 : Int32)  : ∀ (n : Nat) (v3 : Int32) (M : Mem) (q : Mem), f_X11_witness_l2 a1 a2 n v3 M = some q → U shY w x r q 134 [(0, .ref (w.2.2.1 0)), (1, .int a1), (2, .int a2)] [] → U shY w x r M 45 [(0, .ref (w.2.2.1 0)), (1, .int a1), (2, .int a2), (3, .int v3)] [] := by
  intro n
  induction n with
  | zero => intro v3 M q h K; rw [f_X11_witness_l2] at h; cases h
  | succ n ih =>
    intro v3 M q h K
    rw [f_X11_witness_l2] at h
    refine u_iload_n g 3 dX11_witness_45 rfl ?_
    refine u_aload_n g 0 dX11_witness_46 rfl ?_
    refine gfX11_9 g wf_X11_25 dX11_witness_47 ?_
    refine u_iload_n g 1 dX11_witness_50 rfl ?_
    obtain ⟨e6, h⟩ := ob_if h
    refine aY_ild g (c := 6) 24 (by decide) rfl (v := (M.1 6 a1.toNatClampNeg)) (inB_in e6) rfl dX11_witness_51 ?_
    refine u_icmp_ge g 134 dX11_witness_52 (by decide) (fun b7 => ?_) (fun b7 => ?_)
    · have h := ob_pos b7 h
      obtain rfl := Option.some.inj h
      exact u_sub [0, 1, 2] rfl K
    · have h := ob_neg b7 h
      refine u_aload_n g 0 dX11_witness_55 rfl ?_
      refine u_iload_n g 1 dX11_witness_56 rfl ?_
      refine u_iload_n g 2 dX11_witness_57 rfl ?_
      obtain ⟨q8, hq9, h⟩ := ob_bind h
      refine u_callV (st := []) g wv_X11_136 [.int a1, .int a2] (show 0 < shY.1 by decide) ceY_0 rfl rfl (t_X11_quorumOf w x.2.1 hq9) (by decide) (by decide) rfl (Nat.le_of_ble_eq_true rfl) rfl dX11_witness_58 ?_
      show U shY w x r M 61 [(0, .ref (w.2.2.1 0)), (1, .int a1), (2, .int a2), (3, .int v3)] [.int q8]
      refine u_aload_n g 0 dX11_witness_61 rfl ?_
      refine u_iload_n g 1 dX11_witness_62 rfl ?_
      refine u_iload_n g 3 dX11_witness_63 rfl ?_
      obtain ⟨q10, hq11, h⟩ := ob_bind h
      refine u_callV (st := [.int q8]) g wv_X11_136 [.int a1, .int v3] (show 0 < shY.1 by decide) ceY_0 rfl rfl (t_X11_quorumOf w x.2.1 hq11) (by decide) (by decide) rfl (Nat.le_of_ble_eq_true rfl) rfl dX11_witness_64 ?_
      show U shY w x r M 67 [(0, .ref (w.2.2.1 0)), (1, .int a1), (2, .int a2), (3, .int v3)] [.int q10, .int q8]
      refine u_iand g dX11_witness_67 ?_
      refine u_istore g [(4, .int (q8 &&& q10)), (0, .ref (w.2.2.1 0)), (1, .int a1), (2, .int a2), (3, .int v3)] dX11_witness_68 (by decide) rfl ?_
      refine u_iconst g (v := (0 : Int32)) dX11_witness_70 rfl ?_
      refine u_istore g [(5, .int (0 : Int32)), (4, .int (q8 &&& q10)), (0, .ref (w.2.2.1 0)), (1, .int a1), (2, .int a2), (3, .int v3)] dX11_witness_71 (by decide) rfl ?_
      obtain ⟨q12, hq13, h⟩ := ob_bind h
      refine u_sub [2, 3, 4, 5, 1, 0] rfl (s_X11_witness_l3 g a1 a2 v3 (q8 &&& q10) M fuelN (0 : Int32) _ hq13 ?_)
      show U shY w x r M 96 [(0, .ref (w.2.2.1 0)), (1, .int a1), (2, .int a2), (3, .int v3), (5, .int q12)] []
      refine u_aload_n g 0 dX11_witness_96 rfl ?_
      refine gfX11_17 g wf_X11_43 dX11_witness_97 ?_
      refine u_aload_n g 0 dX11_witness_100 rfl ?_
      refine gfX11_18 g wf_X11_221 (v := (M.1 0 18)) rfl dX11_witness_101 ?_
      refine u_iload g 4 dX11_witness_104 rfl ?_
      refine u_bipush g (v := (16 : Int32)) dX11_witness_106 rfl ?_
      obtain ⟨q14, hq15, h⟩ := ob_bind h
      have K16 : U shY w x r M 117 [(0, .ref (w.2.2.1 0)), (1, .int a1), (2, .int a2), (3, .int v3)] [.int q14, .int (M.1 0 18), .ref (w.2.2.1 12)] := by
        obtain ⟨e17, h⟩ := ob_if h
        refine aY_ist g (c := 12) 7140 (by decide) rfl (inB_in e17) (j := (M.1 0 18).toNatClampNeg) rfl dX11_witness_117 ?_
        refine u_aload_n g 0 dX11_witness_118 rfl ?_
        refine u_dup g dX11_witness_119 rfl ?_
        refine gfX11_18 g wf_X11_221 (v := (M.1 0 18)) rfl dX11_witness_120 ?_
        refine u_iconst g (v := (1 : Int32)) dX11_witness_123 rfl ?_
        refine u_iadd g dX11_witness_124 ?_
        refine pfX11_18 g wf_X11_221 dX11_witness_125 ?_
        refine u_iinc g 3 [(3, .int (v3 + (1 : Int32))), (0, .ref (w.2.2.1 0)), (1, .int a1), (2, .int a2)] dX11_witness_128 rfl rfl (by decide) rfl ?_
        refine u_goto g 45 dX11_witness_131 (by decide) ?_
        exact u_sub [1, 2, 3, 0] rfl (ih (v3 + (1 : Int32)) (sI (sI M 12 (M.1 0 18).toNatClampNeg q14) 0 18 ((M.1 0 18) + (1 : Int32))) _ h K)
      have h := hq15
      refine u_icmp_ge g 116 dX11_witness_108 (by decide) (fun b18 => ?_) (fun b18 => ?_)
      · have h := ob_pos b18 h
        refine u_iconst g (v := (-1 : Int32)) dX11_witness_116 rfl ?_
        obtain rfl := Option.some.inj h
        exact u_sub [0, 1, 2, 3] rfl K16
      · have h := ob_neg b18 h
        refine u_iload g 4 dX11_witness_111 rfl ?_
        refine u_goto g 117 dX11_witness_113 (by decide) ?_
        obtain rfl := Option.some.inj h
        exact u_sub [0, 1, 2, 3] rfl K16
set_option maxRecDepth 100000 in
set_option maxHeartbeats 4000000 in
theorem s_X11_witness_l1 {w : Wp} {x : Cx} {r : Option Value × Mem} (g : Gd shY w x RX11 cX11_witness 6 (some .int) 2) (a1 : Int32)  : ∀ (n : Nat) (v2 : Int32) (M : Mem) (q : Mem), f_X11_witness_l1 a1 n v2 M = some q → U shY w x r q 140 [(0, .ref (w.2.2.1 0))] [] → U shY w x r M 31 [(0, .ref (w.2.2.1 0)), (1, .int a1), (2, .int v2)] [] := by
  intro n
  induction n with
  | zero => intro v2 M q h K; rw [f_X11_witness_l1] at h; cases h
  | succ n ih =>
    intro v2 M q h K
    rw [f_X11_witness_l1] at h
    refine u_iload_n g 2 dX11_witness_31 rfl ?_
    refine u_aload_n g 0 dX11_witness_32 rfl ?_
    refine gfX11_9 g wf_X11_25 dX11_witness_33 ?_
    refine u_iload_n g 1 dX11_witness_36 rfl ?_
    obtain ⟨e4, h⟩ := ob_if h
    refine aY_ild g (c := 6) 24 (by decide) rfl (v := (M.1 6 a1.toNatClampNeg)) (inB_in e4) rfl dX11_witness_37 ?_
    refine u_icmp_ge g 140 dX11_witness_38 (by decide) (fun b5 => ?_) (fun b5 => ?_)
    · have h := ob_pos b5 h
      obtain rfl := Option.some.inj h
      exact u_sub [0] rfl K
    · have h := ob_neg b5 h
      refine u_iload_n g 2 dX11_witness_41 rfl ?_
      refine u_iconst g (v := (1 : Int32)) dX11_witness_42 rfl ?_
      refine u_iadd g dX11_witness_43 ?_
      refine u_istore_n g [(3, .int (v2 + (1 : Int32))), (0, .ref (w.2.2.1 0)), (1, .int a1), (2, .int v2)] dX11_witness_44 (by decide) rfl ?_
      obtain ⟨q6, hq7, h⟩ := ob_bind h
      refine u_sub [1, 2, 3, 0] rfl (s_X11_witness_l2 g a1 v2 fuelN (v2 + (1 : Int32)) M _ hq7 ?_)
      show U shY w x r q6 134 [(0, .ref (w.2.2.1 0)), (1, .int a1), (2, .int v2)] []
      refine u_iinc g 2 [(2, .int (v2 + (1 : Int32))), (0, .ref (w.2.2.1 0)), (1, .int a1)] dX11_witness_134 rfl rfl (by decide) rfl ?_
      refine u_goto g 31 dX11_witness_137 (by decide) ?_
      exact u_sub [1, 2, 0] rfl (ih (v2 + (1 : Int32)) q6 _ h K)
set_option maxRecDepth 100000 in
set_option maxHeartbeats 4000000 in
theorem t_X11_witness (w : Wp) (l : Launch) {a1 : Int32} {M : Mem} {q : Int32 × Mem} (h : f_X11_witness a1 M = some q) : Ct shY w l yX11_witness cX11_witness 6 (some .int) 2 [.ref (w.2.2.1 0), .int a1] M (some (.int q.1), q.2) := by
  rw [f_X11_witness] at h
  refine ct_of shY_loc (by decide) (Nat.le_of_ble_eq_true rfl) rfl (fun x hx g => ?_)
  subst hx
  show U shY w x _ M 0 [(0, .ref (w.2.2.1 0)), (1, .int a1)] []
  generalize hr : ((some (.int q.1), q.2) : Option Value × Mem) = r
  have g : Gd shY w x RX11 cX11_witness 6 (some .int) 2 := g
  refine u_aload_n g 0 dX11_witness_0 rfl ?_
  refine u_iconst g (v := (0 : Int32)) dX11_witness_1 rfl ?_
  refine pfX11_5 g wf_X11_84 dX11_witness_2 ?_
  refine u_aload_n g 0 dX11_witness_5 rfl ?_
  refine u_iload_n g 1 dX11_witness_6 rfl ?_
  obtain ⟨q1, hq2, h⟩ := ob_bind h
  refine u_callV (st := []) g wv_X11_163 [.int a1] (show 0 < shY.1 by decide) ceY_0 rfl rfl (t_X11_isFamily w x.2.1 hq2) (by decide) (by decide) rfl (Nat.le_of_ble_eq_true rfl) rfl dX11_witness_7 ?_
  show U shY w x r (sI M 0 5 (0 : Int32)) 10 [(0, .ref (w.2.2.1 0)), (1, .int a1)] [.int q1]
  refine u_if_ne g 19 dX11_witness_10 (by decide) (fun b3 => ?_) (fun b3 => ?_)
  · have h := ob_neg b3 h
    refine u_aload_n g 0 dX11_witness_19 rfl ?_
    refine u_iconst g (v := (0 : Int32)) dX11_witness_20 rfl ?_
    refine pfX11_4 g wf_X11_88 dX11_witness_21 ?_
    refine u_aload_n g 0 dX11_witness_24 rfl ?_
    refine u_iconst g (v := (0 : Int32)) dX11_witness_25 rfl ?_
    refine pfX11_18 g wf_X11_221 dX11_witness_26 ?_
    refine u_iconst g (v := (0 : Int32)) dX11_witness_29 rfl ?_
    refine u_istore_n g [(2, .int (0 : Int32)), (0, .ref (w.2.2.1 0)), (1, .int a1)] dX11_witness_30 (by decide) rfl ?_
    obtain ⟨q4, hq5, h⟩ := ob_bind h
    refine u_sub [1, 2, 0] rfl (s_X11_witness_l1 g a1 fuelN (0 : Int32) (sI (sI (sI M 0 5 (0 : Int32)) 0 4 (0 : Int32)) 0 18 (0 : Int32)) _ hq5 ?_)
    show U shY w x r q4 140 [(0, .ref (w.2.2.1 0))] []
    refine u_aload_n g 0 dX11_witness_140 rfl ?_
    refine gfX11_18 g wf_X11_221 (v := (q4.1 0 18)) rfl dX11_witness_141 ?_
    exact u_iret g dX11_witness_144 (by rw [← hr]; obtain rfl := Option.some.inj h; rfl)
  · have h := ob_pos b3 h
    refine u_aload_n g 0 dX11_witness_13 rfl ?_
    refine u_iconst g (v := (1 : Int32)) dX11_witness_14 rfl ?_
    obtain ⟨q6, hq7, h⟩ := ob_bind h
    refine u_callV (st := []) g wv_X11_115 [.int (1 : Int32)] (show 0 < shY.1 by decide) ceY_0 rfl rfl (t_X11_no w x.2.1 hq7) (by decide) (by decide) rfl (Nat.le_of_ble_eq_true rfl) rfl dX11_witness_15 ?_
    show U shY w x r q6.2 18 [(0, .ref (w.2.2.1 0)), (1, .int a1)] [.int q6.1]
    exact u_iret g dX11_witness_18 (by rw [← hr]; obtain rfl := Option.some.inj h; rfl)
