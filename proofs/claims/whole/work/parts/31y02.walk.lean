set_option maxRecDepth 100000 in
set_option maxHeartbeats 4000000 in
theorem s_X11_join_l2 {w : Wp} {x : Cx} {r : Option Value × Mem} (g : Gd shY w x RX11 cX11_join 8 (some .int) 3) (a1 : Int32) (a3 : Int32) (a4 : Int32) (a5 : Int32) (a6 : Int32)  : ∀ (n : Nat) (v7 : Int32) (M : Mem) (q : Mem), f_X11_join_l2 a1 a3 a4 a5 a6 n v7 M = some q → U shY w x r q 134 [(0, .ref (w.2.2.1 0)), (1, .int a1), (3, .int a3), (4, .int a4), (5, .int a5)] [] → U shY w x r M 96 [(0, .ref (w.2.2.1 0)), (1, .int a1), (3, .int a3), (4, .int a4), (5, .int a5), (6, .int a6), (7, .int v7)] [] := by
  intro n
  induction n with
  | zero => intro v7 M q h K; rw [f_X11_join_l2] at h; cases h
  | succ n ih =>
    intro v7 M q h K
    rw [f_X11_join_l2] at h
    refine u_iload g 6 dX11_join_96 rfl ?_
    refine u_aload_n g 0 dX11_join_98 rfl ?_
    refine gfX11_9 g wf_X11_25 dX11_join_99 ?_
    refine u_iload_n g 2 dX11_join_102 rfl ?_
    obtain ⟨e21, h⟩ := ob_if h
    refine aY_ild g (c := 6) 24 (by decide) rfl (v := (M.1 6 a3.toNatClampNeg)) (inB_in e21) rfl dX11_join_103 ?_
    refine u_icmp_ge g 134 dX11_join_104 (by decide) (fun b22 => ?_) (fun b22 => ?_)
    · have h := ob_pos b22 h
      obtain rfl := Option.some.inj h
      exact u_sub [0, 1, 2, 3, 4] rfl K
    · have h := ob_neg b22 h
      refine u_aload_n g 0 dX11_join_107 rfl ?_
      refine gfX11_21 g wf_X11_50 dX11_join_108 ?_
      refine u_iload g 5 dX11_join_111 rfl ?_
      refine u_iload g 3 dX11_join_113 rfl ?_
      refine u_iconst g (v := (-1 : Int32)) dX11_join_115 rfl ?_
      refine u_ixor g dX11_join_116 ?_
      refine u_iand g dX11_join_117 ?_
      refine u_aload_n g 0 dX11_join_118 rfl ?_
      refine u_iload_n g 2 dX11_join_119 rfl ?_
      refine u_iload g 6 dX11_join_120 rfl ?_
      obtain ⟨q23, hq24, h⟩ := ob_bind h
      refine u_callV (st := [.int (a6 &&& (a4 ^^^ (-1 : Int32))), .ref (w.2.2.1 14)]) g wv_X11_136 [.int a3, .int v7] (show 0 < shY.1 by decide) ceY_0 rfl rfl (t_X11_quorumOf w x.2.1 hq24) (by decide) (by decide) rfl (Nat.le_of_ble_eq_true rfl) rfl dX11_join_122 ?_
      show U shY w x r M 125 [(0, .ref (w.2.2.1 0)), (1, .int a1), (3, .int a3), (4, .int a4), (5, .int a5), (6, .int a6), (7, .int v7)] [.int q23, .int (a6 &&& (a4 ^^^ (-1 : Int32))), .ref (w.2.2.1 14)]
      refine u_ior g dX11_join_125 ?_
      refine u_iconst g (v := (1 : Int32)) dX11_join_126 rfl ?_
      obtain ⟨e25, h⟩ := ob_if h
      refine aY_zst g (c := 14) 65536 rfl (Or.inr rfl) (inB_in e25) (j := ((a6 &&& (a4 ^^^ (-1 : Int32))) ||| q23).toNatClampNeg) rfl dX11_join_127 ?_
      refine u_iinc g 6 [(7, .int (v7 + (1 : Int32))), (0, .ref (w.2.2.1 0)), (1, .int a1), (3, .int a3), (4, .int a4), (5, .int a5), (6, .int a6)] dX11_join_128 rfl rfl (by decide) rfl ?_
      refine u_goto g 96 dX11_join_131 (by decide) ?_
      exact u_sub [1, 2, 3, 4, 5, 6, 0] rfl (ih (v7 + (1 : Int32)) (sI M 14 ((a6 &&& (a4 ^^^ (-1 : Int32))) ||| q23).toNatClampNeg (1 : Int32)) _ h K)
set_option maxRecDepth 100000 in
set_option maxHeartbeats 4000000 in
theorem s_X11_join_l1 {w : Wp} {x : Cx} {r : Option Value × Mem} (g : Gd shY w x RX11 cX11_join 8 (some .int) 3) (a1 : Int32) (a3 : Int32) (a4 : Int32)  : ∀ (n : Nat) (v5 : Int32) (M : Mem) (q : Mem), f_X11_join_l1 a1 a3 a4 n v5 M = some q → U shY w x r q 140 [(0, .ref (w.2.2.1 0))] [] → U shY w x r M 54 [(0, .ref (w.2.2.1 0)), (1, .int a1), (3, .int a3), (4, .int a4), (5, .int v5)] [] := by
  intro n
  induction n with
  | zero => intro v5 M q h K; rw [f_X11_join_l1] at h; cases h
  | succ n ih =>
    intro v5 M q h K
    rw [f_X11_join_l1] at h
    refine u_iload g 4 dX11_join_54 rfl ?_
    refine u_aload_n g 0 dX11_join_56 rfl ?_
    refine gfX11_9 g wf_X11_25 dX11_join_57 ?_
    refine u_iload_n g 1 dX11_join_60 rfl ?_
    obtain ⟨e16, h⟩ := ob_if h
    refine aY_ild g (c := 6) 24 (by decide) rfl (v := (M.1 6 a1.toNatClampNeg)) (inB_in e16) rfl dX11_join_61 ?_
    refine u_icmp_ge g 140 dX11_join_62 (by decide) (fun b17 => ?_) (fun b17 => ?_)
    · have h := ob_pos b17 h
      obtain rfl := Option.some.inj h
      exact u_sub [0] rfl K
    · have h := ob_neg b17 h
      refine u_aload_n g 0 dX11_join_65 rfl ?_
      refine u_iload_n g 1 dX11_join_66 rfl ?_
      refine u_iload g 4 dX11_join_67 rfl ?_
      obtain ⟨q18, hq19, h⟩ := ob_bind h
      refine u_callV (st := []) g wv_X11_136 [.int a1, .int v5] (show 0 < shY.1 by decide) ceY_0 rfl rfl (t_X11_quorumOf w x.2.1 hq19) (by decide) (by decide) rfl (Nat.le_of_ble_eq_true rfl) rfl dX11_join_69 ?_
      show U shY w x r M 72 [(0, .ref (w.2.2.1 0)), (1, .int a1), (3, .int a3), (4, .int a4), (5, .int v5)] [.int q18]
      refine u_istore g [(6, .int q18), (0, .ref (w.2.2.1 0)), (1, .int a1), (3, .int a3), (4, .int a4), (5, .int v5)] dX11_join_72 (by decide) rfl ?_
      refine u_iload g 0 dX11_join_74 rfl ?_
      refine u_iload g 4 dX11_join_76 rfl ?_
      refine u_iand g dX11_join_78 ?_
      obtain ⟨q20, hq21, h⟩ := ob_bind h
      have K22 : U shY w x r q20 134 [(0, .ref (w.2.2.1 0)), (1, .int a1), (3, .int a3), (4, .int a4), (5, .int v5)] [] := by
        refine u_iinc g 4 [(5, .int (v5 + (1 : Int32))), (0, .ref (w.2.2.1 0)), (1, .int a1), (3, .int a3), (4, .int a4)] dX11_join_134 rfl rfl (by decide) rfl ?_
        refine u_goto g 54 dX11_join_137 (by decide) ?_
        exact u_sub [1, 2, 3, 4, 0] rfl (ih (v5 + (1 : Int32)) q20 _ h K)
      have h := hq21
      refine u_if_ne g 93 dX11_join_79 (by decide) (fun b23 => ?_) (fun b23 => ?_)
      · have h := ob_neg b23 h
        refine u_iconst g (v := (0 : Int32)) dX11_join_93 rfl ?_
        refine u_istore g [(7, .int (0 : Int32)), (6, .int q18), (0, .ref (w.2.2.1 0)), (1, .int a1), (3, .int a3), (4, .int a4), (5, .int v5)] dX11_join_94 (by decide) rfl ?_
        obtain ⟨q24, hq25, h⟩ := ob_bind h
        refine u_sub [2, 3, 4, 5, 6, 1, 0] rfl (s_X11_join_l2 g a1 a3 a4 v5 q18 fuelN (0 : Int32) M _ hq25 ?_)
        show U shY w x r q24 134 [(0, .ref (w.2.2.1 0)), (1, .int a1), (3, .int a3), (4, .int a4), (5, .int v5)] []
        obtain rfl := Option.some.inj h
        exact u_sub [0, 1, 2, 3, 4] rfl K22
      · have h := ob_pos b23 h
        refine u_aload_n g 1 dX11_join_82 rfl ?_
        refine gfX11_21 g wf_X11_50 dX11_join_83 ?_
        refine u_iload g 0 dX11_join_86 rfl ?_
        refine u_iconst g (v := (1 : Int32)) dX11_join_88 rfl ?_
        obtain ⟨e26, h⟩ := ob_if h
        refine aY_zst g (c := 14) 65536 rfl (Or.inr rfl) (inB_in e26) (j := q18.toNatClampNeg) rfl dX11_join_89 ?_
        refine u_goto g 134 dX11_join_90 (by decide) ?_
        obtain rfl := Option.some.inj h
        exact u_sub [1, 2, 3, 4, 5] rfl K22
set_option maxRecDepth 100000 in
set_option maxHeartbeats 4000000 in
theorem t_X11_join (w : Wp) (l : Launch) {a1 : Int32} {a2 : Int32} {a3 : Int32} {M : Mem} {q : Int32 × Mem} (h : f_X11_join a1 a2 a3 M = some q) : Ct shY w l yX11_join cX11_join 8 (some .int) 3 [.ref (w.2.2.1 0), .int a1, .int a2, .int a3] M (some (.int q.1), q.2) := by
  rw [f_X11_join] at h
  refine ct_of shY_loc (by decide) (Nat.le_of_ble_eq_true rfl) rfl (fun x hx g => ?_)
  subst hx
  show U shY w x _ M 0 [(0, .ref (w.2.2.1 0)), (1, .int a1), (2, .int a2), (3, .int a3)] []
  generalize hr : ((some (.int q.1), q.2) : Option Value × Mem) = r
  have g : Gd shY w x RX11 cX11_join 8 (some .int) 3 := g
  refine u_aload_n g 0 dX11_join_0 rfl ?_
  refine u_iconst g (v := (0 : Int32)) dX11_join_1 rfl ?_
  refine pfX11_5 g wf_X11_84 dX11_join_2 ?_
  refine u_aload_n g 0 dX11_join_5 rfl ?_
  refine u_iload_n g 1 dX11_join_6 rfl ?_
  obtain ⟨q1, hq2, h⟩ := ob_bind h
  refine u_callV (st := []) g wv_X11_163 [.int a1] (show 0 < shY.1 by decide) ceY_0 rfl rfl (t_X11_isFamily w x.2.1 hq2) (by decide) (by decide) rfl (Nat.le_of_ble_eq_true rfl) rfl dX11_join_7 ?_
  show U shY w x r (sI M 0 5 (0 : Int32)) 10 [(0, .ref (w.2.2.1 0)), (1, .int a1), (2, .int a2), (3, .int a3)] [.int q1]
  refine u_if_eq g 36 dX11_join_10 (by decide) (fun b3 => ?_) (fun b3 => ?_)
  · have h := ob_pos b3 h
    refine u_aload_n g 0 dX11_join_36 rfl ?_
    refine u_iconst g (v := (1 : Int32)) dX11_join_37 rfl ?_
    obtain ⟨q4, hq5, h⟩ := ob_bind h
    refine u_callV (st := []) g wv_X11_115 [.int (1 : Int32)] (show 0 < shY.1 by decide) ceY_0 rfl rfl (t_X11_no w x.2.1 hq5) (by decide) (by decide) rfl (Nat.le_of_ble_eq_true rfl) rfl dX11_join_38 ?_
    show U shY w x r q4.2 41 [(0, .ref (w.2.2.1 0)), (1, .int a1), (2, .int a2), (3, .int a3)] [.int q4.1]
    exact u_iret g dX11_join_41 (by rw [← hr]; obtain rfl := Option.some.inj h; rfl)
  · have h := ob_neg b3 h
    refine u_aload_n g 0 dX11_join_13 rfl ?_
    refine u_iload_n g 3 dX11_join_14 rfl ?_
    obtain ⟨q6, hq7, h⟩ := ob_bind h
    refine u_callV (st := []) g wv_X11_163 [.int a3] (show 0 < shY.1 by decide) ceY_0 rfl rfl (t_X11_isFamily w x.2.1 hq7) (by decide) (by decide) rfl (Nat.le_of_ble_eq_true rfl) rfl dX11_join_15 ?_
    show U shY w x r (sI M 0 5 (0 : Int32)) 18 [(0, .ref (w.2.2.1 0)), (1, .int a1), (2, .int a2), (3, .int a3)] [.int q6]
    refine u_if_eq g 36 dX11_join_18 (by decide) (fun b8 => ?_) (fun b8 => ?_)
    · have h := ob_pos b8 h
      refine u_aload_n g 0 dX11_join_36 rfl ?_
      refine u_iconst g (v := (1 : Int32)) dX11_join_37 rfl ?_
      obtain ⟨q9, hq10, h⟩ := ob_bind h
      refine u_callV (st := []) g wv_X11_115 [.int (1 : Int32)] (show 0 < shY.1 by decide) ceY_0 rfl rfl (t_X11_no w x.2.1 hq10) (by decide) (by decide) rfl (Nat.le_of_ble_eq_true rfl) rfl dX11_join_38 ?_
      show U shY w x r q9.2 41 [(0, .ref (w.2.2.1 0)), (1, .int a1), (2, .int a2), (3, .int a3)] [.int q9.1]
      exact u_iret g dX11_join_41 (by rw [← hr]; obtain rfl := Option.some.inj h; rfl)
    · have h := ob_neg b8 h
      refine u_aload_n g 0 dX11_join_21 rfl ?_
      refine u_iload_n g 2 dX11_join_22 rfl ?_
      refine u_iconst g (v := (0 : Int32)) dX11_join_23 rfl ?_
      refine u_aload_n g 0 dX11_join_24 rfl ?_
      refine gfX11_3 g wf_X11_91 (v := (M.1 0 3)) rfl dX11_join_25 ?_
      refine u_iconst g (v := (1 : Int32)) dX11_join_28 rfl ?_
      refine u_isub g dX11_join_29 ?_
      obtain ⟨q11, hq12, h⟩ := ob_bind h
      refine u_callV (st := []) g wv_X11_97 [.int a2, .int (0 : Int32), .int ((M.1 0 3) - (1 : Int32))] (show 0 < shY.1 by decide) ceY_0 rfl rfl (t_X11_in w x.2.1 hq12) (by decide) (by decide) rfl (Nat.le_of_ble_eq_true rfl) rfl dX11_join_30 ?_
      show U shY w x r (sI M 0 5 (0 : Int32)) 33 [(0, .ref (w.2.2.1 0)), (1, .int a1), (2, .int a2), (3, .int a3)] [.int q11]
      refine u_if_ne g 42 dX11_join_33 (by decide) (fun b13 => ?_) (fun b13 => ?_)
      · have h := ob_neg b13 h
        refine u_aload_n g 0 dX11_join_42 rfl ?_
        obtain ⟨q14, hq15, h⟩ := ob_bind h
        refine u_callV (st := []) g wv_X11_133 [] (show 0 < shY.1 by decide) ceY_0 rfl rfl (t_X11_noSets w x.2.1 hq15) (by decide) (by decide) rfl (Nat.le_of_ble_eq_true rfl) rfl dX11_join_43 ?_
        show U shY w x r q14 46 [(0, .ref (w.2.2.1 0)), (1, .int a1), (2, .int a2), (3, .int a3)] []
        refine u_iconst g (v := (1 : Int32)) dX11_join_46 rfl ?_
        refine u_iload_n g 2 dX11_join_47 rfl ?_
        refine u_ishl g dX11_join_48 ?_
        refine u_istore g [(4, .int ((1 : Int32) <<< (a2 &&& 31))), (0, .ref (w.2.2.1 0)), (1, .int a1), (2, .int a2), (3, .int a3)] dX11_join_49 (by decide) rfl ?_
        refine u_iconst g (v := (0 : Int32)) dX11_join_51 rfl ?_
        refine u_istore g [(5, .int (0 : Int32)), (4, .int ((1 : Int32) <<< (a2 &&& 31))), (0, .ref (w.2.2.1 0)), (1, .int a1), (2, .int a2), (3, .int a3)] dX11_join_52 (by decide) rfl ?_
        obtain ⟨q16, hq17, h⟩ := ob_bind h
        refine u_sub [2, 3, 5, 1, 0] rfl (s_X11_join_l1 g a1 a3 ((1 : Int32) <<< (a2 &&& 31)) fuelN (0 : Int32) q14 _ hq17 ?_)
        show U shY w x r q16 140 [(0, .ref (w.2.2.1 0))] []
        refine u_aload_n g 0 dX11_join_140 rfl ?_
        refine u_bipush g (v := (6 : Int32)) dX11_join_141 rfl ?_
        obtain ⟨q18, hq19, h⟩ := ob_bind h
        refine u_callV (st := []) g wv_X11_143 [.int (6 : Int32)] (show 0 < shY.1 by decide) ceY_0 rfl rfl (t_X11_made w x.2.1 hq19) (by decide) (by decide) rfl (Nat.le_of_ble_eq_true rfl) rfl dX11_join_143 ?_
        show U shY w x r q18.2 146 [(0, .ref (w.2.2.1 0))] [.int q18.1]
        exact u_iret g dX11_join_146 (by rw [← hr]; obtain rfl := Option.some.inj h; rfl)
      · have h := ob_pos b13 h
        refine u_aload_n g 0 dX11_join_36 rfl ?_
        refine u_iconst g (v := (1 : Int32)) dX11_join_37 rfl ?_
        obtain ⟨q20, hq21, h⟩ := ob_bind h
        refine u_callV (st := []) g wv_X11_115 [.int (1 : Int32)] (show 0 < shY.1 by decide) ceY_0 rfl rfl (t_X11_no w x.2.1 hq21) (by decide) (by decide) rfl (Nat.le_of_ble_eq_true rfl) rfl dX11_join_38 ?_
        show U shY w x r q20.2 41 [(0, .ref (w.2.2.1 0)), (1, .int a1), (2, .int a2), (3, .int a3)] [.int q20.1]
        exact u_iret g dX11_join_41 (by rw [← hr]; obtain rfl := Option.some.inj h; rfl)
set_option maxRecDepth 100000 in
set_option maxHeartbeats 4000000 in
theorem s_X11_meetsAll_l1 {w : Wp} {x : Cx} {r : Option Value × Mem} (g : Gd shY w x RX11 cX11_meetsAll 4 (some .boolean) 1) (a1 : Int32) (a2 : Int32)  (M : Mem) : ∀ (n : Nat) (v3 : Int32) (q : (Unit) ⊕ (Int32)), f_X11_meetsAll_l1 a1 a2 M n v3 = some q → (∀ e : Unit, q = .inl e → U shY w x r M 31 [] []) → (∀ v : Int32, q = .inr v → r = (some (.int v), M)) → U shY w x r M 2 [(0, .ref (w.2.2.1 0)), (1, .int a1), (2, .int a2), (3, .int v3)] [] := by
  intro n
  induction n with
  | zero => intro v3 q h K1 K2; rw [f_X11_meetsAll_l1] at h; cases h
  | succ n ih =>
    intro v3 q h K1 K2
    rw [f_X11_meetsAll_l1] at h
    refine u_iload_n g 3 dX11_meetsAll_2 rfl ?_
    refine u_aload_n g 0 dX11_meetsAll_3 rfl ?_
    refine gfX11_9 g wf_X11_25 dX11_meetsAll_4 ?_
    refine u_iload_n g 2 dX11_meetsAll_7 rfl ?_
    obtain ⟨e1, h⟩ := ob_if h
    refine aY_ild g (c := 6) 24 (by decide) rfl (v := (M.1 6 a2.toNatClampNeg)) (inB_in e1) rfl dX11_meetsAll_8 ?_
    refine u_icmp_ge g 31 dX11_meetsAll_9 (by decide) (fun b2 => ?_) (fun b2 => ?_)
    · have h := ob_pos b2 h
      exact u_sub [] rfl (K1 _ (Option.some.inj h).symm)
    · have h := ob_neg b2 h
      refine u_iload_n g 1 dX11_meetsAll_12 rfl ?_
      refine u_aload_n g 0 dX11_meetsAll_13 rfl ?_
      refine u_iload_n g 2 dX11_meetsAll_14 rfl ?_
      refine u_iload_n g 3 dX11_meetsAll_15 rfl ?_
      obtain ⟨q3, hq4, h⟩ := ob_bind h
      refine u_callV (st := [.int a1]) g wv_X11_136 [.int a2, .int v3] (show 0 < shY.1 by decide) ceY_0 rfl rfl (t_X11_quorumOf w x.2.1 hq4) (by decide) (by decide) rfl (Nat.le_of_ble_eq_true rfl) rfl dX11_meetsAll_16 ?_
      show U shY w x r M 19 [(0, .ref (w.2.2.1 0)), (1, .int a1), (2, .int a2), (3, .int v3)] [.int q3, .int a1]
      refine u_iand g dX11_meetsAll_19 ?_
      refine u_if_ne g 25 dX11_meetsAll_20 (by decide) (fun b5 => ?_) (fun b5 => ?_)
      · have h := ob_neg b5 h
        refine u_iinc g 3 [(3, .int (v3 + (1 : Int32))), (0, .ref (w.2.2.1 0)), (1, .int a1), (2, .int a2)] dX11_meetsAll_25 rfl rfl (by decide) rfl ?_
        refine u_goto g 2 dX11_meetsAll_28 (by decide) ?_
        exact u_sub [1, 2, 3, 0] rfl (ih (v3 + (1 : Int32)) _ h K1 K2)
      · have h := ob_pos b5 h
        refine u_iconst g (v := (0 : Int32)) dX11_meetsAll_23 rfl ?_
        exact u_zret g (Or.inl rfl) dX11_meetsAll_24 (K2 _ (Option.some.inj h).symm)
set_option maxRecDepth 100000 in
set_option maxHeartbeats 4000000 in
theorem t_X11_meetsAll (w : Wp) (l : Launch) {a1 : Int32} {a2 : Int32} {M : Mem} {q : Int32} (h : f_X11_meetsAll a1 a2 M = some q) : Ct shY w l yX11_meetsAll cX11_meetsAll 4 (some .boolean) 1 [.ref (w.2.2.1 0), .int a1, .int a2] M (some (.int q), M) := by
  rw [f_X11_meetsAll] at h
  refine ct_of shY_loc (by decide) (Nat.le_of_ble_eq_true rfl) rfl (fun x hx g => ?_)
  subst hx
  show U shY w x _ M 0 [(0, .ref (w.2.2.1 0)), (1, .int a1), (2, .int a2)] []
  generalize hr : ((some (.int q), M) : Option Value × Mem) = r
  have g : Gd shY w x RX11 cX11_meetsAll 4 (some .boolean) 1 := g
  refine u_iconst g (v := (0 : Int32)) dX11_meetsAll_0 rfl ?_
  refine u_istore_n g [(3, .int (0 : Int32)), (0, .ref (w.2.2.1 0)), (1, .int a1), (2, .int a2)] dX11_meetsAll_1 (by decide) rfl ?_
  obtain ⟨q1, hq2, h⟩ := ob_bind h
  refine u_sub [1, 2, 3, 0] rfl (s_X11_meetsAll_l1 g a1 a2 M fuelN (0 : Int32) _ hq2 (fun e3 he5 => ?_) (fun v4 he5 => ?_))
  · subst he5
    have h := ob_inl h
    refine u_iconst g (v := (1 : Int32)) dX11_meetsAll_31 rfl ?_
    exact u_zret g (Or.inr rfl) dX11_meetsAll_32 (by rw [← hr]; obtain rfl := Option.some.inj h; rfl)
  · subst he5
    have h := ob_inr h
    obtain rfl := Option.some.inj h
    exact hr.symm
set_option maxRecDepth 100000 in
set_option maxHeartbeats 4000000 in
theorem s_X11_allOf_l1 {w : Wp} {x : Cx} {r : Option Value × Mem} (g : Gd shY w x RX11 cX11_allOf 4 (some .int) 1) (a1 : Int32)  (M : Mem) : ∀ (n : Nat) (v2 : Int32) (v3 : Int32) (q : Int32), f_X11_allOf_l1 a1 M n v2 v3 = some q → U shY w x r M 29 [(2, .int q)] [] → U shY w x r M 4 [(0, .ref (w.2.2.1 0)), (1, .int a1), (2, .int v2), (3, .int v3)] [] := by
  intro n
  induction n with
  | zero => intro v2 v3 q h K; rw [f_X11_allOf_l1] at h; cases h
  | succ n ih =>
    intro v2 v3 q h K
    rw [f_X11_allOf_l1] at h
    refine u_iload_n g 3 dX11_allOf_4 rfl ?_
    refine u_aload_n g 0 dX11_allOf_5 rfl ?_
    refine gfX11_9 g wf_X11_25 dX11_allOf_6 ?_
    refine u_iload_n g 1 dX11_allOf_9 rfl ?_
    obtain ⟨e1, h⟩ := ob_if h
    refine aY_ild g (c := 6) 24 (by decide) rfl (v := (M.1 6 a1.toNatClampNeg)) (inB_in e1) rfl dX11_allOf_10 ?_
    refine u_icmp_ge g 29 dX11_allOf_11 (by decide) (fun b2 => ?_) (fun b2 => ?_)
    · have h := ob_pos b2 h
      obtain rfl := Option.some.inj h
      exact u_sub [2] rfl K
    · have h := ob_neg b2 h
      refine u_iload_n g 2 dX11_allOf_14 rfl ?_
      refine u_aload_n g 0 dX11_allOf_15 rfl ?_
      refine u_iload_n g 1 dX11_allOf_16 rfl ?_
      refine u_iload_n g 3 dX11_allOf_17 rfl ?_
      obtain ⟨q3, hq4, h⟩ := ob_bind h
      refine u_callV (st := [.int v2]) g wv_X11_136 [.int a1, .int v3] (show 0 < shY.1 by decide) ceY_0 rfl rfl (t_X11_quorumOf w x.2.1 hq4) (by decide) (by decide) rfl (Nat.le_of_ble_eq_true rfl) rfl dX11_allOf_18 ?_
      show U shY w x r M 21 [(0, .ref (w.2.2.1 0)), (1, .int a1), (2, .int v2), (3, .int v3)] [.int q3, .int v2]
      refine u_ior g dX11_allOf_21 ?_
      refine u_istore_n g [(2, .int (v2 ||| q3)), (0, .ref (w.2.2.1 0)), (1, .int a1), (3, .int v3)] dX11_allOf_22 (by decide) rfl ?_
      refine u_iinc g 3 [(3, .int (v3 + (1 : Int32))), (2, .int (v2 ||| q3)), (0, .ref (w.2.2.1 0)), (1, .int a1)] dX11_allOf_23 rfl rfl (by decide) rfl ?_
      refine u_goto g 4 dX11_allOf_26 (by decide) ?_
      exact u_sub [2, 3, 1, 0] rfl (ih (v2 ||| q3) (v3 + (1 : Int32)) _ h K)
set_option maxRecDepth 100000 in
set_option maxHeartbeats 4000000 in
theorem t_X11_allOf (w : Wp) (l : Launch) {a1 : Int32} {M : Mem} {q : Int32} (h : f_X11_allOf a1 M = some q) : Ct shY w l yX11_allOf cX11_allOf 4 (some .int) 1 [.ref (w.2.2.1 0), .int a1] M (some (.int q), M) := by
  rw [f_X11_allOf] at h
  refine ct_of shY_loc (by decide) (Nat.le_of_ble_eq_true rfl) rfl (fun x hx g => ?_)
  subst hx
  show U shY w x _ M 0 [(0, .ref (w.2.2.1 0)), (1, .int a1)] []
  generalize hr : ((some (.int q), M) : Option Value × Mem) = r
  have g : Gd shY w x RX11 cX11_allOf 4 (some .int) 1 := g
  refine u_iconst g (v := (0 : Int32)) dX11_allOf_0 rfl ?_
  refine u_istore_n g [(2, .int (0 : Int32)), (0, .ref (w.2.2.1 0)), (1, .int a1)] dX11_allOf_1 (by decide) rfl ?_
  refine u_iconst g (v := (0 : Int32)) dX11_allOf_2 rfl ?_
  refine u_istore_n g [(3, .int (0 : Int32)), (2, .int (0 : Int32)), (0, .ref (w.2.2.1 0)), (1, .int a1)] dX11_allOf_3 (by decide) rfl ?_
  obtain ⟨q1, hq2, h⟩ := ob_bind h
  refine u_sub [2, 3, 1, 0] rfl (s_X11_allOf_l1 g a1 M fuelN (0 : Int32) (0 : Int32) _ hq2 ?_)
  show U shY w x r M 29 [(2, .int q1)] []
  refine u_iload_n g 0 dX11_allOf_29 rfl ?_
  exact u_iret g dX11_allOf_30 (by rw [← hr]; obtain rfl := Option.some.inj h; rfl)
set_option maxRecDepth 100000 in
set_option maxHeartbeats 4000000 in
theorem s_X11_dual_l1 {w : Wp} {x : Cx} {r : Option Value × Mem} (g : Gd shY w x RX11 cX11_dual 4 (some .int) 3) (a1 : Int32) (a2 : Int32)  : ∀ (n : Nat) (v3 : Int32) (M : Mem) (q : Mem), f_X11_dual_l1 a1 a2 n v3 M = some q → U shY w x r q 56 [(0, .ref (w.2.2.1 0))] [] → U shY w x r M 31 [(0, .ref (w.2.2.1 0)), (1, .int a1), (2, .int a2), (3, .int v3)] [] := by
  intro n
  induction n with
  | zero => intro v3 M q h K; rw [f_X11_dual_l1] at h; cases h
  | succ n ih =>
    intro v3 M q h K
    rw [f_X11_dual_l1] at h
    refine u_iload_n g 3 dX11_dual_31 rfl ?_
    refine u_if_le g 56 dX11_dual_32 (by decide) (fun b8 => ?_) (fun b8 => ?_)
    · have h := ob_pos b8 h
      obtain rfl := Option.some.inj h
      exact u_sub [0] rfl K
    · have h := ob_neg b8 h
      refine u_aload_n g 0 dX11_dual_35 rfl ?_
      refine gfX11_21 g wf_X11_50 dX11_dual_36 ?_
      refine u_iload_n g 3 dX11_dual_39 rfl ?_
      refine u_aload_n g 0 dX11_dual_40 rfl ?_
      refine u_iload_n g 3 dX11_dual_41 rfl ?_
      refine u_iload_n g 1 dX11_dual_42 rfl ?_
      obtain ⟨q9, hq10, h⟩ := ob_bind h
      refine u_callV (st := [.int v3, .ref (w.2.2.1 14)]) g wv_X11_169 [.int v3, .int a1] (show 0 < shY.1 by decide) ceY_0 rfl rfl (t_X11_meetsAll w x.2.1 hq10) (by decide) (by decide) rfl (Nat.le_of_ble_eq_true rfl) rfl dX11_dual_43 ?_
      show U shY w x r M 46 [(0, .ref (w.2.2.1 0)), (1, .int a1), (2, .int a2), (3, .int v3)] [.int q9, .int v3, .ref (w.2.2.1 14)]
      obtain ⟨e11, h⟩ := ob_if h
      obtain ⟨e12, h⟩ := ob_if h
      refine aY_zst g (c := 14) 65536 rfl e12 (inB_in e11) (j := v3.toNatClampNeg) rfl dX11_dual_46 ?_
      refine u_iload_n g 3 dX11_dual_47 rfl ?_
      refine u_iconst g (v := (1 : Int32)) dX11_dual_48 rfl ?_
      refine u_isub g dX11_dual_49 ?_
      refine u_iload_n g 2 dX11_dual_50 rfl ?_
      refine u_iand g dX11_dual_51 ?_
      refine u_istore_n g [(3, .int ((v3 - (1 : Int32)) &&& a2)), (0, .ref (w.2.2.1 0)), (1, .int a1), (2, .int a2)] dX11_dual_52 (by decide) rfl ?_
      refine u_goto g 31 dX11_dual_53 (by decide) ?_
      exact u_sub [1, 2, 3, 0] rfl (ih ((v3 - (1 : Int32)) &&& a2) (sI M 14 v3.toNatClampNeg q9) _ h K)
set_option maxRecDepth 100000 in
set_option maxHeartbeats 4000000 in
theorem t_X11_dual (w : Wp) (l : Launch) {a1 : Int32} {M : Mem} {q : Int32 × Mem} (h : f_X11_dual a1 M = some q) : Ct shY w l yX11_dual cX11_dual 4 (some .int) 3 [.ref (w.2.2.1 0), .int a1] M (some (.int q.1), q.2) := by
  rw [f_X11_dual] at h
  refine ct_of shY_loc (by decide) (Nat.le_of_ble_eq_true rfl) rfl (fun x hx g => ?_)
  subst hx
  show U shY w x _ M 0 [(0, .ref (w.2.2.1 0)), (1, .int a1)] []
  generalize hr : ((some (.int q.1), q.2) : Option Value × Mem) = r
  have g : Gd shY w x RX11 cX11_dual 4 (some .int) 3 := g
  refine u_aload_n g 0 dX11_dual_0 rfl ?_
  refine u_iconst g (v := (0 : Int32)) dX11_dual_1 rfl ?_
  refine pfX11_5 g wf_X11_84 dX11_dual_2 ?_
  refine u_aload_n g 0 dX11_dual_5 rfl ?_
  refine u_iload_n g 1 dX11_dual_6 rfl ?_
  obtain ⟨q1, hq2, h⟩ := ob_bind h
  refine u_callV (st := []) g wv_X11_163 [.int a1] (show 0 < shY.1 by decide) ceY_0 rfl rfl (t_X11_isFamily w x.2.1 hq2) (by decide) (by decide) rfl (Nat.le_of_ble_eq_true rfl) rfl dX11_dual_7 ?_
  show U shY w x r (sI M 0 5 (0 : Int32)) 10 [(0, .ref (w.2.2.1 0)), (1, .int a1)] [.int q1]
  refine u_if_ne g 19 dX11_dual_10 (by decide) (fun b3 => ?_) (fun b3 => ?_)
  · have h := ob_neg b3 h
    refine u_aload_n g 0 dX11_dual_19 rfl ?_
    obtain ⟨q4, hq5, h⟩ := ob_bind h
    refine u_callV (st := []) g wv_X11_133 [] (show 0 < shY.1 by decide) ceY_0 rfl rfl (t_X11_noSets w x.2.1 hq5) (by decide) (by decide) rfl (Nat.le_of_ble_eq_true rfl) rfl dX11_dual_20 ?_
    show U shY w x r q4 23 [(0, .ref (w.2.2.1 0)), (1, .int a1)] []
    refine u_aload_n g 0 dX11_dual_23 rfl ?_
    refine u_iload_n g 1 dX11_dual_24 rfl ?_
    obtain ⟨q6, hq7, h⟩ := ob_bind h
    refine u_callV (st := []) g wv_X11_166 [.int a1] (show 0 < shY.1 by decide) ceY_0 rfl rfl (t_X11_allOf w x.2.1 hq7) (by decide) (by decide) rfl (Nat.le_of_ble_eq_true rfl) rfl dX11_dual_25 ?_
    show U shY w x r q4 28 [(0, .ref (w.2.2.1 0)), (1, .int a1)] [.int q6]
    refine u_istore_n g [(2, .int q6), (0, .ref (w.2.2.1 0)), (1, .int a1)] dX11_dual_28 (by decide) rfl ?_
    refine u_iload_n g 0 dX11_dual_29 rfl ?_
    refine u_istore_n g [(3, .int q6), (2, .int q6), (0, .ref (w.2.2.1 0)), (1, .int a1)] dX11_dual_30 (by decide) rfl ?_
    obtain ⟨q8, hq9, h⟩ := ob_bind h
    refine u_sub [2, 3, 1, 0] rfl (s_X11_dual_l1 g a1 q6 fuelN q6 q4 _ hq9 ?_)
    show U shY w x r q8 56 [(0, .ref (w.2.2.1 0))] []
    refine u_aload_n g 0 dX11_dual_56 rfl ?_
    refine u_bipush g (v := (7 : Int32)) dX11_dual_57 rfl ?_
    obtain ⟨q10, hq11, h⟩ := ob_bind h
    refine u_callV (st := []) g wv_X11_143 [.int (7 : Int32)] (show 0 < shY.1 by decide) ceY_0 rfl rfl (t_X11_made w x.2.1 hq11) (by decide) (by decide) rfl (Nat.le_of_ble_eq_true rfl) rfl dX11_dual_59 ?_
    show U shY w x r q10.2 62 [(0, .ref (w.2.2.1 0))] [.int q10.1]
    exact u_iret g dX11_dual_62 (by rw [← hr]; obtain rfl := Option.some.inj h; rfl)
  · have h := ob_pos b3 h
    refine u_aload_n g 0 dX11_dual_13 rfl ?_
    refine u_iconst g (v := (1 : Int32)) dX11_dual_14 rfl ?_
    obtain ⟨q12, hq13, h⟩ := ob_bind h
    refine u_callV (st := []) g wv_X11_115 [.int (1 : Int32)] (show 0 < shY.1 by decide) ceY_0 rfl rfl (t_X11_no w x.2.1 hq13) (by decide) (by decide) rfl (Nat.le_of_ble_eq_true rfl) rfl dX11_dual_15 ?_
    show U shY w x r q12.2 18 [(0, .ref (w.2.2.1 0)), (1, .int a1)] [.int q12.1]
    exact u_iret g dX11_dual_18 (by rw [← hr]; obtain rfl := Option.some.inj h; rfl)
set_option maxRecDepth 100000 in
set_option maxHeartbeats 4000000 in
theorem s_X11_thin_l1 {w : Wp} {x : Cx} {r : Option Value × Mem} (g : Gd shY w x RX11 cX11_thin 5 (some .int) 3) (a1 : Int32) (a2 : Int32)  : ∀ (n : Nat) (v3 : Int32) (v4 : Int32) (M : Mem) (q : Int32 × Mem), f_X11_thin_l1 a1 a2 n v3 v4 M = some q → U shY w x r q.2 92 [(0, .ref (w.2.2.1 0)), (3, .int q.1)] [] → U shY w x r M 43 [(0, .ref (w.2.2.1 0)), (1, .int a1), (2, .int a2), (3, .int v3), (4, .int v4)] [] := by
  intro n
  induction n with
  | zero => intro v3 v4 M q h K; rw [f_X11_thin_l1] at h; cases h
  | succ n ih =>
    intro v3 v4 M q h K
    rw [f_X11_thin_l1] at h
    refine u_iload g 4 dX11_thin_43 rfl ?_
    refine u_aload_n g 0 dX11_thin_45 rfl ?_
    refine gfX11_9 g wf_X11_25 dX11_thin_46 ?_
    refine u_iload_n g 1 dX11_thin_49 rfl ?_
    obtain ⟨e7, h⟩ := ob_if h
    refine aY_ild g (c := 6) 24 (by decide) rfl (v := (M.1 6 a1.toNatClampNeg)) (inB_in e7) rfl dX11_thin_50 ?_
    refine u_icmp_ge g 92 dX11_thin_51 (by decide) (fun b8 => ?_) (fun b8 => ?_)
    · have h := ob_pos b8 h
      obtain rfl := Option.some.inj h
      exact u_sub [0, 3] rfl K
    · have h := ob_neg b8 h
      refine u_aload_n g 0 dX11_thin_54 rfl ?_
      refine u_iload_n g 1 dX11_thin_55 rfl ?_
      refine u_iload g 4 dX11_thin_56 rfl ?_
      obtain ⟨q9, hq10, h⟩ := ob_bind h
      refine u_callV (st := []) g wv_X11_136 [.int a1, .int v4] (show 0 < shY.1 by decide) ceY_0 rfl rfl (t_X11_quorumOf w x.2.1 hq10) (by decide) (by decide) rfl (Nat.le_of_ble_eq_true rfl) rfl dX11_thin_58 ?_
      show U shY w x r M 61 [(0, .ref (w.2.2.1 0)), (1, .int a1), (2, .int a2), (3, .int v3), (4, .int v4)] [.int q9]
      refine u_iload_n g 2 dX11_thin_61 rfl ?_
      refine u_iconst g (v := (-1 : Int32)) dX11_thin_62 rfl ?_
      refine u_ixor g dX11_thin_63 ?_
      refine u_iand g dX11_thin_64 ?_
      obtain ⟨q11, hq12, h⟩ := ob_bind h
      have K13 : U shY w x r q11.2 86 [(0, .ref (w.2.2.1 0)), (1, .int a1), (2, .int a2), (3, .int q11.1), (4, .int v4)] [] := by
        refine u_iinc g 4 [(4, .int (v4 + (1 : Int32))), (0, .ref (w.2.2.1 0)), (1, .int a1), (2, .int a2), (3, .int q11.1)] dX11_thin_86 rfl rfl (by decide) rfl ?_
        refine u_goto g 43 dX11_thin_89 (by decide) ?_
        exact u_sub [1, 2, 3, 4, 0] rfl (ih q11.1 (v4 + (1 : Int32)) q11.2 _ h K)
      have h := hq12
      refine u_if_eq g 71 dX11_thin_65 (by decide) (fun b14 => ?_) (fun b14 => ?_)
      · have h := ob_pos b14 h
        refine u_aload_n g 0 dX11_thin_71 rfl ?_
        refine gfX11_21 g wf_X11_50 dX11_thin_72 ?_
        refine u_aload_n g 0 dX11_thin_75 rfl ?_
        refine u_iload_n g 1 dX11_thin_76 rfl ?_
        refine u_iload g 4 dX11_thin_77 rfl ?_
        obtain ⟨q15, hq16, h⟩ := ob_bind h
        refine u_callV (st := [.ref (w.2.2.1 14)]) g wv_X11_136 [.int a1, .int v4] (show 0 < shY.1 by decide) ceY_0 rfl rfl (t_X11_quorumOf w x.2.1 hq16) (by decide) (by decide) rfl (Nat.le_of_ble_eq_true rfl) rfl dX11_thin_79 ?_
        show U shY w x r M 82 [(0, .ref (w.2.2.1 0)), (1, .int a1), (2, .int a2), (3, .int v3), (4, .int v4)] [.int q15, .ref (w.2.2.1 14)]
        refine u_iconst g (v := (1 : Int32)) dX11_thin_82 rfl ?_
        obtain ⟨e17, h⟩ := ob_if h
        refine aY_zst g (c := 14) 65536 rfl (Or.inr rfl) (inB_in e17) (j := q15.toNatClampNeg) rfl dX11_thin_83 ?_
        refine u_iconst g (v := (1 : Int32)) dX11_thin_84 rfl ?_
        refine u_istore_n g [(3, .int (1 : Int32)), (0, .ref (w.2.2.1 0)), (1, .int a1), (2, .int a2), (4, .int v4)] dX11_thin_85 (by decide) rfl ?_
        obtain rfl := Option.some.inj h
        exact u_sub [1, 2, 3, 0, 4] rfl K13
      · have h := ob_neg b14 h
        refine u_goto g 86 dX11_thin_68 (by decide) ?_
        obtain rfl := Option.some.inj h
        exact u_sub [0, 1, 2, 3, 4] rfl K13
set_option maxRecDepth 100000 in
set_option maxHeartbeats 4000000 in
theorem t_X11_thin (w : Wp) (l : Launch) {a1 : Int32} {a2 : Int32} {M : Mem} {q : Int32 × Mem} (h : f_X11_thin a1 a2 M = some q) : Ct shY w l yX11_thin cX11_thin 5 (some .int) 3 [.ref (w.2.2.1 0), .int a1, .int a2] M (some (.int q.1), q.2) := by
  rw [f_X11_thin] at h
  refine ct_of shY_loc (by decide) (Nat.le_of_ble_eq_true rfl) rfl (fun x hx g => ?_)
  subst hx
  show U shY w x _ M 0 [(0, .ref (w.2.2.1 0)), (1, .int a1), (2, .int a2)] []
  generalize hr : ((some (.int q.1), q.2) : Option Value × Mem) = r
  have g : Gd shY w x RX11 cX11_thin 5 (some .int) 3 := g
  refine u_aload_n g 0 dX11_thin_0 rfl ?_
  refine u_iconst g (v := (0 : Int32)) dX11_thin_1 rfl ?_
  refine pfX11_5 g wf_X11_84 dX11_thin_2 ?_
  refine u_aload_n g 0 dX11_thin_5 rfl ?_
  refine u_iload_n g 1 dX11_thin_6 rfl ?_
  obtain ⟨q1, hq2, h⟩ := ob_bind h
  refine u_callV (st := []) g wv_X11_163 [.int a1] (show 0 < shY.1 by decide) ceY_0 rfl rfl (t_X11_isFamily w x.2.1 hq2) (by decide) (by decide) rfl (Nat.le_of_ble_eq_true rfl) rfl dX11_thin_7 ?_
  show U shY w x r (sI M 0 5 (0 : Int32)) 10 [(0, .ref (w.2.2.1 0)), (1, .int a1), (2, .int a2)] [.int q1]
  refine u_if_ne g 19 dX11_thin_10 (by decide) (fun b3 => ?_) (fun b3 => ?_)
  · have h := ob_neg b3 h
    refine u_aload_n g 0 dX11_thin_19 rfl ?_
    refine gfX11_11 g wf_X11_94 (v := (M.1 0 11)) rfl dX11_thin_20 ?_
    refine u_bipush g (v := (24 : Int32)) dX11_thin_23 rfl ?_
    refine u_icmp_ne g 34 dX11_thin_25 (by decide) (fun b4 => ?_) (fun b4 => ?_)
    · have h := ob_neg b4 h
      refine u_aload_n g 0 dX11_thin_34 rfl ?_
      obtain ⟨q5, hq6, h⟩ := ob_bind h
      refine u_callV (st := []) g wv_X11_133 [] (show 0 < shY.1 by decide) ceY_0 rfl rfl (t_X11_noSets w x.2.1 hq6) (by decide) (by decide) rfl (Nat.le_of_ble_eq_true rfl) rfl dX11_thin_35 ?_
      show U shY w x r q5 38 [(0, .ref (w.2.2.1 0)), (1, .int a1), (2, .int a2)] []
      refine u_iconst g (v := (0 : Int32)) dX11_thin_38 rfl ?_
      refine u_istore_n g [(3, .int (0 : Int32)), (0, .ref (w.2.2.1 0)), (1, .int a1), (2, .int a2)] dX11_thin_39 (by decide) rfl ?_
      refine u_iconst g (v := (0 : Int32)) dX11_thin_40 rfl ?_
      refine u_istore g [(4, .int (0 : Int32)), (3, .int (0 : Int32)), (0, .ref (w.2.2.1 0)), (1, .int a1), (2, .int a2)] dX11_thin_41 (by decide) rfl ?_
      obtain ⟨q7, hq8, h⟩ := ob_bind h
      refine u_sub [2, 3, 4, 1, 0] rfl (s_X11_thin_l1 g a1 a2 fuelN (0 : Int32) (0 : Int32) q5 _ hq8 ?_)
      show U shY w x r q7.2 92 [(0, .ref (w.2.2.1 0)), (3, .int q7.1)] []
      refine u_iload_n g 1 dX11_thin_92 rfl ?_
      refine u_if_eq g 105 dX11_thin_93 (by decide) (fun b9 => ?_) (fun b9 => ?_)
      · have h := ob_pos b9 h
        refine u_aload_n g 0 dX11_thin_105 rfl ?_
        refine u_iconst g (v := (5 : Int32)) dX11_thin_106 rfl ?_
        obtain ⟨q10, hq11, h⟩ := ob_bind h
        refine u_callV (st := []) g wv_X11_115 [.int (5 : Int32)] (show 0 < shY.1 by decide) ceY_0 rfl rfl (t_X11_no w x.2.1 hq11) (by decide) (by decide) rfl (Nat.le_of_ble_eq_true rfl) rfl dX11_thin_107 ?_
        show U shY w x r q10.2 110 [(0, .ref (w.2.2.1 0)), (3, .int q7.1)] [.int q10.1]
        exact u_iret g dX11_thin_110 (by rw [← hr]; obtain rfl := Option.some.inj h; rfl)
      · have h := ob_neg b9 h
        refine u_aload_n g 0 dX11_thin_96 rfl ?_
        refine u_bipush g (v := (8 : Int32)) dX11_thin_97 rfl ?_
        obtain ⟨q12, hq13, h⟩ := ob_bind h
        refine u_callV (st := []) g wv_X11_143 [.int (8 : Int32)] (show 0 < shY.1 by decide) ceY_0 rfl rfl (t_X11_made w x.2.1 hq13) (by decide) (by decide) rfl (Nat.le_of_ble_eq_true rfl) rfl dX11_thin_99 ?_
        show U shY w x r q12.2 102 [(0, .ref (w.2.2.1 0)), (3, .int q7.1)] [.int q12.1]
        refine u_goto g 110 dX11_thin_102 (by decide) ?_
        exact u_iret g dX11_thin_110 (by rw [← hr]; obtain rfl := Option.some.inj h; rfl)
    · have h := ob_pos b4 h
      refine u_aload_n g 0 dX11_thin_28 rfl ?_
      refine u_iconst g (v := (4 : Int32)) dX11_thin_29 rfl ?_
      obtain ⟨q14, hq15, h⟩ := ob_bind h
      refine u_callV (st := []) g wv_X11_115 [.int (4 : Int32)] (show 0 < shY.1 by decide) ceY_0 rfl rfl (t_X11_no w x.2.1 hq15) (by decide) (by decide) rfl (Nat.le_of_ble_eq_true rfl) rfl dX11_thin_30 ?_
      show U shY w x r q14.2 33 [(0, .ref (w.2.2.1 0)), (1, .int a1), (2, .int a2)] [.int q14.1]
      exact u_iret g dX11_thin_33 (by rw [← hr]; obtain rfl := Option.some.inj h; rfl)
  · have h := ob_pos b3 h
    refine u_aload_n g 0 dX11_thin_13 rfl ?_
    refine u_iconst g (v := (1 : Int32)) dX11_thin_14 rfl ?_
    obtain ⟨q16, hq17, h⟩ := ob_bind h
    refine u_callV (st := []) g wv_X11_115 [.int (1 : Int32)] (show 0 < shY.1 by decide) ceY_0 rfl rfl (t_X11_no w x.2.1 hq17) (by decide) (by decide) rfl (Nat.le_of_ble_eq_true rfl) rfl dX11_thin_15 ?_
    show U shY w x r q16.2 18 [(0, .ref (w.2.2.1 0)), (1, .int a1), (2, .int a2)] [.int q16.1]
    exact u_iret g dX11_thin_18 (by rw [← hr]; obtain rfl := Option.some.inj h; rfl)
set_option maxRecDepth 100000 in
set_option maxHeartbeats 4000000 in
theorem s_X11_both_l2 {w : Wp} {x : Cx} {r : Option Value × Mem} (g : Gd shY w x RX11 cX11_both 5 (some .int) 3) (a1 : Int32) (a2 : Int32) (a3 : Int32)  : ∀ (n : Nat) (v4 : Int32) (M : Mem) (q : Mem), f_X11_both_l2 a1 a2 a3 n v4 M = some q → U shY w x r q 83 [(0, .ref (w.2.2.1 0)), (1, .int a1), (2, .int a2), (3, .int a3)] [] → U shY w x r M 46 [(0, .ref (w.2.2.1 0)), (1, .int a1), (2, .int a2), (3, .int a3), (4, .int v4)] [] := by
  intro n
  induction n with
  | zero => intro v4 M q h K; rw [f_X11_both_l2] at h; cases h
  | succ n ih =>
    intro v4 M q h K
    rw [f_X11_both_l2] at h
    refine u_iload g 4 dX11_both_46 rfl ?_
    refine u_aload_n g 0 dX11_both_48 rfl ?_
    refine gfX11_9 g wf_X11_25 dX11_both_49 ?_
    refine u_iload_n g 2 dX11_both_52 rfl ?_
    obtain ⟨e13, h⟩ := ob_if h
    refine aY_ild g (c := 6) 24 (by decide) rfl (v := (M.1 6 a2.toNatClampNeg)) (inB_in e13) rfl dX11_both_53 ?_
    refine u_icmp_ge g 83 dX11_both_54 (by decide) (fun b14 => ?_) (fun b14 => ?_)
    · have h := ob_pos b14 h
      obtain rfl := Option.some.inj h
      exact u_sub [0, 1, 2, 3] rfl K
    · have h := ob_neg b14 h
      refine u_aload_n g 0 dX11_both_57 rfl ?_
      refine gfX11_21 g wf_X11_50 dX11_both_58 ?_
      refine u_aload_n g 0 dX11_both_61 rfl ?_
      refine u_iload_n g 1 dX11_both_62 rfl ?_
      refine u_iload_n g 3 dX11_both_63 rfl ?_
      obtain ⟨q15, hq16, h⟩ := ob_bind h
      refine u_callV (st := [.ref (w.2.2.1 14)]) g wv_X11_136 [.int a1, .int a3] (show 0 < shY.1 by decide) ceY_0 rfl rfl (t_X11_quorumOf w x.2.1 hq16) (by decide) (by decide) rfl (Nat.le_of_ble_eq_true rfl) rfl dX11_both_64 ?_
      show U shY w x r M 67 [(0, .ref (w.2.2.1 0)), (1, .int a1), (2, .int a2), (3, .int a3), (4, .int v4)] [.int q15, .ref (w.2.2.1 14)]
      refine u_aload_n g 0 dX11_both_67 rfl ?_
      refine u_iload_n g 2 dX11_both_68 rfl ?_
      refine u_iload g 4 dX11_both_69 rfl ?_
      obtain ⟨q17, hq18, h⟩ := ob_bind h
      refine u_callV (st := [.int q15, .ref (w.2.2.1 14)]) g wv_X11_136 [.int a2, .int v4] (show 0 < shY.1 by decide) ceY_0 rfl rfl (t_X11_quorumOf w x.2.1 hq18) (by decide) (by decide) rfl (Nat.le_of_ble_eq_true rfl) rfl dX11_both_71 ?_
      show U shY w x r M 74 [(0, .ref (w.2.2.1 0)), (1, .int a1), (2, .int a2), (3, .int a3), (4, .int v4)] [.int q17, .int q15, .ref (w.2.2.1 14)]
      refine u_ior g dX11_both_74 ?_
      refine u_iconst g (v := (1 : Int32)) dX11_both_75 rfl ?_
      obtain ⟨e19, h⟩ := ob_if h
      refine aY_zst g (c := 14) 65536 rfl (Or.inr rfl) (inB_in e19) (j := (q15 ||| q17).toNatClampNeg) rfl dX11_both_76 ?_
      refine u_iinc g 4 [(4, .int (v4 + (1 : Int32))), (0, .ref (w.2.2.1 0)), (1, .int a1), (2, .int a2), (3, .int a3)] dX11_both_77 rfl rfl (by decide) rfl ?_
      refine u_goto g 46 dX11_both_80 (by decide) ?_
      exact u_sub [1, 2, 3, 4, 0] rfl (ih (v4 + (1 : Int32)) (sI M 14 (q15 ||| q17).toNatClampNeg (1 : Int32)) _ h K)
set_option maxRecDepth 100000 in
set_option maxHeartbeats 4000000 in
theorem s_X11_both_l1 {w : Wp} {x : Cx} {r : Option Value × Mem} (g : Gd shY w x RX11 cX11_both 5 (some .int) 3) (a1 : Int32) (a2 : Int32)  : ∀ (n : Nat) (v3 : Int32) (M : Mem) (q : Mem), f_X11_both_l1 a1 a2 n v3 M = some q → U shY w x r q 89 [(0, .ref (w.2.2.1 0))] [] → U shY w x r M 33 [(0, .ref (w.2.2.1 0)), (1, .int a1), (2, .int a2), (3, .int v3)] [] := by
  intro n
  induction n with
  | zero => intro v3 M q h K; rw [f_X11_both_l1] at h; cases h
  | succ n ih =>
    intro v3 M q h K
    rw [f_X11_both_l1] at h
    refine u_iload_n g 3 dX11_both_33 rfl ?_
    refine u_aload_n g 0 dX11_both_34 rfl ?_
    refine gfX11_9 g wf_X11_25 dX11_both_35 ?_
    refine u_iload_n g 1 dX11_both_38 rfl ?_
    obtain ⟨e11, h⟩ := ob_if h
    refine aY_ild g (c := 6) 24 (by decide) rfl (v := (M.1 6 a1.toNatClampNeg)) (inB_in e11) rfl dX11_both_39 ?_
    refine u_icmp_ge g 89 dX11_both_40 (by decide) (fun b12 => ?_) (fun b12 => ?_)
    · have h := ob_pos b12 h
      obtain rfl := Option.some.inj h
      exact u_sub [0] rfl K
    · have h := ob_neg b12 h
      refine u_iconst g (v := (0 : Int32)) dX11_both_43 rfl ?_
      refine u_istore g [(4, .int (0 : Int32)), (0, .ref (w.2.2.1 0)), (1, .int a1), (2, .int a2), (3, .int v3)] dX11_both_44 (by decide) rfl ?_
      obtain ⟨q13, hq14, h⟩ := ob_bind h
      refine u_sub [1, 2, 3, 4, 0] rfl (s_X11_both_l2 g a1 a2 v3 fuelN (0 : Int32) M _ hq14 ?_)
      show U shY w x r q13 83 [(0, .ref (w.2.2.1 0)), (1, .int a1), (2, .int a2), (3, .int v3)] []
      refine u_iinc g 3 [(3, .int (v3 + (1 : Int32))), (0, .ref (w.2.2.1 0)), (1, .int a1), (2, .int a2)] dX11_both_83 rfl rfl (by decide) rfl ?_
      refine u_goto g 33 dX11_both_86 (by decide) ?_
      exact u_sub [1, 2, 3, 0] rfl (ih (v3 + (1 : Int32)) q13 _ h K)
set_option maxRecDepth 100000 in
set_option maxHeartbeats 4000000 in
theorem t_X11_both (w : Wp) (l : Launch) {a1 : Int32} {a2 : Int32} {M : Mem} {q : Int32 × Mem} (h : f_X11_both a1 a2 M = some q) : Ct shY w l yX11_both cX11_both 5 (some .int) 3 [.ref (w.2.2.1 0), .int a1, .int a2] M (some (.int q.1), q.2) := by
  rw [f_X11_both] at h
  refine ct_of shY_loc (by decide) (Nat.le_of_ble_eq_true rfl) rfl (fun x hx g => ?_)
  subst hx
  show U shY w x _ M 0 [(0, .ref (w.2.2.1 0)), (1, .int a1), (2, .int a2)] []
  generalize hr : ((some (.int q.1), q.2) : Option Value × Mem) = r
  have g : Gd shY w x RX11 cX11_both 5 (some .int) 3 := g
  refine u_aload_n g 0 dX11_both_0 rfl ?_
  refine u_iconst g (v := (0 : Int32)) dX11_both_1 rfl ?_
  refine pfX11_5 g wf_X11_84 dX11_both_2 ?_
  refine u_aload_n g 0 dX11_both_5 rfl ?_
  refine u_iload_n g 1 dX11_both_6 rfl ?_
  obtain ⟨q1, hq2, h⟩ := ob_bind h
  refine u_callV (st := []) g wv_X11_163 [.int a1] (show 0 < shY.1 by decide) ceY_0 rfl rfl (t_X11_isFamily w x.2.1 hq2) (by decide) (by decide) rfl (Nat.le_of_ble_eq_true rfl) rfl dX11_both_7 ?_
  show U shY w x r (sI M 0 5 (0 : Int32)) 10 [(0, .ref (w.2.2.1 0)), (1, .int a1), (2, .int a2)] [.int q1]
  refine u_if_eq g 21 dX11_both_10 (by decide) (fun b3 => ?_) (fun b3 => ?_)
  · have h := ob_pos b3 h
    refine u_aload_n g 0 dX11_both_21 rfl ?_
    refine u_iconst g (v := (1 : Int32)) dX11_both_22 rfl ?_
    obtain ⟨q4, hq5, h⟩ := ob_bind h
    refine u_callV (st := []) g wv_X11_115 [.int (1 : Int32)] (show 0 < shY.1 by decide) ceY_0 rfl rfl (t_X11_no w x.2.1 hq5) (by decide) (by decide) rfl (Nat.le_of_ble_eq_true rfl) rfl dX11_both_23 ?_
    show U shY w x r q4.2 26 [(0, .ref (w.2.2.1 0)), (1, .int a1), (2, .int a2)] [.int q4.1]
    exact u_iret g dX11_both_26 (by rw [← hr]; obtain rfl := Option.some.inj h; rfl)
  · have h := ob_neg b3 h
    refine u_aload_n g 0 dX11_both_13 rfl ?_
    refine u_iload_n g 2 dX11_both_14 rfl ?_
    obtain ⟨q6, hq7, h⟩ := ob_bind h
    refine u_callV (st := []) g wv_X11_163 [.int a2] (show 0 < shY.1 by decide) ceY_0 rfl rfl (t_X11_isFamily w x.2.1 hq7) (by decide) (by decide) rfl (Nat.le_of_ble_eq_true rfl) rfl dX11_both_15 ?_
    show U shY w x r (sI M 0 5 (0 : Int32)) 18 [(0, .ref (w.2.2.1 0)), (1, .int a1), (2, .int a2)] [.int q6]
    refine u_if_ne g 27 dX11_both_18 (by decide) (fun b8 => ?_) (fun b8 => ?_)
    · have h := ob_neg b8 h
      refine u_aload_n g 0 dX11_both_27 rfl ?_
      obtain ⟨q9, hq10, h⟩ := ob_bind h
      refine u_callV (st := []) g wv_X11_133 [] (show 0 < shY.1 by decide) ceY_0 rfl rfl (t_X11_noSets w x.2.1 hq10) (by decide) (by decide) rfl (Nat.le_of_ble_eq_true rfl) rfl dX11_both_28 ?_
      show U shY w x r q9 31 [(0, .ref (w.2.2.1 0)), (1, .int a1), (2, .int a2)] []
      refine u_iconst g (v := (0 : Int32)) dX11_both_31 rfl ?_
      refine u_istore_n g [(3, .int (0 : Int32)), (0, .ref (w.2.2.1 0)), (1, .int a1), (2, .int a2)] dX11_both_32 (by decide) rfl ?_
      obtain ⟨q11, hq12, h⟩ := ob_bind h
      refine u_sub [1, 2, 3, 0] rfl (s_X11_both_l1 g a1 a2 fuelN (0 : Int32) q9 _ hq12 ?_)
      show U shY w x r q11 89 [(0, .ref (w.2.2.1 0))] []
      refine u_aload_n g 0 dX11_both_89 rfl ?_
      refine u_bipush g (v := (9 : Int32)) dX11_both_90 rfl ?_
      obtain ⟨q13, hq14, h⟩ := ob_bind h
      refine u_callV (st := []) g wv_X11_143 [.int (9 : Int32)] (show 0 < shY.1 by decide) ceY_0 rfl rfl (t_X11_made w x.2.1 hq14) (by decide) (by decide) rfl (Nat.le_of_ble_eq_true rfl) rfl dX11_both_92 ?_
      show U shY w x r q13.2 95 [(0, .ref (w.2.2.1 0))] [.int q13.1]
      exact u_iret g dX11_both_95 (by rw [← hr]; obtain rfl := Option.some.inj h; rfl)
    · have h := ob_pos b8 h
      refine u_aload_n g 0 dX11_both_21 rfl ?_
      refine u_iconst g (v := (1 : Int32)) dX11_both_22 rfl ?_
      obtain ⟨q15, hq16, h⟩ := ob_bind h
      refine u_callV (st := []) g wv_X11_115 [.int (1 : Int32)] (show 0 < shY.1 by decide) ceY_0 rfl rfl (t_X11_no w x.2.1 hq16) (by decide) (by decide) rfl (Nat.le_of_ble_eq_true rfl) rfl dX11_both_23 ?_
      show U shY w x r q15.2 26 [(0, .ref (w.2.2.1 0)), (1, .int a1), (2, .int a2)] [.int q15.1]
      exact u_iret g dX11_both_26 (by rw [← hr]; obtain rfl := Option.some.inj h; rfl)
set_option maxRecDepth 100000 in
set_option maxHeartbeats 4000000 in
theorem s_X11_apartOf_l2 {w : Wp} {x : Cx} {r : Option Value × Mem} (g : Gd shY w x RX11 cX11_apartOf 5 (some .int) 1) (a1 : Int32) (a2 : Int32) (a3 : Int32)  (M : Mem) : ∀ (n : Nat) (v4 : Int32) (q : (Unit) ⊕ (Int32)), f_X11_apartOf_l2 a1 a2 a3 M n v4 = some q → (∀ e : Unit, q = .inl e → U shY w x r M 69 [(0, .ref (w.2.2.1 0)), (1, .int a1), (2, .int a2), (3, .int a3)] []) → (∀ v : Int32, q = .inr v → r = (some (.int v), M)) → U shY w x r M 26 [(0, .ref (w.2.2.1 0)), (1, .int a1), (2, .int a2), (3, .int a3), (4, .int v4)] [] := by
  intro n
  induction n with
  | zero => intro v4 q h K1 K2; rw [f_X11_apartOf_l2] at h; cases h
  | succ n ih =>
    intro v4 q h K1 K2
    rw [f_X11_apartOf_l2] at h
    refine u_iload g 4 dX11_apartOf_26 rfl ?_
    refine u_aload_n g 0 dX11_apartOf_28 rfl ?_
    refine gfX11_9 g wf_X11_25 dX11_apartOf_29 ?_
    refine u_iload_n g 2 dX11_apartOf_32 rfl ?_
    obtain ⟨e6, h⟩ := ob_if h
    refine aY_ild g (c := 6) 24 (by decide) rfl (v := (M.1 6 a2.toNatClampNeg)) (inB_in e6) rfl dX11_apartOf_33 ?_
    refine u_icmp_ge g 69 dX11_apartOf_34 (by decide) (fun b7 => ?_) (fun b7 => ?_)
    · have h := ob_pos b7 h
      exact u_sub [0, 1, 2, 3] rfl (K1 _ (Option.some.inj h).symm)
    · have h := ob_neg b7 h
      refine u_aload_n g 0 dX11_apartOf_37 rfl ?_
      refine u_iload_n g 1 dX11_apartOf_38 rfl ?_
      refine u_iload_n g 3 dX11_apartOf_39 rfl ?_
      obtain ⟨q8, hq9, h⟩ := ob_bind h
      refine u_callV (st := []) g wv_X11_136 [.int a1, .int a3] (show 0 < shY.1 by decide) ceY_0 rfl rfl (t_X11_quorumOf w x.2.1 hq9) (by decide) (by decide) rfl (Nat.le_of_ble_eq_true rfl) rfl dX11_apartOf_40 ?_
      show U shY w x r M 43 [(0, .ref (w.2.2.1 0)), (1, .int a1), (2, .int a2), (3, .int a3), (4, .int v4)] [.int q8]
      refine u_aload_n g 0 dX11_apartOf_43 rfl ?_
      refine u_iload_n g 2 dX11_apartOf_44 rfl ?_
      refine u_iload g 4 dX11_apartOf_45 rfl ?_
      obtain ⟨q10, hq11, h⟩ := ob_bind h
      refine u_callV (st := [.int q8]) g wv_X11_136 [.int a2, .int v4] (show 0 < shY.1 by decide) ceY_0 rfl rfl (t_X11_quorumOf w x.2.1 hq11) (by decide) (by decide) rfl (Nat.le_of_ble_eq_true rfl) rfl dX11_apartOf_47 ?_
      show U shY w x r M 50 [(0, .ref (w.2.2.1 0)), (1, .int a1), (2, .int a2), (3, .int a3), (4, .int v4)] [.int q10, .int q8]
      refine u_iand g dX11_apartOf_50 ?_
      refine u_if_ne g 63 dX11_apartOf_51 (by decide) (fun b12 => ?_) (fun b12 => ?_)
      · have h := ob_neg b12 h
        refine u_iinc g 4 [(4, .int (v4 + (1 : Int32))), (0, .ref (w.2.2.1 0)), (1, .int a1), (2, .int a2), (3, .int a3)] dX11_apartOf_63 rfl rfl (by decide) rfl ?_
        refine u_goto g 26 dX11_apartOf_66 (by decide) ?_
        exact u_sub [1, 2, 3, 4, 0] rfl (ih (v4 + (1 : Int32)) _ h K1 K2)
      · have h := ob_pos b12 h
        refine u_sipush g (v := (1000 : Int32)) dX11_apartOf_54 rfl ?_
        refine u_iload_n g 3 dX11_apartOf_57 rfl ?_
        refine u_imul g dX11_apartOf_58 ?_
        refine u_iload g 4 dX11_apartOf_59 rfl ?_
        refine u_iadd g dX11_apartOf_61 ?_
        exact u_iret g dX11_apartOf_62 (K2 _ (Option.some.inj h).symm)
set_option maxRecDepth 100000 in
set_option maxHeartbeats 4000000 in
theorem s_X11_apartOf_l1 {w : Wp} {x : Cx} {r : Option Value × Mem} (g : Gd shY w x RX11 cX11_apartOf 5 (some .int) 1) (a1 : Int32) (a2 : Int32)  (M : Mem) : ∀ (n : Nat) (v3 : Int32) (q : (Unit) ⊕ (Int32)), f_X11_apartOf_l1 a1 a2 M n v3 = some q → (∀ e : Unit, q = .inl e → U shY w x r M 75 [] []) → (∀ v : Int32, q = .inr v → r = (some (.int v), M)) → U shY w x r M 2 [(0, .ref (w.2.2.1 0)), (1, .int a1), (2, .int a2), (3, .int v3)] [] := by
  intro n
  induction n with
  | zero => intro v3 q h K1 K2; rw [f_X11_apartOf_l1] at h; cases h
  | succ n ih =>
    intro v3 q h K1 K2
    rw [f_X11_apartOf_l1] at h
    refine u_iload_n g 3 dX11_apartOf_2 rfl ?_
    refine u_aload_n g 0 dX11_apartOf_3 rfl ?_
    refine gfX11_9 g wf_X11_25 dX11_apartOf_4 ?_
    refine u_iload_n g 1 dX11_apartOf_7 rfl ?_
    obtain ⟨e1, h⟩ := ob_if h
    refine aY_ild g (c := 6) 24 (by decide) rfl (v := (M.1 6 a1.toNatClampNeg)) (inB_in e1) rfl dX11_apartOf_8 ?_
    refine u_icmp_ge g 75 dX11_apartOf_9 (by decide) (fun b2 => ?_) (fun b2 => ?_)
    · have h := ob_pos b2 h
      exact u_sub [] rfl (K1 _ (Option.some.inj h).symm)
    · have h := ob_neg b2 h
      refine u_iload_n g 1 dX11_apartOf_12 rfl ?_
      refine u_iload_n g 2 dX11_apartOf_13 rfl ?_
      obtain ⟨q3, hq4, h⟩ := ob_bind h
      have K5 : U shY w x r M 24 [(0, .ref (w.2.2.1 0)), (1, .int a1), (2, .int a2), (3, .int v3)] [.int q3] := by
        refine u_istore g [(4, .int q3), (0, .ref (w.2.2.1 0)), (1, .int a1), (2, .int a2), (3, .int v3)] dX11_apartOf_24 (by decide) rfl ?_
        obtain ⟨q6, hq7, h⟩ := ob_bind h
        refine u_sub [1, 2, 3, 4, 0] rfl (s_X11_apartOf_l2 g a1 a2 v3 M fuelN q3 _ hq7 (fun e8 he10 => ?_) (fun v9 he10 => ?_))
        · subst he10
          have h := ob_inl h
          refine u_iinc g 3 [(3, .int (v3 + (1 : Int32))), (0, .ref (w.2.2.1 0)), (1, .int a1), (2, .int a2)] dX11_apartOf_69 rfl rfl (by decide) rfl ?_
          refine u_goto g 2 dX11_apartOf_72 (by decide) ?_
          exact u_sub [1, 2, 3, 0] rfl (ih (v3 + (1 : Int32)) _ h K1 K2)
        · subst he10
          have h := ob_inr h
          exact K2 _ (Option.some.inj h).symm
      have h := hq4
      refine u_icmp_ne g 23 dX11_apartOf_14 (by decide) (fun b11 => ?_) (fun b11 => ?_)
      · have h := ob_neg b11 h
        refine u_iconst g (v := (0 : Int32)) dX11_apartOf_23 rfl ?_
        obtain rfl := Option.some.inj h
        exact u_sub [0, 1, 2, 3] rfl K5
      · have h := ob_pos b11 h
        refine u_iload_n g 3 dX11_apartOf_17 rfl ?_
        refine u_iconst g (v := (1 : Int32)) dX11_apartOf_18 rfl ?_
        refine u_iadd g dX11_apartOf_19 ?_
        refine u_goto g 24 dX11_apartOf_20 (by decide) ?_
        obtain rfl := Option.some.inj h
        exact u_sub [0, 1, 2, 3] rfl K5
set_option maxRecDepth 100000 in
set_option maxHeartbeats 4000000 in
theorem t_X11_apartOf (w : Wp) (l : Launch) {a1 : Int32} {a2 : Int32} {M : Mem} {q : Int32} (h : f_X11_apartOf a1 a2 M = some q) : Ct shY w l yX11_apartOf cX11_apartOf 5 (some .int) 1 [.ref (w.2.2.1 0), .int a1, .int a2] M (some (.int q), M) := by
  rw [f_X11_apartOf] at h
  refine ct_of shY_loc (by decide) (Nat.le_of_ble_eq_true rfl) rfl (fun x hx g => ?_)
  subst hx
  show U shY w x _ M 0 [(0, .ref (w.2.2.1 0)), (1, .int a1), (2, .int a2)] []
  generalize hr : ((some (.int q), M) : Option Value × Mem) = r
  have g : Gd shY w x RX11 cX11_apartOf 5 (some .int) 1 := g
  refine u_iconst g (v := (0 : Int32)) dX11_apartOf_0 rfl ?_
  refine u_istore_n g [(3, .int (0 : Int32)), (0, .ref (w.2.2.1 0)), (1, .int a1), (2, .int a2)] dX11_apartOf_1 (by decide) rfl ?_
  obtain ⟨q1, hq2, h⟩ := ob_bind h
  refine u_sub [1, 2, 3, 0] rfl (s_X11_apartOf_l1 g a1 a2 M fuelN (0 : Int32) _ hq2 (fun e3 he5 => ?_) (fun v4 he5 => ?_))
  · subst he5
    have h := ob_inl h
    refine u_bipush g (v := (-2 : Int32)) dX11_apartOf_75 rfl ?_
    exact u_iret g dX11_apartOf_77 (by rw [← hr]; obtain rfl := Option.some.inj h; rfl)
  · subst he5
    have h := ob_inr h
    obtain rfl := Option.some.inj h
    exact hr.symm
set_option maxRecDepth 100000 in
set_option maxHeartbeats 4000000 in
theorem s_X11_better_l1 {w : Wp} {x : Cx} {r : Option Value × Mem} (g : Gd shY w x RX11 cX11_better 7 (some .int) 3) (a1 : Int32)  : ∀ (n : Nat) (v3 : Int32) (M : Mem) (q : Mem), f_X11_better_l1 a1 n v3 M = some q → U shY w x r q 95 [(0, .ref (w.2.2.1 0)), (1, .int a1)] [] → U shY w x r M 64 [(0, .ref (w.2.2.1 0)), (1, .int a1), (3, .int v3)] [] := by
  intro n
  induction n with
  | zero => intro v3 M q h K; rw [f_X11_better_l1] at h; cases h
  | succ n ih =>
    intro v3 M q h K
    rw [f_X11_better_l1] at h
    refine u_iload_n g 2 dX11_better_64 rfl ?_
    refine u_ldc g wk_X11_49 dX11_better_65 ?_
    refine u_icmp_ge g 95 dX11_better_67 (by decide) (fun b12 => ?_) (fun b12 => ?_)
    · have h := ob_pos b12 h
      obtain rfl := Option.some.inj h
      exact u_sub [0, 1] rfl K
    · have h := ob_neg b12 h
      refine u_aload_n g 0 dX11_better_70 rfl ?_
      refine gfX11_31 g wf_X11_75 dX11_better_71 ?_
      refine u_iload_n g 2 dX11_better_74 rfl ?_
      refine u_aload_n g 0 dX11_better_75 rfl ?_
      refine gfX11_22 g wf_X11_54 dX11_better_76 ?_
      refine u_iload_n g 2 dX11_better_79 rfl ?_
      obtain ⟨e13, h⟩ := ob_if h
      refine aY_zld g (c := 15) 65536 rfl (v := (M.1 15 v3.toNatClampNeg)) (inB_in e13) rfl dX11_better_80 ?_
      obtain ⟨e14, h⟩ := ob_if h
      obtain ⟨e15, h⟩ := ob_if h
      refine aY_zst g (c := 22) 65536 rfl e15 (inB_in e14) (j := v3.toNatClampNeg) rfl dX11_better_81 ?_
      refine u_aload_n g 0 dX11_better_82 rfl ?_
      refine gfX11_32 g wf_X11_78 dX11_better_83 ?_
      refine u_iload_n g 2 dX11_better_86 rfl ?_
      refine u_iconst g (v := (0 : Int32)) dX11_better_87 rfl ?_
      obtain ⟨e16, h⟩ := ob_if h
      refine aY_zst g (c := 23) 65536 rfl (Or.inl rfl) (inB_in e16) (j := v3.toNatClampNeg) rfl dX11_better_88 ?_
      refine u_iinc g 2 [(3, .int (v3 + (1 : Int32))), (0, .ref (w.2.2.1 0)), (1, .int a1)] dX11_better_89 rfl rfl (by decide) rfl ?_
      refine u_goto g 64 dX11_better_92 (by decide) ?_
      exact u_sub [1, 2, 0] rfl (ih (v3 + (1 : Int32)) (sI (sI M 22 v3.toNatClampNeg (M.1 15 v3.toNatClampNeg)) 23 v3.toNatClampNeg (0 : Int32)) _ h K)
set_option maxRecDepth 100000 in
set_option maxHeartbeats 4000000 in
theorem s_X11_better_l3 {w : Wp} {x : Cx} {r : Option Value × Mem} (g : Gd shY w x RX11 cX11_better 7 (some .int) 3) (a1 : Int32) (a3 : Int32) (a4 : Int32) (a5 : Int32)  : ∀ (n : Nat) (v6 : Int32) (M : Mem) (q : Mem), f_X11_better_l3 a1 a3 a4 a5 n v6 M = some q → U shY w x r q 188 [(0, .ref (w.2.2.1 0)), (1, .int a1), (3, .int a3), (4, .int a4)] [] → U shY w x r M 160 [(0, .ref (w.2.2.1 0)), (1, .int a1), (3, .int a3), (4, .int a4), (5, .int a5), (6, .int v6)] [] := by
  intro n
  induction n with
  | zero => intro v6 M q h K; rw [f_X11_better_l3] at h; cases h
  | succ n ih =>
    intro v6 M q h K
    rw [f_X11_better_l3] at h
    refine u_iload g 5 dX11_better_160 rfl ?_
    refine u_if_le g 188 dX11_better_162 (by decide) (fun b22 => ?_) (fun b22 => ?_)
    · have h := ob_pos b22 h
      obtain rfl := Option.some.inj h
      exact u_sub [0, 1, 2, 3] rfl K
    · have h := ob_neg b22 h
      refine u_aload_n g 0 dX11_better_165 rfl ?_
      refine gfX11_31 g wf_X11_75 dX11_better_166 ?_
      refine u_iload g 3 dX11_better_169 rfl ?_
      refine u_iload g 5 dX11_better_171 rfl ?_
      refine u_ior g dX11_better_173 ?_
      refine u_iconst g (v := (1 : Int32)) dX11_better_174 rfl ?_
      obtain ⟨e23, h⟩ := ob_if h
      refine aY_zst g (c := 22) 65536 rfl (Or.inr rfl) (inB_in e23) (j := (a4 ||| v6).toNatClampNeg) rfl dX11_better_175 ?_
      refine u_iload g 5 dX11_better_176 rfl ?_
      refine u_iconst g (v := (1 : Int32)) dX11_better_178 rfl ?_
      refine u_isub g dX11_better_179 ?_
      refine u_iload g 4 dX11_better_180 rfl ?_
      refine u_iand g dX11_better_182 ?_
      refine u_istore g [(6, .int ((v6 - (1 : Int32)) &&& a5)), (0, .ref (w.2.2.1 0)), (1, .int a1), (3, .int a3), (4, .int a4), (5, .int a5)] dX11_better_183 (by decide) rfl ?_
      refine u_goto g 160 dX11_better_185 (by decide) ?_
      exact u_sub [1, 2, 3, 4, 5, 0] rfl (ih ((v6 - (1 : Int32)) &&& a5) (sI M 22 (a4 ||| v6).toNatClampNeg (1 : Int32)) _ h K)
set_option maxRecDepth 100000 in
set_option maxHeartbeats 4000000 in
theorem s_X11_better_l2 {w : Wp} {x : Cx} {r : Option Value × Mem} (g : Gd shY w x RX11 cX11_better 7 (some .int) 3) (a1 : Int32) (a3 : Int32)  : ∀ (n : Nat) (v4 : Int32) (M : Mem) (q : Mem), f_X11_better_l2 a1 a3 n v4 M = some q → U shY w x r q 207 [(0, .ref (w.2.2.1 0)), (1, .int a1)] [] → U shY w x r M 108 [(0, .ref (w.2.2.1 0)), (1, .int a1), (3, .int a3), (4, .int v4)] [] := by
  intro n
  induction n with
  | zero => intro v4 M q h K; rw [f_X11_better_l2] at h; cases h
  | succ n ih =>
    intro v4 M q h K
    rw [f_X11_better_l2] at h
    refine u_iload g 3 dX11_better_108 rfl ?_
    refine u_if_eq g 207 dX11_better_110 (by decide) (fun b16 => ?_) (fun b16 => ?_)
    · have h := ob_pos b16 h
      obtain rfl := Option.some.inj h
      exact u_sub [0, 1] rfl K
    · have h := ob_neg b16 h
      refine u_aload_n g 0 dX11_better_113 rfl ?_
      refine gfX11_31 g wf_X11_75 dX11_better_114 ?_
      refine u_iload g 3 dX11_better_117 rfl ?_
      obtain ⟨e17, h⟩ := ob_if h
      refine aY_zld g (c := 22) 65536 rfl (v := (M.1 22 v4.toNatClampNeg)) (inB_in e17) rfl dX11_better_119 ?_
      obtain ⟨q18, hq19, h⟩ := ob_bind h
      have K20 : U shY w x r q18 196 [(0, .ref (w.2.2.1 0)), (1, .int a1), (3, .int a3), (4, .int v4)] [] := by
        refine u_iload g 3 dX11_better_196 rfl ?_
        refine u_iload_n g 2 dX11_better_198 rfl ?_
        refine u_isub g dX11_better_199 ?_
        refine u_iload_n g 2 dX11_better_200 rfl ?_
        refine u_iand g dX11_better_201 ?_
        refine u_istore g [(4, .int ((v4 - a3) &&& a3)), (0, .ref (w.2.2.1 0)), (1, .int a1), (3, .int a3)] dX11_better_202 (by decide) rfl ?_
        refine u_goto g 108 dX11_better_204 (by decide) ?_
        exact u_sub [1, 2, 3, 0] rfl (ih ((v4 - a3) &&& a3) q18 _ h K)
      have h := hq19
      refine u_if_ne g 196 dX11_better_120 (by decide) (fun b21 => ?_) (fun b21 => ?_)
      · have h := ob_neg b21 h
        obtain rfl := Option.some.inj h
        exact u_sub [0, 1, 2, 3] rfl K20
      · have h := ob_pos b21 h
        refine u_aload_n g 0 dX11_better_123 rfl ?_
        refine gfX11_31 g wf_X11_75 dX11_better_124 ?_
        refine u_iload_n g 2 dX11_better_127 rfl ?_
        refine u_iload g 3 dX11_better_128 rfl ?_
        refine u_iconst g (v := (-1 : Int32)) dX11_better_130 rfl ?_
        refine u_ixor g dX11_better_131 ?_
        refine u_iand g dX11_better_132 ?_
        obtain ⟨e22, h⟩ := ob_if h
        refine aY_zld g (c := 22) 65536 rfl (v := (M.1 22 (a3 &&& (v4 ^^^ (-1 : Int32))).toNatClampNeg)) (inB_in e22) rfl dX11_better_133 ?_
        refine u_if_eq g 140 dX11_better_134 (by decide) (fun b23 => ?_) (fun b23 => ?_)
        · have h := ob_pos b23 h
          refine u_aload_n g 0 dX11_better_140 rfl ?_
          refine gfX11_32 g wf_X11_78 dX11_better_141 ?_
          refine u_iload g 3 dX11_better_144 rfl ?_
          refine u_iconst g (v := (1 : Int32)) dX11_better_146 rfl ?_
          obtain ⟨e24, h⟩ := ob_if h
          refine aY_zst g (c := 23) 65536 rfl (Or.inr rfl) (inB_in e24) (j := v4.toNatClampNeg) rfl dX11_better_147 ?_
          refine u_iload_n g 2 dX11_better_148 rfl ?_
          refine u_iload g 3 dX11_better_149 rfl ?_
          refine u_iconst g (v := (-1 : Int32)) dX11_better_151 rfl ?_
          refine u_ixor g dX11_better_152 ?_
          refine u_iand g dX11_better_153 ?_
          refine u_istore g [(5, .int (a3 &&& (v4 ^^^ (-1 : Int32)))), (0, .ref (w.2.2.1 0)), (1, .int a1), (3, .int a3), (4, .int v4)] dX11_better_154 (by decide) rfl ?_
          refine u_iload g 0 dX11_better_156 rfl ?_
          refine u_istore g [(6, .int (a3 &&& (v4 ^^^ (-1 : Int32)))), (5, .int (a3 &&& (v4 ^^^ (-1 : Int32)))), (0, .ref (w.2.2.1 0)), (1, .int a1), (3, .int a3), (4, .int v4)] dX11_better_158 (by decide) rfl ?_
          obtain ⟨q25, hq26, h⟩ := ob_bind h
          refine u_sub [2, 3, 4, 5, 1, 0] rfl (s_X11_better_l3 g a1 a3 v4 (a3 &&& (v4 ^^^ (-1 : Int32))) fuelN (a3 &&& (v4 ^^^ (-1 : Int32))) (sI M 23 v4.toNatClampNeg (1 : Int32)) _ hq26 ?_)
          show U shY w x r q25 188 [(0, .ref (w.2.2.1 0)), (1, .int a1), (3, .int a3), (4, .int v4)] []
          refine u_aload_n g 0 dX11_better_188 rfl ?_
          refine gfX11_31 g wf_X11_75 dX11_better_189 ?_
          refine u_iload g 3 dX11_better_192 rfl ?_
          refine u_iconst g (v := (1 : Int32)) dX11_better_194 rfl ?_
          obtain ⟨e27, h⟩ := ob_if h
          refine aY_zst g (c := 22) 65536 rfl (Or.inr rfl) (inB_in e27) (j := v4.toNatClampNeg) rfl dX11_better_195 ?_
          obtain rfl := Option.some.inj h
          exact u_sub [0, 1, 2, 3] rfl K20
        · have h := ob_neg b23 h
          refine u_goto g 196 dX11_better_137 (by decide) ?_
          obtain rfl := Option.some.inj h
          exact u_sub [0, 1, 2, 3] rfl K20
set_option maxRecDepth 100000 in
set_option maxHeartbeats 4000000 in
theorem s_X11_better_l4 {w : Wp} {x : Cx} {r : Option Value × Mem} (g : Gd shY w x RX11 cX11_better 7 (some .int) 3)   : ∀ (n : Nat) (v4 : Int32) (M : Mem) (q : Mem), f_X11_better_l4 n v4 M = some q → U shY w x r q 260 [(0, .ref (w.2.2.1 0))] [] → U shY w x r M 215 [(0, .ref (w.2.2.1 0)), (4, .int v4)] [] := by
  intro n
  induction n with
  | zero => intro v4 M q h K; rw [f_X11_better_l4] at h; cases h
  | succ n ih =>
    intro v4 M q h K
    rw [f_X11_better_l4] at h
    refine u_iload g 1 dX11_better_215 rfl ?_
    refine u_ldc g wk_X11_49 dX11_better_217 ?_
    refine u_icmp_ge g 260 dX11_better_219 (by decide) (fun b20 => ?_) (fun b20 => ?_)
    · have h := ob_pos b20 h
      obtain rfl := Option.some.inj h
      exact u_sub [0] rfl K
    · have h := ob_neg b20 h
      refine u_aload_n g 0 dX11_better_222 rfl ?_
      refine gfX11_21 g wf_X11_50 dX11_better_223 ?_
      refine u_iload g 1 dX11_better_226 rfl ?_
      refine u_aload_n g 0 dX11_better_228 rfl ?_
      refine gfX11_21 g wf_X11_50 dX11_better_229 ?_
      refine u_iload g 1 dX11_better_232 rfl ?_
      obtain ⟨e21, h⟩ := ob_if h
      refine aY_zld g (c := 14) 65536 rfl (v := (M.1 14 v4.toNatClampNeg)) (inB_in e21) rfl dX11_better_234 ?_
      obtain ⟨q22, hq23, h⟩ := ob_bind h
      have K24 : U shY w x r M 253 [(0, .ref (w.2.2.1 0)), (4, .int v4)] [.int q22, .int v4, .ref (w.2.2.1 14)] := by
        obtain ⟨e25, h⟩ := ob_if h
        obtain ⟨e26, h⟩ := ob_if h
        refine aY_zst g (c := 14) 65536 rfl e26 (inB_in e25) (j := v4.toNatClampNeg) rfl dX11_better_253 ?_
        refine u_iinc g 1 [(4, .int (v4 + (1 : Int32))), (0, .ref (w.2.2.1 0))] dX11_better_254 rfl rfl (by decide) rfl ?_
        refine u_goto g 215 dX11_better_257 (by decide) ?_
        exact u_sub [1, 0] rfl (ih (v4 + (1 : Int32)) (sI M 14 v4.toNatClampNeg q22) _ h K)
      have h := hq23
      refine u_if_ne g 248 dX11_better_235 (by decide) (fun b27 => ?_) (fun b27 => ?_)
      · have h := ob_neg b27 h
        refine u_iconst g (v := (1 : Int32)) dX11_better_248 rfl ?_
        refine u_goto g 253 dX11_better_249 (by decide) ?_
        obtain rfl := Option.some.inj h
        exact u_sub [0, 1] rfl K24
      · have h := ob_pos b27 h
        refine u_aload_n g 0 dX11_better_238 rfl ?_
        refine gfX11_32 g wf_X11_78 dX11_better_239 ?_
        refine u_iload g 1 dX11_better_242 rfl ?_
        obtain ⟨e28, h⟩ := ob_if h
        refine aY_zld g (c := 23) 65536 rfl (v := (M.1 23 v4.toNatClampNeg)) (inB_in e28) rfl dX11_better_244 ?_
        refine u_if_eq g 252 dX11_better_245 (by decide) (fun b29 => ?_) (fun b29 => ?_)
        · have h := ob_pos b29 h
          refine u_iconst g (v := (0 : Int32)) dX11_better_252 rfl ?_
          obtain rfl := Option.some.inj h
          exact u_sub [0, 1] rfl K24
        · have h := ob_neg b29 h
          refine u_iconst g (v := (1 : Int32)) dX11_better_248 rfl ?_
          refine u_goto g 253 dX11_better_249 (by decide) ?_
          obtain rfl := Option.some.inj h
          exact u_sub [0, 1] rfl K24
set_option maxRecDepth 100000 in
set_option maxHeartbeats 4000000 in
theorem t_X11_better (w : Wp) (l : Launch) {a1 : Int32} {M : Mem} {q : Int32 × Mem} (h : f_X11_better a1 M = some q) : Ct shY w l yX11_better cX11_better 7 (some .int) 3 [.ref (w.2.2.1 0), .int a1] M (some (.int q.1), q.2) := by
  rw [f_X11_better] at h
  refine ct_of shY_loc (by decide) (Nat.le_of_ble_eq_true rfl) rfl (fun x hx g => ?_)
  subst hx
  show U shY w x _ M 0 [(0, .ref (w.2.2.1 0)), (1, .int a1)] []
  generalize hr : ((some (.int q.1), q.2) : Option Value × Mem) = r
  have g : Gd shY w x RX11 cX11_better 7 (some .int) 3 := g
  refine u_aload_n g 0 dX11_better_0 rfl ?_
  refine u_iconst g (v := (0 : Int32)) dX11_better_1 rfl ?_
  refine pfX11_5 g wf_X11_84 dX11_better_2 ?_
  refine u_aload_n g 0 dX11_better_5 rfl ?_
  refine u_iload_n g 1 dX11_better_6 rfl ?_
  obtain ⟨q1, hq2, h⟩ := ob_bind h
  refine u_callV (st := []) g wv_X11_163 [.int a1] (show 0 < shY.1 by decide) ceY_0 rfl rfl (t_X11_isFamily w x.2.1 hq2) (by decide) (by decide) rfl (Nat.le_of_ble_eq_true rfl) rfl dX11_better_7 ?_
  show U shY w x r (sI M 0 5 (0 : Int32)) 10 [(0, .ref (w.2.2.1 0)), (1, .int a1)] [.int q1]
  refine u_if_ne g 19 dX11_better_10 (by decide) (fun b3 => ?_) (fun b3 => ?_)
  · have h := ob_neg b3 h
    refine u_aload_n g 0 dX11_better_19 rfl ?_
    refine u_iload_n g 1 dX11_better_20 rfl ?_
    refine u_iload_n g 1 dX11_better_21 rfl ?_
    obtain ⟨q4, hq5, h⟩ := ob_bind h
    refine u_callV (st := []) g wv_X11_172 [.int a1, .int a1] (show 0 < shY.1 by decide) ceY_0 rfl rfl (t_X11_apartOf w x.2.1 hq5) (by decide) (by decide) rfl (Nat.le_of_ble_eq_true rfl) rfl dX11_better_22 ?_
    show U shY w x r (sI M 0 5 (0 : Int32)) 25 [(0, .ref (w.2.2.1 0)), (1, .int a1)] [.int q4]
    refine u_bipush g (v := (-2 : Int32)) dX11_better_25 rfl ?_
    refine u_icmp_eq g 37 dX11_better_27 (by decide) (fun b6 => ?_) (fun b6 => ?_)
    · have h := ob_pos b6 h
      refine u_aload_n g 0 dX11_better_37 rfl ?_
      refine gfX11_11 g wf_X11_94 (v := (M.1 0 11)) rfl dX11_better_38 ?_
      refine u_bipush g (v := (24 : Int32)) dX11_better_41 rfl ?_
      refine u_icmp_ne g 52 dX11_better_43 (by decide) (fun b7 => ?_) (fun b7 => ?_)
      · have h := ob_neg b7 h
        refine u_aload_n g 0 dX11_better_52 rfl ?_
        refine u_iload_n g 1 dX11_better_53 rfl ?_
        obtain ⟨q8, hq9, h⟩ := ob_bind h
        refine u_callV (st := []) g wv_X11_175 [.int a1] (show 0 < shY.1 by decide) ceY_0 rfl rfl (t_X11_comeAll w x.2.1 hq9) (by decide) (by decide) rfl (Nat.le_of_ble_eq_true rfl) rfl dX11_better_54 ?_
        show U shY w x r q8 57 [(0, .ref (w.2.2.1 0)), (1, .int a1)] []
        refine u_aload_n g 0 dX11_better_57 rfl ?_
        obtain ⟨q10, hq11, h⟩ := ob_bind h
        refine u_callV (st := []) g wv_X11_129 [] (show 0 < shY.1 by decide) ceY_0 rfl rfl (t_X11_least w x.2.1 hq11) (by decide) (by decide) rfl (Nat.le_of_ble_eq_true rfl) rfl dX11_better_58 ?_
        show U shY w x r q10.2 61 [(0, .ref (w.2.2.1 0)), (1, .int a1)] [.int q10.1]
        refine u_istore_n g [(2, .int q10.1), (0, .ref (w.2.2.1 0)), (1, .int a1)] dX11_better_61 (by decide) rfl ?_
        refine u_iconst g (v := (0 : Int32)) dX11_better_62 rfl ?_
        refine u_istore_n g [(3, .int (0 : Int32)), (2, .int q10.1), (0, .ref (w.2.2.1 0)), (1, .int a1)] dX11_better_63 (by decide) rfl ?_
        obtain ⟨q12, hq13, h⟩ := ob_bind h
        refine u_sub [2, 3, 0] rfl (s_X11_better_l1 g a1 fuelN (0 : Int32) q10.2 _ hq13 ?_)
        show U shY w x r q12 95 [(0, .ref (w.2.2.1 0)), (1, .int a1)] []
        refine u_aload_n g 0 dX11_better_95 rfl ?_
        refine u_iload_n g 1 dX11_better_96 rfl ?_
        obtain ⟨q14, hq15, h⟩ := ob_bind h
        refine u_callV (st := []) g wv_X11_166 [.int a1] (show 0 < shY.1 by decide) ceY_0 rfl rfl (t_X11_allOf w x.2.1 hq15) (by decide) (by decide) rfl (Nat.le_of_ble_eq_true rfl) rfl dX11_better_97 ?_
        show U shY w x r q12 100 [(0, .ref (w.2.2.1 0)), (1, .int a1)] [.int q14]
        refine u_istore_n g [(3, .int q14), (0, .ref (w.2.2.1 0)), (1, .int a1)] dX11_better_100 (by decide) rfl ?_
        refine u_iconst g (v := (0 : Int32)) dX11_better_101 rfl ?_
        refine u_iload_n g 0 dX11_better_102 rfl ?_
        refine u_isub g dX11_better_103 ?_
        refine u_iload_n g 0 dX11_better_104 rfl ?_
        refine u_iand g dX11_better_105 ?_
        refine u_istore g [(4, .int (((0 : Int32) - q14) &&& q14)), (3, .int q14), (0, .ref (w.2.2.1 0)), (1, .int a1)] dX11_better_106 (by decide) rfl ?_
        obtain ⟨q16, hq17, h⟩ := ob_bind h
        refine u_sub [2, 3, 1, 0] rfl (s_X11_better_l2 g a1 q14 fuelN (((0 : Int32) - q14) &&& q14) q12 _ hq17 ?_)
        show U shY w x r q16 207 [(0, .ref (w.2.2.1 0)), (1, .int a1)] []
        refine u_aload_n g 0 dX11_better_207 rfl ?_
        refine u_iload_n g 1 dX11_better_208 rfl ?_
        obtain ⟨q18, hq19, h⟩ := ob_bind h
        refine u_callV (st := []) g wv_X11_175 [.int a1] (show 0 < shY.1 by decide) ceY_0 rfl rfl (t_X11_comeAll w x.2.1 hq19) (by decide) (by decide) rfl (Nat.le_of_ble_eq_true rfl) rfl dX11_better_209 ?_
        show U shY w x r q18 212 [(0, .ref (w.2.2.1 0)), (1, .int a1)] []
        refine u_iconst g (v := (0 : Int32)) dX11_better_212 rfl ?_
        refine u_istore g [(4, .int (0 : Int32)), (0, .ref (w.2.2.1 0)), (1, .int a1)] dX11_better_213 (by decide) rfl ?_
        obtain ⟨q20, hq21, h⟩ := ob_bind h
        refine u_sub [1, 0] rfl (s_X11_better_l4 g fuelN (0 : Int32) q18 _ hq21 ?_)
        show U shY w x r q20 260 [(0, .ref (w.2.2.1 0))] []
        refine u_aload_n g 0 dX11_better_260 rfl ?_
        refine u_bipush g (v := (10 : Int32)) dX11_better_261 rfl ?_
        obtain ⟨q22, hq23, h⟩ := ob_bind h
        refine u_callV (st := []) g wv_X11_143 [.int (10 : Int32)] (show 0 < shY.1 by decide) ceY_0 rfl rfl (t_X11_made w x.2.1 hq23) (by decide) (by decide) rfl (Nat.le_of_ble_eq_true rfl) rfl dX11_better_263 ?_
        show U shY w x r q22.2 266 [(0, .ref (w.2.2.1 0))] [.int q22.1]
        exact u_iret g dX11_better_266 (by rw [← hr]; obtain rfl := Option.some.inj h; rfl)
      · have h := ob_pos b7 h
        refine u_aload_n g 0 dX11_better_46 rfl ?_
        refine u_iconst g (v := (4 : Int32)) dX11_better_47 rfl ?_
        obtain ⟨q24, hq25, h⟩ := ob_bind h
        refine u_callV (st := []) g wv_X11_115 [.int (4 : Int32)] (show 0 < shY.1 by decide) ceY_0 rfl rfl (t_X11_no w x.2.1 hq25) (by decide) (by decide) rfl (Nat.le_of_ble_eq_true rfl) rfl dX11_better_48 ?_
        show U shY w x r q24.2 51 [(0, .ref (w.2.2.1 0)), (1, .int a1)] [.int q24.1]
        exact u_iret g dX11_better_51 (by rw [← hr]; obtain rfl := Option.some.inj h; rfl)
    · have h := ob_neg b6 h
      refine u_aload_n g 0 dX11_better_30 rfl ?_
      refine u_bipush g (v := (7 : Int32)) dX11_better_31 rfl ?_
      obtain ⟨q26, hq27, h⟩ := ob_bind h
      refine u_callV (st := []) g wv_X11_115 [.int (7 : Int32)] (show 0 < shY.1 by decide) ceY_0 rfl rfl (t_X11_no w x.2.1 hq27) (by decide) (by decide) rfl (Nat.le_of_ble_eq_true rfl) rfl dX11_better_33 ?_
      show U shY w x r q26.2 36 [(0, .ref (w.2.2.1 0)), (1, .int a1)] [.int q26.1]
      exact u_iret g dX11_better_36 (by rw [← hr]; obtain rfl := Option.some.inj h; rfl)
  · have h := ob_pos b3 h
    refine u_aload_n g 0 dX11_better_13 rfl ?_
    refine u_iconst g (v := (1 : Int32)) dX11_better_14 rfl ?_
    obtain ⟨q28, hq29, h⟩ := ob_bind h
    refine u_callV (st := []) g wv_X11_115 [.int (1 : Int32)] (show 0 < shY.1 by decide) ceY_0 rfl rfl (t_X11_no w x.2.1 hq29) (by decide) (by decide) rfl (Nat.le_of_ble_eq_true rfl) rfl dX11_better_15 ?_
    show U shY w x r q28.2 18 [(0, .ref (w.2.2.1 0)), (1, .int a1)] [.int q28.1]
    exact u_iret g dX11_better_18 (by rw [← hr]; obtain rfl := Option.some.inj h; rfl)
set_option maxRecDepth 100000 in
set_option maxHeartbeats 4000000 in
theorem s_X11_family_l1 {w : Wp} {x : Cx} {r : Option Value × Mem} (g : Gd shY w x RX11 cX11_family 7 (some .int) 2) (a1 : Int32) (a2 : Int32)  (M : Mem) : ∀ (n : Nat) (v3 : Int32) (v4 : Int32) (v5 : Int32) (q : Int32 × Int32), f_X11_family_l1 a1 a2 M n v3 v4 v5 = some q → U shY w x r M 83 [(0, .ref (w.2.2.1 0)), (1, .int a1), (2, .int a2), (3, .int q.1), (4, .int q.2)] [] → U shY w x r M 24 [(0, .ref (w.2.2.1 0)), (1, .int a1), (2, .int a2), (3, .int v3), (4, .int v4), (5, .int v5)] [] := by
  intro n
  induction n with
  | zero => intro v3 v4 v5 q h K; rw [f_X11_family_l1] at h; cases h
  | succ n ih =>
    intro v3 v4 v5 q h K
    rw [f_X11_family_l1] at h
    refine u_iload g 5 dX11_family_24 rfl ?_
    refine u_aload_n g 0 dX11_family_26 rfl ?_
    refine gfX11_9 g wf_X11_25 dX11_family_27 ?_
    refine u_iload_n g 1 dX11_family_30 rfl ?_
    obtain ⟨e4, h⟩ := ob_if h
    refine aY_ild g (c := 6) 24 (by decide) rfl (v := (M.1 6 a1.toNatClampNeg)) (inB_in e4) rfl dX11_family_31 ?_
    refine u_icmp_ge g 83 dX11_family_32 (by decide) (fun b5 => ?_) (fun b5 => ?_)
    · have h := ob_pos b5 h
      obtain rfl := Option.some.inj h
      exact u_sub [0, 1, 2, 3, 4] rfl K
    · have h := ob_neg b5 h
      refine u_aload_n g 0 dX11_family_35 rfl ?_
      refine u_aload_n g 0 dX11_family_36 rfl ?_
      refine u_iload_n g 1 dX11_family_37 rfl ?_
      refine u_iload g 5 dX11_family_38 rfl ?_
      obtain ⟨q6, hq7, h⟩ := ob_bind h
      refine u_callV (st := [.ref (w.2.2.1 0)]) g wv_X11_136 [.int a1, .int v5] (show 0 < shY.1 by decide) ceY_0 rfl rfl (t_X11_quorumOf w x.2.1 hq7) (by decide) (by decide) rfl (Nat.le_of_ble_eq_true rfl) rfl dX11_family_40 ?_
      show U shY w x r M 43 [(0, .ref (w.2.2.1 0)), (1, .int a1), (2, .int a2), (3, .int v3), (4, .int v4), (5, .int v5)] [.int q6, .ref (w.2.2.1 0)]
      obtain ⟨q8, hq9, h⟩ := ob_bind h
      refine u_callV (st := []) g wv_X11_179 [.int q6] (show 0 < shY.1 by decide) ceY_0 rfl rfl (t_X11_bitsOf w x.2.1 hq9) (by decide) (by decide) rfl (Nat.le_of_ble_eq_true rfl) rfl dX11_family_43 ?_
      show U shY w x r M 46 [(0, .ref (w.2.2.1 0)), (1, .int a1), (2, .int a2), (3, .int v3), (4, .int v4), (5, .int v5)] [.int q8]
      refine u_istore g [(6, .int q8), (0, .ref (w.2.2.1 0)), (1, .int a1), (2, .int a2), (3, .int v3), (4, .int v4), (5, .int v5)] dX11_family_46 (by decide) rfl ?_
      refine u_iload g 0 dX11_family_48 rfl ?_
      refine u_iload_n g 4 dX11_family_50 rfl ?_
      obtain ⟨q10, hq11, h⟩ := ob_bind h
      have K12 : U shY w x r M 60 [(0, .ref (w.2.2.1 0)), (1, .int a1), (2, .int a2), (4, .int v4), (5, .int v5), (6, .int q8)] [.int q10] := by
        refine u_istore_n g [(3, .int q10), (0, .ref (w.2.2.1 0)), (1, .int a1), (2, .int a2), (4, .int v4), (5, .int v5), (6, .int q8)] dX11_family_60 (by decide) rfl ?_
        refine u_iload g 6 dX11_family_61 rfl ?_
        refine u_iload g 4 dX11_family_63 rfl ?_
        obtain ⟨q13, hq14, h⟩ := ob_bind h
        have K15 : U shY w x r M 75 [(0, .ref (w.2.2.1 0)), (1, .int a1), (2, .int a2), (3, .int q10), (5, .int v5)] [.int q13] := by
          refine u_istore g [(4, .int q13), (0, .ref (w.2.2.1 0)), (1, .int a1), (2, .int a2), (3, .int q10), (5, .int v5)] dX11_family_75 (by decide) rfl ?_
          refine u_iinc g 5 [(5, .int (v5 + (1 : Int32))), (4, .int q13), (0, .ref (w.2.2.1 0)), (1, .int a1), (2, .int a2), (3, .int q10)] dX11_family_77 rfl rfl (by decide) rfl ?_
          refine u_goto g 24 dX11_family_80 (by decide) ?_
          exact u_sub [2, 3, 4, 5, 1, 0] rfl (ih q10 q13 (v5 + (1 : Int32)) _ h K)
        have h := hq14
        refine u_icmp_le g 73 dX11_family_65 (by decide) (fun b16 => ?_) (fun b16 => ?_)
        · have h := ob_pos b16 h
          refine u_iload g 4 dX11_family_73 rfl ?_
          obtain rfl := Option.some.inj h
          exact u_sub [1, 2, 3, 0, 5] rfl K15
        · have h := ob_neg b16 h
          refine u_iload g 6 dX11_family_68 rfl ?_
          refine u_goto g 75 dX11_family_70 (by decide) ?_
          obtain rfl := Option.some.inj h
          exact u_sub [1, 2, 3, 0, 5] rfl K15
      have h := hq11
      refine u_icmp_ge g 59 dX11_family_51 (by decide) (fun b17 => ?_) (fun b17 => ?_)
      · have h := ob_pos b17 h
        refine u_iload_n g 4 dX11_family_59 rfl ?_
        obtain rfl := Option.some.inj h
        exact u_sub [1, 2, 3, 5, 6, 0] rfl K12
      · have h := ob_neg b17 h
        refine u_iload g 0 dX11_family_54 rfl ?_
        refine u_goto g 60 dX11_family_56 (by decide) ?_
        obtain rfl := Option.some.inj h
        exact u_sub [1, 2, 3, 5, 6, 0] rfl K12
set_option maxRecDepth 100000 in
set_option maxHeartbeats 4000000 in
theorem t_X11_family (w : Wp) (l : Launch) {a1 : Int32} {a2 : Int32} {M : Mem} {q : Int32 × Mem} (h : f_X11_family a1 a2 M = some q) : Ct shY w l yX11_family cX11_family 7 (some .int) 2 [.ref (w.2.2.1 0), .int a1, .int a2] M (some (.int q.1), q.2) := by
  rw [f_X11_family] at h
  refine ct_of shY_loc (by decide) (Nat.le_of_ble_eq_true rfl) rfl (fun x hx g => ?_)
  subst hx
  show U shY w x _ M 0 [(0, .ref (w.2.2.1 0)), (1, .int a1), (2, .int a2)] []
  generalize hr : ((some (.int q.1), q.2) : Option Value × Mem) = r
  have g : Gd shY w x RX11 cX11_family 7 (some .int) 2 := g
  refine u_aload_n g 0 dX11_family_0 rfl ?_
  refine u_iconst g (v := (0 : Int32)) dX11_family_1 rfl ?_
  refine pfX11_5 g wf_X11_84 dX11_family_2 ?_
  refine u_aload_n g 0 dX11_family_5 rfl ?_
  refine u_iload_n g 1 dX11_family_6 rfl ?_
  obtain ⟨q1, hq2, h⟩ := ob_bind h
  refine u_callV (st := []) g wv_X11_163 [.int a1] (show 0 < shY.1 by decide) ceY_0 rfl rfl (t_X11_isFamily w x.2.1 hq2) (by decide) (by decide) rfl (Nat.le_of_ble_eq_true rfl) rfl dX11_family_7 ?_
  show U shY w x r (sI M 0 5 (0 : Int32)) 10 [(0, .ref (w.2.2.1 0)), (1, .int a1), (2, .int a2)] [.int q1]
  refine u_if_ne g 15 dX11_family_10 (by decide) (fun b3 => ?_) (fun b3 => ?_)
  · have h := ob_neg b3 h
    refine u_bipush g (v := (16 : Int32)) dX11_family_15 rfl ?_
    refine u_istore_n g [(3, .int (16 : Int32)), (0, .ref (w.2.2.1 0)), (1, .int a1), (2, .int a2)] dX11_family_17 (by decide) rfl ?_
    refine u_iconst g (v := (0 : Int32)) dX11_family_18 rfl ?_
    refine u_istore g [(4, .int (0 : Int32)), (3, .int (16 : Int32)), (0, .ref (w.2.2.1 0)), (1, .int a1), (2, .int a2)] dX11_family_19 (by decide) rfl ?_
    refine u_iconst g (v := (0 : Int32)) dX11_family_21 rfl ?_
    refine u_istore g [(5, .int (0 : Int32)), (4, .int (0 : Int32)), (3, .int (16 : Int32)), (0, .ref (w.2.2.1 0)), (1, .int a1), (2, .int a2)] dX11_family_22 (by decide) rfl ?_
    obtain ⟨q4, hq5, h⟩ := ob_bind h
    refine u_sub [3, 4, 5, 2, 1, 0] rfl (s_X11_family_l1 g a1 a2 (sI M 0 5 (0 : Int32)) fuelN (16 : Int32) (0 : Int32) (0 : Int32) _ hq5 ?_)
    show U shY w x r (sI M 0 5 (0 : Int32)) 83 [(0, .ref (w.2.2.1 0)), (1, .int a1), (2, .int a2), (3, .int q4.1), (4, .int q4.2)] []
    refine u_iload_n g 2 dX11_family_83 rfl ?_
    by_cases b6 : a2 = (0 : Int32)
    · have h := ob_pos b6 h
      refine u_tableIn g 120 dX11_family_84 (0 : Int32) b6 rfl rfl (by decide) ?_
      refine u_aload_n g 0 dX11_family_120 rfl ?_
      refine gfX11_8 g wf_X11_22 dX11_family_121 ?_
      refine u_iload_n g 1 dX11_family_124 rfl ?_
      obtain ⟨e7, h⟩ := ob_if h
      refine aY_ild g (c := 5) 24 (by decide) rfl (v := (M.1 5 a1.toNatClampNeg)) (inB_in e7) rfl dX11_family_125 ?_
      exact u_iret g dX11_family_126 (by rw [← hr]; obtain rfl := Option.some.inj h; rfl)
    have h := ob_neg b6 h
    by_cases b8 : a2 = (1 : Int32)
    · have h := ob_pos b8 h
      refine u_tableIn g 127 dX11_family_84 (1 : Int32) b8 rfl rfl (by decide) ?_
      refine u_aload_n g 0 dX11_family_127 rfl ?_
      refine gfX11_9 g wf_X11_25 dX11_family_128 ?_
      refine u_iload_n g 1 dX11_family_131 rfl ?_
      obtain ⟨e9, h⟩ := ob_if h
      refine aY_ild g (c := 6) 24 (by decide) rfl (v := (M.1 6 a1.toNatClampNeg)) (inB_in e9) rfl dX11_family_132 ?_
      exact u_iret g dX11_family_133 (by rw [← hr]; obtain rfl := Option.some.inj h; rfl)
    have h := ob_neg b8 h
    by_cases b10 : a2 = (2 : Int32)
    · have h := ob_pos b10 h
      refine u_tableIn g 134 dX11_family_84 (2 : Int32) b10 rfl rfl (by decide) ?_
      refine u_aload_n g 0 dX11_family_134 rfl ?_
      refine u_iload_n g 1 dX11_family_135 rfl ?_
      obtain ⟨q11, hq12, h⟩ := ob_bind h
      refine u_callV (st := []) g wv_X11_166 [.int a1] (show 0 < shY.1 by decide) ceY_0 rfl rfl (t_X11_allOf w x.2.1 hq12) (by decide) (by decide) rfl (Nat.le_of_ble_eq_true rfl) rfl dX11_family_136 ?_
      show U shY w x r (sI M 0 5 (0 : Int32)) 139 [(0, .ref (w.2.2.1 0)), (1, .int a1), (2, .int a2), (3, .int q4.1), (4, .int q4.2)] [.int q11]
      exact u_iret g dX11_family_139 (by rw [← hr]; obtain rfl := Option.some.inj h; rfl)
    have h := ob_neg b10 h
    by_cases b13 : a2 = (3 : Int32)
    · have h := ob_pos b13 h
      refine u_tableIn g 140 dX11_family_84 (3 : Int32) b13 rfl rfl (by decide) ?_
      refine u_iload_n g 3 dX11_family_140 rfl ?_
      exact u_iret g dX11_family_141 (by rw [← hr]; obtain rfl := Option.some.inj h; rfl)
    have h := ob_neg b13 h
    by_cases b14 : a2 = (4 : Int32)
    · have h := ob_pos b14 h
      refine u_tableIn g 142 dX11_family_84 (4 : Int32) b14 rfl rfl (by decide) ?_
      refine u_iload g 4 dX11_family_142 rfl ?_
      exact u_iret g dX11_family_144 (by rw [← hr]; obtain rfl := Option.some.inj h; rfl)
    have h := ob_neg b14 h
    refine u_tableOut g 145 dX11_family_84 (sw_out 4 (by decide) _ rfl (fun j hj => match j, hj with | 0, _ => b6 | 1, _ => b8 | 2, _ => b10 | 3, _ => b13 | 4, _ => b14 | k + 5, hk => absurd hk (by omega))) (by decide) ?_
    refine u_iconst g (v := (-1 : Int32)) dX11_family_145 rfl ?_
    exact u_iret g dX11_family_146 (by rw [← hr]; obtain rfl := Option.some.inj h; rfl)
  · have h := ob_pos b3 h
    refine u_iconst g (v := (-1 : Int32)) dX11_family_13 rfl ?_
    exact u_iret g dX11_family_14 (by rw [← hr]; obtain rfl := Option.some.inj h; rfl)
set_option maxRecDepth 100000 in
set_option maxHeartbeats 4000000 in
theorem t_X11_quorum (w : Wp) (l : Launch) {a1 : Int32} {a2 : Int32} {M : Mem} {q : Int32 × Mem} (h : f_X11_quorum a1 a2 M = some q) : Ct shY w l yX11_quorum cX11_quorum 3 (some .int) 2 [.ref (w.2.2.1 0), .int a1, .int a2] M (some (.int q.1), q.2) := by
  rw [f_X11_quorum] at h
  refine ct_of shY_loc (by decide) (Nat.le_of_ble_eq_true rfl) rfl (fun x hx g => ?_)
  subst hx
  show U shY w x _ M 0 [(0, .ref (w.2.2.1 0)), (1, .int a1), (2, .int a2)] []
  generalize hr : ((some (.int q.1), q.2) : Option Value × Mem) = r
  have g : Gd shY w x RX11 cX11_quorum 3 (some .int) 2 := g
  refine u_aload_n g 0 dX11_quorum_0 rfl ?_
  refine u_iconst g (v := (0 : Int32)) dX11_quorum_1 rfl ?_
  refine pfX11_5 g wf_X11_84 dX11_quorum_2 ?_
  refine u_aload_n g 0 dX11_quorum_5 rfl ?_
  refine u_iload_n g 1 dX11_quorum_6 rfl ?_
  obtain ⟨q1, hq2, h⟩ := ob_bind h
  refine u_callV (st := []) g wv_X11_163 [.int a1] (show 0 < shY.1 by decide) ceY_0 rfl rfl (t_X11_isFamily w x.2.1 hq2) (by decide) (by decide) rfl (Nat.le_of_ble_eq_true rfl) rfl dX11_quorum_7 ?_
  show U shY w x r (sI M 0 5 (0 : Int32)) 10 [(0, .ref (w.2.2.1 0)), (1, .int a1), (2, .int a2)] [.int q1]
  refine u_if_eq g 39 dX11_quorum_10 (by decide) (fun b3 => ?_) (fun b3 => ?_)
  · have h := ob_pos b3 h
    refine u_iconst g (v := (-1 : Int32)) dX11_quorum_39 rfl ?_
    exact u_iret g dX11_quorum_40 (by rw [← hr]; obtain rfl := Option.some.inj h; rfl)
  · have h := ob_neg b3 h
    refine u_aload_n g 0 dX11_quorum_13 rfl ?_
    refine u_iload_n g 2 dX11_quorum_14 rfl ?_
    refine u_iconst g (v := (0 : Int32)) dX11_quorum_15 rfl ?_
    refine u_aload_n g 0 dX11_quorum_16 rfl ?_
    refine gfX11_9 g wf_X11_25 dX11_quorum_17 ?_
    refine u_iload_n g 1 dX11_quorum_20 rfl ?_
    obtain ⟨e4, h⟩ := ob_if h
    refine aY_ild g (c := 6) 24 (by decide) rfl (v := (M.1 6 a1.toNatClampNeg)) (inB_in e4) rfl dX11_quorum_21 ?_
    refine u_iconst g (v := (1 : Int32)) dX11_quorum_22 rfl ?_
    refine u_isub g dX11_quorum_23 ?_
    obtain ⟨q5, hq6, h⟩ := ob_bind h
    refine u_callV (st := []) g wv_X11_97 [.int a2, .int (0 : Int32), .int ((M.1 6 a1.toNatClampNeg) - (1 : Int32))] (show 0 < shY.1 by decide) ceY_0 rfl rfl (t_X11_in w x.2.1 hq6) (by decide) (by decide) rfl (Nat.le_of_ble_eq_true rfl) rfl dX11_quorum_24 ?_
    show U shY w x r (sI M 0 5 (0 : Int32)) 27 [(0, .ref (w.2.2.1 0)), (1, .int a1), (2, .int a2)] [.int q5]
    refine u_if_eq g 39 dX11_quorum_27 (by decide) (fun b7 => ?_) (fun b7 => ?_)
    · have h := ob_pos b7 h
      refine u_iconst g (v := (-1 : Int32)) dX11_quorum_39 rfl ?_
      exact u_iret g dX11_quorum_40 (by rw [← hr]; obtain rfl := Option.some.inj h; rfl)
    · have h := ob_neg b7 h
      refine u_aload_n g 0 dX11_quorum_30 rfl ?_
      refine u_iload_n g 1 dX11_quorum_31 rfl ?_
      refine u_iload_n g 2 dX11_quorum_32 rfl ?_
      obtain ⟨q8, hq9, h⟩ := ob_bind h
      refine u_callV (st := []) g wv_X11_136 [.int a1, .int a2] (show 0 < shY.1 by decide) ceY_0 rfl rfl (t_X11_quorumOf w x.2.1 hq9) (by decide) (by decide) rfl (Nat.le_of_ble_eq_true rfl) rfl dX11_quorum_33 ?_
      show U shY w x r (sI M 0 5 (0 : Int32)) 36 [(0, .ref (w.2.2.1 0)), (1, .int a1), (2, .int a2)] [.int q8]
      refine u_goto g 40 dX11_quorum_36 (by decide) ?_
      exact u_iret g dX11_quorum_40 (by rw [← hr]; obtain rfl := Option.some.inj h; rfl)
set_option maxRecDepth 100000 in
set_option maxHeartbeats 4000000 in
theorem s_X11_hasOne_l1 {w : Wp} {x : Cx} {r : Option Value × Mem} (g : Gd shY w x RX11 cX11_hasOne 4 (some .boolean) 1) (a1 : Int32) (a2 : Int32)  (M : Mem) : ∀ (n : Nat) (v3 : Int32) (q : (Unit) ⊕ (Int32)), f_X11_hasOne_l1 a1 a2 M n v3 = some q → (∀ e : Unit, q = .inl e → U shY w x r M 33 [] []) → (∀ v : Int32, q = .inr v → r = (some (.int v), M)) → U shY w x r M 2 [(0, .ref (w.2.2.1 0)), (1, .int a1), (2, .int a2), (3, .int v3)] [] := by
  intro n
  induction n with
  | zero => intro v3 q h K1 K2; rw [f_X11_hasOne_l1] at h; cases h
  | succ n ih =>
    intro v3 q h K1 K2
    rw [f_X11_hasOne_l1] at h
    refine u_iload_n g 3 dX11_hasOne_2 rfl ?_
    refine u_aload_n g 0 dX11_hasOne_3 rfl ?_
    refine gfX11_9 g wf_X11_25 dX11_hasOne_4 ?_
    refine u_iload_n g 1 dX11_hasOne_7 rfl ?_
    obtain ⟨e1, h⟩ := ob_if h
    refine aY_ild g (c := 6) 24 (by decide) rfl (v := (M.1 6 a1.toNatClampNeg)) (inB_in e1) rfl dX11_hasOne_8 ?_
    refine u_icmp_ge g 33 dX11_hasOne_9 (by decide) (fun b2 => ?_) (fun b2 => ?_)
    · have h := ob_pos b2 h
      exact u_sub [] rfl (K1 _ (Option.some.inj h).symm)
    · have h := ob_neg b2 h
      refine u_aload_n g 0 dX11_hasOne_12 rfl ?_
      refine u_iload_n g 1 dX11_hasOne_13 rfl ?_
      refine u_iload_n g 3 dX11_hasOne_14 rfl ?_
      obtain ⟨q3, hq4, h⟩ := ob_bind h
      refine u_callV (st := []) g wv_X11_136 [.int a1, .int v3] (show 0 < shY.1 by decide) ceY_0 rfl rfl (t_X11_quorumOf w x.2.1 hq4) (by decide) (by decide) rfl (Nat.le_of_ble_eq_true rfl) rfl dX11_hasOne_15 ?_
      show U shY w x r M 18 [(0, .ref (w.2.2.1 0)), (1, .int a1), (2, .int a2), (3, .int v3)] [.int q3]
      refine u_iload_n g 2 dX11_hasOne_18 rfl ?_
      refine u_iconst g (v := (-1 : Int32)) dX11_hasOne_19 rfl ?_
      refine u_ixor g dX11_hasOne_20 ?_
      refine u_iand g dX11_hasOne_21 ?_
      refine u_if_ne g 27 dX11_hasOne_22 (by decide) (fun b5 => ?_) (fun b5 => ?_)
      · have h := ob_neg b5 h
        refine u_iinc g 3 [(3, .int (v3 + (1 : Int32))), (0, .ref (w.2.2.1 0)), (1, .int a1), (2, .int a2)] dX11_hasOne_27 rfl rfl (by decide) rfl ?_
        refine u_goto g 2 dX11_hasOne_30 (by decide) ?_
        exact u_sub [1, 2, 3, 0] rfl (ih (v3 + (1 : Int32)) _ h K1 K2)
      · have h := ob_pos b5 h
        refine u_iconst g (v := (1 : Int32)) dX11_hasOne_25 rfl ?_
        exact u_zret g (Or.inr rfl) dX11_hasOne_26 (K2 _ (Option.some.inj h).symm)
set_option maxRecDepth 100000 in
set_option maxHeartbeats 4000000 in
theorem t_X11_hasOne (w : Wp) (l : Launch) {a1 : Int32} {a2 : Int32} {M : Mem} {q : Int32} (h : f_X11_hasOne a1 a2 M = some q) : Ct shY w l yX11_hasOne cX11_hasOne 4 (some .boolean) 1 [.ref (w.2.2.1 0), .int a1, .int a2] M (some (.int q), M) := by
  rw [f_X11_hasOne] at h
  refine ct_of shY_loc (by decide) (Nat.le_of_ble_eq_true rfl) rfl (fun x hx g => ?_)
  subst hx
  show U shY w x _ M 0 [(0, .ref (w.2.2.1 0)), (1, .int a1), (2, .int a2)] []
  generalize hr : ((some (.int q), M) : Option Value × Mem) = r
  have g : Gd shY w x RX11 cX11_hasOne 4 (some .boolean) 1 := g
  refine u_iconst g (v := (0 : Int32)) dX11_hasOne_0 rfl ?_
  refine u_istore_n g [(3, .int (0 : Int32)), (0, .ref (w.2.2.1 0)), (1, .int a1), (2, .int a2)] dX11_hasOne_1 (by decide) rfl ?_
  obtain ⟨q1, hq2, h⟩ := ob_bind h
  refine u_sub [1, 2, 3, 0] rfl (s_X11_hasOne_l1 g a1 a2 M fuelN (0 : Int32) _ hq2 (fun e3 he5 => ?_) (fun v4 he5 => ?_))
  · subst he5
    have h := ob_inl h
    refine u_iconst g (v := (0 : Int32)) dX11_hasOne_33 rfl ?_
    exact u_zret g (Or.inl rfl) dX11_hasOne_34 (by rw [← hr]; obtain rfl := Option.some.inj h; rfl)
  · subst he5
    have h := ob_inr h
    obtain rfl := Option.some.inj h
    exact hr.symm
set_option maxRecDepth 100000 in
set_option maxHeartbeats 4000000 in
theorem t_X11_has (w : Wp) (l : Launch) {a1 : Int32} {a2 : Int32} {M : Mem} {q : Int32 × Mem} (h : f_X11_has a1 a2 M = some q) : Ct shY w l yX11_has cX11_has 3 (some .int) 2 [.ref (w.2.2.1 0), .int a1, .int a2] M (some (.int q.1), q.2) := by
  rw [f_X11_has] at h
  refine ct_of shY_loc (by decide) (Nat.le_of_ble_eq_true rfl) rfl (fun x hx g => ?_)
  subst hx
  show U shY w x _ M 0 [(0, .ref (w.2.2.1 0)), (1, .int a1), (2, .int a2)] []
  generalize hr : ((some (.int q.1), q.2) : Option Value × Mem) = r
  have g : Gd shY w x RX11 cX11_has 3 (some .int) 2 := g
  refine u_aload_n g 0 dX11_has_0 rfl ?_
  refine u_iconst g (v := (0 : Int32)) dX11_has_1 rfl ?_
  refine pfX11_5 g wf_X11_84 dX11_has_2 ?_
  refine u_aload_n g 0 dX11_has_5 rfl ?_
  refine u_iload_n g 1 dX11_has_6 rfl ?_
  obtain ⟨q1, hq2, h⟩ := ob_bind h
  refine u_callV (st := []) g wv_X11_163 [.int a1] (show 0 < shY.1 by decide) ceY_0 rfl rfl (t_X11_isFamily w x.2.1 hq2) (by decide) (by decide) rfl (Nat.le_of_ble_eq_true rfl) rfl dX11_has_7 ?_
  show U shY w x r (sI M 0 5 (0 : Int32)) 10 [(0, .ref (w.2.2.1 0)), (1, .int a1), (2, .int a2)] [.int q1]
  refine u_if_ne g 19 dX11_has_10 (by decide) (fun b3 => ?_) (fun b3 => ?_)
  · have h := ob_neg b3 h
    refine u_aload_n g 0 dX11_has_19 rfl ?_
    refine u_iconst g (v := (0 : Int32)) dX11_has_20 rfl ?_
    refine pfX11_4 g wf_X11_88 dX11_has_21 ?_
    refine u_aload_n g 0 dX11_has_24 rfl ?_
    refine u_iload_n g 1 dX11_has_25 rfl ?_
    refine u_iload_n g 2 dX11_has_26 rfl ?_
    obtain ⟨q4, hq5, h⟩ := ob_bind h
    refine u_callV (st := []) g wv_X11_182 [.int a1, .int a2] (show 0 < shY.1 by decide) ceY_0 rfl rfl (t_X11_hasOne w x.2.1 hq5) (by decide) (by decide) rfl (Nat.le_of_ble_eq_true rfl) rfl dX11_has_27 ?_
    show U shY w x r (sI (sI M 0 5 (0 : Int32)) 0 4 (0 : Int32)) 30 [(0, .ref (w.2.2.1 0)), (1, .int a1), (2, .int a2)] [.int q4]
    refine u_if_eq g 37 dX11_has_30 (by decide) (fun b6 => ?_) (fun b6 => ?_)
    · have h := ob_pos b6 h
      refine u_iconst g (v := (0 : Int32)) dX11_has_37 rfl ?_
      exact u_iret g dX11_has_38 (by rw [← hr]; obtain rfl := Option.some.inj h; rfl)
    · have h := ob_neg b6 h
      refine u_iconst g (v := (1 : Int32)) dX11_has_33 rfl ?_
      refine u_goto g 38 dX11_has_34 (by decide) ?_
      exact u_iret g dX11_has_38 (by rw [← hr]; obtain rfl := Option.some.inj h; rfl)
  · have h := ob_pos b3 h
    refine u_aload_n g 0 dX11_has_13 rfl ?_
    refine u_iconst g (v := (1 : Int32)) dX11_has_14 rfl ?_
    obtain ⟨q7, hq8, h⟩ := ob_bind h
    refine u_callV (st := []) g wv_X11_115 [.int (1 : Int32)] (show 0 < shY.1 by decide) ceY_0 rfl rfl (t_X11_no w x.2.1 hq8) (by decide) (by decide) rfl (Nat.le_of_ble_eq_true rfl) rfl dX11_has_15 ?_
    show U shY w x r q7.2 18 [(0, .ref (w.2.2.1 0)), (1, .int a1), (2, .int a2)] [.int q7.1]
    exact u_iret g dX11_has_18 (by rw [← hr]; obtain rfl := Option.some.inj h; rfl)
set_option maxRecDepth 100000 in
set_option maxHeartbeats 4000000 in
theorem t_X11_apart (w : Wp) (l : Launch) {a1 : Int32} {a2 : Int32} {M : Mem} {q : Int32 × Mem} (h : f_X11_apart a1 a2 M = some q) : Ct shY w l yX11_apart cX11_apart 3 (some .int) 2 [.ref (w.2.2.1 0), .int a1, .int a2] M (some (.int q.1), q.2) := by
  rw [f_X11_apart] at h
  refine ct_of shY_loc (by decide) (Nat.le_of_ble_eq_true rfl) rfl (fun x hx g => ?_)
  subst hx
  show U shY w x _ M 0 [(0, .ref (w.2.2.1 0)), (1, .int a1), (2, .int a2)] []
  generalize hr : ((some (.int q.1), q.2) : Option Value × Mem) = r
  have g : Gd shY w x RX11 cX11_apart 3 (some .int) 2 := g
  refine u_aload_n g 0 dX11_apart_0 rfl ?_
  refine u_iconst g (v := (0 : Int32)) dX11_apart_1 rfl ?_
  refine pfX11_5 g wf_X11_84 dX11_apart_2 ?_
  refine u_aload_n g 0 dX11_apart_5 rfl ?_
  refine u_iload_n g 1 dX11_apart_6 rfl ?_
  obtain ⟨q1, hq2, h⟩ := ob_bind h
  refine u_callV (st := []) g wv_X11_163 [.int a1] (show 0 < shY.1 by decide) ceY_0 rfl rfl (t_X11_isFamily w x.2.1 hq2) (by decide) (by decide) rfl (Nat.le_of_ble_eq_true rfl) rfl dX11_apart_7 ?_
  show U shY w x r (sI M 0 5 (0 : Int32)) 10 [(0, .ref (w.2.2.1 0)), (1, .int a1), (2, .int a2)] [.int q1]
  refine u_if_eq g 21 dX11_apart_10 (by decide) (fun b3 => ?_) (fun b3 => ?_)
  · have h := ob_pos b3 h
    refine u_aload_n g 0 dX11_apart_21 rfl ?_
    refine u_iconst g (v := (1 : Int32)) dX11_apart_22 rfl ?_
    obtain ⟨q4, hq5, h⟩ := ob_bind h
    refine u_callV (st := []) g wv_X11_115 [.int (1 : Int32)] (show 0 < shY.1 by decide) ceY_0 rfl rfl (t_X11_no w x.2.1 hq5) (by decide) (by decide) rfl (Nat.le_of_ble_eq_true rfl) rfl dX11_apart_23 ?_
    show U shY w x r q4.2 26 [(0, .ref (w.2.2.1 0)), (1, .int a1), (2, .int a2)] [.int q4.1]
    exact u_iret g dX11_apart_26 (by rw [← hr]; obtain rfl := Option.some.inj h; rfl)
  · have h := ob_neg b3 h
    refine u_aload_n g 0 dX11_apart_13 rfl ?_
    refine u_iload_n g 2 dX11_apart_14 rfl ?_
    obtain ⟨q6, hq7, h⟩ := ob_bind h
    refine u_callV (st := []) g wv_X11_163 [.int a2] (show 0 < shY.1 by decide) ceY_0 rfl rfl (t_X11_isFamily w x.2.1 hq7) (by decide) (by decide) rfl (Nat.le_of_ble_eq_true rfl) rfl dX11_apart_15 ?_
    show U shY w x r (sI M 0 5 (0 : Int32)) 18 [(0, .ref (w.2.2.1 0)), (1, .int a1), (2, .int a2)] [.int q6]
    refine u_if_ne g 27 dX11_apart_18 (by decide) (fun b8 => ?_) (fun b8 => ?_)
    · have h := ob_neg b8 h
      refine u_aload_n g 0 dX11_apart_27 rfl ?_
      refine u_iconst g (v := (0 : Int32)) dX11_apart_28 rfl ?_
      refine pfX11_4 g wf_X11_88 dX11_apart_29 ?_
      refine u_aload_n g 0 dX11_apart_32 rfl ?_
      refine u_iload_n g 1 dX11_apart_33 rfl ?_
      refine u_iload_n g 2 dX11_apart_34 rfl ?_
      obtain ⟨q9, hq10, h⟩ := ob_bind h
      refine u_callV (st := []) g wv_X11_172 [.int a1, .int a2] (show 0 < shY.1 by decide) ceY_0 rfl rfl (t_X11_apartOf w x.2.1 hq10) (by decide) (by decide) rfl (Nat.le_of_ble_eq_true rfl) rfl dX11_apart_35 ?_
      show U shY w x r (sI (sI M 0 5 (0 : Int32)) 0 4 (0 : Int32)) 38 [(0, .ref (w.2.2.1 0)), (1, .int a1), (2, .int a2)] [.int q9]
      exact u_iret g dX11_apart_38 (by rw [← hr]; obtain rfl := Option.some.inj h; rfl)
    · have h := ob_pos b8 h
      refine u_aload_n g 0 dX11_apart_21 rfl ?_
      refine u_iconst g (v := (1 : Int32)) dX11_apart_22 rfl ?_
      obtain ⟨q11, hq12, h⟩ := ob_bind h
      refine u_callV (st := []) g wv_X11_115 [.int (1 : Int32)] (show 0 < shY.1 by decide) ceY_0 rfl rfl (t_X11_no w x.2.1 hq12) (by decide) (by decide) rfl (Nat.le_of_ble_eq_true rfl) rfl dX11_apart_23 ?_
      show U shY w x r q11.2 26 [(0, .ref (w.2.2.1 0)), (1, .int a1), (2, .int a2)] [.int q11.1]
      exact u_iret g dX11_apart_26 (by rw [← hr]; obtain rfl := Option.some.inj h; rfl)
set_option maxRecDepth 100000 in
set_option maxHeartbeats 4000000 in
theorem s_X11_hitOf_l1 {w : Wp} {x : Cx} {r : Option Value × Mem} (g : Gd shY w x RX11 cX11_hitOf 5 (some .int) 2) (a1 : Int32) (a2 : Int32)  (M : Mem) : ∀ (n : Nat) (v3 : Int32) (v4 : Int32) (q : Int32), f_X11_hitOf_l1 a1 a2 M n v3 v4 = some q → U shY w x r M 58 [(3, .int q)] [] → U shY w x r M 15 [(0, .ref (w.2.2.1 0)), (1, .int a1), (2, .int a2), (3, .int v3), (4, .int v4)] [] := by
  intro n
  induction n with
  | zero => intro v3 v4 q h K; rw [f_X11_hitOf_l1] at h; cases h
  | succ n ih =>
    intro v3 v4 q h K
    rw [f_X11_hitOf_l1] at h
    refine u_iload g 4 dX11_hitOf_15 rfl ?_
    refine u_if_eq g 58 dX11_hitOf_17 (by decide) (fun b3 => ?_) (fun b3 => ?_)
    · have h := ob_pos b3 h
      obtain rfl := Option.some.inj h
      exact u_sub [3] rfl K
    · have h := ob_neg b3 h
      refine u_aload_n g 0 dX11_hitOf_20 rfl ?_
      refine u_iload g 4 dX11_hitOf_21 rfl ?_
      obtain ⟨q4, hq5, h⟩ := ob_bind h
      refine u_callV (st := []) g wv_X11_179 [.int v4] (show 0 < shY.1 by decide) ceY_0 rfl rfl (t_X11_bitsOf w x.2.1 hq5) (by decide) (by decide) rfl (Nat.le_of_ble_eq_true rfl) rfl dX11_hitOf_23 ?_
      show U shY w x r M 26 [(0, .ref (w.2.2.1 0)), (1, .int a1), (2, .int a2), (3, .int v3), (4, .int v4)] [.int q4]
      refine u_aload_n g 0 dX11_hitOf_26 rfl ?_
      refine u_iload_n g 3 dX11_hitOf_27 rfl ?_
      obtain ⟨q6, hq7, h⟩ := ob_bind h
      refine u_callV (st := [.int q4]) g wv_X11_179 [.int v3] (show 0 < shY.1 by decide) ceY_0 rfl rfl (t_X11_bitsOf w x.2.1 hq7) (by decide) (by decide) rfl (Nat.le_of_ble_eq_true rfl) rfl dX11_hitOf_28 ?_
      show U shY w x r M 31 [(0, .ref (w.2.2.1 0)), (1, .int a1), (2, .int a2), (3, .int v3), (4, .int v4)] [.int q6, .int q4]
      obtain ⟨q8, hq9, h⟩ := ob_bind h
      have K10 : U shY w x r M 47 [(0, .ref (w.2.2.1 0)), (1, .int a1), (2, .int a2), (3, .int q8), (4, .int v4)] [] := by
        refine u_iload g 4 dX11_hitOf_47 rfl ?_
        refine u_iload_n g 2 dX11_hitOf_49 rfl ?_
        refine u_isub g dX11_hitOf_50 ?_
        refine u_iload_n g 2 dX11_hitOf_51 rfl ?_
        refine u_iand g dX11_hitOf_52 ?_
        refine u_istore g [(4, .int ((v4 - a2) &&& a2)), (0, .ref (w.2.2.1 0)), (1, .int a1), (2, .int a2), (3, .int q8)] dX11_hitOf_53 (by decide) rfl ?_
        refine u_goto g 15 dX11_hitOf_55 (by decide) ?_
        exact u_sub [1, 2, 3, 4, 0] rfl (ih q8 ((v4 - a2) &&& a2) _ h K)
      have h := hq9
      refine u_icmp_ge g 47 dX11_hitOf_31 (by decide) (fun b11 => ?_) (fun b11 => ?_)
      · have h := ob_pos b11 h
        obtain rfl := Option.some.inj h
        exact u_sub [0, 1, 2, 3, 4] rfl K10
      · have h := ob_neg b11 h
        refine u_aload_n g 0 dX11_hitOf_34 rfl ?_
        refine u_iload g 4 dX11_hitOf_35 rfl ?_
        refine u_iload_n g 1 dX11_hitOf_37 rfl ?_
        obtain ⟨q12, hq13, h⟩ := ob_bind h
        refine u_callV (st := []) g wv_X11_169 [.int v4, .int a1] (show 0 < shY.1 by decide) ceY_0 rfl rfl (t_X11_meetsAll w x.2.1 hq13) (by decide) (by decide) rfl (Nat.le_of_ble_eq_true rfl) rfl dX11_hitOf_38 ?_
        show U shY w x r M 41 [(0, .ref (w.2.2.1 0)), (1, .int a1), (2, .int a2), (3, .int v3), (4, .int v4)] [.int q12]
        refine u_if_eq g 47 dX11_hitOf_41 (by decide) (fun b14 => ?_) (fun b14 => ?_)
        · have h := ob_pos b14 h
          obtain rfl := Option.some.inj h
          exact u_sub [0, 1, 2, 3, 4] rfl K10
        · have h := ob_neg b14 h
          refine u_iload g 4 dX11_hitOf_44 rfl ?_
          refine u_istore_n g [(3, .int v4), (0, .ref (w.2.2.1 0)), (1, .int a1), (2, .int a2), (4, .int v4)] dX11_hitOf_46 (by decide) rfl ?_
          obtain rfl := Option.some.inj h
          exact u_sub [1, 2, 3, 0, 4] rfl K10
set_option maxRecDepth 100000 in
set_option maxHeartbeats 4000000 in
theorem t_X11_hitOf (w : Wp) (l : Launch) {a1 : Int32} {M : Mem} {q : Int32} (h : f_X11_hitOf a1 M = some q) : Ct shY w l yX11_hitOf cX11_hitOf 5 (some .int) 2 [.ref (w.2.2.1 0), .int a1] M (some (.int q), M) := by
  rw [f_X11_hitOf] at h
  refine ct_of shY_loc (by decide) (Nat.le_of_ble_eq_true rfl) rfl (fun x hx g => ?_)
  subst hx
  show U shY w x _ M 0 [(0, .ref (w.2.2.1 0)), (1, .int a1)] []
  generalize hr : ((some (.int q), M) : Option Value × Mem) = r
  have g : Gd shY w x RX11 cX11_hitOf 5 (some .int) 2 := g
  refine u_aload_n g 0 dX11_hitOf_0 rfl ?_
  refine u_iload_n g 1 dX11_hitOf_1 rfl ?_
  obtain ⟨q1, hq2, h⟩ := ob_bind h
  refine u_callV (st := []) g wv_X11_166 [.int a1] (show 0 < shY.1 by decide) ceY_0 rfl rfl (t_X11_allOf w x.2.1 hq2) (by decide) (by decide) rfl (Nat.le_of_ble_eq_true rfl) rfl dX11_hitOf_2 ?_
  show U shY w x r M 5 [(0, .ref (w.2.2.1 0)), (1, .int a1)] [.int q1]
  refine u_istore_n g [(2, .int q1), (0, .ref (w.2.2.1 0)), (1, .int a1)] dX11_hitOf_5 (by decide) rfl ?_
  refine u_iload_n g 0 dX11_hitOf_6 rfl ?_
  refine u_istore_n g [(3, .int q1), (2, .int q1), (0, .ref (w.2.2.1 0)), (1, .int a1)] dX11_hitOf_7 (by decide) rfl ?_
  refine u_iconst g (v := (0 : Int32)) dX11_hitOf_8 rfl ?_
  refine u_iload_n g 1 dX11_hitOf_9 rfl ?_
  refine u_isub g dX11_hitOf_10 ?_
  refine u_iload_n g 1 dX11_hitOf_11 rfl ?_
  refine u_iand g dX11_hitOf_12 ?_
  refine u_istore g [(4, .int (((0 : Int32) - q1) &&& q1)), (3, .int q1), (2, .int q1), (0, .ref (w.2.2.1 0)), (1, .int a1)] dX11_hitOf_13 (by decide) rfl ?_
  obtain ⟨q3, hq4, h⟩ := ob_bind h
  refine u_sub [3, 4, 2, 1, 0] rfl (s_X11_hitOf_l1 g a1 q1 M fuelN q1 (((0 : Int32) - q1) &&& q1) _ hq4 ?_)
  show U shY w x r M 58 [(3, .int q3)] []
  refine u_iload_n g 0 dX11_hitOf_58 rfl ?_
  exact u_iret g dX11_hitOf_59 (by rw [← hr]; obtain rfl := Option.some.inj h; rfl)
set_option maxRecDepth 100000 in
set_option maxHeartbeats 4000000 in
theorem t_X11_hit (w : Wp) (l : Launch) {a1 : Int32} {M : Mem} {q : Int32 × Mem} (h : f_X11_hit a1 M = some q) : Ct shY w l yX11_hit cX11_hit 2 (some .int) 3 [.ref (w.2.2.1 0), .int a1] M (some (.int q.1), q.2) := by
  rw [f_X11_hit] at h
  refine ct_of shY_loc (by decide) (Nat.le_of_ble_eq_true rfl) rfl (fun x hx g => ?_)
  subst hx
  show U shY w x _ M 0 [(0, .ref (w.2.2.1 0)), (1, .int a1)] []
  generalize hr : ((some (.int q.1), q.2) : Option Value × Mem) = r
  have g : Gd shY w x RX11 cX11_hit 2 (some .int) 3 := g
  refine u_aload_n g 0 dX11_hit_0 rfl ?_
  refine u_iconst g (v := (0 : Int32)) dX11_hit_1 rfl ?_
  refine pfX11_5 g wf_X11_84 dX11_hit_2 ?_
  refine u_aload_n g 0 dX11_hit_5 rfl ?_
  refine u_iload_n g 1 dX11_hit_6 rfl ?_
  obtain ⟨q1, hq2, h⟩ := ob_bind h
  refine u_callV (st := []) g wv_X11_163 [.int a1] (show 0 < shY.1 by decide) ceY_0 rfl rfl (t_X11_isFamily w x.2.1 hq2) (by decide) (by decide) rfl (Nat.le_of_ble_eq_true rfl) rfl dX11_hit_7 ?_
  show U shY w x r (sI M 0 5 (0 : Int32)) 10 [(0, .ref (w.2.2.1 0)), (1, .int a1)] [.int q1]
  refine u_if_ne g 19 dX11_hit_10 (by decide) (fun b3 => ?_) (fun b3 => ?_)
  · have h := ob_neg b3 h
    refine u_aload_n g 0 dX11_hit_19 rfl ?_
    refine u_iconst g (v := (0 : Int32)) dX11_hit_20 rfl ?_
    refine pfX11_4 g wf_X11_88 dX11_hit_21 ?_
    refine u_aload_n g 0 dX11_hit_24 rfl ?_
    refine u_iload_n g 1 dX11_hit_25 rfl ?_
    obtain ⟨q4, hq5, h⟩ := ob_bind h
    refine u_callV (st := []) g wv_X11_185 [.int a1] (show 0 < shY.1 by decide) ceY_0 rfl rfl (t_X11_hitOf w x.2.1 hq5) (by decide) (by decide) rfl (Nat.le_of_ble_eq_true rfl) rfl dX11_hit_26 ?_
    show U shY w x r (sI (sI M 0 5 (0 : Int32)) 0 4 (0 : Int32)) 29 [(0, .ref (w.2.2.1 0)), (1, .int a1)] [.int q4]
    exact u_iret g dX11_hit_29 (by rw [← hr]; obtain rfl := Option.some.inj h; rfl)
  · have h := ob_pos b3 h
    refine u_aload_n g 0 dX11_hit_13 rfl ?_
    refine u_iconst g (v := (1 : Int32)) dX11_hit_14 rfl ?_
    obtain ⟨q6, hq7, h⟩ := ob_bind h
    refine u_callV (st := []) g wv_X11_115 [.int (1 : Int32)] (show 0 < shY.1 by decide) ceY_0 rfl rfl (t_X11_no w x.2.1 hq7) (by decide) (by decide) rfl (Nat.le_of_ble_eq_true rfl) rfl dX11_hit_15 ?_
    show U shY w x r q6.2 18 [(0, .ref (w.2.2.1 0)), (1, .int a1)] [.int q6.1]
    exact u_iret g dX11_hit_18 (by rw [← hr]; obtain rfl := Option.some.inj h; rfl)
set_option maxRecDepth 100000 in
set_option maxHeartbeats 4000000 in
theorem t_X11_falls (w : Wp) (l : Launch) {a1 : Int32} {M : Mem} {q : Int32 × Mem} (h : f_X11_falls a1 M = some q) : Ct shY w l yX11_falls cX11_falls 2 (some .int) 3 [.ref (w.2.2.1 0), .int a1] M (some (.int q.1), q.2) := by
  rw [f_X11_falls] at h
  refine ct_of shY_loc (by decide) (Nat.le_of_ble_eq_true rfl) rfl (fun x hx g => ?_)
  subst hx
  show U shY w x _ M 0 [(0, .ref (w.2.2.1 0)), (1, .int a1)] []
  generalize hr : ((some (.int q.1), q.2) : Option Value × Mem) = r
  have g : Gd shY w x RX11 cX11_falls 2 (some .int) 3 := g
  refine u_aload_n g 0 dX11_falls_0 rfl ?_
  refine u_iconst g (v := (0 : Int32)) dX11_falls_1 rfl ?_
  refine pfX11_5 g wf_X11_84 dX11_falls_2 ?_
  refine u_aload_n g 0 dX11_falls_5 rfl ?_
  refine u_iload_n g 1 dX11_falls_6 rfl ?_
  obtain ⟨q1, hq2, h⟩ := ob_bind h
  refine u_callV (st := []) g wv_X11_163 [.int a1] (show 0 < shY.1 by decide) ceY_0 rfl rfl (t_X11_isFamily w x.2.1 hq2) (by decide) (by decide) rfl (Nat.le_of_ble_eq_true rfl) rfl dX11_falls_7 ?_
  show U shY w x r (sI M 0 5 (0 : Int32)) 10 [(0, .ref (w.2.2.1 0)), (1, .int a1)] [.int q1]
  refine u_if_ne g 19 dX11_falls_10 (by decide) (fun b3 => ?_) (fun b3 => ?_)
  · have h := ob_neg b3 h
    refine u_aload_n g 0 dX11_falls_19 rfl ?_
    refine u_iconst g (v := (0 : Int32)) dX11_falls_20 rfl ?_
    refine pfX11_4 g wf_X11_88 dX11_falls_21 ?_
    refine u_aload_n g 0 dX11_falls_24 rfl ?_
    refine u_aload_n g 0 dX11_falls_25 rfl ?_
    refine u_iload_n g 1 dX11_falls_26 rfl ?_
    obtain ⟨q4, hq5, h⟩ := ob_bind h
    refine u_callV (st := [.ref (w.2.2.1 0)]) g wv_X11_185 [.int a1] (show 0 < shY.1 by decide) ceY_0 rfl rfl (t_X11_hitOf w x.2.1 hq5) (by decide) (by decide) rfl (Nat.le_of_ble_eq_true rfl) rfl dX11_falls_27 ?_
    show U shY w x r (sI (sI M 0 5 (0 : Int32)) 0 4 (0 : Int32)) 30 [(0, .ref (w.2.2.1 0)), (1, .int a1)] [.int q4, .ref (w.2.2.1 0)]
    obtain ⟨q6, hq7, h⟩ := ob_bind h
    refine u_callV (st := []) g wv_X11_179 [.int q4] (show 0 < shY.1 by decide) ceY_0 rfl rfl (t_X11_bitsOf w x.2.1 hq7) (by decide) (by decide) rfl (Nat.le_of_ble_eq_true rfl) rfl dX11_falls_30 ?_
    show U shY w x r (sI (sI M 0 5 (0 : Int32)) 0 4 (0 : Int32)) 33 [(0, .ref (w.2.2.1 0)), (1, .int a1)] [.int q6]
    refine u_iconst g (v := (1 : Int32)) dX11_falls_33 rfl ?_
    refine u_isub g dX11_falls_34 ?_
    exact u_iret g dX11_falls_35 (by rw [← hr]; obtain rfl := Option.some.inj h; rfl)
  · have h := ob_pos b3 h
    refine u_aload_n g 0 dX11_falls_13 rfl ?_
    refine u_iconst g (v := (1 : Int32)) dX11_falls_14 rfl ?_
    obtain ⟨q8, hq9, h⟩ := ob_bind h
    refine u_callV (st := []) g wv_X11_115 [.int (1 : Int32)] (show 0 < shY.1 by decide) ceY_0 rfl rfl (t_X11_no w x.2.1 hq9) (by decide) (by decide) rfl (Nat.le_of_ble_eq_true rfl) rfl dX11_falls_15 ?_
    show U shY w x r q8.2 18 [(0, .ref (w.2.2.1 0)), (1, .int a1)] [.int q8.1]
    exact u_iret g dX11_falls_18 (by rw [← hr]; obtain rfl := Option.some.inj h; rfl)
