set_option maxRecDepth 100000 in
set_option maxHeartbeats 4000000 in
theorem t_X11_names (w : Wp) (l : Launch) {a1 : Int32} {M : Mem} {q : Int32 × Mem} (h : f_X11_names a1 M = some q) : Ct shY w l yX11_names cX11_names 2 (some .int) 1 [.ref (w.2.2.1 0), .int a1] M (some (.int q.1), q.2) := by
  rw [f_X11_names] at h
  refine ct_of shY_loc (by decide) (Nat.le_of_ble_eq_true rfl) rfl (fun x hx g => ?_)
  subst hx
  show U shY w x _ M 0 [(0, .ref (w.2.2.1 0)), (1, .int a1)] []
  generalize hr : ((some (.int q.1), q.2) : Option Value × Mem) = r
  have g : Gd shY w x RX11 cX11_names 2 (some .int) 1 := g
  refine u_aload_n g 0 dX11_names_0 rfl ?_
  refine u_iconst g (v := (0 : Int32)) dX11_names_1 rfl ?_
  refine pfX11_5 g wf_X11_84 dX11_names_2 ?_
  refine u_aload_n g 0 dX11_names_5 rfl ?_
  refine u_iload_n g 1 dX11_names_6 rfl ?_
  refine u_iconst g (v := (0 : Int32)) dX11_names_7 rfl ?_
  refine u_aload_n g 0 dX11_names_8 rfl ?_
  refine gfX11_18 g wf_X11_221 (v := (M.1 0 18)) rfl dX11_names_9 ?_
  refine u_iconst g (v := (1 : Int32)) dX11_names_12 rfl ?_
  refine u_isub g dX11_names_13 ?_
  obtain ⟨q1, hq2, h⟩ := ob_bind h
  refine u_callV (st := []) g wv_X11_97 [.int a1, .int (0 : Int32), .int ((M.1 0 18) - (1 : Int32))] (show 0 < shY.1 by decide) ceY_0 rfl rfl (t_X11_in w x.2.1 hq2) (by decide) (by decide) rfl (Nat.le_of_ble_eq_true rfl) rfl dX11_names_14 ?_
  show U shY w x r (sI M 0 5 (0 : Int32)) 17 [(0, .ref (w.2.2.1 0)), (1, .int a1)] [.int q1]
  refine u_if_eq g 29 dX11_names_17 (by decide) (fun b3 => ?_) (fun b3 => ?_)
  · have h := ob_pos b3 h
    refine u_bipush g (v := (-2 : Int32)) dX11_names_29 rfl ?_
    exact u_iret g dX11_names_31 (by rw [← hr]; obtain rfl := Option.some.inj h; rfl)
  · have h := ob_neg b3 h
    refine u_aload_n g 0 dX11_names_20 rfl ?_
    refine gfX11_17 g wf_X11_43 dX11_names_21 ?_
    refine u_iload_n g 1 dX11_names_24 rfl ?_
    obtain ⟨e4, h⟩ := ob_if h
    refine aY_ild g (c := 12) 7140 (by decide) rfl (v := (M.1 12 a1.toNatClampNeg)) (inB_in e4) rfl dX11_names_25 ?_
    refine u_goto g 31 dX11_names_26 (by decide) ?_
    exact u_iret g dX11_names_31 (by rw [← hr]; obtain rfl := Option.some.inj h; rfl)
set_option maxRecDepth 100000 in
set_option maxHeartbeats 4000000 in
theorem t_X11_forge (w : Wp) (l : Launch) {a1 : Int32} {a2 : Int32} {M : Mem} {q : Int32 × Mem} (h : f_X11_forge a1 a2 M = some q) : Ct shY w l yX11_forge cX11_forge 3 (some .boolean) 1 [.ref (w.2.2.1 0), .int a1, .int a2] M (some (.int q.1), q.2) := by
  rw [f_X11_forge] at h
  refine ct_of shY_loc (by decide) (Nat.le_of_ble_eq_true rfl) rfl (fun x hx g => ?_)
  subst hx
  show U shY w x _ M 0 [(0, .ref (w.2.2.1 0)), (1, .int a1), (2, .int a2)] []
  generalize hr : ((some (.int q.1), q.2) : Option Value × Mem) = r
  have g : Gd shY w x RX11 cX11_forge 3 (some .boolean) 1 := g
  refine u_aload_n g 0 dX11_forge_0 rfl ?_
  refine u_iconst g (v := (0 : Int32)) dX11_forge_1 rfl ?_
  refine pfX11_5 g wf_X11_84 dX11_forge_2 ?_
  refine u_aload_n g 0 dX11_forge_5 rfl ?_
  refine u_iload_n g 1 dX11_forge_6 rfl ?_
  refine u_iconst g (v := (0 : Int32)) dX11_forge_7 rfl ?_
  refine u_aload_n g 0 dX11_forge_8 rfl ?_
  refine gfX11_18 g wf_X11_221 (v := (M.1 0 18)) rfl dX11_forge_9 ?_
  refine u_iconst g (v := (1 : Int32)) dX11_forge_12 rfl ?_
  refine u_isub g dX11_forge_13 ?_
  obtain ⟨q1, hq2, h⟩ := ob_bind h
  refine u_callV (st := []) g wv_X11_97 [.int a1, .int (0 : Int32), .int ((M.1 0 18) - (1 : Int32))] (show 0 < shY.1 by decide) ceY_0 rfl rfl (t_X11_in w x.2.1 hq2) (by decide) (by decide) rfl (Nat.le_of_ble_eq_true rfl) rfl dX11_forge_14 ?_
  show U shY w x r (sI M 0 5 (0 : Int32)) 17 [(0, .ref (w.2.2.1 0)), (1, .int a1), (2, .int a2)] [.int q1]
  refine u_if_ne g 26 dX11_forge_17 (by decide) (fun b3 => ?_) (fun b3 => ?_)
  · have h := ob_neg b3 h
    refine u_aload_n g 0 dX11_forge_26 rfl ?_
    refine gfX11_17 g wf_X11_43 dX11_forge_27 ?_
    refine u_iload_n g 1 dX11_forge_30 rfl ?_
    refine u_dup2 g dX11_forge_31 rfl rfl ?_
    obtain ⟨e4, h⟩ := ob_if h
    refine aY_ild g (c := 12) 7140 (by decide) rfl (v := (M.1 12 a1.toNatClampNeg)) (inB_in e4) rfl dX11_forge_32 ?_
    refine u_iload_n g 2 dX11_forge_33 rfl ?_
    refine u_ixor g dX11_forge_34 ?_
    obtain ⟨e5, h⟩ := ob_if h
    refine aY_ist g (c := 12) 7140 (by decide) rfl (inB_in e5) (j := a1.toNatClampNeg) rfl dX11_forge_35 ?_
    refine u_aload_n g 0 dX11_forge_36 rfl ?_
    refine u_iconst g (v := (0 : Int32)) dX11_forge_37 rfl ?_
    refine pfX11_4 g wf_X11_88 dX11_forge_38 ?_
    refine u_iconst g (v := (1 : Int32)) dX11_forge_41 rfl ?_
    exact u_zret g (Or.inr rfl) dX11_forge_42 (by rw [← hr]; obtain rfl := Option.some.inj h; rfl)
  · have h := ob_pos b3 h
    refine u_aload_n g 0 dX11_forge_20 rfl ?_
    refine u_iconst g (v := (1 : Int32)) dX11_forge_21 rfl ?_
    obtain ⟨q6, hq7, h⟩ := ob_bind h
    refine u_callV (st := []) g wv_X11_119 [.int (1 : Int32)] (show 0 < shY.1 by decide) ceY_0 rfl rfl (t_X11_not w x.2.1 hq7) (by decide) (by decide) rfl (Nat.le_of_ble_eq_true rfl) rfl dX11_forge_22 ?_
    show U shY w x r q6.2 25 [(0, .ref (w.2.2.1 0)), (1, .int a1), (2, .int a2)] [.int q6.1]
    obtain ⟨hz, h⟩ := ob_if h
    exact u_zret g hz dX11_forge_25 (by rw [← hr]; obtain rfl := Option.some.inj h; rfl)
set_option maxRecDepth 100000 in
set_option maxHeartbeats 4000000 in
theorem s_X11_judge_l2 {w : Wp} {x : Cx} {r : Option Value × Mem} (g : Gd shY w x RX11 cX11_judge 6 (some .int) 2) (a1 : Int32) (a3 : Int32)  (M : Mem) : ∀ (n : Nat) (v2 : Int32) (v4 : Int32) (q : (Int32) ⊕ (Int32 × Mem)), f_X11_judge_l2 a1 a3 M n v2 v4 = some q → (∀ e : Int32, q = .inl e → U shY w x r M 138 [(0, .ref (w.2.2.1 0)), (1, .int a1), (2, .int e), (3, .int a3)] []) → (∀ v : Int32 × Mem, q = .inr v → r = (some (.int v.1), v.2)) → U shY w x r M 70 [(0, .ref (w.2.2.1 0)), (1, .int a1), (2, .int v2), (3, .int a3), (4, .int v4)] [] := by
  intro n
  induction n with
  | zero => intro v2 v4 q h K1 K2; rw [f_X11_judge_l2] at h; cases h
  | succ n ih =>
    intro v2 v4 q h K1 K2
    rw [f_X11_judge_l2] at h
    refine u_iload g 4 dX11_judge_70 rfl ?_
    refine u_aload_n g 0 dX11_judge_72 rfl ?_
    refine gfX11_9 g wf_X11_25 dX11_judge_73 ?_
    refine u_iload_n g 1 dX11_judge_76 rfl ?_
    obtain ⟨e9, h⟩ := ob_if h
    refine aY_ild g (c := 6) 24 (by decide) rfl (v := (M.1 6 a1.toNatClampNeg)) (inB_in e9) rfl dX11_judge_77 ?_
    refine u_icmp_ge g 138 dX11_judge_78 (by decide) (fun b10 => ?_) (fun b10 => ?_)
    · have h := ob_pos b10 h
      exact u_sub [0, 1, 2, 3] rfl (K1 _ (Option.some.inj h).symm)
    · have h := ob_neg b10 h
      refine u_aload_n g 0 dX11_judge_81 rfl ?_
      refine u_iload_n g 1 dX11_judge_82 rfl ?_
      refine u_iload_n g 3 dX11_judge_83 rfl ?_
      obtain ⟨q11, hq12, h⟩ := ob_bind h
      refine u_callV (st := []) g wv_X11_136 [.int a1, .int a3] (show 0 < shY.1 by decide) ceY_0 rfl rfl (t_X11_quorumOf w x.2.1 hq12) (by decide) (by decide) rfl (Nat.le_of_ble_eq_true rfl) rfl dX11_judge_84 ?_
      show U shY w x r M 87 [(0, .ref (w.2.2.1 0)), (1, .int a1), (2, .int v2), (3, .int a3), (4, .int v4)] [.int q11]
      refine u_aload_n g 0 dX11_judge_87 rfl ?_
      refine u_iload_n g 1 dX11_judge_88 rfl ?_
      refine u_iload g 4 dX11_judge_89 rfl ?_
      obtain ⟨q13, hq14, h⟩ := ob_bind h
      refine u_callV (st := [.int q11]) g wv_X11_136 [.int a1, .int v4] (show 0 < shY.1 by decide) ceY_0 rfl rfl (t_X11_quorumOf w x.2.1 hq14) (by decide) (by decide) rfl (Nat.le_of_ble_eq_true rfl) rfl dX11_judge_91 ?_
      show U shY w x r M 94 [(0, .ref (w.2.2.1 0)), (1, .int a1), (2, .int v2), (3, .int a3), (4, .int v4)] [.int q13, .int q11]
      refine u_iand g dX11_judge_94 ?_
      refine u_istore g [(5, .int (q11 &&& q13)), (0, .ref (w.2.2.1 0)), (1, .int a1), (2, .int v2), (3, .int a3), (4, .int v4)] dX11_judge_95 (by decide) rfl ?_
      refine u_aload_n g 1 dX11_judge_97 rfl ?_
      refine u_aload_n g 1 dX11_judge_98 rfl ?_
      refine gfX11_17 g wf_X11_43 dX11_judge_99 ?_
      refine u_iload_n g 3 dX11_judge_102 rfl ?_
      obtain ⟨e15, h⟩ := ob_if h
      refine aY_ild g (c := 12) 7140 (by decide) rfl (v := (M.1 12 v2.toNatClampNeg)) (inB_in e15) rfl dX11_judge_103 ?_
      refine u_iconst g (v := (0 : Int32)) dX11_judge_104 rfl ?_
      refine u_bipush g (v := (15 : Int32)) dX11_judge_105 rfl ?_
      obtain ⟨q16, hq17, h⟩ := ob_bind h
      refine u_callV (st := []) g wv_X11_97 [.int (M.1 12 v2.toNatClampNeg), .int (0 : Int32), .int (15 : Int32)] (show 0 < shY.1 by decide) ceY_0 rfl rfl (t_X11_in w x.2.1 hq17) (by decide) (by decide) rfl (Nat.le_of_ble_eq_true rfl) rfl dX11_judge_107 ?_
      show U shY w x r M 110 [(5, .int (q11 &&& q13)), (0, .ref (w.2.2.1 0)), (1, .int a1), (2, .int v2), (3, .int a3), (4, .int v4)] [.int q16]
      refine u_if_eq g 127 dX11_judge_110 (by decide) (fun b18 => ?_) (fun b18 => ?_)
      · have h := ob_pos b18 h
        refine u_iload_n g 3 dX11_judge_127 rfl ?_
        exact u_iret g dX11_judge_128 (K2 _ (Option.some.inj h).symm)
      · have h := ob_neg b18 h
        refine u_iload g 0 dX11_judge_113 rfl ?_
        refine u_aload_n g 1 dX11_judge_115 rfl ?_
        refine gfX11_17 g wf_X11_43 dX11_judge_116 ?_
        refine u_iload_n g 3 dX11_judge_119 rfl ?_
        obtain ⟨e19, h⟩ := ob_if h
        refine aY_ild g (c := 12) 7140 (by decide) rfl (v := (M.1 12 v2.toNatClampNeg)) (inB_in e19) rfl dX11_judge_120 ?_
        refine u_ishr g dX11_judge_121 ?_
        refine u_iconst g (v := (1 : Int32)) dX11_judge_122 rfl ?_
        refine u_iand g dX11_judge_123 ?_
        refine u_if_ne g 129 dX11_judge_124 (by decide) (fun b20 => ?_) (fun b20 => ?_)
        · have h := ob_neg b20 h
          refine u_iinc g 3 [(2, .int (v2 + (1 : Int32))), (5, .int (q11 &&& q13)), (0, .ref (w.2.2.1 0)), (1, .int a1), (3, .int a3), (4, .int v4)] dX11_judge_129 rfl rfl (by decide) rfl ?_
          refine u_iinc g 5 [(4, .int (v4 + (1 : Int32))), (2, .int (v2 + (1 : Int32))), (5, .int (q11 &&& q13)), (0, .ref (w.2.2.1 0)), (1, .int a1), (3, .int a3)] dX11_judge_132 rfl rfl (by decide) rfl ?_
          refine u_goto g 70 dX11_judge_135 (by decide) ?_
          exact u_sub [3, 4, 1, 5, 0] rfl (ih (v2 + (1 : Int32)) (v4 + (1 : Int32)) _ h K1 K2)
        · have h := ob_pos b20 h
          refine u_iload_n g 3 dX11_judge_127 rfl ?_
          exact u_iret g dX11_judge_128 (K2 _ (Option.some.inj h).symm)
set_option maxRecDepth 100000 in
set_option maxHeartbeats 4000000 in
theorem s_X11_judge_l1 {w : Wp} {x : Cx} {r : Option Value × Mem} (g : Gd shY w x RX11 cX11_judge 6 (some .int) 2) (a1 : Int32)  (M : Mem) : ∀ (n : Nat) (v2 : Int32) (v3 : Int32) (q : (Unit) ⊕ (Int32 × Mem)), f_X11_judge_l1 a1 M n v2 v3 = some q → (∀ e : Unit, q = .inl e → U shY w x r M 144 [] []) → (∀ v : Int32 × Mem, q = .inr v → r = (some (.int v.1), v.2)) → U shY w x r M 55 [(0, .ref (w.2.2.1 0)), (1, .int a1), (2, .int v2), (3, .int v3)] [] := by
  intro n
  induction n with
  | zero => intro v2 v3 q h K1 K2; rw [f_X11_judge_l1] at h; cases h
  | succ n ih =>
    intro v2 v3 q h K1 K2
    rw [f_X11_judge_l1] at h
    refine u_iload_n g 3 dX11_judge_55 rfl ?_
    refine u_aload_n g 0 dX11_judge_56 rfl ?_
    refine gfX11_9 g wf_X11_25 dX11_judge_57 ?_
    refine u_iload_n g 1 dX11_judge_60 rfl ?_
    obtain ⟨e7, h⟩ := ob_if h
    refine aY_ild g (c := 6) 24 (by decide) rfl (v := (M.1 6 a1.toNatClampNeg)) (inB_in e7) rfl dX11_judge_61 ?_
    refine u_icmp_ge g 144 dX11_judge_62 (by decide) (fun b8 => ?_) (fun b8 => ?_)
    · have h := ob_pos b8 h
      exact u_sub [] rfl (K1 _ (Option.some.inj h).symm)
    · have h := ob_neg b8 h
      refine u_iload_n g 3 dX11_judge_65 rfl ?_
      refine u_iconst g (v := (1 : Int32)) dX11_judge_66 rfl ?_
      refine u_iadd g dX11_judge_67 ?_
      refine u_istore g [(4, .int (v3 + (1 : Int32))), (0, .ref (w.2.2.1 0)), (1, .int a1), (2, .int v2), (3, .int v3)] dX11_judge_68 (by decide) rfl ?_
      obtain ⟨q9, hq10, h⟩ := ob_bind h
      refine u_sub [1, 2, 3, 4, 0] rfl (s_X11_judge_l2 g a1 v3 M fuelN v2 (v3 + (1 : Int32)) _ hq10 (fun e11 he13 => ?_) (fun v12 he13 => ?_))
      · subst he13
        have h := ob_inl h
        refine u_iinc g 3 [(3, .int (v3 + (1 : Int32))), (0, .ref (w.2.2.1 0)), (1, .int a1), (2, .int e11)] dX11_judge_138 rfl rfl (by decide) rfl ?_
        refine u_goto g 55 dX11_judge_141 (by decide) ?_
        exact u_sub [1, 2, 3, 0] rfl (ih e11 (v3 + (1 : Int32)) _ h K1 K2)
      · subst he13
        have h := ob_inr h
        exact K2 _ (Option.some.inj h).symm
set_option maxRecDepth 100000 in
set_option maxHeartbeats 4000000 in
theorem t_X11_judge (w : Wp) (l : Launch) {a1 : Int32} {M : Mem} {q : Int32 × Mem} (h : f_X11_judge a1 M = some q) : Ct shY w l yX11_judge cX11_judge 6 (some .int) 2 [.ref (w.2.2.1 0), .int a1] M (some (.int q.1), q.2) := by
  rw [f_X11_judge] at h
  refine ct_of shY_loc (by decide) (Nat.le_of_ble_eq_true rfl) rfl (fun x hx g => ?_)
  subst hx
  show U shY w x _ M 0 [(0, .ref (w.2.2.1 0)), (1, .int a1)] []
  generalize hr : ((some (.int q.1), q.2) : Option Value × Mem) = r
  have g : Gd shY w x RX11 cX11_judge 6 (some .int) 2 := g
  refine u_aload_n g 0 dX11_judge_0 rfl ?_
  refine u_iconst g (v := (0 : Int32)) dX11_judge_1 rfl ?_
  refine pfX11_5 g wf_X11_84 dX11_judge_2 ?_
  refine u_aload_n g 0 dX11_judge_5 rfl ?_
  refine u_iload_n g 1 dX11_judge_6 rfl ?_
  obtain ⟨q1, hq2, h⟩ := ob_bind h
  refine u_callV (st := []) g wv_X11_163 [.int a1] (show 0 < shY.1 by decide) ceY_0 rfl rfl (t_X11_isFamily w x.2.1 hq2) (by decide) (by decide) rfl (Nat.le_of_ble_eq_true rfl) rfl dX11_judge_7 ?_
  show U shY w x r (sI M 0 5 (0 : Int32)) 10 [(0, .ref (w.2.2.1 0)), (1, .int a1)] [.int q1]
  refine u_if_ne g 19 dX11_judge_10 (by decide) (fun b3 => ?_) (fun b3 => ?_)
  · have h := ob_neg b3 h
    refine u_aload_n g 0 dX11_judge_19 rfl ?_
    refine u_iconst g (v := (0 : Int32)) dX11_judge_20 rfl ?_
    refine pfX11_4 g wf_X11_88 dX11_judge_21 ?_
    refine u_aload_n g 0 dX11_judge_24 rfl ?_
    refine gfX11_18 g wf_X11_221 (v := (M.1 0 18)) rfl dX11_judge_25 ?_
    refine u_aload_n g 0 dX11_judge_28 rfl ?_
    refine gfX11_9 g wf_X11_25 dX11_judge_29 ?_
    refine u_iload_n g 1 dX11_judge_32 rfl ?_
    obtain ⟨e4, h⟩ := ob_if h
    refine aY_ild g (c := 6) 24 (by decide) rfl (v := (M.1 6 a1.toNatClampNeg)) (inB_in e4) rfl dX11_judge_33 ?_
    refine u_aload_n g 0 dX11_judge_34 rfl ?_
    refine gfX11_9 g wf_X11_25 dX11_judge_35 ?_
    refine u_iload_n g 1 dX11_judge_38 rfl ?_
    obtain ⟨e5, h⟩ := ob_if h
    refine aY_ild g (c := 6) 24 (by decide) rfl (v := (M.1 6 a1.toNatClampNeg)) (inB_in e5) rfl dX11_judge_39 ?_
    refine u_iconst g (v := (1 : Int32)) dX11_judge_40 rfl ?_
    refine u_isub g dX11_judge_41 ?_
    refine u_imul g dX11_judge_42 ?_
    refine u_iconst g (v := (2 : Int32)) dX11_judge_43 rfl ?_
    refine u_idiv g dX11_judge_44 (by decide) ?_
    refine u_icmp_eq g 51 dX11_judge_45 (by decide) (fun b6 => ?_) (fun b6 => ?_)
    · have h := ob_pos b6 h
      refine u_iconst g (v := (0 : Int32)) dX11_judge_51 rfl ?_
      refine u_istore_n g [(2, .int (0 : Int32)), (0, .ref (w.2.2.1 0)), (1, .int a1)] dX11_judge_52 (by decide) rfl ?_
      refine u_iconst g (v := (0 : Int32)) dX11_judge_53 rfl ?_
      refine u_istore_n g [(3, .int (0 : Int32)), (2, .int (0 : Int32)), (0, .ref (w.2.2.1 0)), (1, .int a1)] dX11_judge_54 (by decide) rfl ?_
      obtain ⟨q7, hq8, h⟩ := ob_bind h
      refine u_sub [2, 3, 1, 0] rfl (s_X11_judge_l1 g a1 (sI (sI M 0 5 (0 : Int32)) 0 4 (0 : Int32)) fuelN (0 : Int32) (0 : Int32) _ hq8 (fun e9 he11 => ?_) (fun v10 he11 => ?_))
      · subst he11
        have h := ob_inl h
        refine u_bipush g (v := (-2 : Int32)) dX11_judge_144 rfl ?_
        exact u_iret g dX11_judge_146 (by rw [← hr]; obtain rfl := Option.some.inj h; rfl)
      · subst he11
        have h := ob_inr h
        obtain rfl := Option.some.inj h
        exact hr.symm
    · have h := ob_neg b6 h
      refine u_bipush g (v := (-3 : Int32)) dX11_judge_48 rfl ?_
      exact u_iret g dX11_judge_50 (by rw [← hr]; obtain rfl := Option.some.inj h; rfl)
  · have h := ob_pos b3 h
    refine u_aload_n g 0 dX11_judge_13 rfl ?_
    refine u_iconst g (v := (1 : Int32)) dX11_judge_14 rfl ?_
    obtain ⟨q12, hq13, h⟩ := ob_bind h
    refine u_callV (st := []) g wv_X11_115 [.int (1 : Int32)] (show 0 < shY.1 by decide) ceY_0 rfl rfl (t_X11_no w x.2.1 hq13) (by decide) (by decide) rfl (Nat.le_of_ble_eq_true rfl) rfl dX11_judge_15 ?_
    show U shY w x r q12.2 18 [(0, .ref (w.2.2.1 0)), (1, .int a1)] [.int q12.1]
    exact u_iret g dX11_judge_18 (by rw [← hr]; obtain rfl := Option.some.inj h; rfl)
set_option maxRecDepth 100000 in
set_option maxHeartbeats 4000000 in
theorem t_X11_isPlace (w : Wp) (l : Launch) {a1 : Int32} {M : Mem} {q : Int32} (h : f_X11_isPlace a1 = some q) : Ct shY w l yX11_isPlace cX11_isPlace 2 (some .boolean) 1 [.ref (w.2.2.1 0), .int a1] M (some (.int q), M) := by
  rw [f_X11_isPlace] at h
  refine ct_of shY_loc (by decide) (Nat.le_of_ble_eq_true rfl) rfl (fun x hx g => ?_)
  subst hx
  show U shY w x _ M 0 [(0, .ref (w.2.2.1 0)), (1, .int a1)] []
  generalize hr : ((some (.int q), M) : Option Value × Mem) = r
  have g : Gd shY w x RX11 cX11_isPlace 2 (some .boolean) 1 := g
  refine u_aload_n g 0 dX11_isPlace_0 rfl ?_
  refine u_iload_n g 1 dX11_isPlace_1 rfl ?_
  refine u_iconst g (v := (0 : Int32)) dX11_isPlace_2 rfl ?_
  refine u_bipush g (v := (15 : Int32)) dX11_isPlace_3 rfl ?_
  obtain ⟨q1, hq2, h⟩ := ob_bind h
  refine u_callV (st := []) g wv_X11_97 [.int a1, .int (0 : Int32), .int (15 : Int32)] (show 0 < shY.1 by decide) ceY_0 rfl rfl (t_X11_in w x.2.1 hq2) (by decide) (by decide) rfl (Nat.le_of_ble_eq_true rfl) rfl dX11_isPlace_5 ?_
  show U shY w x r M 8 [(0, .ref (w.2.2.1 0)), (1, .int a1)] [.int q1]
  obtain ⟨hz, h⟩ := ob_if h
  exact u_zret g hz dX11_isPlace_8 (by rw [← hr]; obtain rfl := Option.some.inj h; rfl)
set_option maxRecDepth 100000 in
set_option maxHeartbeats 4000000 in
theorem s_X11_lay_l1 {w : Wp} {x : Cx} {r : Option Value × Mem} (g : Gd shY w x RX11 cX11_lay 5 (some .int) 2) (a1 : Int32) (a2 : Int32)  : ∀ (n : Nat) (v4 : Int32) (M : Mem) (q : Mem), f_X11_lay_l1 a1 a2 n v4 M = some q → U shY w x r q 162 [] [] → U shY w x r M 121 [(0, .ref (w.2.2.1 0)), (1, .int a1), (2, .int a2), (4, .int v4)] [] := by
  intro n
  induction n with
  | zero => intro v4 M q h K; rw [f_X11_lay_l1] at h; cases h
  | succ n ih =>
    intro v4 M q h K
    rw [f_X11_lay_l1] at h
    refine u_iload g 3 dX11_lay_121 rfl ?_
    refine u_bipush g (v := (121 : Int32)) dX11_lay_123 rfl ?_
    refine u_icmp_ge g 162 dX11_lay_125 (by decide) (fun b17 => ?_) (fun b17 => ?_)
    · have h := ob_pos b17 h
      obtain rfl := Option.some.inj h
      exact u_sub [] rfl K
    · have h := ob_neg b17 h
      refine u_aload_n g 0 dX11_lay_128 rfl ?_
      refine gfX11_16 g wf_X11_40 dX11_lay_129 ?_
      refine u_bipush g (v := (121 : Int32)) dX11_lay_132 rfl ?_
      refine u_iload_n g 1 dX11_lay_134 rfl ?_
      refine u_imul g dX11_lay_135 ?_
      refine u_iload g 3 dX11_lay_136 rfl ?_
      refine u_iadd g dX11_lay_138 ?_
      refine u_iload_n g 2 dX11_lay_139 rfl ?_
      refine u_iconst g (v := (3 : Int32)) dX11_lay_140 rfl ?_
      obtain ⟨q18, hq19, h⟩ := ob_bind h
      have K20 : U shY w x r M 155 [(0, .ref (w.2.2.1 0)), (1, .int a1), (2, .int a2), (4, .int v4)] [.int q18, .int (((121 : Int32) * a1) + v4), .ref (w.2.2.1 11)] := by
        obtain ⟨e21, h⟩ := ob_if h
        refine aY_ist g (c := 11) 1936 (by decide) rfl (inB_in e21) (j := (((121 : Int32) * a1) + v4).toNatClampNeg) rfl dX11_lay_155 ?_
        refine u_iinc g 3 [(4, .int (v4 + (1 : Int32))), (0, .ref (w.2.2.1 0)), (1, .int a1), (2, .int a2)] dX11_lay_156 rfl rfl (by decide) rfl ?_
        refine u_goto g 121 dX11_lay_159 (by decide) ?_
        exact u_sub [1, 2, 3, 0] rfl (ih (v4 + (1 : Int32)) (sI M 11 (((121 : Int32) * a1) + v4).toNatClampNeg q18) _ h K)
      have h := hq19
      refine u_icmp_ne g 154 dX11_lay_141 (by decide) (fun b22 => ?_) (fun b22 => ?_)
      · have h := ob_neg b22 h
        refine u_iconst g (v := (0 : Int32)) dX11_lay_154 rfl ?_
        obtain rfl := Option.some.inj h
        exact u_sub [0, 1, 2, 3] rfl K20
      · have h := ob_pos b22 h
        refine u_aload_n g 0 dX11_lay_144 rfl ?_
        refine gfX11_12 g wf_X11_31 dX11_lay_145 ?_
        refine u_iload g 3 dX11_lay_148 rfl ?_
        obtain ⟨e23, h⟩ := ob_if h
        refine aY_ild g (c := 8) 121 (by decide) rfl (v := (M.1 8 v4.toNatClampNeg)) (inB_in e23) rfl dX11_lay_150 ?_
        refine u_goto g 155 dX11_lay_151 (by decide) ?_
        obtain rfl := Option.some.inj h
        exact u_sub [0, 1, 2, 3] rfl K20
set_option maxRecDepth 100000 in
set_option maxHeartbeats 4000000 in
theorem t_X11_lay (w : Wp) (l : Launch) {a1 : Int32} {a2 : Int32} {a3 : Int32} {M : Mem} {q : Int32 × Mem} (h : f_X11_lay a1 a2 a3 M = some q) : Ct shY w l yX11_lay cX11_lay 5 (some .int) 2 [.ref (w.2.2.1 0), .int a1, .int a2, .int a3] M (some (.int q.1), q.2) := by
  rw [f_X11_lay] at h
  refine ct_of shY_loc (by decide) (Nat.le_of_ble_eq_true rfl) rfl (fun x hx g => ?_)
  subst hx
  show U shY w x _ M 0 [(0, .ref (w.2.2.1 0)), (1, .int a1), (2, .int a2), (3, .int a3)] []
  generalize hr : ((some (.int q.1), q.2) : Option Value × Mem) = r
  have g : Gd shY w x RX11 cX11_lay 5 (some .int) 2 := g
  refine u_aload_n g 0 dX11_lay_0 rfl ?_
  refine u_iconst g (v := (0 : Int32)) dX11_lay_1 rfl ?_
  refine pfX11_5 g wf_X11_84 dX11_lay_2 ?_
  refine u_aload_n g 0 dX11_lay_5 rfl ?_
  refine u_iload_n g 1 dX11_lay_6 rfl ?_
  obtain ⟨q1, hq2, h⟩ := ob_bind h
  refine u_callV (st := []) g wv_X11_224 [.int a1] (show 0 < shY.1 by decide) ceY_0 rfl rfl (t_X11_isPlace w x.2.1 hq2) (by decide) (by decide) rfl (Nat.le_of_ble_eq_true rfl) rfl dX11_lay_7 ?_
  show U shY w x r (sI M 0 5 (0 : Int32)) 10 [(0, .ref (w.2.2.1 0)), (1, .int a1), (2, .int a2), (3, .int a3)] [.int q1]
  refine u_if_ne g 19 dX11_lay_10 (by decide) (fun b3 => ?_) (fun b3 => ?_)
  · have h := ob_neg b3 h
    refine u_aload_n g 0 dX11_lay_19 rfl ?_
    refine u_iload_n g 2 dX11_lay_20 rfl ?_
    refine u_iconst g (v := (0 : Int32)) dX11_lay_21 rfl ?_
    refine u_iconst g (v := (3 : Int32)) dX11_lay_22 rfl ?_
    obtain ⟨q4, hq5, h⟩ := ob_bind h
    refine u_callV (st := []) g wv_X11_97 [.int a2, .int (0 : Int32), .int (3 : Int32)] (show 0 < shY.1 by decide) ceY_0 rfl rfl (t_X11_in w x.2.1 hq5) (by decide) (by decide) rfl (Nat.le_of_ble_eq_true rfl) rfl dX11_lay_23 ?_
    show U shY w x r (sI M 0 5 (0 : Int32)) 26 [(0, .ref (w.2.2.1 0)), (1, .int a1), (2, .int a2), (3, .int a3)] [.int q4]
    refine u_if_ne g 35 dX11_lay_26 (by decide) (fun b6 => ?_) (fun b6 => ?_)
    · have h := ob_neg b6 h
      refine u_iload_n g 2 dX11_lay_35 rfl ?_
      refine u_iconst g (v := (1 : Int32)) dX11_lay_36 rfl ?_
      refine u_icmp_ne g 48 dX11_lay_37 (by decide) (fun b7 => ?_) (fun b7 => ?_)
      · have h := ob_neg b7 h
        refine u_iload_n g 2 dX11_lay_48 rfl ?_
        refine u_iconst g (v := (3 : Int32)) dX11_lay_49 rfl ?_
        refine u_icmp_ne g 66 dX11_lay_50 (by decide) (fun b8 => ?_) (fun b8 => ?_)
        · have h := ob_neg b8 h
          refine u_iload_n g 2 dX11_lay_66 rfl ?_
          refine u_iconst g (v := (2 : Int32)) dX11_lay_67 rfl ?_
          refine u_icmp_ne g 85 dX11_lay_68 (by decide) (fun b9 => ?_) (fun b9 => ?_)
          · have h := ob_neg b9 h
            refine u_aload_n g 0 dX11_lay_85 rfl ?_
            refine u_iload_n g 1 dX11_lay_86 rfl ?_
            obtain ⟨q10, hq11, h⟩ := ob_bind h
            refine u_callV (st := []) g wv_X11_227 [.int a1] (show 0 < shY.1 by decide) ceY_0 rfl rfl (t_X11_caseActs w x.2.1 hq11) (by decide) (by decide) rfl (Nat.le_of_ble_eq_true rfl) rfl dX11_lay_87 ?_
            show U shY w x r q10 90 [(0, .ref (w.2.2.1 0)), (1, .int a1), (2, .int a2), (3, .int a3)] []
            refine u_aload_n g 0 dX11_lay_90 rfl ?_
            refine gfX11_14 g wf_X11_34 dX11_lay_91 ?_
            refine u_iload_n g 1 dX11_lay_94 rfl ?_
            refine u_iload_n g 2 dX11_lay_95 rfl ?_
            obtain ⟨e12, h⟩ := ob_if h
            refine aY_ist g (c := 9) 16 (by decide) rfl (inB_in e12) (j := a1.toNatClampNeg) rfl dX11_lay_96 ?_
            refine u_aload_n g 0 dX11_lay_97 rfl ?_
            refine gfX11_15 g wf_X11_37 dX11_lay_98 ?_
            refine u_iload_n g 1 dX11_lay_101 rfl ?_
            refine u_iload_n g 2 dX11_lay_102 rfl ?_
            refine u_iconst g (v := (1 : Int32)) dX11_lay_103 rfl ?_
            obtain ⟨q13, hq14, h⟩ := ob_bind h
            have K15 : U shY w x r (sI q10 9 a1.toNatClampNeg a2) 117 [(0, .ref (w.2.2.1 0)), (1, .int a1), (2, .int a2)] [.int q13, .int a1, .ref (w.2.2.1 10)] := by
              obtain ⟨e16, h⟩ := ob_if h
              refine aY_ist g (c := 10) 16 (by decide) rfl (inB_in e16) (j := a1.toNatClampNeg) rfl dX11_lay_117 ?_
              refine u_iconst g (v := (0 : Int32)) dX11_lay_118 rfl ?_
              refine u_istore g [(4, .int (0 : Int32)), (0, .ref (w.2.2.1 0)), (1, .int a1), (2, .int a2)] dX11_lay_119 (by decide) rfl ?_
              obtain ⟨q17, hq18, h⟩ := ob_bind h
              refine u_sub [1, 2, 3, 0] rfl (s_X11_lay_l1 g a1 a2 fuelN (0 : Int32) (sI (sI q10 9 a1.toNatClampNeg a2) 10 a1.toNatClampNeg q13) _ hq18 ?_)
              show U shY w x r q17 162 [] []
              refine u_iconst g (v := (1 : Int32)) dX11_lay_162 rfl ?_
              exact u_iret g dX11_lay_163 (by rw [← hr]; obtain rfl := Option.some.inj h; rfl)
            have h := hq14
            refine u_icmp_eq g 112 dX11_lay_104 (by decide) (fun b19 => ?_) (fun b19 => ?_)
            · have h := ob_pos b19 h
              refine u_iload_n g 3 dX11_lay_112 rfl ?_
              refine u_goto g 117 dX11_lay_113 (by decide) ?_
              obtain rfl := Option.some.inj h
              exact u_sub [0, 1, 2] rfl K15
            · have h := ob_neg b19 h
              refine u_iload_n g 2 dX11_lay_107 rfl ?_
              refine u_iconst g (v := (2 : Int32)) dX11_lay_108 rfl ?_
              refine u_icmp_ne g 116 dX11_lay_109 (by decide) (fun b20 => ?_) (fun b20 => ?_)
              · have h := ob_neg b20 h
                refine u_iconst g (v := (0 : Int32)) dX11_lay_116 rfl ?_
                obtain rfl := Option.some.inj h
                exact u_sub [0, 1, 2] rfl K15
              · have h := ob_pos b20 h
                refine u_iload_n g 3 dX11_lay_112 rfl ?_
                refine u_goto g 117 dX11_lay_113 (by decide) ?_
                obtain rfl := Option.some.inj h
                exact u_sub [0, 1, 2] rfl K15
          · have h := ob_pos b9 h
            refine u_aload_n g 0 dX11_lay_71 rfl ?_
            refine u_iload_n g 3 dX11_lay_72 rfl ?_
            obtain ⟨q21, hq22, h⟩ := ob_bind h
            refine u_callV (st := []) g wv_X11_140 [.int a3] (show 0 < shY.1 by decide) ceY_0 rfl rfl (t_X11_isSet w x.2.1 hq22) (by decide) (by decide) rfl (Nat.le_of_ble_eq_true rfl) rfl dX11_lay_73 ?_
            show U shY w x r (sI M 0 5 (0 : Int32)) 76 [(0, .ref (w.2.2.1 0)), (1, .int a1), (2, .int a2), (3, .int a3)] [.int q21]
            refine u_if_ne g 85 dX11_lay_76 (by decide) (fun b23 => ?_) (fun b23 => ?_)
            · have h := ob_neg b23 h
              refine u_aload_n g 0 dX11_lay_85 rfl ?_
              refine u_iload_n g 1 dX11_lay_86 rfl ?_
              obtain ⟨q24, hq25, h⟩ := ob_bind h
              refine u_callV (st := []) g wv_X11_227 [.int a1] (show 0 < shY.1 by decide) ceY_0 rfl rfl (t_X11_caseActs w x.2.1 hq25) (by decide) (by decide) rfl (Nat.le_of_ble_eq_true rfl) rfl dX11_lay_87 ?_
              show U shY w x r q24 90 [(0, .ref (w.2.2.1 0)), (1, .int a1), (2, .int a2), (3, .int a3)] []
              refine u_aload_n g 0 dX11_lay_90 rfl ?_
              refine gfX11_14 g wf_X11_34 dX11_lay_91 ?_
              refine u_iload_n g 1 dX11_lay_94 rfl ?_
              refine u_iload_n g 2 dX11_lay_95 rfl ?_
              obtain ⟨e26, h⟩ := ob_if h
              refine aY_ist g (c := 9) 16 (by decide) rfl (inB_in e26) (j := a1.toNatClampNeg) rfl dX11_lay_96 ?_
              refine u_aload_n g 0 dX11_lay_97 rfl ?_
              refine gfX11_15 g wf_X11_37 dX11_lay_98 ?_
              refine u_iload_n g 1 dX11_lay_101 rfl ?_
              refine u_iload_n g 2 dX11_lay_102 rfl ?_
              refine u_iconst g (v := (1 : Int32)) dX11_lay_103 rfl ?_
              obtain ⟨q27, hq28, h⟩ := ob_bind h
              have K29 : U shY w x r (sI q24 9 a1.toNatClampNeg a2) 117 [(0, .ref (w.2.2.1 0)), (1, .int a1), (2, .int a2)] [.int q27, .int a1, .ref (w.2.2.1 10)] := by
                obtain ⟨e30, h⟩ := ob_if h
                refine aY_ist g (c := 10) 16 (by decide) rfl (inB_in e30) (j := a1.toNatClampNeg) rfl dX11_lay_117 ?_
                refine u_iconst g (v := (0 : Int32)) dX11_lay_118 rfl ?_
                refine u_istore g [(4, .int (0 : Int32)), (0, .ref (w.2.2.1 0)), (1, .int a1), (2, .int a2)] dX11_lay_119 (by decide) rfl ?_
                obtain ⟨q31, hq32, h⟩ := ob_bind h
                refine u_sub [1, 2, 3, 0] rfl (s_X11_lay_l1 g a1 a2 fuelN (0 : Int32) (sI (sI q24 9 a1.toNatClampNeg a2) 10 a1.toNatClampNeg q27) _ hq32 ?_)
                show U shY w x r q31 162 [] []
                refine u_iconst g (v := (1 : Int32)) dX11_lay_162 rfl ?_
                exact u_iret g dX11_lay_163 (by rw [← hr]; obtain rfl := Option.some.inj h; rfl)
              have h := hq28
              refine u_icmp_eq g 112 dX11_lay_104 (by decide) (fun b33 => ?_) (fun b33 => ?_)
              · have h := ob_pos b33 h
                refine u_iload_n g 3 dX11_lay_112 rfl ?_
                refine u_goto g 117 dX11_lay_113 (by decide) ?_
                obtain rfl := Option.some.inj h
                exact u_sub [0, 1, 2] rfl K29
              · have h := ob_neg b33 h
                refine u_iload_n g 2 dX11_lay_107 rfl ?_
                refine u_iconst g (v := (2 : Int32)) dX11_lay_108 rfl ?_
                refine u_icmp_ne g 116 dX11_lay_109 (by decide) (fun b34 => ?_) (fun b34 => ?_)
                · have h := ob_neg b34 h
                  refine u_iconst g (v := (0 : Int32)) dX11_lay_116 rfl ?_
                  obtain rfl := Option.some.inj h
                  exact u_sub [0, 1, 2] rfl K29
                · have h := ob_pos b34 h
                  refine u_iload_n g 3 dX11_lay_112 rfl ?_
                  refine u_goto g 117 dX11_lay_113 (by decide) ?_
                  obtain rfl := Option.some.inj h
                  exact u_sub [0, 1, 2] rfl K29
            · have h := ob_pos b23 h
              refine u_aload_n g 0 dX11_lay_79 rfl ?_
              refine u_iconst g (v := (2 : Int32)) dX11_lay_80 rfl ?_
              obtain ⟨q35, hq36, h⟩ := ob_bind h
              refine u_callV (st := []) g wv_X11_115 [.int (2 : Int32)] (show 0 < shY.1 by decide) ceY_0 rfl rfl (t_X11_no w x.2.1 hq36) (by decide) (by decide) rfl (Nat.le_of_ble_eq_true rfl) rfl dX11_lay_81 ?_
              show U shY w x r q35.2 84 [(0, .ref (w.2.2.1 0)), (1, .int a1), (2, .int a2), (3, .int a3)] [.int q35.1]
              exact u_iret g dX11_lay_84 (by rw [← hr]; obtain rfl := Option.some.inj h; rfl)
        · have h := ob_pos b8 h
          refine u_aload_n g 0 dX11_lay_53 rfl ?_
          refine gfX11_13 g wf_X11_104 (v := (M.1 0 13)) rfl dX11_lay_54 ?_
          refine u_if_ne g 66 dX11_lay_57 (by decide) (fun b37 => ?_) (fun b37 => ?_)
          · have h := ob_neg b37 h
            refine u_iload_n g 2 dX11_lay_66 rfl ?_
            refine u_iconst g (v := (2 : Int32)) dX11_lay_67 rfl ?_
            refine u_icmp_ne g 85 dX11_lay_68 (by decide) (fun b38 => ?_) (fun b38 => ?_)
            · have h := ob_neg b38 h
              refine u_aload_n g 0 dX11_lay_85 rfl ?_
              refine u_iload_n g 1 dX11_lay_86 rfl ?_
              obtain ⟨q39, hq40, h⟩ := ob_bind h
              refine u_callV (st := []) g wv_X11_227 [.int a1] (show 0 < shY.1 by decide) ceY_0 rfl rfl (t_X11_caseActs w x.2.1 hq40) (by decide) (by decide) rfl (Nat.le_of_ble_eq_true rfl) rfl dX11_lay_87 ?_
              show U shY w x r q39 90 [(0, .ref (w.2.2.1 0)), (1, .int a1), (2, .int a2), (3, .int a3)] []
              refine u_aload_n g 0 dX11_lay_90 rfl ?_
              refine gfX11_14 g wf_X11_34 dX11_lay_91 ?_
              refine u_iload_n g 1 dX11_lay_94 rfl ?_
              refine u_iload_n g 2 dX11_lay_95 rfl ?_
              obtain ⟨e41, h⟩ := ob_if h
              refine aY_ist g (c := 9) 16 (by decide) rfl (inB_in e41) (j := a1.toNatClampNeg) rfl dX11_lay_96 ?_
              refine u_aload_n g 0 dX11_lay_97 rfl ?_
              refine gfX11_15 g wf_X11_37 dX11_lay_98 ?_
              refine u_iload_n g 1 dX11_lay_101 rfl ?_
              refine u_iload_n g 2 dX11_lay_102 rfl ?_
              refine u_iconst g (v := (1 : Int32)) dX11_lay_103 rfl ?_
              obtain ⟨q42, hq43, h⟩ := ob_bind h
              have K44 : U shY w x r (sI q39 9 a1.toNatClampNeg a2) 117 [(0, .ref (w.2.2.1 0)), (1, .int a1), (2, .int a2)] [.int q42, .int a1, .ref (w.2.2.1 10)] := by
                obtain ⟨e45, h⟩ := ob_if h
                refine aY_ist g (c := 10) 16 (by decide) rfl (inB_in e45) (j := a1.toNatClampNeg) rfl dX11_lay_117 ?_
                refine u_iconst g (v := (0 : Int32)) dX11_lay_118 rfl ?_
                refine u_istore g [(4, .int (0 : Int32)), (0, .ref (w.2.2.1 0)), (1, .int a1), (2, .int a2)] dX11_lay_119 (by decide) rfl ?_
                obtain ⟨q46, hq47, h⟩ := ob_bind h
                refine u_sub [1, 2, 3, 0] rfl (s_X11_lay_l1 g a1 a2 fuelN (0 : Int32) (sI (sI q39 9 a1.toNatClampNeg a2) 10 a1.toNatClampNeg q42) _ hq47 ?_)
                show U shY w x r q46 162 [] []
                refine u_iconst g (v := (1 : Int32)) dX11_lay_162 rfl ?_
                exact u_iret g dX11_lay_163 (by rw [← hr]; obtain rfl := Option.some.inj h; rfl)
              have h := hq43
              refine u_icmp_eq g 112 dX11_lay_104 (by decide) (fun b48 => ?_) (fun b48 => ?_)
              · have h := ob_pos b48 h
                refine u_iload_n g 3 dX11_lay_112 rfl ?_
                refine u_goto g 117 dX11_lay_113 (by decide) ?_
                obtain rfl := Option.some.inj h
                exact u_sub [0, 1, 2] rfl K44
              · have h := ob_neg b48 h
                refine u_iload_n g 2 dX11_lay_107 rfl ?_
                refine u_iconst g (v := (2 : Int32)) dX11_lay_108 rfl ?_
                refine u_icmp_ne g 116 dX11_lay_109 (by decide) (fun b49 => ?_) (fun b49 => ?_)
                · have h := ob_neg b49 h
                  refine u_iconst g (v := (0 : Int32)) dX11_lay_116 rfl ?_
                  obtain rfl := Option.some.inj h
                  exact u_sub [0, 1, 2] rfl K44
                · have h := ob_pos b49 h
                  refine u_iload_n g 3 dX11_lay_112 rfl ?_
                  refine u_goto g 117 dX11_lay_113 (by decide) ?_
                  obtain rfl := Option.some.inj h
                  exact u_sub [0, 1, 2] rfl K44
            · have h := ob_pos b38 h
              refine u_aload_n g 0 dX11_lay_71 rfl ?_
              refine u_iload_n g 3 dX11_lay_72 rfl ?_
              obtain ⟨q50, hq51, h⟩ := ob_bind h
              refine u_callV (st := []) g wv_X11_140 [.int a3] (show 0 < shY.1 by decide) ceY_0 rfl rfl (t_X11_isSet w x.2.1 hq51) (by decide) (by decide) rfl (Nat.le_of_ble_eq_true rfl) rfl dX11_lay_73 ?_
              show U shY w x r (sI M 0 5 (0 : Int32)) 76 [(0, .ref (w.2.2.1 0)), (1, .int a1), (2, .int a2), (3, .int a3)] [.int q50]
              refine u_if_ne g 85 dX11_lay_76 (by decide) (fun b52 => ?_) (fun b52 => ?_)
              · have h := ob_neg b52 h
                refine u_aload_n g 0 dX11_lay_85 rfl ?_
                refine u_iload_n g 1 dX11_lay_86 rfl ?_
                obtain ⟨q53, hq54, h⟩ := ob_bind h
                refine u_callV (st := []) g wv_X11_227 [.int a1] (show 0 < shY.1 by decide) ceY_0 rfl rfl (t_X11_caseActs w x.2.1 hq54) (by decide) (by decide) rfl (Nat.le_of_ble_eq_true rfl) rfl dX11_lay_87 ?_
                show U shY w x r q53 90 [(0, .ref (w.2.2.1 0)), (1, .int a1), (2, .int a2), (3, .int a3)] []
                refine u_aload_n g 0 dX11_lay_90 rfl ?_
                refine gfX11_14 g wf_X11_34 dX11_lay_91 ?_
                refine u_iload_n g 1 dX11_lay_94 rfl ?_
                refine u_iload_n g 2 dX11_lay_95 rfl ?_
                obtain ⟨e55, h⟩ := ob_if h
                refine aY_ist g (c := 9) 16 (by decide) rfl (inB_in e55) (j := a1.toNatClampNeg) rfl dX11_lay_96 ?_
                refine u_aload_n g 0 dX11_lay_97 rfl ?_
                refine gfX11_15 g wf_X11_37 dX11_lay_98 ?_
                refine u_iload_n g 1 dX11_lay_101 rfl ?_
                refine u_iload_n g 2 dX11_lay_102 rfl ?_
                refine u_iconst g (v := (1 : Int32)) dX11_lay_103 rfl ?_
                obtain ⟨q56, hq57, h⟩ := ob_bind h
                have K58 : U shY w x r (sI q53 9 a1.toNatClampNeg a2) 117 [(0, .ref (w.2.2.1 0)), (1, .int a1), (2, .int a2)] [.int q56, .int a1, .ref (w.2.2.1 10)] := by
                  obtain ⟨e59, h⟩ := ob_if h
                  refine aY_ist g (c := 10) 16 (by decide) rfl (inB_in e59) (j := a1.toNatClampNeg) rfl dX11_lay_117 ?_
                  refine u_iconst g (v := (0 : Int32)) dX11_lay_118 rfl ?_
                  refine u_istore g [(4, .int (0 : Int32)), (0, .ref (w.2.2.1 0)), (1, .int a1), (2, .int a2)] dX11_lay_119 (by decide) rfl ?_
                  obtain ⟨q60, hq61, h⟩ := ob_bind h
                  refine u_sub [1, 2, 3, 0] rfl (s_X11_lay_l1 g a1 a2 fuelN (0 : Int32) (sI (sI q53 9 a1.toNatClampNeg a2) 10 a1.toNatClampNeg q56) _ hq61 ?_)
                  show U shY w x r q60 162 [] []
                  refine u_iconst g (v := (1 : Int32)) dX11_lay_162 rfl ?_
                  exact u_iret g dX11_lay_163 (by rw [← hr]; obtain rfl := Option.some.inj h; rfl)
                have h := hq57
                refine u_icmp_eq g 112 dX11_lay_104 (by decide) (fun b62 => ?_) (fun b62 => ?_)
                · have h := ob_pos b62 h
                  refine u_iload_n g 3 dX11_lay_112 rfl ?_
                  refine u_goto g 117 dX11_lay_113 (by decide) ?_
                  obtain rfl := Option.some.inj h
                  exact u_sub [0, 1, 2] rfl K58
                · have h := ob_neg b62 h
                  refine u_iload_n g 2 dX11_lay_107 rfl ?_
                  refine u_iconst g (v := (2 : Int32)) dX11_lay_108 rfl ?_
                  refine u_icmp_ne g 116 dX11_lay_109 (by decide) (fun b63 => ?_) (fun b63 => ?_)
                  · have h := ob_neg b63 h
                    refine u_iconst g (v := (0 : Int32)) dX11_lay_116 rfl ?_
                    obtain rfl := Option.some.inj h
                    exact u_sub [0, 1, 2] rfl K58
                  · have h := ob_pos b63 h
                    refine u_iload_n g 3 dX11_lay_112 rfl ?_
                    refine u_goto g 117 dX11_lay_113 (by decide) ?_
                    obtain rfl := Option.some.inj h
                    exact u_sub [0, 1, 2] rfl K58
              · have h := ob_pos b52 h
                refine u_aload_n g 0 dX11_lay_79 rfl ?_
                refine u_iconst g (v := (2 : Int32)) dX11_lay_80 rfl ?_
                obtain ⟨q64, hq65, h⟩ := ob_bind h
                refine u_callV (st := []) g wv_X11_115 [.int (2 : Int32)] (show 0 < shY.1 by decide) ceY_0 rfl rfl (t_X11_no w x.2.1 hq65) (by decide) (by decide) rfl (Nat.le_of_ble_eq_true rfl) rfl dX11_lay_81 ?_
                show U shY w x r q64.2 84 [(0, .ref (w.2.2.1 0)), (1, .int a1), (2, .int a2), (3, .int a3)] [.int q64.1]
                exact u_iret g dX11_lay_84 (by rw [← hr]; obtain rfl := Option.some.inj h; rfl)
          · have h := ob_pos b37 h
            refine u_aload_n g 0 dX11_lay_60 rfl ?_
            refine u_iconst g (v := (1 : Int32)) dX11_lay_61 rfl ?_
            obtain ⟨q66, hq67, h⟩ := ob_bind h
            refine u_callV (st := []) g wv_X11_115 [.int (1 : Int32)] (show 0 < shY.1 by decide) ceY_0 rfl rfl (t_X11_no w x.2.1 hq67) (by decide) (by decide) rfl (Nat.le_of_ble_eq_true rfl) rfl dX11_lay_62 ?_
            show U shY w x r q66.2 65 [(0, .ref (w.2.2.1 0)), (1, .int a1), (2, .int a2), (3, .int a3)] [.int q66.1]
            exact u_iret g dX11_lay_65 (by rw [← hr]; obtain rfl := Option.some.inj h; rfl)
      · have h := ob_pos b7 h
        refine u_aload_n g 0 dX11_lay_40 rfl ?_
        refine u_iload_n g 3 dX11_lay_41 rfl ?_
        obtain ⟨q68, hq69, h⟩ := ob_bind h
        refine u_callV (st := []) g wv_X11_163 [.int a3] (show 0 < shY.1 by decide) ceY_0 rfl rfl (t_X11_isFamily w x.2.1 hq69) (by decide) (by decide) rfl (Nat.le_of_ble_eq_true rfl) rfl dX11_lay_42 ?_
        show U shY w x r (sI M 0 5 (0 : Int32)) 45 [(0, .ref (w.2.2.1 0)), (1, .int a1), (2, .int a2), (3, .int a3)] [.int q68]
        refine u_if_eq g 60 dX11_lay_45 (by decide) (fun b70 => ?_) (fun b70 => ?_)
        · have h := ob_pos b70 h
          refine u_aload_n g 0 dX11_lay_60 rfl ?_
          refine u_iconst g (v := (1 : Int32)) dX11_lay_61 rfl ?_
          obtain ⟨q71, hq72, h⟩ := ob_bind h
          refine u_callV (st := []) g wv_X11_115 [.int (1 : Int32)] (show 0 < shY.1 by decide) ceY_0 rfl rfl (t_X11_no w x.2.1 hq72) (by decide) (by decide) rfl (Nat.le_of_ble_eq_true rfl) rfl dX11_lay_62 ?_
          show U shY w x r q71.2 65 [(0, .ref (w.2.2.1 0)), (1, .int a1), (2, .int a2), (3, .int a3)] [.int q71.1]
          exact u_iret g dX11_lay_65 (by rw [← hr]; obtain rfl := Option.some.inj h; rfl)
        · have h := ob_neg b70 h
          refine u_iload_n g 2 dX11_lay_48 rfl ?_
          refine u_iconst g (v := (3 : Int32)) dX11_lay_49 rfl ?_
          refine u_icmp_ne g 66 dX11_lay_50 (by decide) (fun b73 => ?_) (fun b73 => ?_)
          · have h := ob_neg b73 h
            refine u_iload_n g 2 dX11_lay_66 rfl ?_
            refine u_iconst g (v := (2 : Int32)) dX11_lay_67 rfl ?_
            refine u_icmp_ne g 85 dX11_lay_68 (by decide) (fun b74 => ?_) (fun b74 => ?_)
            · have h := ob_neg b74 h
              refine u_aload_n g 0 dX11_lay_85 rfl ?_
              refine u_iload_n g 1 dX11_lay_86 rfl ?_
              obtain ⟨q75, hq76, h⟩ := ob_bind h
              refine u_callV (st := []) g wv_X11_227 [.int a1] (show 0 < shY.1 by decide) ceY_0 rfl rfl (t_X11_caseActs w x.2.1 hq76) (by decide) (by decide) rfl (Nat.le_of_ble_eq_true rfl) rfl dX11_lay_87 ?_
              show U shY w x r q75 90 [(0, .ref (w.2.2.1 0)), (1, .int a1), (2, .int a2), (3, .int a3)] []
              refine u_aload_n g 0 dX11_lay_90 rfl ?_
              refine gfX11_14 g wf_X11_34 dX11_lay_91 ?_
              refine u_iload_n g 1 dX11_lay_94 rfl ?_
              refine u_iload_n g 2 dX11_lay_95 rfl ?_
              obtain ⟨e77, h⟩ := ob_if h
              refine aY_ist g (c := 9) 16 (by decide) rfl (inB_in e77) (j := a1.toNatClampNeg) rfl dX11_lay_96 ?_
              refine u_aload_n g 0 dX11_lay_97 rfl ?_
              refine gfX11_15 g wf_X11_37 dX11_lay_98 ?_
              refine u_iload_n g 1 dX11_lay_101 rfl ?_
              refine u_iload_n g 2 dX11_lay_102 rfl ?_
              refine u_iconst g (v := (1 : Int32)) dX11_lay_103 rfl ?_
              obtain ⟨q78, hq79, h⟩ := ob_bind h
              have K80 : U shY w x r (sI q75 9 a1.toNatClampNeg a2) 117 [(0, .ref (w.2.2.1 0)), (1, .int a1), (2, .int a2)] [.int q78, .int a1, .ref (w.2.2.1 10)] := by
                obtain ⟨e81, h⟩ := ob_if h
                refine aY_ist g (c := 10) 16 (by decide) rfl (inB_in e81) (j := a1.toNatClampNeg) rfl dX11_lay_117 ?_
                refine u_iconst g (v := (0 : Int32)) dX11_lay_118 rfl ?_
                refine u_istore g [(4, .int (0 : Int32)), (0, .ref (w.2.2.1 0)), (1, .int a1), (2, .int a2)] dX11_lay_119 (by decide) rfl ?_
                obtain ⟨q82, hq83, h⟩ := ob_bind h
                refine u_sub [1, 2, 3, 0] rfl (s_X11_lay_l1 g a1 a2 fuelN (0 : Int32) (sI (sI q75 9 a1.toNatClampNeg a2) 10 a1.toNatClampNeg q78) _ hq83 ?_)
                show U shY w x r q82 162 [] []
                refine u_iconst g (v := (1 : Int32)) dX11_lay_162 rfl ?_
                exact u_iret g dX11_lay_163 (by rw [← hr]; obtain rfl := Option.some.inj h; rfl)
              have h := hq79
              refine u_icmp_eq g 112 dX11_lay_104 (by decide) (fun b84 => ?_) (fun b84 => ?_)
              · have h := ob_pos b84 h
                refine u_iload_n g 3 dX11_lay_112 rfl ?_
                refine u_goto g 117 dX11_lay_113 (by decide) ?_
                obtain rfl := Option.some.inj h
                exact u_sub [0, 1, 2] rfl K80
              · have h := ob_neg b84 h
                refine u_iload_n g 2 dX11_lay_107 rfl ?_
                refine u_iconst g (v := (2 : Int32)) dX11_lay_108 rfl ?_
                refine u_icmp_ne g 116 dX11_lay_109 (by decide) (fun b85 => ?_) (fun b85 => ?_)
                · have h := ob_neg b85 h
                  refine u_iconst g (v := (0 : Int32)) dX11_lay_116 rfl ?_
                  obtain rfl := Option.some.inj h
                  exact u_sub [0, 1, 2] rfl K80
                · have h := ob_pos b85 h
                  refine u_iload_n g 3 dX11_lay_112 rfl ?_
                  refine u_goto g 117 dX11_lay_113 (by decide) ?_
                  obtain rfl := Option.some.inj h
                  exact u_sub [0, 1, 2] rfl K80
            · have h := ob_pos b74 h
              refine u_aload_n g 0 dX11_lay_71 rfl ?_
              refine u_iload_n g 3 dX11_lay_72 rfl ?_
              obtain ⟨q86, hq87, h⟩ := ob_bind h
              refine u_callV (st := []) g wv_X11_140 [.int a3] (show 0 < shY.1 by decide) ceY_0 rfl rfl (t_X11_isSet w x.2.1 hq87) (by decide) (by decide) rfl (Nat.le_of_ble_eq_true rfl) rfl dX11_lay_73 ?_
              show U shY w x r (sI M 0 5 (0 : Int32)) 76 [(0, .ref (w.2.2.1 0)), (1, .int a1), (2, .int a2), (3, .int a3)] [.int q86]
              refine u_if_ne g 85 dX11_lay_76 (by decide) (fun b88 => ?_) (fun b88 => ?_)
              · have h := ob_neg b88 h
                refine u_aload_n g 0 dX11_lay_85 rfl ?_
                refine u_iload_n g 1 dX11_lay_86 rfl ?_
                obtain ⟨q89, hq90, h⟩ := ob_bind h
                refine u_callV (st := []) g wv_X11_227 [.int a1] (show 0 < shY.1 by decide) ceY_0 rfl rfl (t_X11_caseActs w x.2.1 hq90) (by decide) (by decide) rfl (Nat.le_of_ble_eq_true rfl) rfl dX11_lay_87 ?_
                show U shY w x r q89 90 [(0, .ref (w.2.2.1 0)), (1, .int a1), (2, .int a2), (3, .int a3)] []
                refine u_aload_n g 0 dX11_lay_90 rfl ?_
                refine gfX11_14 g wf_X11_34 dX11_lay_91 ?_
                refine u_iload_n g 1 dX11_lay_94 rfl ?_
                refine u_iload_n g 2 dX11_lay_95 rfl ?_
                obtain ⟨e91, h⟩ := ob_if h
                refine aY_ist g (c := 9) 16 (by decide) rfl (inB_in e91) (j := a1.toNatClampNeg) rfl dX11_lay_96 ?_
                refine u_aload_n g 0 dX11_lay_97 rfl ?_
                refine gfX11_15 g wf_X11_37 dX11_lay_98 ?_
                refine u_iload_n g 1 dX11_lay_101 rfl ?_
                refine u_iload_n g 2 dX11_lay_102 rfl ?_
                refine u_iconst g (v := (1 : Int32)) dX11_lay_103 rfl ?_
                obtain ⟨q92, hq93, h⟩ := ob_bind h
                have K94 : U shY w x r (sI q89 9 a1.toNatClampNeg a2) 117 [(0, .ref (w.2.2.1 0)), (1, .int a1), (2, .int a2)] [.int q92, .int a1, .ref (w.2.2.1 10)] := by
                  obtain ⟨e95, h⟩ := ob_if h
                  refine aY_ist g (c := 10) 16 (by decide) rfl (inB_in e95) (j := a1.toNatClampNeg) rfl dX11_lay_117 ?_
                  refine u_iconst g (v := (0 : Int32)) dX11_lay_118 rfl ?_
                  refine u_istore g [(4, .int (0 : Int32)), (0, .ref (w.2.2.1 0)), (1, .int a1), (2, .int a2)] dX11_lay_119 (by decide) rfl ?_
                  obtain ⟨q96, hq97, h⟩ := ob_bind h
                  refine u_sub [1, 2, 3, 0] rfl (s_X11_lay_l1 g a1 a2 fuelN (0 : Int32) (sI (sI q89 9 a1.toNatClampNeg a2) 10 a1.toNatClampNeg q92) _ hq97 ?_)
                  show U shY w x r q96 162 [] []
                  refine u_iconst g (v := (1 : Int32)) dX11_lay_162 rfl ?_
                  exact u_iret g dX11_lay_163 (by rw [← hr]; obtain rfl := Option.some.inj h; rfl)
                have h := hq93
                refine u_icmp_eq g 112 dX11_lay_104 (by decide) (fun b98 => ?_) (fun b98 => ?_)
                · have h := ob_pos b98 h
                  refine u_iload_n g 3 dX11_lay_112 rfl ?_
                  refine u_goto g 117 dX11_lay_113 (by decide) ?_
                  obtain rfl := Option.some.inj h
                  exact u_sub [0, 1, 2] rfl K94
                · have h := ob_neg b98 h
                  refine u_iload_n g 2 dX11_lay_107 rfl ?_
                  refine u_iconst g (v := (2 : Int32)) dX11_lay_108 rfl ?_
                  refine u_icmp_ne g 116 dX11_lay_109 (by decide) (fun b99 => ?_) (fun b99 => ?_)
                  · have h := ob_neg b99 h
                    refine u_iconst g (v := (0 : Int32)) dX11_lay_116 rfl ?_
                    obtain rfl := Option.some.inj h
                    exact u_sub [0, 1, 2] rfl K94
                  · have h := ob_pos b99 h
                    refine u_iload_n g 3 dX11_lay_112 rfl ?_
                    refine u_goto g 117 dX11_lay_113 (by decide) ?_
                    obtain rfl := Option.some.inj h
                    exact u_sub [0, 1, 2] rfl K94
              · have h := ob_pos b88 h
                refine u_aload_n g 0 dX11_lay_79 rfl ?_
                refine u_iconst g (v := (2 : Int32)) dX11_lay_80 rfl ?_
                obtain ⟨q100, hq101, h⟩ := ob_bind h
                refine u_callV (st := []) g wv_X11_115 [.int (2 : Int32)] (show 0 < shY.1 by decide) ceY_0 rfl rfl (t_X11_no w x.2.1 hq101) (by decide) (by decide) rfl (Nat.le_of_ble_eq_true rfl) rfl dX11_lay_81 ?_
                show U shY w x r q100.2 84 [(0, .ref (w.2.2.1 0)), (1, .int a1), (2, .int a2), (3, .int a3)] [.int q100.1]
                exact u_iret g dX11_lay_84 (by rw [← hr]; obtain rfl := Option.some.inj h; rfl)
          · have h := ob_pos b73 h
            refine u_aload_n g 0 dX11_lay_53 rfl ?_
            refine gfX11_13 g wf_X11_104 (v := (M.1 0 13)) rfl dX11_lay_54 ?_
            refine u_if_ne g 66 dX11_lay_57 (by decide) (fun b102 => ?_) (fun b102 => ?_)
            · have h := ob_neg b102 h
              refine u_iload_n g 2 dX11_lay_66 rfl ?_
              refine u_iconst g (v := (2 : Int32)) dX11_lay_67 rfl ?_
              refine u_icmp_ne g 85 dX11_lay_68 (by decide) (fun b103 => ?_) (fun b103 => ?_)
              · have h := ob_neg b103 h
                refine u_aload_n g 0 dX11_lay_85 rfl ?_
                refine u_iload_n g 1 dX11_lay_86 rfl ?_
                obtain ⟨q104, hq105, h⟩ := ob_bind h
                refine u_callV (st := []) g wv_X11_227 [.int a1] (show 0 < shY.1 by decide) ceY_0 rfl rfl (t_X11_caseActs w x.2.1 hq105) (by decide) (by decide) rfl (Nat.le_of_ble_eq_true rfl) rfl dX11_lay_87 ?_
                show U shY w x r q104 90 [(0, .ref (w.2.2.1 0)), (1, .int a1), (2, .int a2), (3, .int a3)] []
                refine u_aload_n g 0 dX11_lay_90 rfl ?_
                refine gfX11_14 g wf_X11_34 dX11_lay_91 ?_
                refine u_iload_n g 1 dX11_lay_94 rfl ?_
                refine u_iload_n g 2 dX11_lay_95 rfl ?_
                obtain ⟨e106, h⟩ := ob_if h
                refine aY_ist g (c := 9) 16 (by decide) rfl (inB_in e106) (j := a1.toNatClampNeg) rfl dX11_lay_96 ?_
                refine u_aload_n g 0 dX11_lay_97 rfl ?_
                refine gfX11_15 g wf_X11_37 dX11_lay_98 ?_
                refine u_iload_n g 1 dX11_lay_101 rfl ?_
                refine u_iload_n g 2 dX11_lay_102 rfl ?_
                refine u_iconst g (v := (1 : Int32)) dX11_lay_103 rfl ?_
                obtain ⟨q107, hq108, h⟩ := ob_bind h
                have K109 : U shY w x r (sI q104 9 a1.toNatClampNeg a2) 117 [(0, .ref (w.2.2.1 0)), (1, .int a1), (2, .int a2)] [.int q107, .int a1, .ref (w.2.2.1 10)] := by
                  obtain ⟨e110, h⟩ := ob_if h
                  refine aY_ist g (c := 10) 16 (by decide) rfl (inB_in e110) (j := a1.toNatClampNeg) rfl dX11_lay_117 ?_
                  refine u_iconst g (v := (0 : Int32)) dX11_lay_118 rfl ?_
                  refine u_istore g [(4, .int (0 : Int32)), (0, .ref (w.2.2.1 0)), (1, .int a1), (2, .int a2)] dX11_lay_119 (by decide) rfl ?_
                  obtain ⟨q111, hq112, h⟩ := ob_bind h
                  refine u_sub [1, 2, 3, 0] rfl (s_X11_lay_l1 g a1 a2 fuelN (0 : Int32) (sI (sI q104 9 a1.toNatClampNeg a2) 10 a1.toNatClampNeg q107) _ hq112 ?_)
                  show U shY w x r q111 162 [] []
                  refine u_iconst g (v := (1 : Int32)) dX11_lay_162 rfl ?_
                  exact u_iret g dX11_lay_163 (by rw [← hr]; obtain rfl := Option.some.inj h; rfl)
                have h := hq108
                refine u_icmp_eq g 112 dX11_lay_104 (by decide) (fun b113 => ?_) (fun b113 => ?_)
                · have h := ob_pos b113 h
                  refine u_iload_n g 3 dX11_lay_112 rfl ?_
                  refine u_goto g 117 dX11_lay_113 (by decide) ?_
                  obtain rfl := Option.some.inj h
                  exact u_sub [0, 1, 2] rfl K109
                · have h := ob_neg b113 h
                  refine u_iload_n g 2 dX11_lay_107 rfl ?_
                  refine u_iconst g (v := (2 : Int32)) dX11_lay_108 rfl ?_
                  refine u_icmp_ne g 116 dX11_lay_109 (by decide) (fun b114 => ?_) (fun b114 => ?_)
                  · have h := ob_neg b114 h
                    refine u_iconst g (v := (0 : Int32)) dX11_lay_116 rfl ?_
                    obtain rfl := Option.some.inj h
                    exact u_sub [0, 1, 2] rfl K109
                  · have h := ob_pos b114 h
                    refine u_iload_n g 3 dX11_lay_112 rfl ?_
                    refine u_goto g 117 dX11_lay_113 (by decide) ?_
                    obtain rfl := Option.some.inj h
                    exact u_sub [0, 1, 2] rfl K109
              · have h := ob_pos b103 h
                refine u_aload_n g 0 dX11_lay_71 rfl ?_
                refine u_iload_n g 3 dX11_lay_72 rfl ?_
                obtain ⟨q115, hq116, h⟩ := ob_bind h
                refine u_callV (st := []) g wv_X11_140 [.int a3] (show 0 < shY.1 by decide) ceY_0 rfl rfl (t_X11_isSet w x.2.1 hq116) (by decide) (by decide) rfl (Nat.le_of_ble_eq_true rfl) rfl dX11_lay_73 ?_
                show U shY w x r (sI M 0 5 (0 : Int32)) 76 [(0, .ref (w.2.2.1 0)), (1, .int a1), (2, .int a2), (3, .int a3)] [.int q115]
                refine u_if_ne g 85 dX11_lay_76 (by decide) (fun b117 => ?_) (fun b117 => ?_)
                · have h := ob_neg b117 h
                  refine u_aload_n g 0 dX11_lay_85 rfl ?_
                  refine u_iload_n g 1 dX11_lay_86 rfl ?_
                  obtain ⟨q118, hq119, h⟩ := ob_bind h
                  refine u_callV (st := []) g wv_X11_227 [.int a1] (show 0 < shY.1 by decide) ceY_0 rfl rfl (t_X11_caseActs w x.2.1 hq119) (by decide) (by decide) rfl (Nat.le_of_ble_eq_true rfl) rfl dX11_lay_87 ?_
                  show U shY w x r q118 90 [(0, .ref (w.2.2.1 0)), (1, .int a1), (2, .int a2), (3, .int a3)] []
                  refine u_aload_n g 0 dX11_lay_90 rfl ?_
                  refine gfX11_14 g wf_X11_34 dX11_lay_91 ?_
                  refine u_iload_n g 1 dX11_lay_94 rfl ?_
                  refine u_iload_n g 2 dX11_lay_95 rfl ?_
                  obtain ⟨e120, h⟩ := ob_if h
                  refine aY_ist g (c := 9) 16 (by decide) rfl (inB_in e120) (j := a1.toNatClampNeg) rfl dX11_lay_96 ?_
                  refine u_aload_n g 0 dX11_lay_97 rfl ?_
                  refine gfX11_15 g wf_X11_37 dX11_lay_98 ?_
                  refine u_iload_n g 1 dX11_lay_101 rfl ?_
                  refine u_iload_n g 2 dX11_lay_102 rfl ?_
                  refine u_iconst g (v := (1 : Int32)) dX11_lay_103 rfl ?_
                  obtain ⟨q121, hq122, h⟩ := ob_bind h
                  have K123 : U shY w x r (sI q118 9 a1.toNatClampNeg a2) 117 [(0, .ref (w.2.2.1 0)), (1, .int a1), (2, .int a2)] [.int q121, .int a1, .ref (w.2.2.1 10)] := by
                    obtain ⟨e124, h⟩ := ob_if h
                    refine aY_ist g (c := 10) 16 (by decide) rfl (inB_in e124) (j := a1.toNatClampNeg) rfl dX11_lay_117 ?_
                    refine u_iconst g (v := (0 : Int32)) dX11_lay_118 rfl ?_
                    refine u_istore g [(4, .int (0 : Int32)), (0, .ref (w.2.2.1 0)), (1, .int a1), (2, .int a2)] dX11_lay_119 (by decide) rfl ?_
                    obtain ⟨q125, hq126, h⟩ := ob_bind h
                    refine u_sub [1, 2, 3, 0] rfl (s_X11_lay_l1 g a1 a2 fuelN (0 : Int32) (sI (sI q118 9 a1.toNatClampNeg a2) 10 a1.toNatClampNeg q121) _ hq126 ?_)
                    show U shY w x r q125 162 [] []
                    refine u_iconst g (v := (1 : Int32)) dX11_lay_162 rfl ?_
                    exact u_iret g dX11_lay_163 (by rw [← hr]; obtain rfl := Option.some.inj h; rfl)
                  have h := hq122
                  refine u_icmp_eq g 112 dX11_lay_104 (by decide) (fun b127 => ?_) (fun b127 => ?_)
                  · have h := ob_pos b127 h
                    refine u_iload_n g 3 dX11_lay_112 rfl ?_
                    refine u_goto g 117 dX11_lay_113 (by decide) ?_
                    obtain rfl := Option.some.inj h
                    exact u_sub [0, 1, 2] rfl K123
                  · have h := ob_neg b127 h
                    refine u_iload_n g 2 dX11_lay_107 rfl ?_
                    refine u_iconst g (v := (2 : Int32)) dX11_lay_108 rfl ?_
                    refine u_icmp_ne g 116 dX11_lay_109 (by decide) (fun b128 => ?_) (fun b128 => ?_)
                    · have h := ob_neg b128 h
                      refine u_iconst g (v := (0 : Int32)) dX11_lay_116 rfl ?_
                      obtain rfl := Option.some.inj h
                      exact u_sub [0, 1, 2] rfl K123
                    · have h := ob_pos b128 h
                      refine u_iload_n g 3 dX11_lay_112 rfl ?_
                      refine u_goto g 117 dX11_lay_113 (by decide) ?_
                      obtain rfl := Option.some.inj h
                      exact u_sub [0, 1, 2] rfl K123
                · have h := ob_pos b117 h
                  refine u_aload_n g 0 dX11_lay_79 rfl ?_
                  refine u_iconst g (v := (2 : Int32)) dX11_lay_80 rfl ?_
                  obtain ⟨q129, hq130, h⟩ := ob_bind h
                  refine u_callV (st := []) g wv_X11_115 [.int (2 : Int32)] (show 0 < shY.1 by decide) ceY_0 rfl rfl (t_X11_no w x.2.1 hq130) (by decide) (by decide) rfl (Nat.le_of_ble_eq_true rfl) rfl dX11_lay_81 ?_
                  show U shY w x r q129.2 84 [(0, .ref (w.2.2.1 0)), (1, .int a1), (2, .int a2), (3, .int a3)] [.int q129.1]
                  exact u_iret g dX11_lay_84 (by rw [← hr]; obtain rfl := Option.some.inj h; rfl)
            · have h := ob_pos b102 h
              refine u_aload_n g 0 dX11_lay_60 rfl ?_
              refine u_iconst g (v := (1 : Int32)) dX11_lay_61 rfl ?_
              obtain ⟨q131, hq132, h⟩ := ob_bind h
              refine u_callV (st := []) g wv_X11_115 [.int (1 : Int32)] (show 0 < shY.1 by decide) ceY_0 rfl rfl (t_X11_no w x.2.1 hq132) (by decide) (by decide) rfl (Nat.le_of_ble_eq_true rfl) rfl dX11_lay_62 ?_
              show U shY w x r q131.2 65 [(0, .ref (w.2.2.1 0)), (1, .int a1), (2, .int a2), (3, .int a3)] [.int q131.1]
              exact u_iret g dX11_lay_65 (by rw [← hr]; obtain rfl := Option.some.inj h; rfl)
    · have h := ob_pos b6 h
      refine u_aload_n g 0 dX11_lay_29 rfl ?_
      refine u_iconst g (v := (2 : Int32)) dX11_lay_30 rfl ?_
      obtain ⟨q133, hq134, h⟩ := ob_bind h
      refine u_callV (st := []) g wv_X11_115 [.int (2 : Int32)] (show 0 < shY.1 by decide) ceY_0 rfl rfl (t_X11_no w x.2.1 hq134) (by decide) (by decide) rfl (Nat.le_of_ble_eq_true rfl) rfl dX11_lay_31 ?_
      show U shY w x r q133.2 34 [(0, .ref (w.2.2.1 0)), (1, .int a1), (2, .int a2), (3, .int a3)] [.int q133.1]
      exact u_iret g dX11_lay_34 (by rw [← hr]; obtain rfl := Option.some.inj h; rfl)
  · have h := ob_pos b3 h
    refine u_aload_n g 0 dX11_lay_13 rfl ?_
    refine u_iconst g (v := (1 : Int32)) dX11_lay_14 rfl ?_
    obtain ⟨q135, hq136, h⟩ := ob_bind h
    refine u_callV (st := []) g wv_X11_115 [.int (1 : Int32)] (show 0 < shY.1 by decide) ceY_0 rfl rfl (t_X11_no w x.2.1 hq136) (by decide) (by decide) rfl (Nat.le_of_ble_eq_true rfl) rfl dX11_lay_15 ?_
    show U shY w x r q135.2 18 [(0, .ref (w.2.2.1 0)), (1, .int a1), (2, .int a2), (3, .int a3)] [.int q135.1]
    exact u_iret g dX11_lay_18 (by rw [← hr]; obtain rfl := Option.some.inj h; rfl)
set_option maxRecDepth 100000 in
set_option maxHeartbeats 4000000 in
theorem t_X11_lies (w : Wp) (l : Launch) {a1 : Int32} {M : Mem} {q : Int32 × Mem} (h : f_X11_lies a1 M = some q) : Ct shY w l yX11_lies cX11_lies 2 (some .int) 2 [.ref (w.2.2.1 0), .int a1] M (some (.int q.1), q.2) := by
  rw [f_X11_lies] at h
  refine ct_of shY_loc (by decide) (Nat.le_of_ble_eq_true rfl) rfl (fun x hx g => ?_)
  subst hx
  show U shY w x _ M 0 [(0, .ref (w.2.2.1 0)), (1, .int a1)] []
  generalize hr : ((some (.int q.1), q.2) : Option Value × Mem) = r
  have g : Gd shY w x RX11 cX11_lies 2 (some .int) 2 := g
  refine u_aload_n g 0 dX11_lies_0 rfl ?_
  refine u_iconst g (v := (0 : Int32)) dX11_lies_1 rfl ?_
  refine pfX11_5 g wf_X11_84 dX11_lies_2 ?_
  refine u_aload_n g 0 dX11_lies_5 rfl ?_
  refine u_iload_n g 1 dX11_lies_6 rfl ?_
  obtain ⟨q1, hq2, h⟩ := ob_bind h
  refine u_callV (st := []) g wv_X11_224 [.int a1] (show 0 < shY.1 by decide) ceY_0 rfl rfl (t_X11_isPlace w x.2.1 hq2) (by decide) (by decide) rfl (Nat.le_of_ble_eq_true rfl) rfl dX11_lies_7 ?_
  show U shY w x r (sI M 0 5 (0 : Int32)) 10 [(0, .ref (w.2.2.1 0)), (1, .int a1)] [.int q1]
  refine u_if_ne g 19 dX11_lies_10 (by decide) (fun b3 => ?_) (fun b3 => ?_)
  · have h := ob_neg b3 h
    refine u_aload_n g 0 dX11_lies_19 rfl ?_
    refine u_iconst g (v := (0 : Int32)) dX11_lies_20 rfl ?_
    refine pfX11_4 g wf_X11_88 dX11_lies_21 ?_
    refine u_aload_n g 0 dX11_lies_24 rfl ?_
    refine gfX11_14 g wf_X11_34 dX11_lies_25 ?_
    refine u_iload_n g 1 dX11_lies_28 rfl ?_
    obtain ⟨e4, h⟩ := ob_if h
    refine aY_ild g (c := 9) 16 (by decide) rfl (v := (M.1 9 a1.toNatClampNeg)) (inB_in e4) rfl dX11_lies_29 ?_
    exact u_iret g dX11_lies_30 (by rw [← hr]; obtain rfl := Option.some.inj h; rfl)
  · have h := ob_pos b3 h
    refine u_aload_n g 0 dX11_lies_13 rfl ?_
    refine u_iconst g (v := (1 : Int32)) dX11_lies_14 rfl ?_
    obtain ⟨q5, hq6, h⟩ := ob_bind h
    refine u_callV (st := []) g wv_X11_115 [.int (1 : Int32)] (show 0 < shY.1 by decide) ceY_0 rfl rfl (t_X11_no w x.2.1 hq6) (by decide) (by decide) rfl (Nat.le_of_ble_eq_true rfl) rfl dX11_lies_15 ?_
    show U shY w x r q5.2 18 [(0, .ref (w.2.2.1 0)), (1, .int a1)] [.int q5.1]
    exact u_iret g dX11_lies_18 (by rw [← hr]; obtain rfl := Option.some.inj h; rfl)
set_option maxRecDepth 100000 in
set_option maxHeartbeats 4000000 in
theorem t_X11_partsIn (w : Wp) (l : Launch) {a1 : Int32} {M : Mem} {q : Int32} (h : f_X11_partsIn a1 M = some q) : Ct shY w l yX11_partsIn cX11_partsIn 2 (some .int) 0 [.ref (w.2.2.1 0), .int a1] M (some (.int q), M) := by
  rw [f_X11_partsIn] at h
  refine ct_of shY_loc (by decide) (Nat.le_of_ble_eq_true rfl) rfl (fun x hx g => ?_)
  subst hx
  show U shY w x _ M 0 [(0, .ref (w.2.2.1 0)), (1, .int a1)] []
  generalize hr : ((some (.int q), M) : Option Value × Mem) = r
  have g : Gd shY w x RX11 cX11_partsIn 2 (some .int) 0 := g
  refine u_aload_n g 0 dX11_partsIn_0 rfl ?_
  refine gfX11_9 g wf_X11_25 dX11_partsIn_1 ?_
  refine u_aload_n g 0 dX11_partsIn_4 rfl ?_
  refine gfX11_16 g wf_X11_40 dX11_partsIn_5 ?_
  refine u_bipush g (v := (121 : Int32)) dX11_partsIn_8 rfl ?_
  refine u_iload_n g 1 dX11_partsIn_10 rfl ?_
  refine u_imul g dX11_partsIn_11 ?_
  obtain ⟨e1, h⟩ := ob_if h
  refine aY_ild g (c := 11) 1936 (by decide) rfl (v := (M.1 11 ((121 : Int32) * a1).toNatClampNeg)) (inB_in e1) rfl dX11_partsIn_12 ?_
  obtain ⟨e2, h⟩ := ob_if h
  refine aY_ild g (c := 6) 24 (by decide) rfl (v := (M.1 6 (M.1 11 ((121 : Int32) * a1).toNatClampNeg).toNatClampNeg)) (inB_in e2) rfl dX11_partsIn_13 ?_
  exact u_iret g dX11_partsIn_14 (by rw [← hr]; obtain rfl := Option.some.inj h; rfl)
set_option maxRecDepth 100000 in
set_option maxHeartbeats 4000000 in
theorem t_X11_taken (w : Wp) (l : Launch) {a1 : Int32} {a2 : Int32} {a3 : Int32} {M : Mem} {q : Int32 × Mem} (h : f_X11_taken a1 a2 a3 M = some q) : Ct shY w l yX11_taken cX11_taken 4 (some .int) 2 [.ref (w.2.2.1 0), .int a1, .int a2, .int a3] M (some (.int q.1), q.2) := by
  rw [f_X11_taken] at h
  refine ct_of shY_loc (by decide) (Nat.le_of_ble_eq_true rfl) rfl (fun x hx g => ?_)
  subst hx
  show U shY w x _ M 0 [(0, .ref (w.2.2.1 0)), (1, .int a1), (2, .int a2), (3, .int a3)] []
  generalize hr : ((some (.int q.1), q.2) : Option Value × Mem) = r
  have g : Gd shY w x RX11 cX11_taken 4 (some .int) 2 := g
  refine u_aload_n g 0 dX11_taken_0 rfl ?_
  refine u_iconst g (v := (0 : Int32)) dX11_taken_1 rfl ?_
  refine pfX11_5 g wf_X11_84 dX11_taken_2 ?_
  refine u_aload_n g 0 dX11_taken_5 rfl ?_
  refine u_iload_n g 1 dX11_taken_6 rfl ?_
  obtain ⟨q1, hq2, h⟩ := ob_bind h
  refine u_callV (st := []) g wv_X11_224 [.int a1] (show 0 < shY.1 by decide) ceY_0 rfl rfl (t_X11_isPlace w x.2.1 hq2) (by decide) (by decide) rfl (Nat.le_of_ble_eq_true rfl) rfl dX11_taken_7 ?_
  show U shY w x r (sI M 0 5 (0 : Int32)) 10 [(0, .ref (w.2.2.1 0)), (1, .int a1), (2, .int a2), (3, .int a3)] [.int q1]
  refine u_if_ne g 19 dX11_taken_10 (by decide) (fun b3 => ?_) (fun b3 => ?_)
  · have h := ob_neg b3 h
    refine u_aload_n g 0 dX11_taken_19 rfl ?_
    refine u_iload_n g 2 dX11_taken_20 rfl ?_
    refine u_iconst g (v := (1 : Int32)) dX11_taken_21 rfl ?_
    refine u_iconst g (v := (3 : Int32)) dX11_taken_22 rfl ?_
    obtain ⟨q4, hq5, h⟩ := ob_bind h
    refine u_callV (st := []) g wv_X11_97 [.int a2, .int (1 : Int32), .int (3 : Int32)] (show 0 < shY.1 by decide) ceY_0 rfl rfl (t_X11_in w x.2.1 hq5) (by decide) (by decide) rfl (Nat.le_of_ble_eq_true rfl) rfl dX11_taken_23 ?_
    show U shY w x r (sI M 0 5 (0 : Int32)) 26 [(0, .ref (w.2.2.1 0)), (1, .int a1), (2, .int a2), (3, .int a3)] [.int q4]
    refine u_if_ne g 35 dX11_taken_26 (by decide) (fun b6 => ?_) (fun b6 => ?_)
    · have h := ob_neg b6 h
      refine u_aload_n g 0 dX11_taken_35 rfl ?_
      refine gfX11_14 g wf_X11_34 dX11_taken_36 ?_
      refine u_iload_n g 1 dX11_taken_39 rfl ?_
      obtain ⟨e7, h⟩ := ob_if h
      refine aY_ild g (c := 9) 16 (by decide) rfl (v := (M.1 9 a1.toNatClampNeg)) (inB_in e7) rfl dX11_taken_40 ?_
      refine u_iload_n g 2 dX11_taken_41 rfl ?_
      refine u_icmp_eq g 52 dX11_taken_42 (by decide) (fun b8 => ?_) (fun b8 => ?_)
      · have h := ob_pos b8 h
        refine u_iload_n g 2 dX11_taken_52 rfl ?_
        refine u_iconst g (v := (3 : Int32)) dX11_taken_53 rfl ?_
        refine u_icmp_ne g 79 dX11_taken_54 (by decide) (fun b9 => ?_) (fun b9 => ?_)
        · have h := ob_neg b9 h
          refine u_aload_n g 0 dX11_taken_79 rfl ?_
          refine u_iconst g (v := (0 : Int32)) dX11_taken_80 rfl ?_
          refine pfX11_4 g wf_X11_88 dX11_taken_81 ?_
          refine u_iload_n g 2 dX11_taken_84 rfl ?_
          refine u_iconst g (v := (3 : Int32)) dX11_taken_85 rfl ?_
          refine u_icmp_ne g 105 dX11_taken_86 (by decide) (fun b10 => ?_) (fun b10 => ?_)
          · have h := ob_neg b10 h
            refine u_aload_n g 0 dX11_taken_105 rfl ?_
            refine gfX11_15 g wf_X11_37 dX11_taken_106 ?_
            refine u_iload_n g 1 dX11_taken_109 rfl ?_
            obtain ⟨e11, h⟩ := ob_if h
            refine aY_ild g (c := 10) 16 (by decide) rfl (v := (M.1 10 a1.toNatClampNeg)) (inB_in e11) rfl dX11_taken_110 ?_
            exact u_iret g dX11_taken_111 (by rw [← hr]; obtain rfl := Option.some.inj h; rfl)
          · have h := ob_pos b10 h
            refine u_aload_n g 0 dX11_taken_89 rfl ?_
            refine gfX11_16 g wf_X11_40 dX11_taken_90 ?_
            refine u_bipush g (v := (121 : Int32)) dX11_taken_93 rfl ?_
            refine u_iload_n g 1 dX11_taken_95 rfl ?_
            refine u_imul g dX11_taken_96 ?_
            refine u_iconst g (v := (1 : Int32)) dX11_taken_97 rfl ?_
            refine u_iadd g dX11_taken_98 ?_
            refine u_iload_n g 3 dX11_taken_99 rfl ?_
            refine u_iadd g dX11_taken_100 ?_
            obtain ⟨e12, h⟩ := ob_if h
            refine aY_ild g (c := 11) 1936 (by decide) rfl (v := (M.1 11 ((((121 : Int32) * a1) + (1 : Int32)) + a3).toNatClampNeg)) (inB_in e12) rfl dX11_taken_101 ?_
            refine u_goto g 111 dX11_taken_102 (by decide) ?_
            exact u_iret g dX11_taken_111 (by rw [← hr]; obtain rfl := Option.some.inj h; rfl)
        · have h := ob_pos b9 h
          refine u_aload_n g 0 dX11_taken_57 rfl ?_
          refine u_iload_n g 3 dX11_taken_58 rfl ?_
          refine u_iconst g (v := (0 : Int32)) dX11_taken_59 rfl ?_
          refine u_aload_n g 0 dX11_taken_60 rfl ?_
          refine u_iload_n g 1 dX11_taken_61 rfl ?_
          obtain ⟨q13, hq14, h⟩ := ob_bind h
          refine u_callV (st := [.int (0 : Int32), .int a3, .ref (w.2.2.1 0)]) g wv_X11_230 [.int a1] (show 0 < shY.1 by decide) ceY_0 rfl rfl (t_X11_partsIn w x.2.1 hq14) (by decide) (by decide) rfl (Nat.le_of_ble_eq_true rfl) rfl dX11_taken_62 ?_
          show U shY w x r (sI M 0 5 (0 : Int32)) 65 [(0, .ref (w.2.2.1 0)), (1, .int a1), (2, .int a2), (3, .int a3)] [.int q13, .int (0 : Int32), .int a3, .ref (w.2.2.1 0)]
          refine u_iconst g (v := (1 : Int32)) dX11_taken_65 rfl ?_
          refine u_isub g dX11_taken_66 ?_
          obtain ⟨q15, hq16, h⟩ := ob_bind h
          refine u_callV (st := []) g wv_X11_97 [.int a3, .int (0 : Int32), .int (q13 - (1 : Int32))] (show 0 < shY.1 by decide) ceY_0 rfl rfl (t_X11_in w x.2.1 hq16) (by decide) (by decide) rfl (Nat.le_of_ble_eq_true rfl) rfl dX11_taken_67 ?_
          show U shY w x r (sI M 0 5 (0 : Int32)) 70 [(0, .ref (w.2.2.1 0)), (1, .int a1), (2, .int a2), (3, .int a3)] [.int q15]
          refine u_if_ne g 79 dX11_taken_70 (by decide) (fun b17 => ?_) (fun b17 => ?_)
          · have h := ob_neg b17 h
            refine u_aload_n g 0 dX11_taken_79 rfl ?_
            refine u_iconst g (v := (0 : Int32)) dX11_taken_80 rfl ?_
            refine pfX11_4 g wf_X11_88 dX11_taken_81 ?_
            refine u_iload_n g 2 dX11_taken_84 rfl ?_
            refine u_iconst g (v := (3 : Int32)) dX11_taken_85 rfl ?_
            refine u_icmp_ne g 105 dX11_taken_86 (by decide) (fun b18 => ?_) (fun b18 => ?_)
            · have h := ob_neg b18 h
              refine u_aload_n g 0 dX11_taken_105 rfl ?_
              refine gfX11_15 g wf_X11_37 dX11_taken_106 ?_
              refine u_iload_n g 1 dX11_taken_109 rfl ?_
              obtain ⟨e19, h⟩ := ob_if h
              refine aY_ild g (c := 10) 16 (by decide) rfl (v := (M.1 10 a1.toNatClampNeg)) (inB_in e19) rfl dX11_taken_110 ?_
              exact u_iret g dX11_taken_111 (by rw [← hr]; obtain rfl := Option.some.inj h; rfl)
            · have h := ob_pos b18 h
              refine u_aload_n g 0 dX11_taken_89 rfl ?_
              refine gfX11_16 g wf_X11_40 dX11_taken_90 ?_
              refine u_bipush g (v := (121 : Int32)) dX11_taken_93 rfl ?_
              refine u_iload_n g 1 dX11_taken_95 rfl ?_
              refine u_imul g dX11_taken_96 ?_
              refine u_iconst g (v := (1 : Int32)) dX11_taken_97 rfl ?_
              refine u_iadd g dX11_taken_98 ?_
              refine u_iload_n g 3 dX11_taken_99 rfl ?_
              refine u_iadd g dX11_taken_100 ?_
              obtain ⟨e20, h⟩ := ob_if h
              refine aY_ild g (c := 11) 1936 (by decide) rfl (v := (M.1 11 ((((121 : Int32) * a1) + (1 : Int32)) + a3).toNatClampNeg)) (inB_in e20) rfl dX11_taken_101 ?_
              refine u_goto g 111 dX11_taken_102 (by decide) ?_
              exact u_iret g dX11_taken_111 (by rw [← hr]; obtain rfl := Option.some.inj h; rfl)
          · have h := ob_pos b17 h
            refine u_aload_n g 0 dX11_taken_73 rfl ?_
            refine u_iconst g (v := (1 : Int32)) dX11_taken_74 rfl ?_
            obtain ⟨q21, hq22, h⟩ := ob_bind h
            refine u_callV (st := []) g wv_X11_115 [.int (1 : Int32)] (show 0 < shY.1 by decide) ceY_0 rfl rfl (t_X11_no w x.2.1 hq22) (by decide) (by decide) rfl (Nat.le_of_ble_eq_true rfl) rfl dX11_taken_75 ?_
            show U shY w x r q21.2 78 [(0, .ref (w.2.2.1 0)), (1, .int a1), (2, .int a2), (3, .int a3)] [.int q21.1]
            exact u_iret g dX11_taken_78 (by rw [← hr]; obtain rfl := Option.some.inj h; rfl)
      · have h := ob_neg b8 h
        refine u_aload_n g 0 dX11_taken_45 rfl ?_
        refine u_bipush g (v := (6 : Int32)) dX11_taken_46 rfl ?_
        obtain ⟨q23, hq24, h⟩ := ob_bind h
        refine u_callV (st := []) g wv_X11_115 [.int (6 : Int32)] (show 0 < shY.1 by decide) ceY_0 rfl rfl (t_X11_no w x.2.1 hq24) (by decide) (by decide) rfl (Nat.le_of_ble_eq_true rfl) rfl dX11_taken_48 ?_
        show U shY w x r q23.2 51 [(0, .ref (w.2.2.1 0)), (1, .int a1), (2, .int a2), (3, .int a3)] [.int q23.1]
        exact u_iret g dX11_taken_51 (by rw [← hr]; obtain rfl := Option.some.inj h; rfl)
    · have h := ob_pos b6 h
      refine u_aload_n g 0 dX11_taken_29 rfl ?_
      refine u_iconst g (v := (2 : Int32)) dX11_taken_30 rfl ?_
      obtain ⟨q25, hq26, h⟩ := ob_bind h
      refine u_callV (st := []) g wv_X11_115 [.int (2 : Int32)] (show 0 < shY.1 by decide) ceY_0 rfl rfl (t_X11_no w x.2.1 hq26) (by decide) (by decide) rfl (Nat.le_of_ble_eq_true rfl) rfl dX11_taken_31 ?_
      show U shY w x r q25.2 34 [(0, .ref (w.2.2.1 0)), (1, .int a1), (2, .int a2), (3, .int a3)] [.int q25.1]
      exact u_iret g dX11_taken_34 (by rw [← hr]; obtain rfl := Option.some.inj h; rfl)
  · have h := ob_pos b3 h
    refine u_aload_n g 0 dX11_taken_13 rfl ?_
    refine u_iconst g (v := (1 : Int32)) dX11_taken_14 rfl ?_
    obtain ⟨q27, hq28, h⟩ := ob_bind h
    refine u_callV (st := []) g wv_X11_115 [.int (1 : Int32)] (show 0 < shY.1 by decide) ceY_0 rfl rfl (t_X11_no w x.2.1 hq28) (by decide) (by decide) rfl (Nat.le_of_ble_eq_true rfl) rfl dX11_taken_15 ?_
    show U shY w x r q27.2 18 [(0, .ref (w.2.2.1 0)), (1, .int a1), (2, .int a2), (3, .int a3)] [.int q27.1]
    exact u_iret g dX11_taken_18 (by rw [← hr]; obtain rfl := Option.some.inj h; rfl)
set_option maxRecDepth 100000 in
set_option maxHeartbeats 4000000 in
theorem s_X11_copy_l1 {w : Wp} {x : Cx} {r : Option Value × Mem} (g : Gd shY w x RX11 cX11_copy 7 (some .int) 2) (a1 : Int32) (a2 : Int32) (a3 : Int32) (a4 : Int32) (a5 : Int32)  : ∀ (n : Nat) (v6 : Int32) (M : Mem) (q : Mem), f_X11_copy_l1 a1 a2 a3 a4 a5 n v6 M = some q → U shY w x r q 143 [(0, .ref (w.2.2.1 0)), (3, .int a3), (4, .int a4), (5, .int a5)] [] → U shY w x r M 107 [(0, .ref (w.2.2.1 0)), (1, .int a1), (2, .int a2), (3, .int a3), (4, .int a4), (5, .int a5), (6, .int v6)] [] := by
  intro n
  induction n with
  | zero => intro v6 M q h K; rw [f_X11_copy_l1] at h; cases h
  | succ n ih =>
    intro v6 M q h K
    rw [f_X11_copy_l1] at h
    refine u_iload g 6 dX11_copy_107 rfl ?_
    refine u_iload g 5 dX11_copy_109 rfl ?_
    refine u_icmp_ge g 143 dX11_copy_111 (by decide) (fun b34 => ?_) (fun b34 => ?_)
    · have h := ob_pos b34 h
      obtain rfl := Option.some.inj h
      exact u_sub [0, 3, 4, 5] rfl K
    · have h := ob_neg b34 h
      refine u_aload_n g 0 dX11_copy_114 rfl ?_
      refine gfX11_35 g wf_X11_81 dX11_copy_115 ?_
      refine u_iload g 6 dX11_copy_118 rfl ?_
      refine u_aload_n g 0 dX11_copy_120 rfl ?_
      refine gfX11_16 g wf_X11_40 dX11_copy_121 ?_
      refine u_bipush g (v := (121 : Int32)) dX11_copy_124 rfl ?_
      refine u_iload_n g 1 dX11_copy_126 rfl ?_
      refine u_imul g dX11_copy_127 ?_
      refine u_iconst g (v := (1 : Int32)) dX11_copy_128 rfl ?_
      refine u_iadd g dX11_copy_129 ?_
      refine u_iload_n g 2 dX11_copy_130 rfl ?_
      refine u_iadd g dX11_copy_131 ?_
      refine u_iload g 6 dX11_copy_132 rfl ?_
      refine u_iadd g dX11_copy_134 ?_
      obtain ⟨e35, h⟩ := ob_if h
      refine aY_ild g (c := 11) 1936 (by decide) rfl (v := (M.1 11 (((((121 : Int32) * a1) + (1 : Int32)) + a2) + v6).toNatClampNeg)) (inB_in e35) rfl dX11_copy_135 ?_
      obtain ⟨e36, h⟩ := ob_if h
      refine aY_ist g (c := 24) 120 (by decide) rfl (inB_in e36) (j := v6.toNatClampNeg) rfl dX11_copy_136 ?_
      refine u_iinc g 6 [(6, .int (v6 + (1 : Int32))), (0, .ref (w.2.2.1 0)), (1, .int a1), (2, .int a2), (3, .int a3), (4, .int a4), (5, .int a5)] dX11_copy_137 rfl rfl (by decide) rfl ?_
      refine u_goto g 107 dX11_copy_140 (by decide) ?_
      exact u_sub [1, 2, 3, 4, 5, 6, 0] rfl (ih (v6 + (1 : Int32)) (sI M 24 v6.toNatClampNeg (M.1 11 (((((121 : Int32) * a1) + (1 : Int32)) + a2) + v6).toNatClampNeg)) _ h K)
set_option maxRecDepth 100000 in
set_option maxHeartbeats 4000000 in
theorem s_X11_copy_l2 {w : Wp} {x : Cx} {r : Option Value × Mem} (g : Gd shY w x RX11 cX11_copy 7 (some .int) 2) (a3 : Int32) (a4 : Int32) (a5 : Int32)  : ∀ (n : Nat) (v6 : Int32) (M : Mem) (q : Mem), f_X11_copy_l2 a3 a4 a5 n v6 M = some q → U shY w x r q 183 [] [] → U shY w x r M 146 [(0, .ref (w.2.2.1 0)), (3, .int a3), (4, .int a4), (5, .int a5), (6, .int v6)] [] := by
  intro n
  induction n with
  | zero => intro v6 M q h K; rw [f_X11_copy_l2] at h; cases h
  | succ n ih =>
    intro v6 M q h K
    rw [f_X11_copy_l2] at h
    refine u_iload g 4 dX11_copy_146 rfl ?_
    refine u_iload g 3 dX11_copy_148 rfl ?_
    refine u_icmp_ge g 183 dX11_copy_150 (by decide) (fun b36 => ?_) (fun b36 => ?_)
    · have h := ob_pos b36 h
      obtain rfl := Option.some.inj h
      exact u_sub [] rfl K
    · have h := ob_neg b36 h
      refine u_aload_n g 0 dX11_copy_153 rfl ?_
      refine gfX11_16 g wf_X11_40 dX11_copy_154 ?_
      refine u_bipush g (v := (121 : Int32)) dX11_copy_157 rfl ?_
      refine u_iload_n g 1 dX11_copy_159 rfl ?_
      refine u_imul g dX11_copy_160 ?_
      refine u_iconst g (v := (1 : Int32)) dX11_copy_161 rfl ?_
      refine u_iadd g dX11_copy_162 ?_
      refine u_iload g 2 dX11_copy_163 rfl ?_
      refine u_iadd g dX11_copy_165 ?_
      refine u_iload g 4 dX11_copy_166 rfl ?_
      refine u_iadd g dX11_copy_168 ?_
      refine u_aload_n g 0 dX11_copy_169 rfl ?_
      refine gfX11_35 g wf_X11_81 dX11_copy_170 ?_
      refine u_iload g 4 dX11_copy_173 rfl ?_
      obtain ⟨e37, h⟩ := ob_if h
      refine aY_ild g (c := 24) 120 (by decide) rfl (v := (M.1 24 v6.toNatClampNeg)) (inB_in e37) rfl dX11_copy_175 ?_
      obtain ⟨e38, h⟩ := ob_if h
      refine aY_ist g (c := 11) 1936 (by decide) rfl (inB_in e38) (j := (((((121 : Int32) * a3) + (1 : Int32)) + a4) + v6).toNatClampNeg) rfl dX11_copy_176 ?_
      refine u_iinc g 4 [(6, .int (v6 + (1 : Int32))), (0, .ref (w.2.2.1 0)), (3, .int a3), (4, .int a4), (5, .int a5)] dX11_copy_177 rfl rfl (by decide) rfl ?_
      refine u_goto g 146 dX11_copy_180 (by decide) ?_
      exact u_sub [1, 2, 3, 4, 0] rfl (ih (v6 + (1 : Int32)) (sI M 11 (((((121 : Int32) * a3) + (1 : Int32)) + a4) + v6).toNatClampNeg (M.1 24 v6.toNatClampNeg)) _ h K)
set_option maxRecDepth 100000 in
set_option maxHeartbeats 4000000 in
theorem t_X11_copy (w : Wp) (l : Launch) {a1 : Int32} {a2 : Int32} {a3 : Int32} {a4 : Int32} {a5 : Int32} {M : Mem} {q : Int32 × Mem} (h : f_X11_copy a1 a2 a3 a4 a5 M = some q) : Ct shY w l yX11_copy cX11_copy 7 (some .int) 2 [.ref (w.2.2.1 0), .int a1, .int a2, .int a3, .int a4, .int a5] M (some (.int q.1), q.2) := by
  rw [f_X11_copy] at h
  refine ct_of shY_loc (by decide) (Nat.le_of_ble_eq_true rfl) rfl (fun x hx g => ?_)
  subst hx
  show U shY w x _ M 0 [(0, .ref (w.2.2.1 0)), (1, .int a1), (2, .int a2), (3, .int a3), (4, .int a4), (5, .int a5)] []
  generalize hr : ((some (.int q.1), q.2) : Option Value × Mem) = r
  have g : Gd shY w x RX11 cX11_copy 7 (some .int) 2 := g
  refine u_aload_n g 0 dX11_copy_0 rfl ?_
  refine u_iconst g (v := (0 : Int32)) dX11_copy_1 rfl ?_
  refine pfX11_5 g wf_X11_84 dX11_copy_2 ?_
  refine u_aload_n g 0 dX11_copy_5 rfl ?_
  refine u_iload_n g 1 dX11_copy_6 rfl ?_
  obtain ⟨q1, hq2, h⟩ := ob_bind h
  refine u_callV (st := []) g wv_X11_224 [.int a1] (show 0 < shY.1 by decide) ceY_0 rfl rfl (t_X11_isPlace w x.2.1 hq2) (by decide) (by decide) rfl (Nat.le_of_ble_eq_true rfl) rfl dX11_copy_7 ?_
  show U shY w x r (sI M 0 5 (0 : Int32)) 10 [(0, .ref (w.2.2.1 0)), (1, .int a1), (2, .int a2), (3, .int a3), (4, .int a4), (5, .int a5)] [.int q1]
  refine u_if_eq g 21 dX11_copy_10 (by decide) (fun b3 => ?_) (fun b3 => ?_)
  · have h := ob_pos b3 h
    refine u_aload_n g 0 dX11_copy_21 rfl ?_
    refine u_iconst g (v := (1 : Int32)) dX11_copy_22 rfl ?_
    obtain ⟨q4, hq5, h⟩ := ob_bind h
    refine u_callV (st := []) g wv_X11_115 [.int (1 : Int32)] (show 0 < shY.1 by decide) ceY_0 rfl rfl (t_X11_no w x.2.1 hq5) (by decide) (by decide) rfl (Nat.le_of_ble_eq_true rfl) rfl dX11_copy_23 ?_
    show U shY w x r q4.2 26 [(0, .ref (w.2.2.1 0)), (1, .int a1), (2, .int a2), (3, .int a3), (4, .int a4), (5, .int a5)] [.int q4.1]
    exact u_iret g dX11_copy_26 (by rw [← hr]; obtain rfl := Option.some.inj h; rfl)
  · have h := ob_neg b3 h
    refine u_aload_n g 0 dX11_copy_13 rfl ?_
    refine u_iload_n g 3 dX11_copy_14 rfl ?_
    obtain ⟨q6, hq7, h⟩ := ob_bind h
    refine u_callV (st := []) g wv_X11_224 [.int a3] (show 0 < shY.1 by decide) ceY_0 rfl rfl (t_X11_isPlace w x.2.1 hq7) (by decide) (by decide) rfl (Nat.le_of_ble_eq_true rfl) rfl dX11_copy_15 ?_
    show U shY w x r (sI M 0 5 (0 : Int32)) 18 [(0, .ref (w.2.2.1 0)), (1, .int a1), (2, .int a2), (3, .int a3), (4, .int a4), (5, .int a5)] [.int q6]
    refine u_if_ne g 27 dX11_copy_18 (by decide) (fun b8 => ?_) (fun b8 => ?_)
    · have h := ob_neg b8 h
      refine u_aload_n g 0 dX11_copy_27 rfl ?_
      refine gfX11_14 g wf_X11_34 dX11_copy_28 ?_
      refine u_iload_n g 1 dX11_copy_31 rfl ?_
      obtain ⟨e9, h⟩ := ob_if h
      refine aY_ild g (c := 9) 16 (by decide) rfl (v := (M.1 9 a1.toNatClampNeg)) (inB_in e9) rfl dX11_copy_32 ?_
      refine u_iconst g (v := (3 : Int32)) dX11_copy_33 rfl ?_
      refine u_icmp_ne g 47 dX11_copy_34 (by decide) (fun b10 => ?_) (fun b10 => ?_)
      · have h := ob_neg b10 h
        refine u_aload_n g 0 dX11_copy_47 rfl ?_
        refine u_bipush g (v := (6 : Int32)) dX11_copy_48 rfl ?_
        obtain ⟨q11, hq12, h⟩ := ob_bind h
        refine u_callV (st := []) g wv_X11_115 [.int (6 : Int32)] (show 0 < shY.1 by decide) ceY_0 rfl rfl (t_X11_no w x.2.1 hq12) (by decide) (by decide) rfl (Nat.le_of_ble_eq_true rfl) rfl dX11_copy_50 ?_
        show U shY w x r q11.2 53 [(0, .ref (w.2.2.1 0)), (1, .int a1), (2, .int a2), (3, .int a3), (4, .int a4), (5, .int a5)] [.int q11.1]
        exact u_iret g dX11_copy_53 (by rw [← hr]; obtain rfl := Option.some.inj h; rfl)
      · have h := ob_pos b10 h
        refine u_aload_n g 0 dX11_copy_37 rfl ?_
        refine gfX11_14 g wf_X11_34 dX11_copy_38 ?_
        refine u_iload_n g 3 dX11_copy_41 rfl ?_
        obtain ⟨e13, h⟩ := ob_if h
        refine aY_ild g (c := 9) 16 (by decide) rfl (v := (M.1 9 a3.toNatClampNeg)) (inB_in e13) rfl dX11_copy_42 ?_
        refine u_iconst g (v := (3 : Int32)) dX11_copy_43 rfl ?_
        refine u_icmp_eq g 54 dX11_copy_44 (by decide) (fun b14 => ?_) (fun b14 => ?_)
        · have h := ob_pos b14 h
          refine u_iload_n g 2 dX11_copy_54 rfl ?_
          refine u_if_lt g 93 dX11_copy_55 (by decide) (fun b15 => ?_) (fun b15 => ?_)
          · have h := ob_pos b15 h
            refine u_aload_n g 0 dX11_copy_93 rfl ?_
            refine u_iconst g (v := (2 : Int32)) dX11_copy_94 rfl ?_
            obtain ⟨q16, hq17, h⟩ := ob_bind h
            refine u_callV (st := []) g wv_X11_115 [.int (2 : Int32)] (show 0 < shY.1 by decide) ceY_0 rfl rfl (t_X11_no w x.2.1 hq17) (by decide) (by decide) rfl (Nat.le_of_ble_eq_true rfl) rfl dX11_copy_95 ?_
            show U shY w x r q16.2 98 [(0, .ref (w.2.2.1 0)), (1, .int a1), (2, .int a2), (3, .int a3), (4, .int a4), (5, .int a5)] [.int q16.1]
            exact u_iret g dX11_copy_98 (by rw [← hr]; obtain rfl := Option.some.inj h; rfl)
          · have h := ob_neg b15 h
            refine u_iload g 4 dX11_copy_58 rfl ?_
            refine u_if_lt g 93 dX11_copy_60 (by decide) (fun b18 => ?_) (fun b18 => ?_)
            · have h := ob_pos b18 h
              refine u_aload_n g 0 dX11_copy_93 rfl ?_
              refine u_iconst g (v := (2 : Int32)) dX11_copy_94 rfl ?_
              obtain ⟨q19, hq20, h⟩ := ob_bind h
              refine u_callV (st := []) g wv_X11_115 [.int (2 : Int32)] (show 0 < shY.1 by decide) ceY_0 rfl rfl (t_X11_no w x.2.1 hq20) (by decide) (by decide) rfl (Nat.le_of_ble_eq_true rfl) rfl dX11_copy_95 ?_
              show U shY w x r q19.2 98 [(0, .ref (w.2.2.1 0)), (1, .int a1), (2, .int a2), (3, .int a3), (4, .int a4), (5, .int a5)] [.int q19.1]
              exact u_iret g dX11_copy_98 (by rw [← hr]; obtain rfl := Option.some.inj h; rfl)
            · have h := ob_neg b18 h
              refine u_iload g 5 dX11_copy_63 rfl ?_
              refine u_if_lt g 93 dX11_copy_65 (by decide) (fun b21 => ?_) (fun b21 => ?_)
              · have h := ob_pos b21 h
                refine u_aload_n g 0 dX11_copy_93 rfl ?_
                refine u_iconst g (v := (2 : Int32)) dX11_copy_94 rfl ?_
                obtain ⟨q22, hq23, h⟩ := ob_bind h
                refine u_callV (st := []) g wv_X11_115 [.int (2 : Int32)] (show 0 < shY.1 by decide) ceY_0 rfl rfl (t_X11_no w x.2.1 hq23) (by decide) (by decide) rfl (Nat.le_of_ble_eq_true rfl) rfl dX11_copy_95 ?_
                show U shY w x r q22.2 98 [(0, .ref (w.2.2.1 0)), (1, .int a1), (2, .int a2), (3, .int a3), (4, .int a4), (5, .int a5)] [.int q22.1]
                exact u_iret g dX11_copy_98 (by rw [← hr]; obtain rfl := Option.some.inj h; rfl)
              · have h := ob_neg b21 h
                refine u_iload g 5 dX11_copy_68 rfl ?_
                refine u_aload_n g 0 dX11_copy_70 rfl ?_
                refine u_iload_n g 1 dX11_copy_71 rfl ?_
                obtain ⟨q24, hq25, h⟩ := ob_bind h
                refine u_callV (st := [.int a5]) g wv_X11_230 [.int a1] (show 0 < shY.1 by decide) ceY_0 rfl rfl (t_X11_partsIn w x.2.1 hq25) (by decide) (by decide) rfl (Nat.le_of_ble_eq_true rfl) rfl dX11_copy_72 ?_
                show U shY w x r (sI M 0 5 (0 : Int32)) 75 [(0, .ref (w.2.2.1 0)), (1, .int a1), (2, .int a2), (3, .int a3), (4, .int a4), (5, .int a5)] [.int q24, .int a5]
                refine u_iload_n g 2 dX11_copy_75 rfl ?_
                refine u_isub g dX11_copy_76 ?_
                refine u_icmp_gt g 93 dX11_copy_77 (by decide) (fun b26 => ?_) (fun b26 => ?_)
                · have h := ob_pos b26 h
                  refine u_aload_n g 0 dX11_copy_93 rfl ?_
                  refine u_iconst g (v := (2 : Int32)) dX11_copy_94 rfl ?_
                  obtain ⟨q27, hq28, h⟩ := ob_bind h
                  refine u_callV (st := []) g wv_X11_115 [.int (2 : Int32)] (show 0 < shY.1 by decide) ceY_0 rfl rfl (t_X11_no w x.2.1 hq28) (by decide) (by decide) rfl (Nat.le_of_ble_eq_true rfl) rfl dX11_copy_95 ?_
                  show U shY w x r q27.2 98 [(0, .ref (w.2.2.1 0)), (1, .int a1), (2, .int a2), (3, .int a3), (4, .int a4), (5, .int a5)] [.int q27.1]
                  exact u_iret g dX11_copy_98 (by rw [← hr]; obtain rfl := Option.some.inj h; rfl)
                · have h := ob_neg b26 h
                  refine u_iload g 5 dX11_copy_80 rfl ?_
                  refine u_aload_n g 0 dX11_copy_82 rfl ?_
                  refine u_iload_n g 3 dX11_copy_83 rfl ?_
                  obtain ⟨q29, hq30, h⟩ := ob_bind h
                  refine u_callV (st := [.int a5]) g wv_X11_230 [.int a3] (show 0 < shY.1 by decide) ceY_0 rfl rfl (t_X11_partsIn w x.2.1 hq30) (by decide) (by decide) rfl (Nat.le_of_ble_eq_true rfl) rfl dX11_copy_84 ?_
                  show U shY w x r (sI M 0 5 (0 : Int32)) 87 [(0, .ref (w.2.2.1 0)), (1, .int a1), (2, .int a2), (3, .int a3), (4, .int a4), (5, .int a5)] [.int q29, .int a5]
                  refine u_iload g 4 dX11_copy_87 rfl ?_
                  refine u_isub g dX11_copy_89 ?_
                  refine u_icmp_le g 99 dX11_copy_90 (by decide) (fun b31 => ?_) (fun b31 => ?_)
                  · have h := ob_pos b31 h
                    refine u_aload_n g 0 dX11_copy_99 rfl ?_
                    refine u_iload_n g 3 dX11_copy_100 rfl ?_
                    obtain ⟨q32, hq33, h⟩ := ob_bind h
                    refine u_callV (st := []) g wv_X11_227 [.int a3] (show 0 < shY.1 by decide) ceY_0 rfl rfl (t_X11_caseActs w x.2.1 hq33) (by decide) (by decide) rfl (Nat.le_of_ble_eq_true rfl) rfl dX11_copy_101 ?_
                    show U shY w x r q32 104 [(0, .ref (w.2.2.1 0)), (1, .int a1), (2, .int a2), (3, .int a3), (4, .int a4), (5, .int a5)] []
                    refine u_iconst g (v := (0 : Int32)) dX11_copy_104 rfl ?_
                    refine u_istore g [(6, .int (0 : Int32)), (0, .ref (w.2.2.1 0)), (1, .int a1), (2, .int a2), (3, .int a3), (4, .int a4), (5, .int a5)] dX11_copy_105 (by decide) rfl ?_
                    obtain ⟨q34, hq35, h⟩ := ob_bind h
                    refine u_sub [1, 2, 3, 4, 5, 6, 0] rfl (s_X11_copy_l1 g a1 a2 a3 a4 a5 fuelN (0 : Int32) q32 _ hq35 ?_)
                    show U shY w x r q34 143 [(0, .ref (w.2.2.1 0)), (3, .int a3), (4, .int a4), (5, .int a5)] []
                    refine u_iconst g (v := (0 : Int32)) dX11_copy_143 rfl ?_
                    refine u_istore g [(6, .int (0 : Int32)), (0, .ref (w.2.2.1 0)), (3, .int a3), (4, .int a4), (5, .int a5)] dX11_copy_144 (by decide) rfl ?_
                    obtain ⟨q36, hq37, h⟩ := ob_bind h
                    refine u_sub [1, 2, 3, 4, 0] rfl (s_X11_copy_l2 g a3 a4 a5 fuelN (0 : Int32) q34 _ hq37 ?_)
                    show U shY w x r q36 183 [] []
                    refine u_iconst g (v := (1 : Int32)) dX11_copy_183 rfl ?_
                    exact u_iret g dX11_copy_184 (by rw [← hr]; obtain rfl := Option.some.inj h; rfl)
                  · have h := ob_neg b31 h
                    refine u_aload_n g 0 dX11_copy_93 rfl ?_
                    refine u_iconst g (v := (2 : Int32)) dX11_copy_94 rfl ?_
                    obtain ⟨q38, hq39, h⟩ := ob_bind h
                    refine u_callV (st := []) g wv_X11_115 [.int (2 : Int32)] (show 0 < shY.1 by decide) ceY_0 rfl rfl (t_X11_no w x.2.1 hq39) (by decide) (by decide) rfl (Nat.le_of_ble_eq_true rfl) rfl dX11_copy_95 ?_
                    show U shY w x r q38.2 98 [(0, .ref (w.2.2.1 0)), (1, .int a1), (2, .int a2), (3, .int a3), (4, .int a4), (5, .int a5)] [.int q38.1]
                    exact u_iret g dX11_copy_98 (by rw [← hr]; obtain rfl := Option.some.inj h; rfl)
        · have h := ob_neg b14 h
          refine u_aload_n g 0 dX11_copy_47 rfl ?_
          refine u_bipush g (v := (6 : Int32)) dX11_copy_48 rfl ?_
          obtain ⟨q40, hq41, h⟩ := ob_bind h
          refine u_callV (st := []) g wv_X11_115 [.int (6 : Int32)] (show 0 < shY.1 by decide) ceY_0 rfl rfl (t_X11_no w x.2.1 hq41) (by decide) (by decide) rfl (Nat.le_of_ble_eq_true rfl) rfl dX11_copy_50 ?_
          show U shY w x r q40.2 53 [(0, .ref (w.2.2.1 0)), (1, .int a1), (2, .int a2), (3, .int a3), (4, .int a4), (5, .int a5)] [.int q40.1]
          exact u_iret g dX11_copy_53 (by rw [← hr]; obtain rfl := Option.some.inj h; rfl)
    · have h := ob_pos b8 h
      refine u_aload_n g 0 dX11_copy_21 rfl ?_
      refine u_iconst g (v := (1 : Int32)) dX11_copy_22 rfl ?_
      obtain ⟨q42, hq43, h⟩ := ob_bind h
      refine u_callV (st := []) g wv_X11_115 [.int (1 : Int32)] (show 0 < shY.1 by decide) ceY_0 rfl rfl (t_X11_no w x.2.1 hq43) (by decide) (by decide) rfl (Nat.le_of_ble_eq_true rfl) rfl dX11_copy_23 ?_
      show U shY w x r q42.2 26 [(0, .ref (w.2.2.1 0)), (1, .int a1), (2, .int a2), (3, .int a3), (4, .int a4), (5, .int a5)] [.int q42.1]
      exact u_iret g dX11_copy_26 (by rw [← hr]; obtain rfl := Option.some.inj h; rfl)
set_option maxRecDepth 100000 in
set_option maxHeartbeats 4000000 in
theorem s_X11_use_l1 {w : Wp} {x : Cx} {r : Option Value × Mem} (g : Gd shY w x RX11 cX11_use 4 (some .int) 2) (a1 : Int32)  (M : Mem) : ∀ (n : Nat) (v2 : Int32) (v3 : Int32) (q : Int32), f_X11_use_l1 a1 M n v2 v3 = some q → U shY w x r M 71 [(0, .ref (w.2.2.1 0)), (1, .int a1), (2, .int q)] [] → U shY w x r M 40 [(0, .ref (w.2.2.1 0)), (1, .int a1), (2, .int v2), (3, .int v3)] [] := by
  intro n
  induction n with
  | zero => intro v2 v3 q h K; rw [f_X11_use_l1] at h; cases h
  | succ n ih =>
    intro v2 v3 q h K
    rw [f_X11_use_l1] at h
    refine u_iload_n g 3 dX11_use_40 rfl ?_
    refine u_aload_n g 0 dX11_use_41 rfl ?_
    refine u_iload_n g 1 dX11_use_42 rfl ?_
    obtain ⟨q6, hq7, h⟩ := ob_bind h
    refine u_callV (st := [.int v3]) g wv_X11_230 [.int a1] (show 0 < shY.1 by decide) ceY_0 rfl rfl (t_X11_partsIn w x.2.1 hq7) (by decide) (by decide) rfl (Nat.le_of_ble_eq_true rfl) rfl dX11_use_43 ?_
    show U shY w x r M 46 [(0, .ref (w.2.2.1 0)), (1, .int a1), (2, .int v2), (3, .int v3)] [.int q6, .int v3]
    refine u_icmp_ge g 71 dX11_use_46 (by decide) (fun b8 => ?_) (fun b8 => ?_)
    · have h := ob_pos b8 h
      obtain rfl := Option.some.inj h
      exact u_sub [0, 1, 2] rfl K
    · have h := ob_neg b8 h
      refine u_iload_n g 2 dX11_use_49 rfl ?_
      refine u_aload_n g 0 dX11_use_50 rfl ?_
      refine gfX11_16 g wf_X11_40 dX11_use_51 ?_
      refine u_bipush g (v := (121 : Int32)) dX11_use_54 rfl ?_
      refine u_iload_n g 1 dX11_use_56 rfl ?_
      refine u_imul g dX11_use_57 ?_
      refine u_iconst g (v := (1 : Int32)) dX11_use_58 rfl ?_
      refine u_iadd g dX11_use_59 ?_
      refine u_iload_n g 3 dX11_use_60 rfl ?_
      refine u_iadd g dX11_use_61 ?_
      obtain ⟨e9, h⟩ := ob_if h
      refine aY_ild g (c := 11) 1936 (by decide) rfl (v := (M.1 11 ((((121 : Int32) * a1) + (1 : Int32)) + v3).toNatClampNeg)) (inB_in e9) rfl dX11_use_62 ?_
      refine u_iadd g dX11_use_63 ?_
      refine u_istore_n g [(2, .int (v2 + (M.1 11 ((((121 : Int32) * a1) + (1 : Int32)) + v3).toNatClampNeg))), (0, .ref (w.2.2.1 0)), (1, .int a1), (3, .int v3)] dX11_use_64 (by decide) rfl ?_
      refine u_iinc g 3 [(3, .int (v3 + (1 : Int32))), (2, .int (v2 + (M.1 11 ((((121 : Int32) * a1) + (1 : Int32)) + v3).toNatClampNeg))), (0, .ref (w.2.2.1 0)), (1, .int a1)] dX11_use_65 rfl rfl (by decide) rfl ?_
      refine u_goto g 40 dX11_use_68 (by decide) ?_
      exact u_sub [2, 3, 1, 0] rfl (ih (v2 + (M.1 11 ((((121 : Int32) * a1) + (1 : Int32)) + v3).toNatClampNeg)) (v3 + (1 : Int32)) _ h K)
set_option maxRecDepth 100000 in
set_option maxHeartbeats 4000000 in
theorem s_X11_use_l2 {w : Wp} {x : Cx} {r : Option Value × Mem} (g : Gd shY w x RX11 cX11_use 4 (some .int) 2) (a1 : Int32)  : ∀ (n : Nat) (v3 : Int32) (M : Mem) (q : Mem), f_X11_use_l2 a1 n v3 M = some q → U shY w x r q 121 [] [] → U shY w x r M 92 [(0, .ref (w.2.2.1 0)), (1, .int a1), (3, .int v3)] [] := by
  intro n
  induction n with
  | zero => intro v3 M q h K; rw [f_X11_use_l2] at h; cases h
  | succ n ih =>
    intro v3 M q h K
    rw [f_X11_use_l2] at h
    refine u_iload_n g 2 dX11_use_92 rfl ?_
    refine u_bipush g (v := (121 : Int32)) dX11_use_93 rfl ?_
    refine u_icmp_ge g 121 dX11_use_95 (by decide) (fun b11 => ?_) (fun b11 => ?_)
    · have h := ob_pos b11 h
      obtain rfl := Option.some.inj h
      exact u_sub [] rfl K
    · have h := ob_neg b11 h
      refine u_aload_n g 0 dX11_use_98 rfl ?_
      refine gfX11_12 g wf_X11_31 dX11_use_99 ?_
      refine u_iload_n g 2 dX11_use_102 rfl ?_
      refine u_aload_n g 0 dX11_use_103 rfl ?_
      refine gfX11_16 g wf_X11_40 dX11_use_104 ?_
      refine u_bipush g (v := (121 : Int32)) dX11_use_107 rfl ?_
      refine u_iload_n g 1 dX11_use_109 rfl ?_
      refine u_imul g dX11_use_110 ?_
      refine u_iload_n g 2 dX11_use_111 rfl ?_
      refine u_iadd g dX11_use_112 ?_
      obtain ⟨e12, h⟩ := ob_if h
      refine aY_ild g (c := 11) 1936 (by decide) rfl (v := (M.1 11 (((121 : Int32) * a1) + v3).toNatClampNeg)) (inB_in e12) rfl dX11_use_113 ?_
      obtain ⟨e13, h⟩ := ob_if h
      refine aY_ist g (c := 8) 121 (by decide) rfl (inB_in e13) (j := v3.toNatClampNeg) rfl dX11_use_114 ?_
      refine u_iinc g 2 [(3, .int (v3 + (1 : Int32))), (0, .ref (w.2.2.1 0)), (1, .int a1)] dX11_use_115 rfl rfl (by decide) rfl ?_
      refine u_goto g 92 dX11_use_118 (by decide) ?_
      exact u_sub [1, 2, 0] rfl (ih (v3 + (1 : Int32)) (sI M 8 v3.toNatClampNeg (M.1 11 (((121 : Int32) * a1) + v3).toNatClampNeg)) _ h K)
set_option maxRecDepth 100000 in
set_option maxHeartbeats 4000000 in
theorem t_X11_use (w : Wp) (l : Launch) {a1 : Int32} {M : Mem} {q : Int32 × Mem} (h : f_X11_use a1 M = some q) : Ct shY w l yX11_use cX11_use 4 (some .int) 2 [.ref (w.2.2.1 0), .int a1] M (some (.int q.1), q.2) := by
  rw [f_X11_use] at h
  refine ct_of shY_loc (by decide) (Nat.le_of_ble_eq_true rfl) rfl (fun x hx g => ?_)
  subst hx
  show U shY w x _ M 0 [(0, .ref (w.2.2.1 0)), (1, .int a1)] []
  generalize hr : ((some (.int q.1), q.2) : Option Value × Mem) = r
  have g : Gd shY w x RX11 cX11_use 4 (some .int) 2 := g
  refine u_aload_n g 0 dX11_use_0 rfl ?_
  refine u_iconst g (v := (0 : Int32)) dX11_use_1 rfl ?_
  refine pfX11_5 g wf_X11_84 dX11_use_2 ?_
  refine u_aload_n g 0 dX11_use_5 rfl ?_
  refine u_iload_n g 1 dX11_use_6 rfl ?_
  obtain ⟨q1, hq2, h⟩ := ob_bind h
  refine u_callV (st := []) g wv_X11_224 [.int a1] (show 0 < shY.1 by decide) ceY_0 rfl rfl (t_X11_isPlace w x.2.1 hq2) (by decide) (by decide) rfl (Nat.le_of_ble_eq_true rfl) rfl dX11_use_7 ?_
  show U shY w x r (sI M 0 5 (0 : Int32)) 10 [(0, .ref (w.2.2.1 0)), (1, .int a1)] [.int q1]
  refine u_if_ne g 19 dX11_use_10 (by decide) (fun b3 => ?_) (fun b3 => ?_)
  · have h := ob_neg b3 h
    refine u_aload_n g 0 dX11_use_19 rfl ?_
    refine gfX11_14 g wf_X11_34 dX11_use_20 ?_
    refine u_iload_n g 1 dX11_use_23 rfl ?_
    obtain ⟨e4, h⟩ := ob_if h
    refine aY_ild g (c := 9) 16 (by decide) rfl (v := (M.1 9 a1.toNatClampNeg)) (inB_in e4) rfl dX11_use_24 ?_
    refine u_iconst g (v := (3 : Int32)) dX11_use_25 rfl ?_
    refine u_icmp_eq g 36 dX11_use_26 (by decide) (fun b5 => ?_) (fun b5 => ?_)
    · have h := ob_pos b5 h
      refine u_iconst g (v := (0 : Int32)) dX11_use_36 rfl ?_
      refine u_istore_n g [(2, .int (0 : Int32)), (0, .ref (w.2.2.1 0)), (1, .int a1)] dX11_use_37 (by decide) rfl ?_
      refine u_iconst g (v := (0 : Int32)) dX11_use_38 rfl ?_
      refine u_istore_n g [(3, .int (0 : Int32)), (2, .int (0 : Int32)), (0, .ref (w.2.2.1 0)), (1, .int a1)] dX11_use_39 (by decide) rfl ?_
      obtain ⟨q6, hq7, h⟩ := ob_bind h
      refine u_sub [2, 3, 1, 0] rfl (s_X11_use_l1 g a1 (sI M 0 5 (0 : Int32)) fuelN (0 : Int32) (0 : Int32) _ hq7 ?_)
      show U shY w x r (sI M 0 5 (0 : Int32)) 71 [(0, .ref (w.2.2.1 0)), (1, .int a1), (2, .int q6)] []
      refine u_iload_n g 2 dX11_use_71 rfl ?_
      refine u_if_ne g 81 dX11_use_72 (by decide) (fun b8 => ?_) (fun b8 => ?_)
      · have h := ob_neg b8 h
        refine u_aload_n g 0 dX11_use_81 rfl ?_
        obtain ⟨q9, hq10, h⟩ := ob_bind h
        refine u_callV (st := []) g wv_X11_190 [] (show 0 < shY.1 by decide) ceY_0 rfl rfl (t_X11_planActs w x.2.1 hq10) (by decide) (by decide) rfl (Nat.le_of_ble_eq_true rfl) rfl dX11_use_82 ?_
        show U shY w x r q9 85 [(0, .ref (w.2.2.1 0)), (1, .int a1), (2, .int q6)] []
        refine u_aload_n g 0 dX11_use_85 rfl ?_
        refine u_iconst g (v := (1 : Int32)) dX11_use_86 rfl ?_
        refine pfX11_13 g wf_X11_104 (Or.inr rfl) dX11_use_87 ?_
        refine u_iconst g (v := (0 : Int32)) dX11_use_90 rfl ?_
        refine u_istore_n g [(3, .int (0 : Int32)), (0, .ref (w.2.2.1 0)), (1, .int a1), (2, .int q6)] dX11_use_91 (by decide) rfl ?_
        obtain ⟨q11, hq12, h⟩ := ob_bind h
        refine u_sub [1, 2, 0] rfl (s_X11_use_l2 g a1 fuelN (0 : Int32) (sI q9 0 13 (1 : Int32)) _ hq12 ?_)
        show U shY w x r q11 121 [] []
        refine u_iconst g (v := (1 : Int32)) dX11_use_121 rfl ?_
        exact u_iret g dX11_use_122 (by rw [← hr]; obtain rfl := Option.some.inj h; rfl)
      · have h := ob_pos b8 h
        refine u_aload_n g 0 dX11_use_75 rfl ?_
        refine u_iconst g (v := (5 : Int32)) dX11_use_76 rfl ?_
        obtain ⟨q13, hq14, h⟩ := ob_bind h
        refine u_callV (st := []) g wv_X11_115 [.int (5 : Int32)] (show 0 < shY.1 by decide) ceY_0 rfl rfl (t_X11_no w x.2.1 hq14) (by decide) (by decide) rfl (Nat.le_of_ble_eq_true rfl) rfl dX11_use_77 ?_
        show U shY w x r q13.2 80 [(0, .ref (w.2.2.1 0)), (1, .int a1), (2, .int q6)] [.int q13.1]
        exact u_iret g dX11_use_80 (by rw [← hr]; obtain rfl := Option.some.inj h; rfl)
    · have h := ob_neg b5 h
      refine u_aload_n g 0 dX11_use_29 rfl ?_
      refine u_bipush g (v := (6 : Int32)) dX11_use_30 rfl ?_
      obtain ⟨q15, hq16, h⟩ := ob_bind h
      refine u_callV (st := []) g wv_X11_115 [.int (6 : Int32)] (show 0 < shY.1 by decide) ceY_0 rfl rfl (t_X11_no w x.2.1 hq16) (by decide) (by decide) rfl (Nat.le_of_ble_eq_true rfl) rfl dX11_use_32 ?_
      show U shY w x r q15.2 35 [(0, .ref (w.2.2.1 0)), (1, .int a1)] [.int q15.1]
      exact u_iret g dX11_use_35 (by rw [← hr]; obtain rfl := Option.some.inj h; rfl)
  · have h := ob_pos b3 h
    refine u_aload_n g 0 dX11_use_13 rfl ?_
    refine u_iconst g (v := (1 : Int32)) dX11_use_14 rfl ?_
    obtain ⟨q17, hq18, h⟩ := ob_bind h
    refine u_callV (st := []) g wv_X11_115 [.int (1 : Int32)] (show 0 < shY.1 by decide) ceY_0 rfl rfl (t_X11_no w x.2.1 hq18) (by decide) (by decide) rfl (Nat.le_of_ble_eq_true rfl) rfl dX11_use_15 ?_
    show U shY w x r q17.2 18 [(0, .ref (w.2.2.1 0)), (1, .int a1)] [.int q17.1]
    exact u_iret g dX11_use_18 (by rw [← hr]; obtain rfl := Option.some.inj h; rfl)
set_option maxRecDepth 100000 in
set_option maxHeartbeats 4000000 in
theorem t_X11_size (w : Wp) (l : Launch) {a1 : Int32} {M : Mem} {q : Int32 × Mem} (h : f_X11_size a1 M = some q) : Ct shY w l yX11_size cX11_size 2 (some .int) 0 [.ref (w.2.2.1 0), .int a1] M (some (.int q.1), q.2) := by
  rw [f_X11_size] at h
  refine ct_of shY_loc (by decide) (Nat.le_of_ble_eq_true rfl) rfl (fun x hx g => ?_)
  subst hx
  show U shY w x _ M 0 [(0, .ref (w.2.2.1 0)), (1, .int a1)] []
  generalize hr : ((some (.int q.1), q.2) : Option Value × Mem) = r
  have g : Gd shY w x RX11 cX11_size 2 (some .int) 0 := g
  refine u_aload_n g 0 dX11_size_0 rfl ?_
  refine u_iconst g (v := (0 : Int32)) dX11_size_1 rfl ?_
  refine pfX11_5 g wf_X11_84 dX11_size_2 ?_
  refine u_iload_n g 1 dX11_size_5 rfl ?_
  by_cases b1 : a1 = (0 : Int32)
  · have h := ob_pos b1 h
    refine u_tableIn g 40 dX11_size_6 (0 : Int32) b1 rfl rfl (by decide) ?_
    refine u_aload_n g 0 dX11_size_40 rfl ?_
    refine gfX11_3 g wf_X11_91 (v := (M.1 0 3)) rfl dX11_size_41 ?_
    exact u_iret g dX11_size_44 (by rw [← hr]; obtain rfl := Option.some.inj h; rfl)
  have h := ob_neg b1 h
  by_cases b2 : a1 = (1 : Int32)
  · have h := ob_pos b2 h
    refine u_tableIn g 45 dX11_size_6 (1 : Int32) b2 rfl rfl (by decide) ?_
    refine u_aload_n g 0 dX11_size_45 rfl ?_
    refine gfX11_11 g wf_X11_94 (v := (M.1 0 11)) rfl dX11_size_46 ?_
    exact u_iret g dX11_size_49 (by rw [← hr]; obtain rfl := Option.some.inj h; rfl)
  have h := ob_neg b2 h
  by_cases b3 : a1 = (2 : Int32)
  · have h := ob_pos b3 h
    refine u_tableIn g 50 dX11_size_6 (2 : Int32) b3 rfl rfl (by decide) ?_
    refine u_aload_n g 0 dX11_size_50 rfl ?_
    refine gfX11_7 g wf_X11_112 (v := (M.1 0 7)) rfl dX11_size_51 ?_
    exact u_iret g dX11_size_54 (by rw [← hr]; obtain rfl := Option.some.inj h; rfl)
  have h := ob_neg b3 h
  by_cases b4 : a1 = (3 : Int32)
  · have h := ob_pos b4 h
    refine u_tableIn g 55 dX11_size_6 (3 : Int32) b4 rfl rfl (by decide) ?_
    refine u_aload_n g 0 dX11_size_55 rfl ?_
    refine gfX11_20 g wf_X11_101 (v := (M.1 0 20)) rfl dX11_size_56 ?_
    exact u_iret g dX11_size_59 (by rw [← hr]; obtain rfl := Option.some.inj h; rfl)
  have h := ob_neg b4 h
  by_cases b5 : a1 = (4 : Int32)
  · have h := ob_pos b5 h
    refine u_tableIn g 60 dX11_size_6 (4 : Int32) b5 rfl rfl (by decide) ?_
    refine u_aload_n g 0 dX11_size_60 rfl ?_
    refine gfX11_18 g wf_X11_221 (v := (M.1 0 18)) rfl dX11_size_61 ?_
    exact u_iret g dX11_size_64 (by rw [← hr]; obtain rfl := Option.some.inj h; rfl)
  have h := ob_neg b5 h
  refine u_tableOut g 65 dX11_size_6 (sw_out 4 (by decide) _ rfl (fun j hj => match j, hj with | 0, _ => b1 | 1, _ => b2 | 2, _ => b3 | 3, _ => b4 | 4, _ => b5 | k + 5, hk => absurd hk (by omega))) (by decide) ?_
  refine u_iconst g (v := (-1 : Int32)) dX11_size_65 rfl ?_
  exact u_iret g dX11_size_66 (by rw [← hr]; obtain rfl := Option.some.inj h; rfl)
set_option maxRecDepth 100000 in
set_option maxHeartbeats 4000000 in
theorem t_X11_status (w : Wp) (l : Launch)  {M : Mem} {q : Int32 × Mem} (h : f_X11_status M = some q) : Ct shY w l yX11_status cX11_status 1 (some .int) 0 [.ref (w.2.2.1 0)] M (some (.int q.1), q.2) := by
  rw [f_X11_status] at h
  refine ct_of shY_loc (by decide) (Nat.le_of_ble_eq_true rfl) rfl (fun x hx g => ?_)
  subst hx
  show U shY w x _ M 0 [(0, .ref (w.2.2.1 0))] []
  generalize hr : ((some (.int q.1), q.2) : Option Value × Mem) = r
  have g : Gd shY w x RX11 cX11_status 1 (some .int) 0 := g
  refine u_aload_n g 0 dX11_status_0 rfl ?_
  refine u_iconst g (v := (0 : Int32)) dX11_status_1 rfl ?_
  refine pfX11_5 g wf_X11_84 dX11_status_2 ?_
  refine u_aload_n g 0 dX11_status_5 rfl ?_
  refine gfX11_4 g wf_X11_88 (v := (M.1 0 4)) rfl dX11_status_6 ?_
  exact u_iret g dX11_status_9 (by rw [← hr]; obtain rfl := Option.some.inj h; rfl)
