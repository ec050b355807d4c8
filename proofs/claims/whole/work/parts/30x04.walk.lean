set_option maxRecDepth 100000 in
set_option maxHeartbeats 4000000 in
theorem t_X10_both (w : Wp) (l : Launch) {a1 : Int32} {a2 : Int32} {M : Mem} {q : Int32 × Mem} (h : f_X10_both a1 a2 M = some q) : Ct shX w l yX10_both cX10_both 5 (some .int) 6 [.ref (w.2.2.1 0), .int a1, .int a2] M (some (.int q.1), q.2) := by
  rw [f_X10_both] at h
  refine ct_of shX_loc (by decide) (Nat.le_of_ble_eq_true rfl) rfl (fun x hx g => ?_)
  subst hx
  show U shX w x _ M 0 [(0, .ref (w.2.2.1 0)), (1, .int a1), (2, .int a2)] []
  generalize hr : ((some (.int q.1), q.2) : Option Value × Mem) = r
  have g : Gd shX w x RX10 cX10_both 5 (some .int) 6 := g
  refine u_aload_n g 0 dX10_both_0 rfl ?_
  refine u_iload_n g 1 dX10_both_1 rfl ?_
  obtain ⟨q1, hq2, h⟩ := ob_bind h
  refine u_callV (st := []) g wv_X10_166 [.int a1] (kX_lt (show kX 0 = 10 from rfl) rfl) (ceX_10 (show kX 0 = 10 from rfl)) rfl rfl (t_X10_familyAt w x.2.1 hq2) (by decide) (by decide) rfl (Nat.le_of_ble_eq_true rfl) rfl dX10_both_2 ?_
  show U shX w x r M 5 [(0, .ref (w.2.2.1 0)), (1, .int a1), (2, .int a2)] [rv w q1]
  refine u_astore_nO g [(3, rv w q1), (0, .ref (w.2.2.1 0)), (1, .int a1), (2, .int a2)] dX10_both_5 (by decide) rfl ?_
  refine u_aload_n g 1 dX10_both_6 rfl ?_
  refine u_iload_n g 3 dX10_both_7 rfl ?_
  obtain ⟨q3, hq4, h⟩ := ob_bind h
  refine u_callV (st := []) g wv_X10_166 [.int a2] (kX_lt (show kX 0 = 10 from rfl) rfl) (ceX_10 (show kX 0 = 10 from rfl)) rfl rfl (t_X10_familyAt w x.2.1 hq4) (by decide) (by decide) rfl (Nat.le_of_ble_eq_true rfl) rfl dX10_both_8 ?_
  show U shX w x r M 11 [(3, rv w q1), (0, .ref (w.2.2.1 0)), (1, .int a1), (2, .int a2)] [rv w q3]
  refine u_astoreO g [(4, rv w q3), (3, rv w q1), (0, .ref (w.2.2.1 0)), (1, .int a1), (2, .int a2)] dX10_both_11 (by decide) (by simp [rv_cat]) ?_
  refine u_aload_nO g 1 dX10_both_13 rfl ?_
  cases q1 with
  | none =>
    have h := ob_none h
    refine u_isnullN g 22 dX10_both_14 (by decide) ?_
    show U shX w x r M 22 [(4, rv w q3), (3, .null), (0, .ref (w.2.2.1 0)), (1, .int a1), (2, .int a2)] []
    refine u_aload_n g 2 dX10_both_22 rfl ?_
    refine u_iconst g (v := (1 : Int32)) dX10_both_23 rfl ?_
    obtain ⟨q7, hq8, h⟩ := ob_bind h
    refine u_callV (st := []) g wv_X10_83 [.int (1 : Int32)] (kX_lt (show kX 0 = 10 from rfl) rfl) (ceX_10 (show kX 0 = 10 from rfl)) rfl rfl (t_X10_refuse w x.2.1 hq8) (by decide) (by decide) rfl (Nat.le_of_ble_eq_true rfl) rfl dX10_both_24 ?_
    show U shX w x r q7.2 27 [(4, rv w q3), (3, .null), (0, .ref (w.2.2.1 0)), (1, .int a1), (2, .int a2)] [.int q7.1]
    exact u_iret g dX10_both_27 (by rw [← hr]; obtain rfl := Option.some.inj h; rfl)
  | some c5 =>
    have h := ob_some h
    obtain ⟨k6, h⟩ := ob_if h
    refine u_isnull g dX10_both_14 ?_
    show U shX w x r M 17 [(4, rv w q3), (3, .ref (w.2.2.1 c5)), (0, .ref (w.2.2.1 0)), (1, .int a1), (2, .int a2)] []
    refine u_aloadO g 0 dX10_both_17 rfl ?_
    cases q3 with
    | none =>
      have h := ob_none h
      refine u_nonnullN g dX10_both_19 ?_
      show U shX w x r M 22 [(4, .null), (3, .ref (w.2.2.1 c5)), (0, .ref (w.2.2.1 0)), (1, .int a1), (2, .int a2)] []
      refine u_aload_n g 2 dX10_both_22 rfl ?_
      refine u_iconst g (v := (1 : Int32)) dX10_both_23 rfl ?_
      obtain ⟨q11, hq12, h⟩ := ob_bind h
      refine u_callV (st := []) g wv_X10_83 [.int (1 : Int32)] (kX_lt (show kX 0 = 10 from rfl) rfl) (ceX_10 (show kX 0 = 10 from rfl)) rfl rfl (t_X10_refuse w x.2.1 hq12) (by decide) (by decide) rfl (Nat.le_of_ble_eq_true rfl) rfl dX10_both_24 ?_
      show U shX w x r q11.2 27 [(4, .null), (3, .ref (w.2.2.1 c5)), (0, .ref (w.2.2.1 0)), (1, .int a1), (2, .int a2)] [.int q11.1]
      exact u_iret g dX10_both_27 (by rw [← hr]; obtain rfl := Option.some.inj h; rfl)
    | some c9 =>
      have h := ob_some h
      obtain ⟨k10, h⟩ := ob_if h
      refine u_nonnull g 28 dX10_both_19 (by decide) ?_
      show U shX w x r M 28 [(4, .ref (w.2.2.1 c9)), (3, .ref (w.2.2.1 c5)), (0, .ref (w.2.2.1 0)), (1, .int a1), (2, .int a2)] []
      refine u_aload_n g 2 dX10_both_28 rfl ?_
      obtain ⟨q13, hq14, h⟩ := ob_bind h
      refine u_callV (st := []) g wv_X10_119 [] (kX_lt (show kX 0 = 10 from rfl) rfl) (ceX_10 (show kX 0 = 10 from rfl)) rfl rfl (t_X10_roomForFamily w x.2.1 hq14) (by decide) (by decide) rfl (Nat.le_of_ble_eq_true rfl) rfl dX10_both_29 ?_
      show U shX w x r M 32 [(4, .ref (w.2.2.1 c9)), (3, .ref (w.2.2.1 c5)), (0, .ref (w.2.2.1 0)), (1, .int a1), (2, .int a2)] [.int q13]
      refine u_if_ne g 41 dX10_both_32 (by decide) (fun b15 => ?_) (fun b15 => ?_)
      · have h := ob_neg b15 h
        refine u_aload_n g 2 dX10_both_41 rfl ?_
        refine gfX10_9 g (c := 0) rfl wf_X10_63 dX10_both_42 ?_
        refine u_aload_n g 2 dX10_both_45 rfl ?_
        refine gfX10_0 g (c := 0) rfl wf_X10_10 dX10_both_46 ?_
        refine gfX5_0 g (c := 1) rfl wf_X10_87 (v := (M.1 1 0)) rfl dX10_both_49 ?_
        obtain ⟨q16, hq17, h⟩ := ob_bind h
        refine u_callV (st := []) g wv_X10_122 [.int (M.1 1 0)] (kX_lt (show kX 254 = 3 from rfl) rfl) (ceX_3 (show kX 254 = 3 from rfl)) rfl rfl (t_X3_begin w x.2.1 hq17) (by decide) (by decide) rfl (Nat.le_of_ble_eq_true rfl) rfl dX10_both_52 ?_
        show U shX w x r q16 55 [(4, .ref (w.2.2.1 c9)), (3, .ref (w.2.2.1 c5)), (0, .ref (w.2.2.1 0)), (1, .int a1), (2, .int a2)] []
        refine u_aload_n g 2 dX10_both_55 rfl ?_
        refine gfX10_9 g (c := 0) rfl wf_X10_63 dX10_both_56 ?_
        refine u_aload_n g 1 dX10_both_59 rfl ?_
        refine u_aload g 0 dX10_both_60 rfl ?_
        obtain ⟨q18, hq19, h⟩ := ob_bind h
        refine u_callV (st := []) g wv_X10_188 [.ref (w.2.2.1 c5), .ref (w.2.2.1 c9)] (kX_lt (show kX 254 = 3 from rfl) rfl) (ceX_3 (show kX 254 = 3 from rfl)) rfl rfl (t_X3_gatherBoth w x.2.1 hq19) (by decide) (by decide) rfl (Nat.le_of_ble_eq_true rfl) rfl dX10_both_62 ?_
        show U shX w x r q18 65 [(4, .ref (w.2.2.1 c9)), (3, .ref (w.2.2.1 c5)), (0, .ref (w.2.2.1 0)), (1, .int a1), (2, .int a2)] []
        refine u_aload_n g 2 dX10_both_65 rfl ?_
        refine u_bipush g (v := (9 : Int32)) dX10_both_66 rfl ?_
        obtain ⟨q20, hq21, h⟩ := ob_bind h
        refine u_callV (st := []) g wv_X10_135 [.int (9 : Int32)] (kX_lt (show kX 0 = 10 from rfl) rfl) (ceX_10 (show kX 0 = 10 from rfl)) rfl rfl (t_X10_settleGathered w x.2.1 hq21) (by decide) (by decide) rfl (Nat.le_of_ble_eq_true rfl) rfl dX10_both_68 ?_
        show U shX w x r q20.2 71 [(4, .ref (w.2.2.1 c9)), (3, .ref (w.2.2.1 c5)), (0, .ref (w.2.2.1 0)), (1, .int a1), (2, .int a2)] [.int q20.1]
        exact u_iret g dX10_both_71 (by rw [← hr]; obtain rfl := Option.some.inj h; rfl)
      · have h := ob_pos b15 h
        refine u_aload_n g 2 dX10_both_35 rfl ?_
        refine u_iconst g (v := (4 : Int32)) dX10_both_36 rfl ?_
        obtain ⟨q22, hq23, h⟩ := ob_bind h
        refine u_callV (st := []) g wv_X10_83 [.int (4 : Int32)] (kX_lt (show kX 0 = 10 from rfl) rfl) (ceX_10 (show kX 0 = 10 from rfl)) rfl rfl (t_X10_refuse w x.2.1 hq23) (by decide) (by decide) rfl (Nat.le_of_ble_eq_true rfl) rfl dX10_both_37 ?_
        show U shX w x r q22.2 40 [(4, .ref (w.2.2.1 c9)), (3, .ref (w.2.2.1 c5)), (0, .ref (w.2.2.1 0)), (1, .int a1), (2, .int a2)] [.int q22.1]
        exact u_iret g dX10_both_40 (by rw [← hr]; obtain rfl := Option.some.inj h; rfl)
set_option maxRecDepth 100000 in
set_option maxHeartbeats 4000000 in
theorem s_X10_firstApart_l2 {w : Wp} {x : Cx} {r : Option Value × Mem} (g : Gd shX w x RX10 cX10_firstApart 5 (some .int) 0) (t0 : Nat) (t1 : Nat) (a2 : Int32) (a3 : Int32) (h0 : kX t0 = 1) (h1 : kX t1 = 1) (M : Mem) : ∀ (n : Nat) (v4 : Int32) (q : (Unit) ⊕ (Int32)), f_X10_firstApart_l2 t0 t1 a2 a3 M n v4 = some q → (∀ e : Unit, q = .inl e → U shX w x r M 64 [(0, .ref (w.2.2.1 t0)), (1, .ref (w.2.2.1 t1)), (2, .int a2), (3, .int a3)] []) → (∀ v : Int32, q = .inr v → r = (some (.int v), M)) → U shX w x r M 23 [(0, .ref (w.2.2.1 t0)), (1, .ref (w.2.2.1 t1)), (2, .int a2), (3, .int a3), (4, .int v4)] [] := by
  intro n
  induction n with
  | zero => intro v4 q h K1 K2; rw [f_X10_firstApart_l2] at h; cases h
  | succ n ih =>
    intro v4 q h K1 K2
    rw [f_X10_firstApart_l2] at h
    refine u_iload g 4 dX10_firstApart_23 rfl ?_
    refine u_aload_n g 1 dX10_firstApart_25 rfl ?_
    refine gfX1_1 g h1 wf_X10_202 (v := (M.1 t1 1)) rfl dX10_firstApart_26 ?_
    refine u_icmp_ge g 64 dX10_firstApart_29 (by decide) (fun b5 => ?_) (fun b5 => ?_)
    · have h := ob_pos b5 h
      exact u_sub [0, 1, 2, 3] rfl (K1 _ (Option.some.inj h).symm)
    · have h := ob_neg b5 h
      refine u_aload_n g 0 dX10_firstApart_32 rfl ?_
      refine gfX1_2 g h0 wf_X10_213 dX10_firstApart_33 ?_
      refine u_iload_n g 3 dX10_firstApart_36 rfl ?_
      obtain ⟨e6, h⟩ := ob_if h
      refine aX_ild g (c := (t0 + 1)) 120 (by decide) (kX_s1 h0) (v := (M.1 (t0 + 1) a3.toNatClampNeg)) (inB_in e6) rfl dX10_firstApart_37 ?_
      refine u_aload_n g 1 dX10_firstApart_38 rfl ?_
      refine gfX1_2 g h1 wf_X10_213 dX10_firstApart_39 ?_
      refine u_iload g 4 dX10_firstApart_42 rfl ?_
      obtain ⟨e7, h⟩ := ob_if h
      refine aX_ild g (c := (t1 + 1)) 120 (by decide) (kX_s1 h1) (v := (M.1 (t1 + 1) v4.toNatClampNeg)) (inB_in e7) rfl dX10_firstApart_44 ?_
      refine u_iand g dX10_firstApart_45 ?_
      refine u_if_ne g 58 dX10_firstApart_46 (by decide) (fun b8 => ?_) (fun b8 => ?_)
      · have h := ob_neg b8 h
        refine u_iinc g 4 [(4, .int (v4 + (1 : Int32))), (0, .ref (w.2.2.1 t0)), (1, .ref (w.2.2.1 t1)), (2, .int a2), (3, .int a3)] dX10_firstApart_58 rfl rfl (by decide) rfl ?_
        refine u_goto g 23 dX10_firstApart_61 (by decide) ?_
        exact u_sub [1, 2, 3, 4, 0] rfl (ih (v4 + (1 : Int32)) _ h K1 K2)
      · have h := ob_pos b8 h
        refine u_sipush g (v := (1000 : Int32)) dX10_firstApart_49 rfl ?_
        refine u_iload_n g 3 dX10_firstApart_52 rfl ?_
        refine u_imul g dX10_firstApart_53 ?_
        refine u_iload g 4 dX10_firstApart_54 rfl ?_
        refine u_iadd g dX10_firstApart_56 ?_
        exact u_iret g dX10_firstApart_57 (K2 _ (Option.some.inj h).symm)
set_option maxRecDepth 100000 in
set_option maxHeartbeats 4000000 in
theorem s_X10_firstApart_l1 {w : Wp} {x : Cx} {r : Option Value × Mem} (g : Gd shX w x RX10 cX10_firstApart 5 (some .int) 0) (t0 : Nat) (t1 : Nat) (a2 : Int32) (h0 : kX t0 = 1) (h1 : kX t1 = 1) (M : Mem) : ∀ (n : Nat) (v3 : Int32) (q : (Unit) ⊕ (Int32)), f_X10_firstApart_l1 t0 t1 a2 M n v3 = some q → (∀ e : Unit, q = .inl e → U shX w x r M 70 [] []) → (∀ v : Int32, q = .inr v → r = (some (.int v), M)) → U shX w x r M 2 [(0, .ref (w.2.2.1 t0)), (1, .ref (w.2.2.1 t1)), (2, .int a2), (3, .int v3)] [] := by
  intro n
  induction n with
  | zero => intro v3 q h K1 K2; rw [f_X10_firstApart_l1] at h; cases h
  | succ n ih =>
    intro v3 q h K1 K2
    rw [f_X10_firstApart_l1] at h
    refine u_iload_n g 3 dX10_firstApart_2 rfl ?_
    refine u_aload_n g 0 dX10_firstApart_3 rfl ?_
    refine gfX1_1 g h0 wf_X10_202 (v := (M.1 t0 1)) rfl dX10_firstApart_4 ?_
    refine u_icmp_ge g 70 dX10_firstApart_7 (by decide) (fun b1 => ?_) (fun b1 => ?_)
    · have h := ob_pos b1 h
      exact u_sub [] rfl (K1 _ (Option.some.inj h).symm)
    · have h := ob_neg b1 h
      refine u_iload_n g 2 dX10_firstApart_10 rfl ?_
      obtain ⟨q2, hq3, h⟩ := ob_bind h
      have K4 : U shX w x r M 21 [(0, .ref (w.2.2.1 t0)), (1, .ref (w.2.2.1 t1)), (2, .int a2), (3, .int v3)] [.int q2] := by
        refine u_istore g [(4, .int q2), (0, .ref (w.2.2.1 t0)), (1, .ref (w.2.2.1 t1)), (2, .int a2), (3, .int v3)] dX10_firstApart_21 (by decide) rfl ?_
        obtain ⟨q5, hq6, h⟩ := ob_bind h
        refine u_sub [1, 2, 3, 4, 0] rfl (s_X10_firstApart_l2 g t0 t1 a2 v3 h0 h1 M fuelN q2 _ hq6 (fun e7 he9 => ?_) (fun v8 he9 => ?_))
        · subst he9
          have h := ob_inl h
          refine u_iinc g 3 [(3, .int (v3 + (1 : Int32))), (0, .ref (w.2.2.1 t0)), (1, .ref (w.2.2.1 t1)), (2, .int a2)] dX10_firstApart_64 rfl rfl (by decide) rfl ?_
          refine u_goto g 2 dX10_firstApart_67 (by decide) ?_
          exact u_sub [1, 2, 3, 0] rfl (ih (v3 + (1 : Int32)) _ h K1 K2)
        · subst he9
          have h := ob_inr h
          exact K2 _ (Option.some.inj h).symm
      have h := hq3
      refine u_if_eq g 20 dX10_firstApart_11 (by decide) (fun b10 => ?_) (fun b10 => ?_)
      · have h := ob_pos b10 h
        refine u_iconst g (v := (0 : Int32)) dX10_firstApart_20 rfl ?_
        obtain rfl := Option.some.inj h
        exact u_sub [0, 1, 2, 3] rfl K4
      · have h := ob_neg b10 h
        refine u_iload_n g 3 dX10_firstApart_14 rfl ?_
        refine u_iconst g (v := (1 : Int32)) dX10_firstApart_15 rfl ?_
        refine u_iadd g dX10_firstApart_16 ?_
        refine u_goto g 21 dX10_firstApart_17 (by decide) ?_
        obtain rfl := Option.some.inj h
        exact u_sub [0, 1, 2, 3] rfl K4
set_option maxRecDepth 100000 in
set_option maxHeartbeats 4000000 in
theorem t_X10_firstApart (w : Wp) (l : Launch) {t0 : Nat} {t1 : Nat} {a2 : Int32} {M : Mem} {q : Int32} (h : f_X10_firstApart t0 t1 a2 M = some q) : Ct shX w l yX10_firstApart cX10_firstApart 5 (some .int) 0 [.ref (w.2.2.1 t0), .ref (w.2.2.1 t1), .int a2] M (some (.int q), M) := by
  rw [f_X10_firstApart] at h
  obtain ⟨h0, h⟩ := ob_if h
  obtain ⟨h1, h⟩ := ob_if h
  refine ct_of shX_loc (by decide) (Nat.le_of_ble_eq_true rfl) rfl (fun x hx g => ?_)
  subst hx
  show U shX w x _ M 0 [(0, .ref (w.2.2.1 t0)), (1, .ref (w.2.2.1 t1)), (2, .int a2)] []
  generalize hr : ((some (.int q), M) : Option Value × Mem) = r
  have g : Gd shX w x RX10 cX10_firstApart 5 (some .int) 0 := g
  refine u_iconst g (v := (0 : Int32)) dX10_firstApart_0 rfl ?_
  refine u_istore_n g [(3, .int (0 : Int32)), (0, .ref (w.2.2.1 t0)), (1, .ref (w.2.2.1 t1)), (2, .int a2)] dX10_firstApart_1 (by decide) rfl ?_
  obtain ⟨q1, hq2, h⟩ := ob_bind h
  refine u_sub [1, 2, 3, 0] rfl (s_X10_firstApart_l1 g t0 t1 a2 h0 h1 M fuelN (0 : Int32) _ hq2 (fun e3 he5 => ?_) (fun v4 he5 => ?_))
  · subst he5
    have h := ob_inl h
    refine u_bipush g (v := (-2 : Int32)) dX10_firstApart_70 rfl ?_
    exact u_iret g dX10_firstApart_72 (by rw [← hr]; obtain rfl := Option.some.inj h; rfl)
  · subst he5
    have h := ob_inr h
    obtain rfl := Option.some.inj h
    exact hr.symm
set_option maxRecDepth 100000 in
set_option maxHeartbeats 4000000 in
theorem t_X10_better (w : Wp) (l : Launch) {a1 : Int32} {M : Mem} {q : Int32 × Mem} (h : f_X10_better a1 M = some q) : Ct shX w l yX10_better cX10_better 3 (some .int) 5 [.ref (w.2.2.1 0), .int a1] M (some (.int q.1), q.2) := by
  rw [f_X10_better] at h
  refine ct_of shX_loc (by decide) (Nat.le_of_ble_eq_true rfl) rfl (fun x hx g => ?_)
  subst hx
  show U shX w x _ M 0 [(0, .ref (w.2.2.1 0)), (1, .int a1)] []
  generalize hr : ((some (.int q.1), q.2) : Option Value × Mem) = r
  have g : Gd shX w x RX10 cX10_better 3 (some .int) 5 := g
  refine u_aload_n g 0 dX10_better_0 rfl ?_
  refine u_iload_n g 1 dX10_better_1 rfl ?_
  obtain ⟨q1, hq2, h⟩ := ob_bind h
  refine u_callV (st := []) g wv_X10_166 [.int a1] (kX_lt (show kX 0 = 10 from rfl) rfl) (ceX_10 (show kX 0 = 10 from rfl)) rfl rfl (t_X10_familyAt w x.2.1 hq2) (by decide) (by decide) rfl (Nat.le_of_ble_eq_true rfl) rfl dX10_better_2 ?_
  show U shX w x r M 5 [(0, .ref (w.2.2.1 0)), (1, .int a1)] [rv w q1]
  refine u_astore_nO g [(2, rv w q1), (0, .ref (w.2.2.1 0)), (1, .int a1)] dX10_better_5 (by decide) rfl ?_
  refine u_aload_nO g 0 dX10_better_6 rfl ?_
  cases q1 with
  | none =>
    have h := ob_none h
    refine u_nonnullN g dX10_better_7 ?_
    show U shX w x r M 10 [(2, .null), (0, .ref (w.2.2.1 0)), (1, .int a1)] []
    refine u_aload_n g 1 dX10_better_10 rfl ?_
    refine u_iconst g (v := (1 : Int32)) dX10_better_11 rfl ?_
    obtain ⟨q5, hq6, h⟩ := ob_bind h
    refine u_callV (st := []) g wv_X10_83 [.int (1 : Int32)] (kX_lt (show kX 0 = 10 from rfl) rfl) (ceX_10 (show kX 0 = 10 from rfl)) rfl rfl (t_X10_refuse w x.2.1 hq6) (by decide) (by decide) rfl (Nat.le_of_ble_eq_true rfl) rfl dX10_better_12 ?_
    show U shX w x r q5.2 15 [(2, .null), (0, .ref (w.2.2.1 0)), (1, .int a1)] [.int q5.1]
    exact u_iret g dX10_better_15 (by rw [← hr]; obtain rfl := Option.some.inj h; rfl)
  | some c3 =>
    have h := ob_some h
    obtain ⟨k4, h⟩ := ob_if h
    refine u_nonnull g 16 dX10_better_7 (by decide) ?_
    show U shX w x r M 16 [(2, .ref (w.2.2.1 c3)), (0, .ref (w.2.2.1 0)), (1, .int a1)] []
    refine u_aload_n g 0 dX10_better_16 rfl ?_
    refine u_aload_n g 0 dX10_better_17 rfl ?_
    refine u_iconst g (v := (1 : Int32)) dX10_better_18 rfl ?_
    obtain ⟨q7, hq8, h⟩ := ob_bind h
    refine u_callS (st := []) g wv_X10_192 [.ref (w.2.2.1 c3), .ref (w.2.2.1 c3), .int (1 : Int32)] (t_X10_firstApart w x.2.1 hq8) (by decide) (by decide) rfl (Nat.le_of_ble_eq_true rfl) rfl dX10_better_19 ?_
    show U shX w x r M 22 [(2, .ref (w.2.2.1 c3)), (0, .ref (w.2.2.1 0)), (1, .int a1)] [.int q7]
    refine u_bipush g (v := (-2 : Int32)) dX10_better_22 rfl ?_
    refine u_icmp_eq g 34 dX10_better_24 (by decide) (fun b9 => ?_) (fun b9 => ?_)
    · have h := ob_pos b9 h
      refine u_aload_n g 1 dX10_better_34 rfl ?_
      obtain ⟨q10, hq11, h⟩ := ob_bind h
      refine u_callV (st := []) g wv_X10_119 [] (kX_lt (show kX 0 = 10 from rfl) rfl) (ceX_10 (show kX 0 = 10 from rfl)) rfl rfl (t_X10_roomForFamily w x.2.1 hq11) (by decide) (by decide) rfl (Nat.le_of_ble_eq_true rfl) rfl dX10_better_35 ?_
      show U shX w x r M 38 [(2, .ref (w.2.2.1 c3)), (0, .ref (w.2.2.1 0)), (1, .int a1)] [.int q10]
      refine u_if_ne g 47 dX10_better_38 (by decide) (fun b12 => ?_) (fun b12 => ?_)
      · have h := ob_neg b12 h
        refine u_aload_n g 1 dX10_better_47 rfl ?_
        refine gfX10_9 g (c := 0) rfl wf_X10_63 dX10_better_48 ?_
        refine u_aload_n g 1 dX10_better_51 rfl ?_
        refine gfX10_0 g (c := 0) rfl wf_X10_10 dX10_better_52 ?_
        refine gfX5_0 g (c := 1) rfl wf_X10_87 (v := (M.1 1 0)) rfl dX10_better_55 ?_
        obtain ⟨q13, hq14, h⟩ := ob_bind h
        refine u_callV (st := []) g wv_X10_122 [.int (M.1 1 0)] (kX_lt (show kX 254 = 3 from rfl) rfl) (ceX_3 (show kX 254 = 3 from rfl)) rfl rfl (t_X3_begin w x.2.1 hq14) (by decide) (by decide) rfl (Nat.le_of_ble_eq_true rfl) rfl dX10_better_58 ?_
        show U shX w x r q13 61 [(2, .ref (w.2.2.1 c3)), (0, .ref (w.2.2.1 0)), (1, .int a1)] []
        refine u_aload_n g 1 dX10_better_61 rfl ?_
        refine gfX10_9 g (c := 0) rfl wf_X10_63 dX10_better_62 ?_
        refine u_aload_n g 0 dX10_better_65 rfl ?_
        obtain ⟨q15, hq16, h⟩ := ob_bind h
        refine u_callV (st := []) g wv_X10_196 [.ref (w.2.2.1 c3)] (kX_lt (show kX 254 = 3 from rfl) rfl) (ceX_3 (show kX 254 = 3 from rfl)) rfl rfl (t_X3_gatherBetter w x.2.1 hq16) (by decide) (by decide) rfl (Nat.le_of_ble_eq_true rfl) rfl dX10_better_66 ?_
        show U shX w x r q15 69 [(2, .ref (w.2.2.1 c3)), (0, .ref (w.2.2.1 0)), (1, .int a1)] []
        refine u_aload_n g 1 dX10_better_69 rfl ?_
        refine u_bipush g (v := (10 : Int32)) dX10_better_70 rfl ?_
        obtain ⟨q17, hq18, h⟩ := ob_bind h
        refine u_callV (st := []) g wv_X10_178 [.int (10 : Int32)] (kX_lt (show kX 0 = 10 from rfl) rfl) (ceX_10 (show kX 0 = 10 from rfl)) rfl rfl (t_X10_settle w x.2.1 hq18) (by decide) (by decide) rfl (Nat.le_of_ble_eq_true rfl) rfl dX10_better_72 ?_
        show U shX w x r q17.2 75 [(2, .ref (w.2.2.1 c3)), (0, .ref (w.2.2.1 0)), (1, .int a1)] [.int q17.1]
        exact u_iret g dX10_better_75 (by rw [← hr]; obtain rfl := Option.some.inj h; rfl)
      · have h := ob_pos b12 h
        refine u_aload_n g 1 dX10_better_41 rfl ?_
        refine u_iconst g (v := (4 : Int32)) dX10_better_42 rfl ?_
        obtain ⟨q19, hq20, h⟩ := ob_bind h
        refine u_callV (st := []) g wv_X10_83 [.int (4 : Int32)] (kX_lt (show kX 0 = 10 from rfl) rfl) (ceX_10 (show kX 0 = 10 from rfl)) rfl rfl (t_X10_refuse w x.2.1 hq20) (by decide) (by decide) rfl (Nat.le_of_ble_eq_true rfl) rfl dX10_better_43 ?_
        show U shX w x r q19.2 46 [(2, .ref (w.2.2.1 c3)), (0, .ref (w.2.2.1 0)), (1, .int a1)] [.int q19.1]
        exact u_iret g dX10_better_46 (by rw [← hr]; obtain rfl := Option.some.inj h; rfl)
    · have h := ob_neg b9 h
      refine u_aload_n g 1 dX10_better_27 rfl ?_
      refine u_bipush g (v := (7 : Int32)) dX10_better_28 rfl ?_
      obtain ⟨q21, hq22, h⟩ := ob_bind h
      refine u_callV (st := []) g wv_X10_83 [.int (7 : Int32)] (kX_lt (show kX 0 = 10 from rfl) rfl) (ceX_10 (show kX 0 = 10 from rfl)) rfl rfl (t_X10_refuse w x.2.1 hq22) (by decide) (by decide) rfl (Nat.le_of_ble_eq_true rfl) rfl dX10_better_30 ?_
      show U shX w x r q21.2 33 [(2, .ref (w.2.2.1 c3)), (0, .ref (w.2.2.1 0)), (1, .int a1)] [.int q21.1]
      exact u_iret g dX10_better_33 (by rw [← hr]; obtain rfl := Option.some.inj h; rfl)
set_option maxRecDepth 100000 in
set_option maxHeartbeats 4000000 in
theorem t_X10_family (w : Wp) (l : Launch) {a1 : Int32} {a2 : Int32} {M : Mem} {q : Int32} (h : f_X10_family a1 a2 M = some q) : Ct shX w l yX10_family cX10_family 4 (some .int) 2 [.ref (w.2.2.1 0), .int a1, .int a2] M (some (.int q), M) := by
  rw [f_X10_family] at h
  refine ct_of shX_loc (by decide) (Nat.le_of_ble_eq_true rfl) rfl (fun x hx g => ?_)
  subst hx
  show U shX w x _ M 0 [(0, .ref (w.2.2.1 0)), (1, .int a1), (2, .int a2)] []
  generalize hr : ((some (.int q), M) : Option Value × Mem) = r
  have g : Gd shX w x RX10 cX10_family 4 (some .int) 2 := g
  refine u_aload_n g 0 dX10_family_0 rfl ?_
  refine u_iload_n g 1 dX10_family_1 rfl ?_
  obtain ⟨q1, hq2, h⟩ := ob_bind h
  refine u_callV (st := []) g wv_X10_166 [.int a1] (kX_lt (show kX 0 = 10 from rfl) rfl) (ceX_10 (show kX 0 = 10 from rfl)) rfl rfl (t_X10_familyAt w x.2.1 hq2) (by decide) (by decide) rfl (Nat.le_of_ble_eq_true rfl) rfl dX10_family_2 ?_
  show U shX w x r M 5 [(0, .ref (w.2.2.1 0)), (1, .int a1), (2, .int a2)] [rv w q1]
  refine u_astore_nO g [(3, rv w q1), (0, .ref (w.2.2.1 0)), (1, .int a1), (2, .int a2)] dX10_family_5 (by decide) rfl ?_
  refine u_aload_nO g 0 dX10_family_6 rfl ?_
  cases q1 with
  | none =>
    have h := ob_none h
    refine u_nonnullN g dX10_family_7 ?_
    show U shX w x r M 10 [(3, .null), (0, .ref (w.2.2.1 0)), (1, .int a1), (2, .int a2)] []
    refine u_iconst g (v := (-1 : Int32)) dX10_family_10 rfl ?_
    exact u_iret g dX10_family_11 (by rw [← hr]; obtain rfl := Option.some.inj h; rfl)
  | some c3 =>
    have h := ob_some h
    obtain ⟨k4, h⟩ := ob_if h
    refine u_nonnull g 12 dX10_family_7 (by decide) ?_
    show U shX w x r M 12 [(3, .ref (w.2.2.1 c3)), (0, .ref (w.2.2.1 0)), (1, .int a1), (2, .int a2)] []
    refine u_iload_n g 3 dX10_family_12 rfl ?_
    by_cases b5 : a2 = (0 : Int32)
    · have h := ob_pos b5 h
      refine u_tableIn g 48 dX10_family_13 (0 : Int32) b5 rfl rfl (by decide) ?_
      refine u_aload_n g 0 dX10_family_48 rfl ?_
      refine gfX1_0 g k4 wf_X10_199 (v := (M.1 c3 0)) rfl dX10_family_49 ?_
      exact u_iret g dX10_family_52 (by rw [← hr]; obtain rfl := Option.some.inj h; rfl)
    have h := ob_neg b5 h
    by_cases b6 : a2 = (1 : Int32)
    · have h := ob_pos b6 h
      refine u_tableIn g 53 dX10_family_13 (1 : Int32) b6 rfl rfl (by decide) ?_
      refine u_aload_n g 0 dX10_family_53 rfl ?_
      refine gfX1_1 g k4 wf_X10_202 (v := (M.1 c3 1)) rfl dX10_family_54 ?_
      exact u_iret g dX10_family_57 (by rw [← hr]; obtain rfl := Option.some.inj h; rfl)
    have h := ob_neg b6 h
    by_cases b7 : a2 = (2 : Int32)
    · have h := ob_pos b7 h
      refine u_tableIn g 58 dX10_family_13 (2 : Int32) b7 rfl rfl (by decide) ?_
      refine u_aload_n g 0 dX10_family_58 rfl ?_
      obtain ⟨q8, hq9, h⟩ := ob_bind h
      refine u_callV (st := []) g wv_X10_203 [] (kX_lt k4 rfl) (ceX_1 k4) rfl rfl (t_X1_allKeepers w x.2.1 hq9) (by decide) (by decide) rfl (Nat.le_of_ble_eq_true rfl) rfl dX10_family_59 ?_
      show U shX w x r M 62 [(3, .ref (w.2.2.1 c3)), (0, .ref (w.2.2.1 0)), (1, .int a1), (2, .int a2)] [.int q8]
      exact u_iret g dX10_family_62 (by rw [← hr]; obtain rfl := Option.some.inj h; rfl)
    have h := ob_neg b7 h
    by_cases b10 : a2 = (3 : Int32)
    · have h := ob_pos b10 h
      refine u_tableIn g 63 dX10_family_13 (3 : Int32) b10 rfl rfl (by decide) ?_
      refine u_aload_n g 0 dX10_family_63 rfl ?_
      obtain ⟨q11, hq12, h⟩ := ob_bind h
      refine u_callV (st := []) g wv_X10_207 [] (kX_lt k4 rfl) (ceX_1 k4) rfl rfl (t_X1_fewestKeepers w x.2.1 hq12) (by decide) (by decide) rfl (Nat.le_of_ble_eq_true rfl) rfl dX10_family_64 ?_
      show U shX w x r M 67 [(3, .ref (w.2.2.1 c3)), (0, .ref (w.2.2.1 0)), (1, .int a1), (2, .int a2)] [.int q11]
      exact u_iret g dX10_family_67 (by rw [← hr]; obtain rfl := Option.some.inj h; rfl)
    have h := ob_neg b10 h
    by_cases b13 : a2 = (4 : Int32)
    · have h := ob_pos b13 h
      refine u_tableIn g 68 dX10_family_13 (4 : Int32) b13 rfl rfl (by decide) ?_
      refine u_aload_n g 0 dX10_family_68 rfl ?_
      obtain ⟨q14, hq15, h⟩ := ob_bind h
      refine u_callV (st := []) g wv_X10_210 [] (kX_lt k4 rfl) (ceX_1 k4) rfl rfl (t_X1_mostKeepers w x.2.1 hq15) (by decide) (by decide) rfl (Nat.le_of_ble_eq_true rfl) rfl dX10_family_69 ?_
      show U shX w x r M 72 [(3, .ref (w.2.2.1 c3)), (0, .ref (w.2.2.1 0)), (1, .int a1), (2, .int a2)] [.int q14]
      exact u_iret g dX10_family_72 (by rw [← hr]; obtain rfl := Option.some.inj h; rfl)
    have h := ob_neg b13 h
    refine u_tableOut g 73 dX10_family_13 (sw_out 4 (by decide) _ rfl (fun j hj => match j, hj with | 0, _ => b5 | 1, _ => b6 | 2, _ => b7 | 3, _ => b10 | 4, _ => b13 | k + 5, hk => absurd hk (by omega))) (by decide) ?_
    refine u_iconst g (v := (-1 : Int32)) dX10_family_73 rfl ?_
    exact u_iret g dX10_family_74 (by rw [← hr]; obtain rfl := Option.some.inj h; rfl)
set_option maxRecDepth 100000 in
set_option maxHeartbeats 4000000 in
theorem t_X10_quorum (w : Wp) (l : Launch) {a1 : Int32} {a2 : Int32} {M : Mem} {q : Int32} (h : f_X10_quorum a1 a2 M = some q) : Ct shX w l yX10_quorum cX10_quorum 4 (some .int) 1 [.ref (w.2.2.1 0), .int a1, .int a2] M (some (.int q), M) := by
  rw [f_X10_quorum] at h
  refine ct_of shX_loc (by decide) (Nat.le_of_ble_eq_true rfl) rfl (fun x hx g => ?_)
  subst hx
  show U shX w x _ M 0 [(0, .ref (w.2.2.1 0)), (1, .int a1), (2, .int a2)] []
  generalize hr : ((some (.int q), M) : Option Value × Mem) = r
  have g : Gd shX w x RX10 cX10_quorum 4 (some .int) 1 := g
  refine u_aload_n g 0 dX10_quorum_0 rfl ?_
  refine u_iload_n g 1 dX10_quorum_1 rfl ?_
  obtain ⟨q1, hq2, h⟩ := ob_bind h
  refine u_callV (st := []) g wv_X10_166 [.int a1] (kX_lt (show kX 0 = 10 from rfl) rfl) (ceX_10 (show kX 0 = 10 from rfl)) rfl rfl (t_X10_familyAt w x.2.1 hq2) (by decide) (by decide) rfl (Nat.le_of_ble_eq_true rfl) rfl dX10_quorum_2 ?_
  show U shX w x r M 5 [(0, .ref (w.2.2.1 0)), (1, .int a1), (2, .int a2)] [rv w q1]
  refine u_astore_nO g [(3, rv w q1), (0, .ref (w.2.2.1 0)), (1, .int a1), (2, .int a2)] dX10_quorum_5 (by decide) rfl ?_
  refine u_aload_nO g 0 dX10_quorum_6 rfl ?_
  cases q1 with
  | none =>
    have h := ob_none h
    refine u_isnullN g 22 dX10_quorum_7 (by decide) ?_
    show U shX w x r M 22 [(3, .null), (0, .ref (w.2.2.1 0)), (1, .int a1), (2, .int a2)] []
    refine u_iconst g (v := (-1 : Int32)) dX10_quorum_22 rfl ?_
    exact u_iret g dX10_quorum_23 (by rw [← hr]; obtain rfl := Option.some.inj h; rfl)
  | some c3 =>
    have h := ob_some h
    obtain ⟨k4, h⟩ := ob_if h
    refine u_isnull g dX10_quorum_7 ?_
    show U shX w x r M 10 [(3, .ref (w.2.2.1 c3)), (0, .ref (w.2.2.1 0)), (1, .int a1), (2, .int a2)] []
    refine u_iload_n g 3 dX10_quorum_10 rfl ?_
    refine u_if_lt g 22 dX10_quorum_11 (by decide) (fun b5 => ?_) (fun b5 => ?_)
    · have h := ob_pos b5 h
      refine u_iconst g (v := (-1 : Int32)) dX10_quorum_22 rfl ?_
      exact u_iret g dX10_quorum_23 (by rw [← hr]; obtain rfl := Option.some.inj h; rfl)
    · have h := ob_neg b5 h
      refine u_iload_n g 3 dX10_quorum_14 rfl ?_
      refine u_aload_n g 0 dX10_quorum_15 rfl ?_
      refine gfX1_1 g k4 wf_X10_202 (v := (M.1 c3 1)) rfl dX10_quorum_16 ?_
      refine u_icmp_lt g 24 dX10_quorum_19 (by decide) (fun b6 => ?_) (fun b6 => ?_)
      · have h := ob_pos b6 h
        refine u_aload_n g 0 dX10_quorum_24 rfl ?_
        refine gfX1_2 g k4 wf_X10_213 dX10_quorum_25 ?_
        refine u_iload_n g 3 dX10_quorum_28 rfl ?_
        obtain ⟨e7, h⟩ := ob_if h
        refine aX_ild g (c := (c3 + 1)) 120 (by decide) (kX_s1 k4) (v := (M.1 (c3 + 1) a2.toNatClampNeg)) (inB_in e7) rfl dX10_quorum_29 ?_
        exact u_iret g dX10_quorum_30 (by rw [← hr]; obtain rfl := Option.some.inj h; rfl)
      · have h := ob_neg b6 h
        refine u_iconst g (v := (-1 : Int32)) dX10_quorum_22 rfl ?_
        exact u_iret g dX10_quorum_23 (by rw [← hr]; obtain rfl := Option.some.inj h; rfl)
set_option maxRecDepth 100000 in
set_option maxHeartbeats 4000000 in
theorem t_X10_has (w : Wp) (l : Launch) {a1 : Int32} {a2 : Int32} {M : Mem} {q : Int32 × Mem} (h : f_X10_has a1 a2 M = some q) : Ct shX w l yX10_has cX10_has 4 (some .int) 1 [.ref (w.2.2.1 0), .int a1, .int a2] M (some (.int q.1), q.2) := by
  rw [f_X10_has] at h
  refine ct_of shX_loc (by decide) (Nat.le_of_ble_eq_true rfl) rfl (fun x hx g => ?_)
  subst hx
  show U shX w x _ M 0 [(0, .ref (w.2.2.1 0)), (1, .int a1), (2, .int a2)] []
  generalize hr : ((some (.int q.1), q.2) : Option Value × Mem) = r
  have g : Gd shX w x RX10 cX10_has 4 (some .int) 1 := g
  refine u_aload_n g 0 dX10_has_0 rfl ?_
  refine u_iload_n g 1 dX10_has_1 rfl ?_
  obtain ⟨q1, hq2, h⟩ := ob_bind h
  refine u_callV (st := []) g wv_X10_166 [.int a1] (kX_lt (show kX 0 = 10 from rfl) rfl) (ceX_10 (show kX 0 = 10 from rfl)) rfl rfl (t_X10_familyAt w x.2.1 hq2) (by decide) (by decide) rfl (Nat.le_of_ble_eq_true rfl) rfl dX10_has_2 ?_
  show U shX w x r M 5 [(0, .ref (w.2.2.1 0)), (1, .int a1), (2, .int a2)] [rv w q1]
  refine u_astore_nO g [(3, rv w q1), (0, .ref (w.2.2.1 0)), (1, .int a1), (2, .int a2)] dX10_has_5 (by decide) rfl ?_
  refine u_aload_nO g 0 dX10_has_6 rfl ?_
  cases q1 with
  | none =>
    have h := ob_none h
    refine u_nonnullN g dX10_has_7 ?_
    show U shX w x r M 10 [(3, .null), (0, .ref (w.2.2.1 0)), (1, .int a1), (2, .int a2)] []
    refine u_aload_n g 1 dX10_has_10 rfl ?_
    refine u_iconst g (v := (1 : Int32)) dX10_has_11 rfl ?_
    obtain ⟨q5, hq6, h⟩ := ob_bind h
    refine u_callV (st := []) g wv_X10_83 [.int (1 : Int32)] (kX_lt (show kX 0 = 10 from rfl) rfl) (ceX_10 (show kX 0 = 10 from rfl)) rfl rfl (t_X10_refuse w x.2.1 hq6) (by decide) (by decide) rfl (Nat.le_of_ble_eq_true rfl) rfl dX10_has_12 ?_
    show U shX w x r q5.2 15 [(3, .null), (0, .ref (w.2.2.1 0)), (1, .int a1), (2, .int a2)] [.int q5.1]
    exact u_iret g dX10_has_15 (by rw [← hr]; obtain rfl := Option.some.inj h; rfl)
  | some c3 =>
    have h := ob_some h
    obtain ⟨k4, h⟩ := ob_if h
    refine u_nonnull g 16 dX10_has_7 (by decide) ?_
    show U shX w x r M 16 [(3, .ref (w.2.2.1 c3)), (0, .ref (w.2.2.1 0)), (1, .int a1), (2, .int a2)] []
    refine u_aload_n g 1 dX10_has_16 rfl ?_
    refine u_aload_n g 0 dX10_has_17 rfl ?_
    refine u_iload_n g 3 dX10_has_18 rfl ?_
    obtain ⟨q7, hq8, h⟩ := ob_bind h
    refine u_callV (st := [.ref (w.2.2.1 0)]) g wv_X10_181 [.int a2] (kX_lt k4 rfl) (ceX_1 k4) rfl rfl (t_X1_isHeldBy w x.2.1 hq8) (by decide) (by decide) rfl (Nat.le_of_ble_eq_true rfl) rfl dX10_has_19 ?_
    show U shX w x r M 22 [(3, .ref (w.2.2.1 c3)), (0, .ref (w.2.2.1 0)), (1, .int a1), (2, .int a2)] [.int q7, .ref (w.2.2.1 0)]
    obtain ⟨q9, hq10, h⟩ := ob_bind h
    have K11 : U shX w x r M 30 [] [.int q9, .ref (w.2.2.1 0)] := by
      obtain ⟨q12, hq13, h⟩ := ob_bind h
      refine u_callV (st := []) g wv_X10_103 [.int q9] (kX_lt (show kX 0 = 10 from rfl) rfl) (ceX_10 (show kX 0 = 10 from rfl)) rfl rfl (t_X10_accept w x.2.1 hq13) (by decide) (by decide) rfl (Nat.le_of_ble_eq_true rfl) rfl dX10_has_30 ?_
      show U shX w x r q12.2 33 [] [.int q12.1]
      exact u_iret g dX10_has_33 (by rw [← hr]; obtain rfl := Option.some.inj h; rfl)
    have h := hq10
    refine u_if_eq g 29 dX10_has_22 (by decide) (fun b14 => ?_) (fun b14 => ?_)
    · have h := ob_pos b14 h
      refine u_iconst g (v := (0 : Int32)) dX10_has_29 rfl ?_
      obtain rfl := Option.some.inj h
      exact u_sub [] rfl K11
    · have h := ob_neg b14 h
      refine u_iconst g (v := (1 : Int32)) dX10_has_25 rfl ?_
      refine u_goto g 30 dX10_has_26 (by decide) ?_
      obtain rfl := Option.some.inj h
      exact u_sub [] rfl K11
set_option maxRecDepth 100000 in
set_option maxHeartbeats 4000000 in
theorem t_X10_apart (w : Wp) (l : Launch) {a1 : Int32} {a2 : Int32} {M : Mem} {q : Int32 × Mem} (h : f_X10_apart a1 a2 M = some q) : Ct shX w l yX10_apart cX10_apart 5 (some .int) 1 [.ref (w.2.2.1 0), .int a1, .int a2] M (some (.int q.1), q.2) := by
  rw [f_X10_apart] at h
  refine ct_of shX_loc (by decide) (Nat.le_of_ble_eq_true rfl) rfl (fun x hx g => ?_)
  subst hx
  show U shX w x _ M 0 [(0, .ref (w.2.2.1 0)), (1, .int a1), (2, .int a2)] []
  generalize hr : ((some (.int q.1), q.2) : Option Value × Mem) = r
  have g : Gd shX w x RX10 cX10_apart 5 (some .int) 1 := g
  refine u_aload_n g 0 dX10_apart_0 rfl ?_
  refine u_iload_n g 1 dX10_apart_1 rfl ?_
  obtain ⟨q1, hq2, h⟩ := ob_bind h
  refine u_callV (st := []) g wv_X10_166 [.int a1] (kX_lt (show kX 0 = 10 from rfl) rfl) (ceX_10 (show kX 0 = 10 from rfl)) rfl rfl (t_X10_familyAt w x.2.1 hq2) (by decide) (by decide) rfl (Nat.le_of_ble_eq_true rfl) rfl dX10_apart_2 ?_
  show U shX w x r M 5 [(0, .ref (w.2.2.1 0)), (1, .int a1), (2, .int a2)] [rv w q1]
  refine u_astore_nO g [(3, rv w q1), (0, .ref (w.2.2.1 0)), (1, .int a1), (2, .int a2)] dX10_apart_5 (by decide) rfl ?_
  refine u_aload_n g 1 dX10_apart_6 rfl ?_
  refine u_iload_n g 3 dX10_apart_7 rfl ?_
  obtain ⟨q3, hq4, h⟩ := ob_bind h
  refine u_callV (st := []) g wv_X10_166 [.int a2] (kX_lt (show kX 0 = 10 from rfl) rfl) (ceX_10 (show kX 0 = 10 from rfl)) rfl rfl (t_X10_familyAt w x.2.1 hq4) (by decide) (by decide) rfl (Nat.le_of_ble_eq_true rfl) rfl dX10_apart_8 ?_
  show U shX w x r M 11 [(3, rv w q1), (0, .ref (w.2.2.1 0)), (1, .int a1), (2, .int a2)] [rv w q3]
  refine u_astoreO g [(4, rv w q3), (3, rv w q1), (0, .ref (w.2.2.1 0)), (1, .int a1), (2, .int a2)] dX10_apart_11 (by decide) (by simp [rv_cat]) ?_
  refine u_aload_nO g 1 dX10_apart_13 rfl ?_
  cases q1 with
  | none =>
    have h := ob_none h
    refine u_isnullN g 22 dX10_apart_14 (by decide) ?_
    show U shX w x r M 22 [(4, rv w q3), (3, .null), (0, .ref (w.2.2.1 0)), (1, .int a1), (2, .int a2)] []
    refine u_aload_n g 2 dX10_apart_22 rfl ?_
    refine u_iconst g (v := (1 : Int32)) dX10_apart_23 rfl ?_
    obtain ⟨q7, hq8, h⟩ := ob_bind h
    refine u_callV (st := []) g wv_X10_83 [.int (1 : Int32)] (kX_lt (show kX 0 = 10 from rfl) rfl) (ceX_10 (show kX 0 = 10 from rfl)) rfl rfl (t_X10_refuse w x.2.1 hq8) (by decide) (by decide) rfl (Nat.le_of_ble_eq_true rfl) rfl dX10_apart_24 ?_
    show U shX w x r q7.2 27 [(4, rv w q3), (3, .null), (0, .ref (w.2.2.1 0)), (1, .int a1), (2, .int a2)] [.int q7.1]
    exact u_iret g dX10_apart_27 (by rw [← hr]; obtain rfl := Option.some.inj h; rfl)
  | some c5 =>
    have h := ob_some h
    obtain ⟨k6, h⟩ := ob_if h
    refine u_isnull g dX10_apart_14 ?_
    show U shX w x r M 17 [(4, rv w q3), (3, .ref (w.2.2.1 c5)), (0, .ref (w.2.2.1 0)), (1, .int a1), (2, .int a2)] []
    refine u_aloadO g 0 dX10_apart_17 rfl ?_
    cases q3 with
    | none =>
      have h := ob_none h
      refine u_nonnullN g dX10_apart_19 ?_
      show U shX w x r M 22 [(4, .null), (3, .ref (w.2.2.1 c5)), (0, .ref (w.2.2.1 0)), (1, .int a1), (2, .int a2)] []
      refine u_aload_n g 2 dX10_apart_22 rfl ?_
      refine u_iconst g (v := (1 : Int32)) dX10_apart_23 rfl ?_
      obtain ⟨q11, hq12, h⟩ := ob_bind h
      refine u_callV (st := []) g wv_X10_83 [.int (1 : Int32)] (kX_lt (show kX 0 = 10 from rfl) rfl) (ceX_10 (show kX 0 = 10 from rfl)) rfl rfl (t_X10_refuse w x.2.1 hq12) (by decide) (by decide) rfl (Nat.le_of_ble_eq_true rfl) rfl dX10_apart_24 ?_
      show U shX w x r q11.2 27 [(4, .null), (3, .ref (w.2.2.1 c5)), (0, .ref (w.2.2.1 0)), (1, .int a1), (2, .int a2)] [.int q11.1]
      exact u_iret g dX10_apart_27 (by rw [← hr]; obtain rfl := Option.some.inj h; rfl)
    | some c9 =>
      have h := ob_some h
      obtain ⟨k10, h⟩ := ob_if h
      refine u_nonnull g 28 dX10_apart_19 (by decide) ?_
      show U shX w x r M 28 [(4, .ref (w.2.2.1 c9)), (3, .ref (w.2.2.1 c5)), (0, .ref (w.2.2.1 0)), (1, .int a1), (2, .int a2)] []
      refine u_aload_n g 2 dX10_apart_28 rfl ?_
      refine u_aload_n g 1 dX10_apart_29 rfl ?_
      refine u_aload g 0 dX10_apart_30 rfl ?_
      refine u_iload_n g 3 dX10_apart_32 rfl ?_
      refine u_iload_n g 4 dX10_apart_33 rfl ?_
      obtain ⟨q13, hq14, h⟩ := ob_bind h
      have K15 : U shX w x r M 42 [] [.int q13, .ref (w.2.2.1 c9), .ref (w.2.2.1 c5), .ref (w.2.2.1 0)] := by
        obtain ⟨q16, hq17, h⟩ := ob_bind h
        refine u_callS (st := [.ref (w.2.2.1 0)]) g wv_X10_192 [.ref (w.2.2.1 c5), .ref (w.2.2.1 c9), .int q13] (t_X10_firstApart w x.2.1 hq17) (by decide) (by decide) rfl (Nat.le_of_ble_eq_true rfl) rfl dX10_apart_42 ?_
        show U shX w x r M 45 [] [.int q16, .ref (w.2.2.1 0)]
        obtain ⟨q18, hq19, h⟩ := ob_bind h
        refine u_callV (st := []) g wv_X10_103 [.int q16] (kX_lt (show kX 0 = 10 from rfl) rfl) (ceX_10 (show kX 0 = 10 from rfl)) rfl rfl (t_X10_accept w x.2.1 hq19) (by decide) (by decide) rfl (Nat.le_of_ble_eq_true rfl) rfl dX10_apart_45 ?_
        show U shX w x r q18.2 48 [] [.int q18.1]
        exact u_iret g dX10_apart_48 (by rw [← hr]; obtain rfl := Option.some.inj h; rfl)
      have h := hq14
      refine u_icmp_ne g 41 dX10_apart_34 (by decide) (fun b20 => ?_) (fun b20 => ?_)
      · have h := ob_neg b20 h
        refine u_iconst g (v := (0 : Int32)) dX10_apart_41 rfl ?_
        obtain rfl := Option.some.inj h
        exact u_sub [] rfl K15
      · have h := ob_pos b20 h
        refine u_iconst g (v := (1 : Int32)) dX10_apart_37 rfl ?_
        refine u_goto g 42 dX10_apart_38 (by decide) ?_
        obtain rfl := Option.some.inj h
        exact u_sub [] rfl K15
set_option maxRecDepth 100000 in
set_option maxHeartbeats 4000000 in
theorem t_X10_smallestMeeting (w : Wp) (l : Launch) {t1 : Nat} {M : Mem} {q : Int32 × Mem} (h : f_X10_smallestMeeting t1 M = some q) : Ct shX w l yX10_smallestMeeting cX10_smallestMeeting 2 (some .int) 4 [.ref (w.2.2.1 0), .ref (w.2.2.1 t1)] M (some (.int q.1), q.2) := by
  rw [f_X10_smallestMeeting] at h
  obtain ⟨h1, h⟩ := ob_if h
  refine ct_of shX_loc (by decide) (Nat.le_of_ble_eq_true rfl) rfl (fun x hx g => ?_)
  subst hx
  show U shX w x _ M 0 [(0, .ref (w.2.2.1 0)), (1, .ref (w.2.2.1 t1))] []
  generalize hr : ((some (.int q.1), q.2) : Option Value × Mem) = r
  have g : Gd shX w x RX10 cX10_smallestMeeting 2 (some .int) 4 := g
  refine u_aload_n g 0 dX10_smallestMeeting_0 rfl ?_
  refine gfX10_9 g (c := 0) rfl wf_X10_63 dX10_smallestMeeting_1 ?_
  refine u_aload_n g 0 dX10_smallestMeeting_4 rfl ?_
  refine gfX10_0 g (c := 0) rfl wf_X10_10 dX10_smallestMeeting_5 ?_
  refine gfX5_0 g (c := 1) rfl wf_X10_87 (v := (M.1 1 0)) rfl dX10_smallestMeeting_8 ?_
  obtain ⟨q1, hq2, h⟩ := ob_bind h
  refine u_callV (st := []) g wv_X10_122 [.int (M.1 1 0)] (kX_lt (show kX 254 = 3 from rfl) rfl) (ceX_3 (show kX 254 = 3 from rfl)) rfl rfl (t_X3_begin w x.2.1 hq2) (by decide) (by decide) rfl (Nat.le_of_ble_eq_true rfl) rfl dX10_smallestMeeting_11 ?_
  show U shX w x r q1 14 [(0, .ref (w.2.2.1 0)), (1, .ref (w.2.2.1 t1))] []
  refine u_aload_n g 0 dX10_smallestMeeting_14 rfl ?_
  refine gfX10_9 g (c := 0) rfl wf_X10_63 dX10_smallestMeeting_15 ?_
  refine u_aload_n g 1 dX10_smallestMeeting_18 rfl ?_
  obtain ⟨q3, hq4, h⟩ := ob_bind h
  refine u_callV (st := []) g wv_X10_174 [.ref (w.2.2.1 t1)] (kX_lt (show kX 254 = 3 from rfl) rfl) (ceX_3 (show kX 254 = 3 from rfl)) rfl rfl (t_X3_gatherMeeting w x.2.1 hq4) (by decide) (by decide) rfl (Nat.le_of_ble_eq_true rfl) rfl dX10_smallestMeeting_19 ?_
  show U shX w x r q3 22 [(0, .ref (w.2.2.1 0)), (1, .ref (w.2.2.1 t1))] []
  refine u_aload_n g 0 dX10_smallestMeeting_22 rfl ?_
  refine gfX10_9 g (c := 0) rfl wf_X10_63 dX10_smallestMeeting_23 ?_
  refine gfX3_0 g (c := 254) rfl wf_X10_126 dX10_smallestMeeting_26 ?_
  obtain ⟨q5, hq6, h⟩ := ob_bind h
  refine u_callV (st := []) g wv_X10_225 [] (kX_lt (show kX 255 = 7 from rfl) rfl) (ceX_7 (show kX 255 = 7 from rfl)) rfl rfl (t_X7_keepLeast w x.2.1 hq6) (by decide) (by decide) rfl (Nat.le_of_ble_eq_true rfl) rfl dX10_smallestMeeting_29 ?_
  show U shX w x r q5 32 [(0, .ref (w.2.2.1 0)), (1, .ref (w.2.2.1 t1))] []
  refine u_aload_n g 0 dX10_smallestMeeting_32 rfl ?_
  refine gfX10_9 g (c := 0) rfl wf_X10_63 dX10_smallestMeeting_33 ?_
  refine gfX3_0 g (c := 254) rfl wf_X10_126 dX10_smallestMeeting_36 ?_
  obtain ⟨q7, hq8, h⟩ := ob_bind h
  refine u_callV (st := []) g wv_X10_254 [] (kX_lt (show kX 255 = 7 from rfl) rfl) (ceX_7 (show kX 255 = 7 from rfl)) rfl rfl (t_X7_smallestSet w x.2.1 hq8) (by decide) (by decide) rfl (Nat.le_of_ble_eq_true rfl) rfl dX10_smallestMeeting_39 ?_
  show U shX w x r q5 42 [(0, .ref (w.2.2.1 0)), (1, .ref (w.2.2.1 t1))] [.int q7]
  exact u_iret g dX10_smallestMeeting_42 (by rw [← hr]; obtain rfl := Option.some.inj h; rfl)
set_option maxRecDepth 100000 in
set_option maxHeartbeats 4000000 in
theorem t_X10_hit (w : Wp) (l : Launch) {a1 : Int32} {M : Mem} {q : Int32 × Mem} (h : f_X10_hit a1 M = some q) : Ct shX w l yX10_hit cX10_hit 3 (some .int) 5 [.ref (w.2.2.1 0), .int a1] M (some (.int q.1), q.2) := by
  rw [f_X10_hit] at h
  refine ct_of shX_loc (by decide) (Nat.le_of_ble_eq_true rfl) rfl (fun x hx g => ?_)
  subst hx
  show U shX w x _ M 0 [(0, .ref (w.2.2.1 0)), (1, .int a1)] []
  generalize hr : ((some (.int q.1), q.2) : Option Value × Mem) = r
  have g : Gd shX w x RX10 cX10_hit 3 (some .int) 5 := g
  refine u_aload_n g 0 dX10_hit_0 rfl ?_
  refine u_iload_n g 1 dX10_hit_1 rfl ?_
  obtain ⟨q1, hq2, h⟩ := ob_bind h
  refine u_callV (st := []) g wv_X10_166 [.int a1] (kX_lt (show kX 0 = 10 from rfl) rfl) (ceX_10 (show kX 0 = 10 from rfl)) rfl rfl (t_X10_familyAt w x.2.1 hq2) (by decide) (by decide) rfl (Nat.le_of_ble_eq_true rfl) rfl dX10_hit_2 ?_
  show U shX w x r M 5 [(0, .ref (w.2.2.1 0)), (1, .int a1)] [rv w q1]
  refine u_astore_nO g [(2, rv w q1), (0, .ref (w.2.2.1 0)), (1, .int a1)] dX10_hit_5 (by decide) rfl ?_
  refine u_aload_nO g 0 dX10_hit_6 rfl ?_
  cases q1 with
  | none =>
    have h := ob_none h
    refine u_nonnullN g dX10_hit_7 ?_
    show U shX w x r M 10 [(2, .null), (0, .ref (w.2.2.1 0)), (1, .int a1)] []
    refine u_aload_n g 1 dX10_hit_10 rfl ?_
    refine u_iconst g (v := (1 : Int32)) dX10_hit_11 rfl ?_
    obtain ⟨q5, hq6, h⟩ := ob_bind h
    refine u_callV (st := []) g wv_X10_83 [.int (1 : Int32)] (kX_lt (show kX 0 = 10 from rfl) rfl) (ceX_10 (show kX 0 = 10 from rfl)) rfl rfl (t_X10_refuse w x.2.1 hq6) (by decide) (by decide) rfl (Nat.le_of_ble_eq_true rfl) rfl dX10_hit_12 ?_
    show U shX w x r q5.2 15 [(2, .null), (0, .ref (w.2.2.1 0)), (1, .int a1)] [.int q5.1]
    exact u_iret g dX10_hit_15 (by rw [← hr]; obtain rfl := Option.some.inj h; rfl)
  | some c3 =>
    have h := ob_some h
    obtain ⟨k4, h⟩ := ob_if h
    refine u_nonnull g 16 dX10_hit_7 (by decide) ?_
    show U shX w x r M 16 [(2, .ref (w.2.2.1 c3)), (0, .ref (w.2.2.1 0)), (1, .int a1)] []
    refine u_aload_n g 1 dX10_hit_16 rfl ?_
    refine u_aload_n g 1 dX10_hit_17 rfl ?_
    refine u_aload_n g 0 dX10_hit_18 rfl ?_
    obtain ⟨q7, hq8, h⟩ := ob_bind h
    refine u_callV (st := [.ref (w.2.2.1 0)]) g wv_X10_235 [.ref (w.2.2.1 c3)] (kX_lt (show kX 0 = 10 from rfl) rfl) (ceX_10 (show kX 0 = 10 from rfl)) rfl rfl (t_X10_smallestMeeting w x.2.1 hq8) (by decide) (by decide) rfl (Nat.le_of_ble_eq_true rfl) rfl dX10_hit_19 ?_
    show U shX w x r q7.2 22 [(2, .ref (w.2.2.1 c3)), (0, .ref (w.2.2.1 0)), (1, .int a1)] [.int q7.1, .ref (w.2.2.1 0)]
    obtain ⟨q9, hq10, h⟩ := ob_bind h
    refine u_callV (st := []) g wv_X10_103 [.int q7.1] (kX_lt (show kX 0 = 10 from rfl) rfl) (ceX_10 (show kX 0 = 10 from rfl)) rfl rfl (t_X10_accept w x.2.1 hq10) (by decide) (by decide) rfl (Nat.le_of_ble_eq_true rfl) rfl dX10_hit_22 ?_
    show U shX w x r q9.2 25 [(2, .ref (w.2.2.1 c3)), (0, .ref (w.2.2.1 0)), (1, .int a1)] [.int q9.1]
    exact u_iret g dX10_hit_25 (by rw [← hr]; obtain rfl := Option.some.inj h; rfl)
set_option maxRecDepth 100000 in
set_option maxHeartbeats 4000000 in
theorem t_X10_falls (w : Wp) (l : Launch) {a1 : Int32} {M : Mem} {q : Int32 × Mem} (h : f_X10_falls a1 M = some q) : Ct shX w l yX10_falls cX10_falls 3 (some .int) 5 [.ref (w.2.2.1 0), .int a1] M (some (.int q.1), q.2) := by
  rw [f_X10_falls] at h
  refine ct_of shX_loc (by decide) (Nat.le_of_ble_eq_true rfl) rfl (fun x hx g => ?_)
  subst hx
  show U shX w x _ M 0 [(0, .ref (w.2.2.1 0)), (1, .int a1)] []
  generalize hr : ((some (.int q.1), q.2) : Option Value × Mem) = r
  have g : Gd shX w x RX10 cX10_falls 3 (some .int) 5 := g
  refine u_aload_n g 0 dX10_falls_0 rfl ?_
  refine u_iload_n g 1 dX10_falls_1 rfl ?_
  obtain ⟨q1, hq2, h⟩ := ob_bind h
  refine u_callV (st := []) g wv_X10_166 [.int a1] (kX_lt (show kX 0 = 10 from rfl) rfl) (ceX_10 (show kX 0 = 10 from rfl)) rfl rfl (t_X10_familyAt w x.2.1 hq2) (by decide) (by decide) rfl (Nat.le_of_ble_eq_true rfl) rfl dX10_falls_2 ?_
  show U shX w x r M 5 [(0, .ref (w.2.2.1 0)), (1, .int a1)] [rv w q1]
  refine u_astore_nO g [(2, rv w q1), (0, .ref (w.2.2.1 0)), (1, .int a1)] dX10_falls_5 (by decide) rfl ?_
  refine u_aload_nO g 0 dX10_falls_6 rfl ?_
  cases q1 with
  | none =>
    have h := ob_none h
    refine u_nonnullN g dX10_falls_7 ?_
    show U shX w x r M 10 [(2, .null), (0, .ref (w.2.2.1 0)), (1, .int a1)] []
    refine u_aload_n g 1 dX10_falls_10 rfl ?_
    refine u_iconst g (v := (1 : Int32)) dX10_falls_11 rfl ?_
    obtain ⟨q5, hq6, h⟩ := ob_bind h
    refine u_callV (st := []) g wv_X10_83 [.int (1 : Int32)] (kX_lt (show kX 0 = 10 from rfl) rfl) (ceX_10 (show kX 0 = 10 from rfl)) rfl rfl (t_X10_refuse w x.2.1 hq6) (by decide) (by decide) rfl (Nat.le_of_ble_eq_true rfl) rfl dX10_falls_12 ?_
    show U shX w x r q5.2 15 [(2, .null), (0, .ref (w.2.2.1 0)), (1, .int a1)] [.int q5.1]
    exact u_iret g dX10_falls_15 (by rw [← hr]; obtain rfl := Option.some.inj h; rfl)
  | some c3 =>
    have h := ob_some h
    obtain ⟨k4, h⟩ := ob_if h
    refine u_nonnull g 16 dX10_falls_7 (by decide) ?_
    show U shX w x r M 16 [(2, .ref (w.2.2.1 c3)), (0, .ref (w.2.2.1 0)), (1, .int a1)] []
    refine u_aload_n g 1 dX10_falls_16 rfl ?_
    refine u_aload_n g 1 dX10_falls_17 rfl ?_
    refine u_aload_n g 0 dX10_falls_18 rfl ?_
    obtain ⟨q7, hq8, h⟩ := ob_bind h
    refine u_callV (st := [.ref (w.2.2.1 0)]) g wv_X10_235 [.ref (w.2.2.1 c3)] (kX_lt (show kX 0 = 10 from rfl) rfl) (ceX_10 (show kX 0 = 10 from rfl)) rfl rfl (t_X10_smallestMeeting w x.2.1 hq8) (by decide) (by decide) rfl (Nat.le_of_ble_eq_true rfl) rfl dX10_falls_19 ?_
    show U shX w x r q7.2 22 [(2, .ref (w.2.2.1 c3)), (0, .ref (w.2.2.1 0)), (1, .int a1)] [.int q7.1, .ref (w.2.2.1 0)]
    obtain ⟨q9, hq10, h⟩ := ob_bind h
    refine u_callS (st := [.ref (w.2.2.1 0)]) g wv_X10_239 [.int q7.1] (t_J6_bitCount_0f7a4 w x.2.1 hq10) (by decide) (by decide) rfl (Nat.le_of_ble_eq_true rfl) rfl dX10_falls_22 ?_
    show U shX w x r q7.2 25 [(2, .ref (w.2.2.1 c3)), (0, .ref (w.2.2.1 0)), (1, .int a1)] [.int q9, .ref (w.2.2.1 0)]
    refine u_iconst g (v := (1 : Int32)) dX10_falls_25 rfl ?_
    refine u_isub g dX10_falls_26 ?_
    obtain ⟨q11, hq12, h⟩ := ob_bind h
    refine u_callV (st := []) g wv_X10_103 [.int (q9 - (1 : Int32))] (kX_lt (show kX 0 = 10 from rfl) rfl) (ceX_10 (show kX 0 = 10 from rfl)) rfl rfl (t_X10_accept w x.2.1 hq12) (by decide) (by decide) rfl (Nat.le_of_ble_eq_true rfl) rfl dX10_falls_27 ?_
    show U shX w x r q11.2 30 [(2, .ref (w.2.2.1 c3)), (0, .ref (w.2.2.1 0)), (1, .int a1)] [.int q11.1]
    exact u_iret g dX10_falls_30 (by rw [← hr]; obtain rfl := Option.some.inj h; rfl)
set_option maxRecDepth 100000 in
set_option maxHeartbeats 4000000 in
theorem t_X10_liars (w : Wp) (l : Launch) {a1 : Int32} {a2 : Int32} {M : Mem} {q : Int32 × Mem} (h : f_X10_liars a1 a2 M = some q) : Ct shX w l yX10_liars cX10_liars 5 (some .int) 2 [.ref (w.2.2.1 0), .int a1, .int a2] M (some (.int q.1), q.2) := by
  rw [f_X10_liars] at h
  refine ct_of shX_loc (by decide) (Nat.le_of_ble_eq_true rfl) rfl (fun x hx g => ?_)
  subst hx
  show U shX w x _ M 0 [(0, .ref (w.2.2.1 0)), (1, .int a1), (2, .int a2)] []
  generalize hr : ((some (.int q.1), q.2) : Option Value × Mem) = r
  have g : Gd shX w x RX10 cX10_liars 5 (some .int) 2 := g
  refine u_aload_n g 0 dX10_liars_0 rfl ?_
  refine u_iload_n g 1 dX10_liars_1 rfl ?_
  obtain ⟨q1, hq2, h⟩ := ob_bind h
  refine u_callV (st := []) g wv_X10_166 [.int a1] (kX_lt (show kX 0 = 10 from rfl) rfl) (ceX_10 (show kX 0 = 10 from rfl)) rfl rfl (t_X10_familyAt w x.2.1 hq2) (by decide) (by decide) rfl (Nat.le_of_ble_eq_true rfl) rfl dX10_liars_2 ?_
  show U shX w x r M 5 [(0, .ref (w.2.2.1 0)), (1, .int a1), (2, .int a2)] [rv w q1]
  refine u_astore_nO g [(3, rv w q1), (0, .ref (w.2.2.1 0)), (1, .int a1), (2, .int a2)] dX10_liars_5 (by decide) rfl ?_
  refine u_aload_nO g 0 dX10_liars_6 rfl ?_
  cases q1 with
  | none =>
    have h := ob_none h
    refine u_nonnullN g dX10_liars_7 ?_
    show U shX w x r M 10 [(3, .null), (0, .ref (w.2.2.1 0)), (1, .int a1), (2, .int a2)] []
    refine u_aload_n g 1 dX10_liars_10 rfl ?_
    refine u_iconst g (v := (1 : Int32)) dX10_liars_11 rfl ?_
    obtain ⟨q5, hq6, h⟩ := ob_bind h
    refine u_callV (st := []) g wv_X10_83 [.int (1 : Int32)] (kX_lt (show kX 0 = 10 from rfl) rfl) (ceX_10 (show kX 0 = 10 from rfl)) rfl rfl (t_X10_refuse w x.2.1 hq6) (by decide) (by decide) rfl (Nat.le_of_ble_eq_true rfl) rfl dX10_liars_12 ?_
    show U shX w x r q5.2 15 [(3, .null), (0, .ref (w.2.2.1 0)), (1, .int a1), (2, .int a2)] [.int q5.1]
    exact u_iret g dX10_liars_15 (by rw [← hr]; obtain rfl := Option.some.inj h; rfl)
  | some c3 =>
    have h := ob_some h
    obtain ⟨k4, h⟩ := ob_if h
    refine u_nonnull g 16 dX10_liars_7 (by decide) ?_
    show U shX w x r M 16 [(3, .ref (w.2.2.1 c3)), (0, .ref (w.2.2.1 0)), (1, .int a1), (2, .int a2)] []
    refine u_aload_n g 0 dX10_liars_16 rfl ?_
    obtain ⟨q7, hq8, h⟩ := ob_bind h
    refine u_callV (st := []) g wv_X10_244 [] (kX_lt k4 rfl) (ceX_1 k4) rfl rfl (t_X1_fewestShared w x.2.1 hq8) (by decide) (by decide) rfl (Nat.le_of_ble_eq_true rfl) rfl dX10_liars_17 ?_
    show U shX w x r M 20 [(3, .ref (w.2.2.1 c3)), (0, .ref (w.2.2.1 0)), (1, .int a1), (2, .int a2)] [.int q7]
    refine u_istore g [(4, .int q7), (3, .ref (w.2.2.1 c3)), (0, .ref (w.2.2.1 0)), (1, .int a1), (2, .int a2)] dX10_liars_20 (by decide) rfl ?_
    refine u_iload g 0 dX10_liars_22 rfl ?_
    refine u_if_ne g 33 dX10_liars_24 (by decide) (fun b9 => ?_) (fun b9 => ?_)
    · have h := ob_neg b9 h
      refine u_aload_n g 2 dX10_liars_33 rfl ?_
      refine u_iload_n g 4 dX10_liars_34 rfl ?_
      obtain ⟨q10, hq11, h⟩ := ob_bind h
      have K12 : U shX w x r M 51 [] [.int q10, .ref (w.2.2.1 0)] := by
        obtain ⟨q13, hq14, h⟩ := ob_bind h
        refine u_callV (st := []) g wv_X10_103 [.int q10] (kX_lt (show kX 0 = 10 from rfl) rfl) (ceX_10 (show kX 0 = 10 from rfl)) rfl rfl (t_X10_accept w x.2.1 hq14) (by decide) (by decide) rfl (Nat.le_of_ble_eq_true rfl) rfl dX10_liars_51 ?_
        show U shX w x r q13.2 54 [] [.int q13.1]
        exact u_iret g dX10_liars_54 (by rw [← hr]; obtain rfl := Option.some.inj h; rfl)
      have h := hq11
      refine u_if_eq g 47 dX10_liars_35 (by decide) (fun b15 => ?_) (fun b15 => ?_)
      · have h := ob_pos b15 h
        refine u_iload g 0 dX10_liars_47 rfl ?_
        refine u_iconst g (v := (1 : Int32)) dX10_liars_49 rfl ?_
        refine u_isub g dX10_liars_50 ?_
        obtain rfl := Option.some.inj h
        exact u_sub [] rfl K12
      · have h := ob_neg b15 h
        refine u_iload g 0 dX10_liars_38 rfl ?_
        refine u_iconst g (v := (1 : Int32)) dX10_liars_40 rfl ?_
        refine u_isub g dX10_liars_41 ?_
        refine u_iconst g (v := (2 : Int32)) dX10_liars_42 rfl ?_
        refine u_idiv g dX10_liars_43 (by decide) ?_
        refine u_goto g 51 dX10_liars_44 (by decide) ?_
        obtain rfl := Option.some.inj h
        exact u_sub [] rfl K12
    · have h := ob_pos b9 h
      refine u_aload_n g 2 dX10_liars_27 rfl ?_
      refine u_iconst g (v := (-1 : Int32)) dX10_liars_28 rfl ?_
      obtain ⟨q16, hq17, h⟩ := ob_bind h
      refine u_callV (st := []) g wv_X10_103 [.int (-1 : Int32)] (kX_lt (show kX 0 = 10 from rfl) rfl) (ceX_10 (show kX 0 = 10 from rfl)) rfl rfl (t_X10_accept w x.2.1 hq17) (by decide) (by decide) rfl (Nat.le_of_ble_eq_true rfl) rfl dX10_liars_29 ?_
      show U shX w x r q16.2 32 [(4, .int q7), (3, .ref (w.2.2.1 c3)), (0, .ref (w.2.2.1 0)), (1, .int a1), (2, .int a2)] [.int q16.1]
      exact u_iret g dX10_liars_32 (by rw [← hr]; obtain rfl := Option.some.inj h; rfl)
set_option maxRecDepth 100000 in
set_option maxHeartbeats 4000000 in
theorem t_X10_chance (w : Wp) (l : Launch) {a1 : Int32} {M : Mem} {q : Int64 × Mem} (h : f_X10_chance a1 M = some q) : Ct shX w l yX10_chance cX10_chance 3 (some .long) 4 [.ref (w.2.2.1 0), .int a1] M (some (.long q.1), q.2) := by
  rw [f_X10_chance] at h
  refine ct_of shX_loc (by decide) (Nat.le_of_ble_eq_true rfl) rfl (fun x hx g => ?_)
  subst hx
  show U shX w x _ M 0 [(0, .ref (w.2.2.1 0)), (1, .int a1)] []
  generalize hr : ((some (.long q.1), q.2) : Option Value × Mem) = r
  have g : Gd shX w x RX10 cX10_chance 3 (some .long) 4 := g
  refine u_aload_n g 0 dX10_chance_0 rfl ?_
  refine u_iload_n g 1 dX10_chance_1 rfl ?_
  obtain ⟨q1, hq2, h⟩ := ob_bind h
  refine u_callV (st := []) g wv_X10_166 [.int a1] (kX_lt (show kX 0 = 10 from rfl) rfl) (ceX_10 (show kX 0 = 10 from rfl)) rfl rfl (t_X10_familyAt w x.2.1 hq2) (by decide) (by decide) rfl (Nat.le_of_ble_eq_true rfl) rfl dX10_chance_2 ?_
  show U shX w x r M 5 [(0, .ref (w.2.2.1 0)), (1, .int a1)] [rv w q1]
  refine u_astore_nO g [(2, rv w q1), (0, .ref (w.2.2.1 0)), (1, .int a1)] dX10_chance_5 (by decide) rfl ?_
  refine u_aload_nO g 0 dX10_chance_6 rfl ?_
  cases q1 with
  | none =>
    have h := ob_none h
    refine u_nonnullN g dX10_chance_7 ?_
    show U shX w x r M 10 [(2, .null), (0, .ref (w.2.2.1 0)), (1, .int a1)] []
    refine u_aload_n g 1 dX10_chance_10 rfl ?_
    refine u_iconst g (v := (1 : Int32)) dX10_chance_11 rfl ?_
    obtain ⟨q5, hq6, h⟩ := ob_bind h
    refine u_callV (st := []) g wv_X10_83 [.int (1 : Int32)] (kX_lt (show kX 0 = 10 from rfl) rfl) (ceX_10 (show kX 0 = 10 from rfl)) rfl rfl (t_X10_refuse w x.2.1 hq6) (by decide) (by decide) rfl (Nat.le_of_ble_eq_true rfl) rfl dX10_chance_12 ?_
    show U shX w x r q5.2 15 [(2, .null), (0, .ref (w.2.2.1 0)), (1, .int a1)] [.int q5.1]
    refine u_i2l g dX10_chance_15 ?_
    exact u_lret g dX10_chance_16 (by rw [← hr]; obtain rfl := Option.some.inj h; rfl)
  | some c3 =>
    have h := ob_some h
    obtain ⟨k4, h⟩ := ob_if h
    refine u_nonnull g 17 dX10_chance_7 (by decide) ?_
    show U shX w x r M 17 [(2, .ref (w.2.2.1 c3)), (0, .ref (w.2.2.1 0)), (1, .int a1)] []
    refine u_aload_n g 1 dX10_chance_17 rfl ?_
    refine gfX10_9 g (c := 0) rfl wf_X10_63 dX10_chance_18 ?_
    refine u_aload_n g 1 dX10_chance_21 rfl ?_
    refine gfX10_0 g (c := 0) rfl wf_X10_10 dX10_chance_22 ?_
    refine gfX5_0 g (c := 1) rfl wf_X10_87 (v := (M.1 1 0)) rfl dX10_chance_25 ?_
    obtain ⟨q7, hq8, h⟩ := ob_bind h
    refine u_callV (st := []) g wv_X10_122 [.int (M.1 1 0)] (kX_lt (show kX 254 = 3 from rfl) rfl) (ceX_3 (show kX 254 = 3 from rfl)) rfl rfl (t_X3_begin w x.2.1 hq8) (by decide) (by decide) rfl (Nat.le_of_ble_eq_true rfl) rfl dX10_chance_28 ?_
    show U shX w x r q7 31 [(2, .ref (w.2.2.1 c3)), (0, .ref (w.2.2.1 0)), (1, .int a1)] []
    refine u_aload_n g 1 dX10_chance_31 rfl ?_
    refine gfX10_9 g (c := 0) rfl wf_X10_63 dX10_chance_32 ?_
    refine u_aload_n g 0 dX10_chance_35 rfl ?_
    obtain ⟨q9, hq10, h⟩ := ob_bind h
    refine u_callV (st := []) g wv_X10_247 [.ref (w.2.2.1 c3)] (kX_lt (show kX 254 = 3 from rfl) rfl) (ceX_3 (show kX 254 = 3 from rfl)) rfl rfl (t_X3_gatherHolding w x.2.1 hq10) (by decide) (by decide) rfl (Nat.le_of_ble_eq_true rfl) rfl dX10_chance_36 ?_
    show U shX w x r q9 39 [(2, .ref (w.2.2.1 c3)), (0, .ref (w.2.2.1 0)), (1, .int a1)] []
    refine u_aload_n g 1 dX10_chance_39 rfl ?_
    refine u_iconst g (v := (0 : Int32)) dX10_chance_40 rfl ?_
    refine pfX10_11 g (c := 0) rfl wf_X10_74 dX10_chance_41 ?_
    refine u_aload_n g 1 dX10_chance_44 rfl ?_
    refine gfX10_9 g (c := 0) rfl wf_X10_63 dX10_chance_45 ?_
    refine gfX3_0 g (c := 254) rfl wf_X10_126 dX10_chance_48 ?_
    refine u_aload_n g 1 dX10_chance_51 rfl ?_
    refine gfX10_0 g (c := 0) rfl wf_X10_10 dX10_chance_52 ?_
    obtain ⟨q11, hq12, h⟩ := ob_bind h
    refine u_callV (st := []) g wv_X10_250 [.ref (w.2.2.1 1)] (kX_lt (show kX 255 = 7 from rfl) rfl) (ceX_7 (show kX 255 = 7 from rfl)) rfl rfl (t_X7_chanceOfSets w x.2.1 hq12) (by decide) (by decide) rfl (Nat.le_of_ble_eq_true rfl) rfl dX10_chance_55 ?_
    show U shX w x r q11.2 58 [(2, .ref (w.2.2.1 c3)), (0, .ref (w.2.2.1 0)), (1, .int a1)] [.long q11.1]
    exact u_lret g dX10_chance_58 (by rw [← hr]; obtain rfl := Option.some.inj h; rfl)
set_option maxRecDepth 100000 in
set_option maxHeartbeats 4000000 in
theorem t_X10_even (w : Wp) (l : Launch) {a1 : Int32} {M : Mem} {q : Int32 × Mem} (h : f_X10_even a1 M = some q) : Ct shX w l yX10_even cX10_even 3 (some .boolean) 2 [.ref (w.2.2.1 0), .int a1] M (some (.int q.1), q.2) := by
  rw [f_X10_even] at h
  refine ct_of shX_loc (by decide) (Nat.le_of_ble_eq_true rfl) rfl (fun x hx g => ?_)
  subst hx
  show U shX w x _ M 0 [(0, .ref (w.2.2.1 0)), (1, .int a1)] []
  generalize hr : ((some (.int q.1), q.2) : Option Value × Mem) = r
  have g : Gd shX w x RX10 cX10_even 3 (some .boolean) 2 := g
  refine u_aload_n g 0 dX10_even_0 rfl ?_
  refine u_iload_n g 1 dX10_even_1 rfl ?_
  obtain ⟨q1, hq2, h⟩ := ob_bind h
  refine u_callV (st := []) g wv_X10_166 [.int a1] (kX_lt (show kX 0 = 10 from rfl) rfl) (ceX_10 (show kX 0 = 10 from rfl)) rfl rfl (t_X10_familyAt w x.2.1 hq2) (by decide) (by decide) rfl (Nat.le_of_ble_eq_true rfl) rfl dX10_even_2 ?_
  show U shX w x r M 5 [(0, .ref (w.2.2.1 0)), (1, .int a1)] [rv w q1]
  refine u_astore_nO g [(2, rv w q1), (0, .ref (w.2.2.1 0)), (1, .int a1)] dX10_even_5 (by decide) rfl ?_
  refine u_aload_nO g 0 dX10_even_6 rfl ?_
  cases q1 with
  | none =>
    have h := ob_none h
    refine u_nonnullN g dX10_even_7 ?_
    show U shX w x r M 10 [(2, .null), (0, .ref (w.2.2.1 0)), (1, .int a1)] []
    refine u_aload_n g 1 dX10_even_10 rfl ?_
    refine u_iconst g (v := (1 : Int32)) dX10_even_11 rfl ?_
    obtain ⟨q5, hq6, h⟩ := ob_bind h
    refine u_callV (st := []) g wv_X10_109 [.int (1 : Int32)] (kX_lt (show kX 0 = 10 from rfl) rfl) (ceX_10 (show kX 0 = 10 from rfl)) rfl rfl (t_X10_refuseFalse w x.2.1 hq6) (by decide) (by decide) rfl (Nat.le_of_ble_eq_true rfl) rfl dX10_even_12 ?_
    show U shX w x r q5.2 15 [(2, .null), (0, .ref (w.2.2.1 0)), (1, .int a1)] [.int q5.1]
    obtain ⟨hz, h⟩ := ob_if h
    exact u_zret g hz dX10_even_15 (by rw [← hr]; obtain rfl := Option.some.inj h; rfl)
  | some c3 =>
    have h := ob_some h
    obtain ⟨k4, h⟩ := ob_if h
    refine u_nonnull g 16 dX10_even_7 (by decide) ?_
    show U shX w x r M 16 [(2, .ref (w.2.2.1 c3)), (0, .ref (w.2.2.1 0)), (1, .int a1)] []
    refine u_aload_n g 1 dX10_even_16 rfl ?_
    refine gfX10_7 g (c := 0) rfl wf_X10_49 dX10_even_17 ?_
    refine u_iconst g (v := (5 : Int32)) dX10_even_20 rfl ?_
    refine u_iconst g (v := (0 : Int32)) dX10_even_21 rfl ?_
    refine u_iconst g (v := (0 : Int32)) dX10_even_22 rfl ?_
    obtain ⟨⟨o9, M10⟩, hq8, h⟩ := ob_bind h
    refine u_callV (st := []) g wv_X10_99 [.int (5 : Int32), .int (0 : Int32), .int (0 : Int32)] (kX_lt (show kX 10 = 4 from rfl) rfl) (ceX_4 (show kX 10 = 4 from rfl)) rfl rfl (t_X4_open w x.2.1 hq8) (by decide) (by decide) rfl (Nat.le_of_ble_eq_true rfl) rfl dX10_even_23 ?_
    show U shX w x r M10 26 [(2, .ref (w.2.2.1 c3)), (0, .ref (w.2.2.1 0)), (1, .int a1)] [rv w o9]
    cases o9 with
    | none => cases h
    | some c11 =>
      have h := ob_some h
      obtain ⟨k12, h⟩ := ob_if h
      show U shX w x r M10 26 [(2, .ref (w.2.2.1 c3)), (0, .ref (w.2.2.1 0)), (1, .int a1)] [.ref (w.2.2.1 c11)]
      refine gfX0_3 g k12 wf_X10_257 dX10_even_26 ?_
      refine gfX9_2 g (kX_s0 k12) wf_X10_263 dX10_even_29 ?_
      refine u_aload_n g 1 dX10_even_32 rfl ?_
      refine gfX10_5 g (c := 0) rfl wf_X10_36 dX10_even_33 ?_
      obtain ⟨q13, hq14, h⟩ := ob_bind h
      refine u_callV (st := []) g wv_X10_264 [.ref (w.2.2.1 7)] (kX_lt (kX_s9 (kX_s0 k12)) rfl) (ceX_6 (kX_s9 (kX_s0 k12))) rfl rfl (t_X6_become w x.2.1 hq14) (by decide) (by decide) rfl (Nat.le_of_ble_eq_true rfl) rfl dX10_even_36 ?_
      show U shX w x r q13 39 [(2, .ref (w.2.2.1 c3)), (0, .ref (w.2.2.1 0)), (1, .int a1)] []
      refine u_aload_n g 1 dX10_even_39 rfl ?_
      refine gfX10_5 g (c := 0) rfl wf_X10_36 dX10_even_40 ?_
      refine u_iload_n g 2 dX10_even_43 rfl ?_
      refine u_aload_n g 0 dX10_even_44 rfl ?_
      refine gfX1_1 g k4 wf_X10_202 (v := (q13.1 c3 1)) rfl dX10_even_45 ?_
      obtain ⟨q15, hq16, h⟩ := ob_bind h
      refine u_callV (st := []) g wv_X10_268 [.int a1, .int (q13.1 c3 1)] (kX_lt (show kX 7 = 6 from rfl) rfl) (ceX_6 (show kX 7 = 6 from rfl)) rfl rfl (t_X6_beEven w x.2.1 hq16) (by decide) (by decide) rfl (Nat.le_of_ble_eq_true rfl) rfl dX10_even_48 ?_
      show U shX w x r q15 51 [(2, .ref (w.2.2.1 c3)), (0, .ref (w.2.2.1 0)), (1, .int a1)] []
      refine u_aload_n g 1 dX10_even_51 rfl ?_
      obtain ⟨q17, hq18, h⟩ := ob_bind h
      refine u_callV (st := []) g wv_X10_112 [] (kX_lt (show kX 0 = 10 from rfl) rfl) (ceX_10 (show kX 0 = 10 from rfl)) rfl rfl (t_X10_acceptTrue w x.2.1 hq18) (by decide) (by decide) rfl (Nat.le_of_ble_eq_true rfl) rfl dX10_even_52 ?_
      show U shX w x r q17.2 55 [(2, .ref (w.2.2.1 c3)), (0, .ref (w.2.2.1 0)), (1, .int a1)] [.int q17.1]
      obtain ⟨hz, h⟩ := ob_if h
      exact u_zret g hz dX10_even_55 (by rw [← hr]; obtain rfl := Option.some.inj h; rfl)
set_option maxRecDepth 100000 in
set_option maxHeartbeats 4000000 in
theorem t_X10_part (w : Wp) (l : Launch) {a1 : Int32} {a2 : Int32} {M : Mem} {q : Int32 × Mem} (h : f_X10_part a1 a2 M = some q) : Ct shX w l yX10_part cX10_part 3 (some .boolean) 1 [.ref (w.2.2.1 0), .int a1, .int a2] M (some (.int q.1), q.2) := by
  rw [f_X10_part] at h
  refine ct_of shX_loc (by decide) (Nat.le_of_ble_eq_true rfl) rfl (fun x hx g => ?_)
  subst hx
  show U shX w x _ M 0 [(0, .ref (w.2.2.1 0)), (1, .int a1), (2, .int a2)] []
  generalize hr : ((some (.int q.1), q.2) : Option Value × Mem) = r
  have g : Gd shX w x RX10 cX10_part 3 (some .boolean) 1 := g
  refine u_aload_n g 0 dX10_part_0 rfl ?_
  refine gfX10_5 g (c := 0) rfl wf_X10_36 dX10_part_1 ?_
  refine u_iload_n g 1 dX10_part_4 rfl ?_
  obtain ⟨q1, hq2, h⟩ := ob_bind h
  refine u_callV (st := []) g wv_X10_271 [.int a1] (kX_lt (show kX 7 = 6 from rfl) rfl) (ceX_6 (show kX 7 = 6 from rfl)) rfl rfl (t_X6_hasPart w x.2.1 hq2) (by decide) (by decide) rfl (Nat.le_of_ble_eq_true rfl) rfl dX10_part_5 ?_
  show U shX w x r M 8 [(0, .ref (w.2.2.1 0)), (1, .int a1), (2, .int a2)] [.int q1]
  refine u_if_ne g 17 dX10_part_8 (by decide) (fun b3 => ?_) (fun b3 => ?_)
  · have h := ob_neg b3 h
    refine u_iload_n g 2 dX10_part_17 rfl ?_
    refine u_if_lt g 50 dX10_part_18 (by decide) (fun b4 => ?_) (fun b4 => ?_)
    · have h := ob_pos b4 h
      refine u_aload_n g 0 dX10_part_50 rfl ?_
      refine u_iconst g (v := (2 : Int32)) dX10_part_51 rfl ?_
      obtain ⟨q5, hq6, h⟩ := ob_bind h
      refine u_callV (st := []) g wv_X10_109 [.int (2 : Int32)] (kX_lt (show kX 0 = 10 from rfl) rfl) (ceX_10 (show kX 0 = 10 from rfl)) rfl rfl (t_X10_refuseFalse w x.2.1 hq6) (by decide) (by decide) rfl (Nat.le_of_ble_eq_true rfl) rfl dX10_part_52 ?_
      show U shX w x r q5.2 55 [(0, .ref (w.2.2.1 0)), (1, .int a1), (2, .int a2)] [.int q5.1]
      obtain ⟨hz, h⟩ := ob_if h
      exact u_zret g hz dX10_part_55 (by rw [← hr]; obtain rfl := Option.some.inj h; rfl)
    · have h := ob_neg b4 h
      refine u_iload_n g 2 dX10_part_21 rfl ?_
      refine u_sipush g (v := (1000 : Int32)) dX10_part_22 rfl ?_
      refine u_icmp_gt g 50 dX10_part_25 (by decide) (fun b7 => ?_) (fun b7 => ?_)
      · have h := ob_pos b7 h
        refine u_aload_n g 0 dX10_part_50 rfl ?_
        refine u_iconst g (v := (2 : Int32)) dX10_part_51 rfl ?_
        obtain ⟨q8, hq9, h⟩ := ob_bind h
        refine u_callV (st := []) g wv_X10_109 [.int (2 : Int32)] (kX_lt (show kX 0 = 10 from rfl) rfl) (ceX_10 (show kX 0 = 10 from rfl)) rfl rfl (t_X10_refuseFalse w x.2.1 hq9) (by decide) (by decide) rfl (Nat.le_of_ble_eq_true rfl) rfl dX10_part_52 ?_
        show U shX w x r q8.2 55 [(0, .ref (w.2.2.1 0)), (1, .int a1), (2, .int a2)] [.int q8.1]
        obtain ⟨hz, h⟩ := ob_if h
        exact u_zret g hz dX10_part_55 (by rw [← hr]; obtain rfl := Option.some.inj h; rfl)
      · have h := ob_neg b7 h
        refine u_aload_n g 0 dX10_part_28 rfl ?_
        refine gfX10_5 g (c := 0) rfl wf_X10_36 dX10_part_29 ?_
        obtain ⟨q10, hq11, h⟩ := ob_bind h
        refine u_callV (st := []) g wv_X10_274 [] (kX_lt (show kX 7 = 6 from rfl) rfl) (ceX_6 (show kX 7 = 6 from rfl)) rfl rfl (t_X6_allParts w x.2.1 hq11) (by decide) (by decide) rfl (Nat.le_of_ble_eq_true rfl) rfl dX10_part_32 ?_
        show U shX w x r M 35 [(0, .ref (w.2.2.1 0)), (1, .int a1), (2, .int a2)] [.int q10]
        refine u_aload_n g 0 dX10_part_35 rfl ?_
        refine gfX10_5 g (c := 0) rfl wf_X10_36 dX10_part_36 ?_
        refine gfX6_2 g (c := 7) rfl wf_X10_277 dX10_part_39 ?_
        refine u_iload_n g 1 dX10_part_42 rfl ?_
        obtain ⟨e12, h⟩ := ob_if h
        refine aX_ild g (c := (7 + 1)) 120 (by decide) (kX_s6 rfl) (v := (M.1 (7 + 1) a1.toNatClampNeg)) (inB_in e12) rfl dX10_part_43 ?_
        refine u_isub g dX10_part_44 ?_
        refine u_iload_n g 2 dX10_part_45 rfl ?_
        refine u_iadd g dX10_part_46 ?_
        refine u_if_ne g 56 dX10_part_47 (by decide) (fun b13 => ?_) (fun b13 => ?_)
        · have h := ob_neg b13 h
          refine u_aload_n g 0 dX10_part_56 rfl ?_
          refine gfX10_7 g (c := 0) rfl wf_X10_49 dX10_part_57 ?_
          refine u_iconst g (v := (4 : Int32)) dX10_part_60 rfl ?_
          refine u_iload_n g 1 dX10_part_61 rfl ?_
          refine u_aload_n g 0 dX10_part_62 rfl ?_
          refine gfX10_5 g (c := 0) rfl wf_X10_36 dX10_part_63 ?_
          refine gfX6_2 g (c := 7) rfl wf_X10_277 dX10_part_66 ?_
          refine u_iload_n g 1 dX10_part_69 rfl ?_
          obtain ⟨e14, h⟩ := ob_if h
          refine aX_ild g (c := (7 + 1)) 120 (by decide) (kX_s6 rfl) (v := (M.1 (7 + 1) a1.toNatClampNeg)) (inB_in e14) rfl dX10_part_70 ?_
          obtain ⟨⟨o17, M18⟩, hq16, h⟩ := ob_bind h
          refine u_callV (st := []) g wv_X10_99 [.int (4 : Int32), .int a1, .int (M.1 (7 + 1) a1.toNatClampNeg)] (kX_lt (show kX 10 = 4 from rfl) rfl) (ceX_4 (show kX 10 = 4 from rfl)) rfl rfl (t_X4_open w x.2.1 hq16) (by decide) (by decide) rfl (Nat.le_of_ble_eq_true rfl) rfl dX10_part_71 ?_
          show U shX w x r M18 74 [(0, .ref (w.2.2.1 0)), (1, .int a1), (2, .int a2)] [rv w o17]
          refine u_pop g dX10_part_74 (rv_cat w _) ?_
          refine u_aload_n g 0 dX10_part_75 rfl ?_
          refine gfX10_5 g (c := 0) rfl wf_X10_36 dX10_part_76 ?_
          refine gfX6_2 g (c := 7) rfl wf_X10_277 dX10_part_79 ?_
          refine u_iload_n g 1 dX10_part_82 rfl ?_
          refine u_iload_n g 2 dX10_part_83 rfl ?_
          obtain ⟨e19, h⟩ := ob_if h
          refine aX_ist g (c := (7 + 1)) 120 (by decide) (kX_s6 rfl) (inB_in e19) (j := a1.toNatClampNeg) rfl dX10_part_84 ?_
          refine u_aload_n g 0 dX10_part_85 rfl ?_
          obtain ⟨q20, hq21, h⟩ := ob_bind h
          refine u_callV (st := []) g wv_X10_112 [] (kX_lt (show kX 0 = 10 from rfl) rfl) (ceX_10 (show kX 0 = 10 from rfl)) rfl rfl (t_X10_acceptTrue w x.2.1 hq21) (by decide) (by decide) rfl (Nat.le_of_ble_eq_true rfl) rfl dX10_part_86 ?_
          show U shX w x r q20.2 89 [(0, .ref (w.2.2.1 0)), (1, .int a1), (2, .int a2)] [.int q20.1]
          obtain ⟨hz, h⟩ := ob_if h
          exact u_zret g hz dX10_part_89 (by rw [← hr]; obtain rfl := Option.some.inj h; rfl)
        · have h := ob_pos b13 h
          refine u_aload_n g 0 dX10_part_50 rfl ?_
          refine u_iconst g (v := (2 : Int32)) dX10_part_51 rfl ?_
          obtain ⟨q22, hq23, h⟩ := ob_bind h
          refine u_callV (st := []) g wv_X10_109 [.int (2 : Int32)] (kX_lt (show kX 0 = 10 from rfl) rfl) (ceX_10 (show kX 0 = 10 from rfl)) rfl rfl (t_X10_refuseFalse w x.2.1 hq23) (by decide) (by decide) rfl (Nat.le_of_ble_eq_true rfl) rfl dX10_part_52 ?_
          show U shX w x r q22.2 55 [(0, .ref (w.2.2.1 0)), (1, .int a1), (2, .int a2)] [.int q22.1]
          obtain ⟨hz, h⟩ := ob_if h
          exact u_zret g hz dX10_part_55 (by rw [← hr]; obtain rfl := Option.some.inj h; rfl)
  · have h := ob_pos b3 h
    refine u_aload_n g 0 dX10_part_11 rfl ?_
    refine u_iconst g (v := (1 : Int32)) dX10_part_12 rfl ?_
    obtain ⟨q24, hq25, h⟩ := ob_bind h
    refine u_callV (st := []) g wv_X10_109 [.int (1 : Int32)] (kX_lt (show kX 0 = 10 from rfl) rfl) (ceX_10 (show kX 0 = 10 from rfl)) rfl rfl (t_X10_refuseFalse w x.2.1 hq25) (by decide) (by decide) rfl (Nat.le_of_ble_eq_true rfl) rfl dX10_part_13 ?_
    show U shX w x r q24.2 16 [(0, .ref (w.2.2.1 0)), (1, .int a1), (2, .int a2)] [.int q24.1]
    obtain ⟨hz, h⟩ := ob_if h
    exact u_zret g hz dX10_part_16 (by rw [← hr]; obtain rfl := Option.some.inj h; rfl)
set_option maxRecDepth 100000 in
set_option maxHeartbeats 4000000 in
theorem t_X10_partOf (w : Wp) (l : Launch) {a1 : Int32} {M : Mem} {q : Int32} (h : f_X10_partOf a1 M = some q) : Ct shX w l yX10_partOf cX10_partOf 2 (some .int) 1 [.ref (w.2.2.1 0), .int a1] M (some (.int q), M) := by
  rw [f_X10_partOf] at h
  refine ct_of shX_loc (by decide) (Nat.le_of_ble_eq_true rfl) rfl (fun x hx g => ?_)
  subst hx
  show U shX w x _ M 0 [(0, .ref (w.2.2.1 0)), (1, .int a1)] []
  generalize hr : ((some (.int q), M) : Option Value × Mem) = r
  have g : Gd shX w x RX10 cX10_partOf 2 (some .int) 1 := g
  refine u_aload_n g 0 dX10_partOf_0 rfl ?_
  refine gfX10_5 g (c := 0) rfl wf_X10_36 dX10_partOf_1 ?_
  refine u_iload_n g 1 dX10_partOf_4 rfl ?_
  obtain ⟨q1, hq2, h⟩ := ob_bind h
  refine u_callV (st := []) g wv_X10_271 [.int a1] (kX_lt (show kX 7 = 6 from rfl) rfl) (ceX_6 (show kX 7 = 6 from rfl)) rfl rfl (t_X6_hasPart w x.2.1 hq2) (by decide) (by decide) rfl (Nat.le_of_ble_eq_true rfl) rfl dX10_partOf_5 ?_
  show U shX w x r M 8 [(0, .ref (w.2.2.1 0)), (1, .int a1)] [.int q1]
  refine u_if_eq g 23 dX10_partOf_8 (by decide) (fun b3 => ?_) (fun b3 => ?_)
  · have h := ob_pos b3 h
    refine u_iconst g (v := (-1 : Int32)) dX10_partOf_23 rfl ?_
    exact u_iret g dX10_partOf_24 (by rw [← hr]; obtain rfl := Option.some.inj h; rfl)
  · have h := ob_neg b3 h
    refine u_aload_n g 0 dX10_partOf_11 rfl ?_
    refine gfX10_5 g (c := 0) rfl wf_X10_36 dX10_partOf_12 ?_
    refine gfX6_2 g (c := 7) rfl wf_X10_277 dX10_partOf_15 ?_
    refine u_iload_n g 1 dX10_partOf_18 rfl ?_
    obtain ⟨e4, h⟩ := ob_if h
    refine aX_ild g (c := (7 + 1)) 120 (by decide) (kX_s6 rfl) (v := (M.1 (7 + 1) a1.toNatClampNeg)) (inB_in e4) rfl dX10_partOf_19 ?_
    refine u_goto g 24 dX10_partOf_20 (by decide) ?_
    exact u_iret g dX10_partOf_24 (by rw [← hr]; obtain rfl := Option.some.inj h; rfl)
set_option maxRecDepth 100000 in
set_option maxHeartbeats 4000000 in
theorem s_X10_mostLoaded_l1 {w : Wp} {x : Cx} {r : Option Value × Mem} (g : Gd shX w x RX10 cX10_mostLoaded 6 (some .int) 1) (t1 : Nat) (h1 : kX t1 = 1) (M : Mem) : ∀ (n : Nat) (v2 : Int32) (v3 : Int32) (v4 : Int32) (q : Int32), f_X10_mostLoaded_l1 t1 M n v2 v3 v4 = some q → U shX w x r M 85 [(2, .int q)] [] → U shX w x r M 15 [(0, .ref (w.2.2.1 0)), (1, .ref (w.2.2.1 t1)), (2, .int v2), (3, .int v3), (4, .int v4)] [] := by
  intro n
  induction n with
  | zero => intro v2 v3 v4 q h K; rw [f_X10_mostLoaded_l1] at h; cases h
  | succ n ih =>
    intro v2 v3 v4 q h K
    rw [f_X10_mostLoaded_l1] at h
    refine u_iload g 4 dX10_mostLoaded_15 rfl ?_
    refine u_aload_n g 0 dX10_mostLoaded_17 rfl ?_
    refine gfX10_0 g (c := 0) rfl wf_X10_10 dX10_mostLoaded_18 ?_
    refine gfX5_0 g (c := 1) rfl wf_X10_87 (v := (M.1 1 0)) rfl dX10_mostLoaded_21 ?_
    refine u_icmp_ge g 85 dX10_mostLoaded_24 (by decide) (fun b3 => ?_) (fun b3 => ?_)
    · have h := ob_pos b3 h
      obtain rfl := Option.some.inj h
      exact u_sub [2] rfl K
    · have h := ob_neg b3 h
      refine u_iload g 4 dX10_mostLoaded_27 rfl ?_
      refine u_bipush g (v := (16 : Int32)) dX10_mostLoaded_29 rfl ?_
      refine u_icmp_ge g 85 dX10_mostLoaded_31 (by decide) (fun b4 => ?_) (fun b4 => ?_)
      · have h := ob_pos b4 h
        obtain rfl := Option.some.inj h
        exact u_sub [2] rfl K
      · have h := ob_neg b4 h
        refine u_aload_n g 0 dX10_mostLoaded_34 rfl ?_
        refine gfX10_5 g (c := 0) rfl wf_X10_36 dX10_mostLoaded_35 ?_
        refine u_aload_n g 1 dX10_mostLoaded_38 rfl ?_
        refine u_iload g 4 dX10_mostLoaded_39 rfl ?_
        obtain ⟨q5, hq6, h⟩ := ob_bind h
        refine u_callV (st := []) g wv_X10_302 [.ref (w.2.2.1 t1), .int v4] (kX_lt (show kX 7 = 6 from rfl) rfl) (ceX_6 (show kX 7 = 6 from rfl)) rfl rfl (t_X6_partsWith w x.2.1 hq6) (by decide) (by decide) rfl (Nat.le_of_ble_eq_true rfl) rfl dX10_mostLoaded_41 ?_
        show U shX w x r M 44 [(0, .ref (w.2.2.1 0)), (1, .ref (w.2.2.1 t1)), (2, .int v2), (3, .int v3), (4, .int v4)] [.int q5]
        refine u_istore g [(5, .int q5), (0, .ref (w.2.2.1 0)), (1, .ref (w.2.2.1 t1)), (2, .int v2), (3, .int v3), (4, .int v4)] dX10_mostLoaded_44 (by decide) rfl ?_
        refine u_iload g 0 dX10_mostLoaded_46 rfl ?_
        refine u_aload_n g 1 dX10_mostLoaded_48 rfl ?_
        refine gfX10_0 g (c := 0) rfl wf_X10_10 dX10_mostLoaded_49 ?_
        refine gfX5_1 g (c := 1) rfl wf_X10_90 dX10_mostLoaded_52 ?_
        refine u_iload_n g 3 dX10_mostLoaded_55 rfl ?_
        obtain ⟨e7, h⟩ := ob_if h
        refine aX_ild g (c := 2) 16 (by decide) rfl (v := (M.1 2 v2.toNatClampNeg)) (inB_in e7) rfl dX10_mostLoaded_56 ?_
        refine u_imul g dX10_mostLoaded_57 ?_
        refine u_iload_n g 4 dX10_mostLoaded_58 rfl ?_
        refine u_aload_n g 1 dX10_mostLoaded_59 rfl ?_
        refine gfX10_0 g (c := 0) rfl wf_X10_10 dX10_mostLoaded_60 ?_
        refine gfX5_1 g (c := 1) rfl wf_X10_90 dX10_mostLoaded_63 ?_
        refine u_iload g 5 dX10_mostLoaded_66 rfl ?_
        obtain ⟨e8, h⟩ := ob_if h
        refine aX_ild g (c := 2) 16 (by decide) rfl (v := (M.1 2 v4.toNatClampNeg)) (inB_in e8) rfl dX10_mostLoaded_68 ?_
        refine u_imul g dX10_mostLoaded_69 ?_
        obtain ⟨q9, hq10, h⟩ := ob_bind h
        have K11 : U shX w x r M 79 [(0, .ref (w.2.2.1 0)), (1, .ref (w.2.2.1 t1)), (2, .int q9.1), (3, .int q9.2), (4, .int v4)] [] := by
          refine u_iinc g 4 [(4, .int (v4 + (1 : Int32))), (0, .ref (w.2.2.1 0)), (1, .ref (w.2.2.1 t1)), (2, .int q9.1), (3, .int q9.2)] dX10_mostLoaded_79 rfl rfl (by decide) rfl ?_
          refine u_goto g 15 dX10_mostLoaded_82 (by decide) ?_
          exact u_sub [1, 2, 3, 4, 0] rfl (ih q9.1 q9.2 (v4 + (1 : Int32)) _ h K)
        have h := hq10
        refine u_icmp_le g 79 dX10_mostLoaded_70 (by decide) (fun b12 => ?_) (fun b12 => ?_)
        · have h := ob_pos b12 h
          obtain rfl := Option.some.inj h
          exact u_sub [1, 2, 3, 4, 5] rfl K11
        · have h := ob_neg b12 h
          refine u_iload g 5 dX10_mostLoaded_73 rfl ?_
          refine u_istore_n g [(2, .int v4), (5, .int q5), (0, .ref (w.2.2.1 0)), (1, .ref (w.2.2.1 t1)), (3, .int v3), (4, .int v4)] dX10_mostLoaded_75 (by decide) rfl ?_
          refine u_iload g 1 dX10_mostLoaded_76 rfl ?_
          refine u_istore_n g [(3, .int q5), (2, .int v4), (5, .int q5), (0, .ref (w.2.2.1 0)), (1, .ref (w.2.2.1 t1)), (4, .int v4)] dX10_mostLoaded_78 (by decide) rfl ?_
          obtain rfl := Option.some.inj h
          exact u_sub [3, 4, 1, 0, 5] rfl K11
set_option maxRecDepth 100000 in
set_option maxHeartbeats 4000000 in
theorem t_X10_mostLoaded (w : Wp) (l : Launch) {t1 : Nat} {M : Mem} {q : Int32} (h : f_X10_mostLoaded t1 M = some q) : Ct shX w l yX10_mostLoaded cX10_mostLoaded 6 (some .int) 1 [.ref (w.2.2.1 0), .ref (w.2.2.1 t1)] M (some (.int q), M) := by
  rw [f_X10_mostLoaded] at h
  obtain ⟨h1, h⟩ := ob_if h
  refine ct_of shX_loc (by decide) (Nat.le_of_ble_eq_true rfl) rfl (fun x hx g => ?_)
  subst hx
  show U shX w x _ M 0 [(0, .ref (w.2.2.1 0)), (1, .ref (w.2.2.1 t1))] []
  generalize hr : ((some (.int q), M) : Option Value × Mem) = r
  have g : Gd shX w x RX10 cX10_mostLoaded 6 (some .int) 1 := g
  refine u_iconst g (v := (0 : Int32)) dX10_mostLoaded_0 rfl ?_
  refine u_istore_n g [(2, .int (0 : Int32)), (0, .ref (w.2.2.1 0)), (1, .ref (w.2.2.1 t1))] dX10_mostLoaded_1 (by decide) rfl ?_
  refine u_aload_n g 1 dX10_mostLoaded_2 rfl ?_
  refine gfX10_5 g (c := 0) rfl wf_X10_36 dX10_mostLoaded_3 ?_
  refine u_aload_n g 2 dX10_mostLoaded_6 rfl ?_
  refine u_iconst g (v := (0 : Int32)) dX10_mostLoaded_7 rfl ?_
  obtain ⟨q1, hq2, h⟩ := ob_bind h
  refine u_callV (st := []) g wv_X10_302 [.ref (w.2.2.1 t1), .int (0 : Int32)] (kX_lt (show kX 7 = 6 from rfl) rfl) (ceX_6 (show kX 7 = 6 from rfl)) rfl rfl (t_X6_partsWith w x.2.1 hq2) (by decide) (by decide) rfl (Nat.le_of_ble_eq_true rfl) rfl dX10_mostLoaded_8 ?_
  show U shX w x r M 11 [(2, .int (0 : Int32)), (0, .ref (w.2.2.1 0)), (1, .ref (w.2.2.1 t1))] [.int q1]
  refine u_istore_n g [(3, .int q1), (2, .int (0 : Int32)), (0, .ref (w.2.2.1 0)), (1, .ref (w.2.2.1 t1))] dX10_mostLoaded_11 (by decide) rfl ?_
  refine u_iconst g (v := (1 : Int32)) dX10_mostLoaded_12 rfl ?_
  refine u_istore g [(4, .int (1 : Int32)), (3, .int q1), (2, .int (0 : Int32)), (0, .ref (w.2.2.1 0)), (1, .ref (w.2.2.1 t1))] dX10_mostLoaded_13 (by decide) rfl ?_
  obtain ⟨q3, hq4, h⟩ := ob_bind h
  refine u_sub [3, 4, 2, 1, 0] rfl (s_X10_mostLoaded_l1 g t1 h1 M fuelN (0 : Int32) q1 (1 : Int32) _ hq4 ?_)
  show U shX w x r M 85 [(2, .int q3)] []
  refine u_iload_n g 0 dX10_mostLoaded_85 rfl ?_
  exact u_iret g dX10_mostLoaded_86 (by rw [← hr]; obtain rfl := Option.some.inj h; rfl)
set_option maxRecDepth 100000 in
set_option maxHeartbeats 4000000 in
theorem t_X10_reckonLoad (w : Wp) (l : Launch) {t1 : Nat} {a2 : Int32} {M : Mem} {q : Mem} (h : f_X10_reckonLoad t1 a2 M = some q) : Ct shX w l yX10_reckonLoad cX10_reckonLoad 4 none 2 [.ref (w.2.2.1 0), .ref (w.2.2.1 t1), .int a2] M (none, q) := by
  rw [f_X10_reckonLoad] at h
  obtain ⟨h1, h⟩ := ob_if h
  refine ct_of shX_loc (by decide) (Nat.le_of_ble_eq_true rfl) rfl (fun x hx g => ?_)
  subst hx
  show U shX w x _ M 0 [(0, .ref (w.2.2.1 0)), (1, .ref (w.2.2.1 t1)), (2, .int a2)] []
  generalize hr : ((none, q) : Option Value × Mem) = r
  have g : Gd shX w x RX10 cX10_reckonLoad 4 none 2 := g
  refine u_aload_n g 0 dX10_reckonLoad_0 rfl ?_
  refine gfX10_0 g (c := 0) rfl wf_X10_10 dX10_reckonLoad_1 ?_
  refine u_iload_n g 2 dX10_reckonLoad_4 rfl ?_
  obtain ⟨q1, hq2, h⟩ := ob_bind h
  refine u_callV (st := []) g wv_X10_106 [.int a2] (kX_lt (show kX 1 = 5 from rfl) rfl) (ceX_5 (show kX 1 = 5 from rfl)) rfl rfl (t_X5_isThere w x.2.1 hq2) (by decide) (by decide) rfl (Nat.le_of_ble_eq_true rfl) rfl dX10_reckonLoad_5 ?_
  show U shX w x r M 8 [(0, .ref (w.2.2.1 0)), (1, .ref (w.2.2.1 t1)), (2, .int a2)] [.int q1]
  obtain ⟨q3, hq4, h⟩ := ob_bind h
  have K5 : U shX w x r M 24 [(0, .ref (w.2.2.1 0)), (1, .ref (w.2.2.1 t1)), (2, .int a2)] [.int q3] := by
    refine u_istore_n g [(3, .int q3), (0, .ref (w.2.2.1 0)), (1, .ref (w.2.2.1 t1)), (2, .int a2)] dX10_reckonLoad_24 (by decide) rfl ?_
    refine u_aload_n g 1 dX10_reckonLoad_25 rfl ?_
    refine gfX10_10 g (c := 0) rfl wf_X10_70 dX10_reckonLoad_26 ?_
    refine u_aload_n g 1 dX10_reckonLoad_29 rfl ?_
    refine gfX10_5 g (c := 0) rfl wf_X10_36 dX10_reckonLoad_30 ?_
    refine u_aload_n g 2 dX10_reckonLoad_33 rfl ?_
    refine u_iload_n g 3 dX10_reckonLoad_34 rfl ?_
    obtain ⟨q6, hq7, h⟩ := ob_bind h
    refine u_callV (st := [.ref (w.2.2.1 263)]) g wv_X10_302 [.ref (w.2.2.1 t1), .int a2] (kX_lt (show kX 7 = 6 from rfl) rfl) (ceX_6 (show kX 7 = 6 from rfl)) rfl rfl (t_X6_partsWith w x.2.1 hq7) (by decide) (by decide) rfl (Nat.le_of_ble_eq_true rfl) rfl dX10_reckonLoad_35 ?_
    show U shX w x r M 38 [(3, .int q3), (0, .ref (w.2.2.1 0)), (1, .ref (w.2.2.1 t1)), (2, .int a2)] [.int q6, .ref (w.2.2.1 263)]
    refine u_aload_n g 1 dX10_reckonLoad_38 rfl ?_
    refine gfX10_5 g (c := 0) rfl wf_X10_36 dX10_reckonLoad_39 ?_
    obtain ⟨q8, hq9, h⟩ := ob_bind h
    refine u_callV (st := [.int q6, .ref (w.2.2.1 263)]) g wv_X10_274 [] (kX_lt (show kX 7 = 6 from rfl) rfl) (ceX_6 (show kX 7 = 6 from rfl)) rfl rfl (t_X6_allParts w x.2.1 hq9) (by decide) (by decide) rfl (Nat.le_of_ble_eq_true rfl) rfl dX10_reckonLoad_42 ?_
    show U shX w x r M 45 [(3, .int q3), (0, .ref (w.2.2.1 0)), (1, .ref (w.2.2.1 t1)), (2, .int a2)] [.int q8, .int q6, .ref (w.2.2.1 263)]
    refine u_iload_n g 0 dX10_reckonLoad_45 rfl ?_
    refine u_imul g dX10_reckonLoad_46 ?_
    obtain ⟨q10, hq11, h⟩ := ob_bind h
    refine u_callV (st := []) g wv_X10_306 [.int q6, .int (q8 * q3)] (kX_lt (show kX 263 = 2 from rfl) rfl) (ceX_2 (show kX 263 = 2 from rfl)) rfl rfl (t_X2_become w x.2.1 hq11) (by decide) (by decide) rfl (Nat.le_of_ble_eq_true rfl) rfl dX10_reckonLoad_47 ?_
    show U shX w x r q10 50 [(3, .int q3), (0, .ref (w.2.2.1 0)), (1, .ref (w.2.2.1 t1)), (2, .int a2)] []
    exact u_vret g dX10_reckonLoad_50 (by rw [← hr]; obtain rfl := Option.some.inj h; rfl)
  have h := hq4
  refine u_if_eq g 23 dX10_reckonLoad_8 (by decide) (fun b12 => ?_) (fun b12 => ?_)
  · have h := ob_pos b12 h
    refine u_iconst g (v := (0 : Int32)) dX10_reckonLoad_23 rfl ?_
    obtain rfl := Option.some.inj h
    exact u_sub [0, 1, 2] rfl K5
  · have h := ob_neg b12 h
    refine u_aload_n g 0 dX10_reckonLoad_11 rfl ?_
    refine gfX10_0 g (c := 0) rfl wf_X10_10 dX10_reckonLoad_12 ?_
    refine gfX5_1 g (c := 1) rfl wf_X10_90 dX10_reckonLoad_15 ?_
    refine u_iload_n g 2 dX10_reckonLoad_18 rfl ?_
    obtain ⟨e13, h⟩ := ob_if h
    refine aX_ild g (c := 2) 16 (by decide) rfl (v := (M.1 2 a2.toNatClampNeg)) (inB_in e13) rfl dX10_reckonLoad_19 ?_
    refine u_goto g 24 dX10_reckonLoad_20 (by decide) ?_
    obtain rfl := Option.some.inj h
    exact u_sub [0, 1, 2] rfl K5
set_option maxRecDepth 100000 in
set_option maxHeartbeats 4000000 in
theorem t_X10_load (w : Wp) (l : Launch) {a1 : Int32} {M : Mem} {q : Int32 × Mem} (h : f_X10_load a1 M = some q) : Ct shX w l yX10_load cX10_load 3 (some .int) 3 [.ref (w.2.2.1 0), .int a1] M (some (.int q.1), q.2) := by
  rw [f_X10_load] at h
  refine ct_of shX_loc (by decide) (Nat.le_of_ble_eq_true rfl) rfl (fun x hx g => ?_)
  subst hx
  show U shX w x _ M 0 [(0, .ref (w.2.2.1 0)), (1, .int a1)] []
  generalize hr : ((some (.int q.1), q.2) : Option Value × Mem) = r
  have g : Gd shX w x RX10 cX10_load 3 (some .int) 3 := g
  refine u_aload_n g 0 dX10_load_0 rfl ?_
  refine u_aload_n g 0 dX10_load_1 rfl ?_
  refine gfX10_5 g (c := 0) rfl wf_X10_36 dX10_load_2 ?_
  refine gfX6_0 g (c := 7) rfl wf_X10_280 (v := (M.1 7 0)) rfl dX10_load_5 ?_
  obtain ⟨q1, hq2, h⟩ := ob_bind h
  refine u_callV (st := []) g wv_X10_166 [.int (M.1 7 0)] (kX_lt (show kX 0 = 10 from rfl) rfl) (ceX_10 (show kX 0 = 10 from rfl)) rfl rfl (t_X10_familyAt w x.2.1 hq2) (by decide) (by decide) rfl (Nat.le_of_ble_eq_true rfl) rfl dX10_load_8 ?_
  show U shX w x r M 11 [(0, .ref (w.2.2.1 0)), (1, .int a1)] [rv w q1]
  refine u_astore_nO g [(2, rv w q1), (0, .ref (w.2.2.1 0)), (1, .int a1)] dX10_load_11 (by decide) rfl ?_
  refine u_aload_nO g 0 dX10_load_12 rfl ?_
  cases q1 with
  | none =>
    have h := ob_none h
    refine u_nonnullN g dX10_load_13 ?_
    show U shX w x r M 16 [(2, .null), (0, .ref (w.2.2.1 0)), (1, .int a1)] []
    refine u_iconst g (v := (-1 : Int32)) dX10_load_16 rfl ?_
    exact u_iret g dX10_load_17 (by rw [← hr]; obtain rfl := Option.some.inj h; rfl)
  | some c3 =>
    have h := ob_some h
    obtain ⟨k4, h⟩ := ob_if h
    refine u_nonnull g 18 dX10_load_13 (by decide) ?_
    show U shX w x r M 18 [(2, .ref (w.2.2.1 c3)), (0, .ref (w.2.2.1 0)), (1, .int a1)] []
    refine u_iload_n g 2 dX10_load_18 rfl ?_
    by_cases b5 : a1 = (0 : Int32)
    · have h := ob_pos b5 h
      refine u_tableIn g 48 dX10_load_19 (0 : Int32) b5 rfl rfl (by decide) ?_
      refine u_aload_n g 1 dX10_load_48 rfl ?_
      refine gfX10_5 g (c := 0) rfl wf_X10_36 dX10_load_49 ?_
      refine gfX6_0 g (c := 7) rfl wf_X10_280 (v := (M.1 7 0)) rfl dX10_load_52 ?_
      exact u_iret g dX10_load_55 (by rw [← hr]; obtain rfl := Option.some.inj h; rfl)
    have h := ob_neg b5 h
    by_cases b6 : a1 = (1 : Int32)
    · have h := ob_pos b6 h
      refine u_tableIn g 56 dX10_load_19 (1 : Int32) b6 rfl rfl (by decide) ?_
      refine u_aload_n g 1 dX10_load_56 rfl ?_
      refine u_aload_n g 0 dX10_load_57 rfl ?_
      refine u_aload_n g 1 dX10_load_58 rfl ?_
      refine u_aload_n g 0 dX10_load_59 rfl ?_
      obtain ⟨q7, hq8, h⟩ := ob_bind h
      refine u_callV (st := [.ref (w.2.2.1 c3), .ref (w.2.2.1 0)]) g wv_X10_283 [.ref (w.2.2.1 c3)] (kX_lt (show kX 0 = 10 from rfl) rfl) (ceX_10 (show kX 0 = 10 from rfl)) rfl rfl (t_X10_mostLoaded w x.2.1 hq8) (by decide) (by decide) rfl (Nat.le_of_ble_eq_true rfl) rfl dX10_load_60 ?_
      show U shX w x r M 63 [(2, .ref (w.2.2.1 c3)), (0, .ref (w.2.2.1 0)), (1, .int a1)] [.int q7, .ref (w.2.2.1 c3), .ref (w.2.2.1 0)]
      obtain ⟨q9, hq10, h⟩ := ob_bind h
      refine u_callV (st := []) g wv_X10_286 [.ref (w.2.2.1 c3), .int q7] (kX_lt (show kX 0 = 10 from rfl) rfl) (ceX_10 (show kX 0 = 10 from rfl)) rfl rfl (t_X10_reckonLoad w x.2.1 hq10) (by decide) (by decide) rfl (Nat.le_of_ble_eq_true rfl) rfl dX10_load_63 ?_
      show U shX w x r q9 66 [(2, .ref (w.2.2.1 c3)), (0, .ref (w.2.2.1 0)), (1, .int a1)] []
      refine u_aload_n g 1 dX10_load_66 rfl ?_
      refine gfX10_10 g (c := 0) rfl wf_X10_70 dX10_load_67 ?_
      refine gfX2_0 g (c := 263) rfl wf_X10_289 (v := (q9.1 263 0)) rfl dX10_load_70 ?_
      exact u_iret g dX10_load_73 (by rw [← hr]; obtain rfl := Option.some.inj h; rfl)
    have h := ob_neg b6 h
    by_cases b11 : a1 = (2 : Int32)
    · have h := ob_pos b11 h
      refine u_tableIn g 74 dX10_load_19 (2 : Int32) b11 rfl rfl (by decide) ?_
      refine u_aload_n g 1 dX10_load_74 rfl ?_
      refine u_aload_n g 0 dX10_load_75 rfl ?_
      refine u_aload_n g 1 dX10_load_76 rfl ?_
      refine u_aload_n g 0 dX10_load_77 rfl ?_
      obtain ⟨q12, hq13, h⟩ := ob_bind h
      refine u_callV (st := [.ref (w.2.2.1 c3), .ref (w.2.2.1 0)]) g wv_X10_283 [.ref (w.2.2.1 c3)] (kX_lt (show kX 0 = 10 from rfl) rfl) (ceX_10 (show kX 0 = 10 from rfl)) rfl rfl (t_X10_mostLoaded w x.2.1 hq13) (by decide) (by decide) rfl (Nat.le_of_ble_eq_true rfl) rfl dX10_load_78 ?_
      show U shX w x r M 81 [(2, .ref (w.2.2.1 c3)), (0, .ref (w.2.2.1 0)), (1, .int a1)] [.int q12, .ref (w.2.2.1 c3), .ref (w.2.2.1 0)]
      obtain ⟨q14, hq15, h⟩ := ob_bind h
      refine u_callV (st := []) g wv_X10_286 [.ref (w.2.2.1 c3), .int q12] (kX_lt (show kX 0 = 10 from rfl) rfl) (ceX_10 (show kX 0 = 10 from rfl)) rfl rfl (t_X10_reckonLoad w x.2.1 hq15) (by decide) (by decide) rfl (Nat.le_of_ble_eq_true rfl) rfl dX10_load_81 ?_
      show U shX w x r q14 84 [(2, .ref (w.2.2.1 c3)), (0, .ref (w.2.2.1 0)), (1, .int a1)] []
      refine u_aload_n g 1 dX10_load_84 rfl ?_
      refine gfX10_10 g (c := 0) rfl wf_X10_70 dX10_load_85 ?_
      refine gfX2_1 g (c := 263) rfl wf_X10_292 (v := (q14.1 263 1)) rfl dX10_load_88 ?_
      exact u_iret g dX10_load_91 (by rw [← hr]; obtain rfl := Option.some.inj h; rfl)
    have h := ob_neg b11 h
    by_cases b16 : a1 = (3 : Int32)
    · have h := ob_pos b16 h
      refine u_tableIn g 92 dX10_load_19 (3 : Int32) b16 rfl rfl (by decide) ?_
      refine u_aload_n g 1 dX10_load_92 rfl ?_
      refine u_aload_n g 0 dX10_load_93 rfl ?_
      obtain ⟨q17, hq18, h⟩ := ob_bind h
      refine u_callV (st := []) g wv_X10_283 [.ref (w.2.2.1 c3)] (kX_lt (show kX 0 = 10 from rfl) rfl) (ceX_10 (show kX 0 = 10 from rfl)) rfl rfl (t_X10_mostLoaded w x.2.1 hq18) (by decide) (by decide) rfl (Nat.le_of_ble_eq_true rfl) rfl dX10_load_94 ?_
      show U shX w x r M 97 [(2, .ref (w.2.2.1 c3)), (0, .ref (w.2.2.1 0)), (1, .int a1)] [.int q17]
      exact u_iret g dX10_load_97 (by rw [← hr]; obtain rfl := Option.some.inj h; rfl)
    have h := ob_neg b16 h
    refine u_tableOut g 98 dX10_load_19 (sw_out 3 (by decide) _ rfl (fun j hj => match j, hj with | 0, _ => b5 | 1, _ => b6 | 2, _ => b11 | 3, _ => b16 | k + 4, hk => absurd hk (by omega))) (by decide) ?_
    refine u_iconst g (v := (-1 : Int32)) dX10_load_98 rfl ?_
    exact u_iret g dX10_load_99 (by rw [← hr]; obtain rfl := Option.some.inj h; rfl)
set_option maxRecDepth 100000 in
set_option maxHeartbeats 4000000 in
theorem t_X10_loadOf (w : Wp) (l : Launch) {a1 : Int32} {a2 : Int32} {M : Mem} {q : Int32 × Mem} (h : f_X10_loadOf a1 a2 M = some q) : Ct shX w l yX10_loadOf cX10_loadOf 4 (some .int) 3 [.ref (w.2.2.1 0), .int a1, .int a2] M (some (.int q.1), q.2) := by
  rw [f_X10_loadOf] at h
  refine ct_of shX_loc (by decide) (Nat.le_of_ble_eq_true rfl) rfl (fun x hx g => ?_)
  subst hx
  show U shX w x _ M 0 [(0, .ref (w.2.2.1 0)), (1, .int a1), (2, .int a2)] []
  generalize hr : ((some (.int q.1), q.2) : Option Value × Mem) = r
  have g : Gd shX w x RX10 cX10_loadOf 4 (some .int) 3 := g
  refine u_aload_n g 0 dX10_loadOf_0 rfl ?_
  refine u_aload_n g 0 dX10_loadOf_1 rfl ?_
  refine gfX10_5 g (c := 0) rfl wf_X10_36 dX10_loadOf_2 ?_
  refine gfX6_0 g (c := 7) rfl wf_X10_280 (v := (M.1 7 0)) rfl dX10_loadOf_5 ?_
  obtain ⟨q1, hq2, h⟩ := ob_bind h
  refine u_callV (st := []) g wv_X10_166 [.int (M.1 7 0)] (kX_lt (show kX 0 = 10 from rfl) rfl) (ceX_10 (show kX 0 = 10 from rfl)) rfl rfl (t_X10_familyAt w x.2.1 hq2) (by decide) (by decide) rfl (Nat.le_of_ble_eq_true rfl) rfl dX10_loadOf_8 ?_
  show U shX w x r M 11 [(0, .ref (w.2.2.1 0)), (1, .int a1), (2, .int a2)] [rv w q1]
  refine u_astore_nO g [(3, rv w q1), (0, .ref (w.2.2.1 0)), (1, .int a1), (2, .int a2)] dX10_loadOf_11 (by decide) rfl ?_
  refine u_aload_nO g 0 dX10_loadOf_12 rfl ?_
  cases q1 with
  | none =>
    have h := ob_none h
    refine u_isnullN g 27 dX10_loadOf_13 (by decide) ?_
    show U shX w x r M 27 [(3, .null), (0, .ref (w.2.2.1 0)), (1, .int a1), (2, .int a2)] []
    refine u_iconst g (v := (-1 : Int32)) dX10_loadOf_27 rfl ?_
    exact u_iret g dX10_loadOf_28 (by rw [← hr]; obtain rfl := Option.some.inj h; rfl)
  | some c3 =>
    have h := ob_some h
    obtain ⟨k4, h⟩ := ob_if h
    refine u_isnull g dX10_loadOf_13 ?_
    show U shX w x r M 16 [(3, .ref (w.2.2.1 c3)), (0, .ref (w.2.2.1 0)), (1, .int a1), (2, .int a2)] []
    refine u_aload_n g 1 dX10_loadOf_16 rfl ?_
    refine gfX10_0 g (c := 0) rfl wf_X10_10 dX10_loadOf_17 ?_
    refine u_iload_n g 2 dX10_loadOf_20 rfl ?_
    obtain ⟨q5, hq6, h⟩ := ob_bind h
    refine u_callV (st := []) g wv_X10_106 [.int a1] (kX_lt (show kX 1 = 5 from rfl) rfl) (ceX_5 (show kX 1 = 5 from rfl)) rfl rfl (t_X5_isThere w x.2.1 hq6) (by decide) (by decide) rfl (Nat.le_of_ble_eq_true rfl) rfl dX10_loadOf_21 ?_
    show U shX w x r M 24 [(3, .ref (w.2.2.1 c3)), (0, .ref (w.2.2.1 0)), (1, .int a1), (2, .int a2)] [.int q5]
    refine u_if_ne g 29 dX10_loadOf_24 (by decide) (fun b7 => ?_) (fun b7 => ?_)
    · have h := ob_neg b7 h
      refine u_aload_n g 1 dX10_loadOf_29 rfl ?_
      refine u_aload_n g 0 dX10_loadOf_30 rfl ?_
      refine u_iload_n g 2 dX10_loadOf_31 rfl ?_
      obtain ⟨q8, hq9, h⟩ := ob_bind h
      refine u_callV (st := []) g wv_X10_286 [.ref (w.2.2.1 c3), .int a1] (kX_lt (show kX 0 = 10 from rfl) rfl) (ceX_10 (show kX 0 = 10 from rfl)) rfl rfl (t_X10_reckonLoad w x.2.1 hq9) (by decide) (by decide) rfl (Nat.le_of_ble_eq_true rfl) rfl dX10_loadOf_32 ?_
      show U shX w x r q8 35 [(3, .ref (w.2.2.1 c3)), (0, .ref (w.2.2.1 0)), (1, .int a1), (2, .int a2)] []
      refine u_aload_n g 1 dX10_loadOf_35 rfl ?_
      refine gfX10_10 g (c := 0) rfl wf_X10_70 dX10_loadOf_36 ?_
      refine u_iload_n g 3 dX10_loadOf_39 rfl ?_
      obtain ⟨q10, hq11, h⟩ := ob_bind h
      refine u_callV (st := []) g wv_X10_295 [.int a2] (kX_lt (show kX 263 = 2 from rfl) rfl) (ceX_2 (show kX 263 = 2 from rfl)) rfl rfl (t_X2_side w x.2.1 hq11) (by decide) (by decide) rfl (Nat.le_of_ble_eq_true rfl) rfl dX10_loadOf_40 ?_
      show U shX w x r q8 43 [(3, .ref (w.2.2.1 c3)), (0, .ref (w.2.2.1 0)), (1, .int a1), (2, .int a2)] [.int q10]
      exact u_iret g dX10_loadOf_43 (by rw [← hr]; obtain rfl := Option.some.inj h; rfl)
    · have h := ob_pos b7 h
      refine u_iconst g (v := (-1 : Int32)) dX10_loadOf_27 rfl ?_
      exact u_iret g dX10_loadOf_28 (by rw [← hr]; obtain rfl := Option.some.inj h; rfl)
set_option maxRecDepth 100000 in
set_option maxHeartbeats 4000000 in
theorem t_X10_weight (w : Wp) (l : Launch) {a1 : Int32} {a2 : Int32} {M : Mem} {q : Int32 × Mem} (h : f_X10_weight a1 a2 M = some q) : Ct shX w l yX10_weight cX10_weight 3 (some .boolean) 1 [.ref (w.2.2.1 0), .int a1, .int a2] M (some (.int q.1), q.2) := by
  rw [f_X10_weight] at h
  refine ct_of shX_loc (by decide) (Nat.le_of_ble_eq_true rfl) rfl (fun x hx g => ?_)
  subst hx
  show U shX w x _ M 0 [(0, .ref (w.2.2.1 0)), (1, .int a1), (2, .int a2)] []
  generalize hr : ((some (.int q.1), q.2) : Option Value × Mem) = r
  have g : Gd shX w x RX10 cX10_weight 3 (some .boolean) 1 := g
  refine u_aload_n g 0 dX10_weight_0 rfl ?_
  refine gfX10_0 g (c := 0) rfl wf_X10_10 dX10_weight_1 ?_
  refine u_iload_n g 1 dX10_weight_4 rfl ?_
  obtain ⟨q1, hq2, h⟩ := ob_bind h
  refine u_callV (st := []) g wv_X10_106 [.int a1] (kX_lt (show kX 1 = 5 from rfl) rfl) (ceX_5 (show kX 1 = 5 from rfl)) rfl rfl (t_X5_isThere w x.2.1 hq2) (by decide) (by decide) rfl (Nat.le_of_ble_eq_true rfl) rfl dX10_weight_5 ?_
  show U shX w x r M 8 [(0, .ref (w.2.2.1 0)), (1, .int a1), (2, .int a2)] [.int q1]
  refine u_if_ne g 17 dX10_weight_8 (by decide) (fun b3 => ?_) (fun b3 => ?_)
  · have h := ob_neg b3 h
    refine u_iload_n g 2 dX10_weight_17 rfl ?_
    refine u_if_lt g 28 dX10_weight_18 (by decide) (fun b4 => ?_) (fun b4 => ?_)
    · have h := ob_pos b4 h
      refine u_aload_n g 0 dX10_weight_28 rfl ?_
      refine u_iconst g (v := (2 : Int32)) dX10_weight_29 rfl ?_
      obtain ⟨q5, hq6, h⟩ := ob_bind h
      refine u_callV (st := []) g wv_X10_109 [.int (2 : Int32)] (kX_lt (show kX 0 = 10 from rfl) rfl) (ceX_10 (show kX 0 = 10 from rfl)) rfl rfl (t_X10_refuseFalse w x.2.1 hq6) (by decide) (by decide) rfl (Nat.le_of_ble_eq_true rfl) rfl dX10_weight_30 ?_
      show U shX w x r q5.2 33 [(0, .ref (w.2.2.1 0)), (1, .int a1), (2, .int a2)] [.int q5.1]
      obtain ⟨hz, h⟩ := ob_if h
      exact u_zret g hz dX10_weight_33 (by rw [← hr]; obtain rfl := Option.some.inj h; rfl)
    · have h := ob_neg b4 h
      refine u_iload_n g 2 dX10_weight_21 rfl ?_
      refine u_sipush g (v := (1000 : Int32)) dX10_weight_22 rfl ?_
      refine u_icmp_le g 34 dX10_weight_25 (by decide) (fun b7 => ?_) (fun b7 => ?_)
      · have h := ob_pos b7 h
        refine u_aload_n g 0 dX10_weight_34 rfl ?_
        refine gfX10_7 g (c := 0) rfl wf_X10_49 dX10_weight_35 ?_
        refine u_iconst g (v := (3 : Int32)) dX10_weight_38 rfl ?_
        refine u_iload_n g 1 dX10_weight_39 rfl ?_
        refine u_aload_n g 0 dX10_weight_40 rfl ?_
        refine gfX10_0 g (c := 0) rfl wf_X10_10 dX10_weight_41 ?_
        refine gfX5_3 g (c := 1) rfl wf_X10_96 dX10_weight_44 ?_
        refine u_iload_n g 1 dX10_weight_47 rfl ?_
        obtain ⟨e8, h⟩ := ob_if h
        refine aX_ild g (c := 4) 16 (by decide) rfl (v := (M.1 4 a1.toNatClampNeg)) (inB_in e8) rfl dX10_weight_48 ?_
        obtain ⟨⟨o11, M12⟩, hq10, h⟩ := ob_bind h
        refine u_callV (st := []) g wv_X10_99 [.int (3 : Int32), .int a1, .int (M.1 4 a1.toNatClampNeg)] (kX_lt (show kX 10 = 4 from rfl) rfl) (ceX_4 (show kX 10 = 4 from rfl)) rfl rfl (t_X4_open w x.2.1 hq10) (by decide) (by decide) rfl (Nat.le_of_ble_eq_true rfl) rfl dX10_weight_49 ?_
        show U shX w x r M12 52 [(0, .ref (w.2.2.1 0)), (1, .int a1), (2, .int a2)] [rv w o11]
        refine u_pop g dX10_weight_52 (rv_cat w _) ?_
        refine u_aload_n g 0 dX10_weight_53 rfl ?_
        refine gfX10_0 g (c := 0) rfl wf_X10_10 dX10_weight_54 ?_
        refine gfX5_3 g (c := 1) rfl wf_X10_96 dX10_weight_57 ?_
        refine u_iload_n g 1 dX10_weight_60 rfl ?_
        refine u_iload_n g 2 dX10_weight_61 rfl ?_
        obtain ⟨e13, h⟩ := ob_if h
        refine aX_ist g (c := 4) 16 (by decide) rfl (inB_in e13) (j := a1.toNatClampNeg) rfl dX10_weight_62 ?_
        refine u_aload_n g 0 dX10_weight_63 rfl ?_
        obtain ⟨q14, hq15, h⟩ := ob_bind h
        refine u_callV (st := []) g wv_X10_112 [] (kX_lt (show kX 0 = 10 from rfl) rfl) (ceX_10 (show kX 0 = 10 from rfl)) rfl rfl (t_X10_acceptTrue w x.2.1 hq15) (by decide) (by decide) rfl (Nat.le_of_ble_eq_true rfl) rfl dX10_weight_64 ?_
        show U shX w x r q14.2 67 [(0, .ref (w.2.2.1 0)), (1, .int a1), (2, .int a2)] [.int q14.1]
        obtain ⟨hz, h⟩ := ob_if h
        exact u_zret g hz dX10_weight_67 (by rw [← hr]; obtain rfl := Option.some.inj h; rfl)
      · have h := ob_neg b7 h
        refine u_aload_n g 0 dX10_weight_28 rfl ?_
        refine u_iconst g (v := (2 : Int32)) dX10_weight_29 rfl ?_
        obtain ⟨q16, hq17, h⟩ := ob_bind h
        refine u_callV (st := []) g wv_X10_109 [.int (2 : Int32)] (kX_lt (show kX 0 = 10 from rfl) rfl) (ceX_10 (show kX 0 = 10 from rfl)) rfl rfl (t_X10_refuseFalse w x.2.1 hq17) (by decide) (by decide) rfl (Nat.le_of_ble_eq_true rfl) rfl dX10_weight_30 ?_
        show U shX w x r q16.2 33 [(0, .ref (w.2.2.1 0)), (1, .int a1), (2, .int a2)] [.int q16.1]
        obtain ⟨hz, h⟩ := ob_if h
        exact u_zret g hz dX10_weight_33 (by rw [← hr]; obtain rfl := Option.some.inj h; rfl)
  · have h := ob_pos b3 h
    refine u_aload_n g 0 dX10_weight_11 rfl ?_
    refine u_iconst g (v := (1 : Int32)) dX10_weight_12 rfl ?_
    obtain ⟨q18, hq19, h⟩ := ob_bind h
    refine u_callV (st := []) g wv_X10_109 [.int (1 : Int32)] (kX_lt (show kX 0 = 10 from rfl) rfl) (ceX_10 (show kX 0 = 10 from rfl)) rfl rfl (t_X10_refuseFalse w x.2.1 hq19) (by decide) (by decide) rfl (Nat.le_of_ble_eq_true rfl) rfl dX10_weight_13 ?_
    show U shX w x r q18.2 16 [(0, .ref (w.2.2.1 0)), (1, .int a1), (2, .int a2)] [.int q18.1]
    obtain ⟨hz, h⟩ := ob_if h
    exact u_zret g hz dX10_weight_16 (by rw [← hr]; obtain rfl := Option.some.inj h; rfl)
set_option maxRecDepth 100000 in
set_option maxHeartbeats 4000000 in
theorem s_X10_reckonBound_l1 {w : Wp} {x : Cx} {r : Option Value × Mem} (g : Gd shX w x RX10 cX10_reckonBound 4 none 2) (t1 : Nat) (h1 : kX t1 = 1) (M : Mem) : ∀ (n : Nat) (v2 : Int32) (v3 : Int32) (q : Int32), f_X10_reckonBound_l1 t1 M n v2 v3 = some q → U shX w x r M 48 [(0, .ref (w.2.2.1 0)), (2, .int q)] [] → U shX w x r M 16 [(0, .ref (w.2.2.1 0)), (1, .ref (w.2.2.1 t1)), (2, .int v2), (3, .int v3)] [] := by
  intro n
  induction n with
  | zero => intro v2 v3 q h K; rw [f_X10_reckonBound_l1] at h; cases h
  | succ n ih =>
    intro v2 v3 q h K
    rw [f_X10_reckonBound_l1] at h
    refine u_iload_n g 3 dX10_reckonBound_16 rfl ?_
    refine u_aload_n g 1 dX10_reckonBound_17 rfl ?_
    refine gfX1_1 g h1 wf_X10_202 (v := (M.1 t1 1)) rfl dX10_reckonBound_18 ?_
    refine u_icmp_ge g 48 dX10_reckonBound_21 (by decide) (fun b3 => ?_) (fun b3 => ?_)
    · have h := ob_pos b3 h
      obtain rfl := Option.some.inj h
      exact u_sub [0, 2] rfl K
    · have h := ob_neg b3 h
      refine u_iload_n g 2 dX10_reckonBound_24 rfl ?_
      refine u_aload_n g 0 dX10_reckonBound_25 rfl ?_
      refine gfX10_0 g (c := 0) rfl wf_X10_10 dX10_reckonBound_26 ?_
      refine u_aload_n g 1 dX10_reckonBound_29 rfl ?_
      refine gfX1_2 g h1 wf_X10_213 dX10_reckonBound_30 ?_
      refine u_iload_n g 3 dX10_reckonBound_33 rfl ?_
      obtain ⟨e4, h⟩ := ob_if h
      refine aX_ild g (c := (t1 + 1)) 120 (by decide) (kX_s1 h1) (v := (M.1 (t1 + 1) v3.toNatClampNeg)) (inB_in e4) rfl dX10_reckonBound_34 ?_
      obtain ⟨q5, hq6, h⟩ := ob_bind h
      refine u_callV (st := [.int v2]) g wv_X10_308 [.int (M.1 (t1 + 1) v3.toNatClampNeg)] (kX_lt (show kX 1 = 5 from rfl) rfl) (ceX_5 (show kX 1 = 5 from rfl)) rfl rfl (t_X5_weightOf w x.2.1 hq6) (by decide) (by decide) rfl (Nat.le_of_ble_eq_true rfl) rfl dX10_reckonBound_35 ?_
      show U shX w x r M 38 [(0, .ref (w.2.2.1 0)), (1, .ref (w.2.2.1 t1)), (2, .int v2), (3, .int v3)] [.int q5, .int v2]
      refine u_mmin (st := []) g wv_X10_311 (by decide) (Nat.le_of_ble_eq_true rfl) dX10_reckonBound_38 ?_
      refine u_istore_n g [(2, .int (imin v2 q5)), (0, .ref (w.2.2.1 0)), (1, .ref (w.2.2.1 t1)), (3, .int v3)] dX10_reckonBound_41 (by decide) rfl ?_
      refine u_iinc g 3 [(3, .int (v3 + (1 : Int32))), (2, .int (imin v2 q5)), (0, .ref (w.2.2.1 0)), (1, .ref (w.2.2.1 t1))] dX10_reckonBound_42 rfl rfl (by decide) rfl ?_
      refine u_goto g 16 dX10_reckonBound_45 (by decide) ?_
      exact u_sub [2, 3, 1, 0] rfl (ih (imin v2 q5) (v3 + (1 : Int32)) _ h K)
set_option maxRecDepth 100000 in
set_option maxHeartbeats 4000000 in
theorem t_X10_reckonBound (w : Wp) (l : Launch) {t1 : Nat} {M : Mem} {q : Mem} (h : f_X10_reckonBound t1 M = some q) : Ct shX w l yX10_reckonBound cX10_reckonBound 4 none 2 [.ref (w.2.2.1 0), .ref (w.2.2.1 t1)] M (none, q) := by
  rw [f_X10_reckonBound] at h
  obtain ⟨h1, h⟩ := ob_if h
  refine ct_of shX_loc (by decide) (Nat.le_of_ble_eq_true rfl) rfl (fun x hx g => ?_)
  subst hx
  show U shX w x _ M 0 [(0, .ref (w.2.2.1 0)), (1, .ref (w.2.2.1 t1))] []
  generalize hr : ((none, q) : Option Value × Mem) = r
  have g : Gd shX w x RX10 cX10_reckonBound 4 none 2 := g
  refine u_aload_n g 0 dX10_reckonBound_0 rfl ?_
  refine gfX10_0 g (c := 0) rfl wf_X10_10 dX10_reckonBound_1 ?_
  refine u_aload_n g 1 dX10_reckonBound_4 rfl ?_
  refine gfX1_2 g h1 wf_X10_213 dX10_reckonBound_5 ?_
  refine u_iconst g (v := (0 : Int32)) dX10_reckonBound_8 rfl ?_
  refine aX_ild g (c := (t1 + 1)) 120 (by decide) (kX_s1 h1) (v := (M.1 (t1 + 1) 0)) (inB_in rfl) rfl dX10_reckonBound_9 ?_
  obtain ⟨q1, hq2, h⟩ := ob_bind h
  refine u_callV (st := []) g wv_X10_308 [.int (M.1 (t1 + 1) 0)] (kX_lt (show kX 1 = 5 from rfl) rfl) (ceX_5 (show kX 1 = 5 from rfl)) rfl rfl (t_X5_weightOf w x.2.1 hq2) (by decide) (by decide) rfl (Nat.le_of_ble_eq_true rfl) rfl dX10_reckonBound_10 ?_
  show U shX w x r M 13 [(0, .ref (w.2.2.1 0)), (1, .ref (w.2.2.1 t1))] [.int q1]
  refine u_istore_n g [(2, .int q1), (0, .ref (w.2.2.1 0)), (1, .ref (w.2.2.1 t1))] dX10_reckonBound_13 (by decide) rfl ?_
  refine u_iconst g (v := (1 : Int32)) dX10_reckonBound_14 rfl ?_
  refine u_istore_n g [(3, .int (1 : Int32)), (2, .int q1), (0, .ref (w.2.2.1 0)), (1, .ref (w.2.2.1 t1))] dX10_reckonBound_15 (by decide) rfl ?_
  obtain ⟨q3, hq4, h⟩ := ob_bind h
  refine u_sub [2, 3, 1, 0] rfl (s_X10_reckonBound_l1 g t1 h1 M fuelN q1 (1 : Int32) _ hq4 ?_)
  show U shX w x r M 48 [(0, .ref (w.2.2.1 0)), (2, .int q3)] []
  refine u_aload_n g 0 dX10_reckonBound_48 rfl ?_
  refine gfX10_10 g (c := 0) rfl wf_X10_70 dX10_reckonBound_49 ?_
  refine u_iload_n g 1 dX10_reckonBound_52 rfl ?_
  refine u_aload_n g 0 dX10_reckonBound_53 rfl ?_
  refine gfX10_0 g (c := 0) rfl wf_X10_10 dX10_reckonBound_54 ?_
  obtain ⟨q5, hq6, h⟩ := ob_bind h
  refine u_callV (st := [.int q3, .ref (w.2.2.1 263)]) g wv_X10_316 [] (kX_lt (show kX 1 = 5 from rfl) rfl) (ceX_5 (show kX 1 = 5 from rfl)) rfl rfl (t_X5_weightTimesStrength w x.2.1 hq6) (by decide) (by decide) rfl (Nat.le_of_ble_eq_true rfl) rfl dX10_reckonBound_57 ?_
  show U shX w x r M 60 [(0, .ref (w.2.2.1 0)), (2, .int q3)] [.int q5, .int q3, .ref (w.2.2.1 263)]
  obtain ⟨q7, hq8, h⟩ := ob_bind h
  refine u_callV (st := []) g wv_X10_306 [.int q3, .int q5] (kX_lt (show kX 263 = 2 from rfl) rfl) (ceX_2 (show kX 263 = 2 from rfl)) rfl rfl (t_X2_become w x.2.1 hq8) (by decide) (by decide) rfl (Nat.le_of_ble_eq_true rfl) rfl dX10_reckonBound_60 ?_
  show U shX w x r q7 63 [(0, .ref (w.2.2.1 0)), (2, .int q3)] []
  exact u_vret g dX10_reckonBound_63 (by rw [← hr]; obtain rfl := Option.some.inj h; rfl)
set_option maxRecDepth 100000 in
set_option maxHeartbeats 4000000 in
theorem t_X10_bound (w : Wp) (l : Launch) {a1 : Int32} {a2 : Int32} {M : Mem} {q : Int32 × Mem} (h : f_X10_bound a1 a2 M = some q) : Ct shX w l yX10_bound cX10_bound 4 (some .int) 3 [.ref (w.2.2.1 0), .int a1, .int a2] M (some (.int q.1), q.2) := by
  rw [f_X10_bound] at h
  refine ct_of shX_loc (by decide) (Nat.le_of_ble_eq_true rfl) rfl (fun x hx g => ?_)
  subst hx
  show U shX w x _ M 0 [(0, .ref (w.2.2.1 0)), (1, .int a1), (2, .int a2)] []
  generalize hr : ((some (.int q.1), q.2) : Option Value × Mem) = r
  have g : Gd shX w x RX10 cX10_bound 4 (some .int) 3 := g
  refine u_aload_n g 0 dX10_bound_0 rfl ?_
  refine u_iload_n g 1 dX10_bound_1 rfl ?_
  obtain ⟨q1, hq2, h⟩ := ob_bind h
  refine u_callV (st := []) g wv_X10_166 [.int a1] (kX_lt (show kX 0 = 10 from rfl) rfl) (ceX_10 (show kX 0 = 10 from rfl)) rfl rfl (t_X10_familyAt w x.2.1 hq2) (by decide) (by decide) rfl (Nat.le_of_ble_eq_true rfl) rfl dX10_bound_2 ?_
  show U shX w x r M 5 [(0, .ref (w.2.2.1 0)), (1, .int a1), (2, .int a2)] [rv w q1]
  refine u_astore_nO g [(3, rv w q1), (0, .ref (w.2.2.1 0)), (1, .int a1), (2, .int a2)] dX10_bound_5 (by decide) rfl ?_
  refine u_aload_nO g 0 dX10_bound_6 rfl ?_
  cases q1 with
  | none =>
    have h := ob_none h
    refine u_nonnullN g dX10_bound_7 ?_
    show U shX w x r M 10 [(3, .null), (0, .ref (w.2.2.1 0)), (1, .int a1), (2, .int a2)] []
    refine u_aload_n g 1 dX10_bound_10 rfl ?_
    refine u_iconst g (v := (1 : Int32)) dX10_bound_11 rfl ?_
    obtain ⟨q5, hq6, h⟩ := ob_bind h
    refine u_callV (st := []) g wv_X10_83 [.int (1 : Int32)] (kX_lt (show kX 0 = 10 from rfl) rfl) (ceX_10 (show kX 0 = 10 from rfl)) rfl rfl (t_X10_refuse w x.2.1 hq6) (by decide) (by decide) rfl (Nat.le_of_ble_eq_true rfl) rfl dX10_bound_12 ?_
    show U shX w x r q5.2 15 [(3, .null), (0, .ref (w.2.2.1 0)), (1, .int a1), (2, .int a2)] [.int q5.1]
    exact u_iret g dX10_bound_15 (by rw [← hr]; obtain rfl := Option.some.inj h; rfl)
  | some c3 =>
    have h := ob_some h
    obtain ⟨k4, h⟩ := ob_if h
    refine u_nonnull g 16 dX10_bound_7 (by decide) ?_
    show U shX w x r M 16 [(3, .ref (w.2.2.1 c3)), (0, .ref (w.2.2.1 0)), (1, .int a1), (2, .int a2)] []
    refine u_aload_n g 1 dX10_bound_16 rfl ?_
    refine u_aload_n g 0 dX10_bound_17 rfl ?_
    obtain ⟨q7, hq8, h⟩ := ob_bind h
    refine u_callV (st := []) g wv_X10_299 [.ref (w.2.2.1 c3)] (kX_lt (show kX 0 = 10 from rfl) rfl) (ceX_10 (show kX 0 = 10 from rfl)) rfl rfl (t_X10_reckonBound w x.2.1 hq8) (by decide) (by decide) rfl (Nat.le_of_ble_eq_true rfl) rfl dX10_bound_18 ?_
    show U shX w x r q7 21 [(3, .ref (w.2.2.1 c3)), (0, .ref (w.2.2.1 0)), (1, .int a1), (2, .int a2)] []
    refine u_aload_n g 1 dX10_bound_21 rfl ?_
    refine u_aload_n g 1 dX10_bound_22 rfl ?_
    refine gfX10_10 g (c := 0) rfl wf_X10_70 dX10_bound_23 ?_
    refine u_iload_n g 3 dX10_bound_26 rfl ?_
    obtain ⟨q9, hq10, h⟩ := ob_bind h
    refine u_callV (st := [.ref (w.2.2.1 0)]) g wv_X10_295 [.int a2] (kX_lt (show kX 263 = 2 from rfl) rfl) (ceX_2 (show kX 263 = 2 from rfl)) rfl rfl (t_X2_side w x.2.1 hq10) (by decide) (by decide) rfl (Nat.le_of_ble_eq_true rfl) rfl dX10_bound_27 ?_
    show U shX w x r q7 30 [(3, .ref (w.2.2.1 c3)), (0, .ref (w.2.2.1 0)), (1, .int a1), (2, .int a2)] [.int q9, .ref (w.2.2.1 0)]
    obtain ⟨q11, hq12, h⟩ := ob_bind h
    refine u_callV (st := []) g wv_X10_103 [.int q9] (kX_lt (show kX 0 = 10 from rfl) rfl) (ceX_10 (show kX 0 = 10 from rfl)) rfl rfl (t_X10_accept w x.2.1 hq12) (by decide) (by decide) rfl (Nat.le_of_ble_eq_true rfl) rfl dX10_bound_30 ?_
    show U shX w x r q11.2 33 [(3, .ref (w.2.2.1 c3)), (0, .ref (w.2.2.1 0)), (1, .int a1), (2, .int a2)] [.int q11.1]
    exact u_iret g dX10_bound_33 (by rw [← hr]; obtain rfl := Option.some.inj h; rfl)
set_option maxRecDepth 100000 in
set_option maxHeartbeats 4000000 in
theorem t_X10_proved (w : Wp) (l : Launch)  {M : Mem} {q : Int32 × Mem} (h : f_X10_proved M = some q) : Ct shX w l yX10_proved cX10_proved 5 (some .int) 3 [.ref (w.2.2.1 0)] M (some (.int q.1), q.2) := by
  rw [f_X10_proved] at h
  refine ct_of shX_loc (by decide) (Nat.le_of_ble_eq_true rfl) rfl (fun x hx g => ?_)
  subst hx
  show U shX w x _ M 0 [(0, .ref (w.2.2.1 0))] []
  generalize hr : ((some (.int q.1), q.2) : Option Value × Mem) = r
  have g : Gd shX w x RX10 cX10_proved 5 (some .int) 3 := g
  refine u_aload_n g 0 dX10_proved_0 rfl ?_
  refine u_aload_n g 0 dX10_proved_1 rfl ?_
  refine gfX10_5 g (c := 0) rfl wf_X10_36 dX10_proved_2 ?_
  refine gfX6_0 g (c := 7) rfl wf_X10_280 (v := (M.1 7 0)) rfl dX10_proved_5 ?_
  obtain ⟨q1, hq2, h⟩ := ob_bind h
  refine u_callV (st := []) g wv_X10_166 [.int (M.1 7 0)] (kX_lt (show kX 0 = 10 from rfl) rfl) (ceX_10 (show kX 0 = 10 from rfl)) rfl rfl (t_X10_familyAt w x.2.1 hq2) (by decide) (by decide) rfl (Nat.le_of_ble_eq_true rfl) rfl dX10_proved_8 ?_
  show U shX w x r M 11 [(0, .ref (w.2.2.1 0))] [rv w q1]
  refine u_astore_nO g [(1, rv w q1), (0, .ref (w.2.2.1 0))] dX10_proved_11 (by decide) rfl ?_
  refine u_aload_nO g 0 dX10_proved_12 rfl ?_
  cases q1 with
  | none =>
    have h := ob_none h
    refine u_nonnullN g dX10_proved_13 ?_
    show U shX w x r M 16 [(1, .null), (0, .ref (w.2.2.1 0))] []
    refine u_aload_n g 1 dX10_proved_16 rfl ?_
    refine u_iconst g (v := (1 : Int32)) dX10_proved_17 rfl ?_
    obtain ⟨q5, hq6, h⟩ := ob_bind h
    refine u_callV (st := []) g wv_X10_83 [.int (1 : Int32)] (kX_lt (show kX 0 = 10 from rfl) rfl) (ceX_10 (show kX 0 = 10 from rfl)) rfl rfl (t_X10_refuse w x.2.1 hq6) (by decide) (by decide) rfl (Nat.le_of_ble_eq_true rfl) rfl dX10_proved_18 ?_
    show U shX w x r q5.2 21 [(1, .null), (0, .ref (w.2.2.1 0))] [.int q5.1]
    exact u_iret g dX10_proved_21 (by rw [← hr]; obtain rfl := Option.some.inj h; rfl)
  | some c3 =>
    have h := ob_some h
    obtain ⟨k4, h⟩ := ob_if h
    refine u_nonnull g 22 dX10_proved_13 (by decide) ?_
    show U shX w x r M 22 [(1, .ref (w.2.2.1 c3)), (0, .ref (w.2.2.1 0))] []
    refine u_aload_n g 1 dX10_proved_22 rfl ?_
    refine u_aload_n g 0 dX10_proved_23 rfl ?_
    obtain ⟨q7, hq8, h⟩ := ob_bind h
    refine u_callV (st := []) g wv_X10_299 [.ref (w.2.2.1 c3)] (kX_lt (show kX 0 = 10 from rfl) rfl) (ceX_10 (show kX 0 = 10 from rfl)) rfl rfl (t_X10_reckonBound w x.2.1 hq8) (by decide) (by decide) rfl (Nat.le_of_ble_eq_true rfl) rfl dX10_proved_24 ?_
    show U shX w x r q7 27 [(1, .ref (w.2.2.1 c3)), (0, .ref (w.2.2.1 0))] []
    refine u_aload_n g 1 dX10_proved_27 rfl ?_
    refine gfX10_10 g (c := 0) rfl wf_X10_70 dX10_proved_28 ?_
    refine gfX2_0 g (c := 263) rfl wf_X10_289 (v := (q7.1 263 0)) rfl dX10_proved_31 ?_
    refine u_istore_n g [(2, .int (q7.1 263 0)), (1, .ref (w.2.2.1 c3)), (0, .ref (w.2.2.1 0))] dX10_proved_34 (by decide) rfl ?_
    refine u_aload_n g 2 dX10_proved_35 rfl ?_
    refine gfX10_10 g (c := 0) rfl wf_X10_70 dX10_proved_36 ?_
    refine gfX2_1 g (c := 263) rfl wf_X10_292 (v := (q7.1 263 1)) rfl dX10_proved_39 ?_
    refine u_istore_n g [(3, .int (q7.1 263 1)), (2, .int (q7.1 263 0)), (1, .ref (w.2.2.1 c3)), (0, .ref (w.2.2.1 0))] dX10_proved_42 (by decide) rfl ?_
    refine u_aload_n g 3 dX10_proved_43 rfl ?_
    refine u_aload_n g 2 dX10_proved_44 rfl ?_
    refine u_aload_n g 3 dX10_proved_45 rfl ?_
    refine u_aload_n g 2 dX10_proved_46 rfl ?_
    obtain ⟨q9, hq10, h⟩ := ob_bind h
    refine u_callV (st := [.ref (w.2.2.1 c3), .ref (w.2.2.1 0)]) g wv_X10_283 [.ref (w.2.2.1 c3)] (kX_lt (show kX 0 = 10 from rfl) rfl) (ceX_10 (show kX 0 = 10 from rfl)) rfl rfl (t_X10_mostLoaded w x.2.1 hq10) (by decide) (by decide) rfl (Nat.le_of_ble_eq_true rfl) rfl dX10_proved_47 ?_
    show U shX w x r q7 50 [(3, .int (q7.1 263 1)), (2, .int (q7.1 263 0)), (1, .ref (w.2.2.1 c3)), (0, .ref (w.2.2.1 0))] [.int q9, .ref (w.2.2.1 c3), .ref (w.2.2.1 0)]
    obtain ⟨q11, hq12, h⟩ := ob_bind h
    refine u_callV (st := []) g wv_X10_286 [.ref (w.2.2.1 c3), .int q9] (kX_lt (show kX 0 = 10 from rfl) rfl) (ceX_10 (show kX 0 = 10 from rfl)) rfl rfl (t_X10_reckonLoad w x.2.1 hq12) (by decide) (by decide) rfl (Nat.le_of_ble_eq_true rfl) rfl dX10_proved_50 ?_
    show U shX w x r q11 53 [(3, .int (q7.1 263 1)), (2, .int (q7.1 263 0)), (1, .ref (w.2.2.1 c3)), (0, .ref (w.2.2.1 0))] []
    refine u_aload_n g 3 dX10_proved_53 rfl ?_
    refine gfX10_10 g (c := 0) rfl wf_X10_70 dX10_proved_54 ?_
    refine gfX2_0 g (c := 263) rfl wf_X10_289 (v := (q11.1 263 0)) rfl dX10_proved_57 ?_
    refine u_iload_n g 1 dX10_proved_60 rfl ?_
    obtain ⟨q13, hq14, h⟩ := ob_bind h
    have K15 : U shX w x r q11 80 [(0, .ref (w.2.2.1 0))] [.int q13] := by
      refine u_istore g [(4, .int q13), (0, .ref (w.2.2.1 0))] dX10_proved_80 (by decide) rfl ?_
      refine u_aload_n g 1 dX10_proved_82 rfl ?_
      refine u_iload g 0 dX10_proved_83 rfl ?_
      obtain ⟨q16, hq17, h⟩ := ob_bind h
      have K18 : U shX w x r q11 93 [] [.int q16, .ref (w.2.2.1 0)] := by
        obtain ⟨q19, hq20, h⟩ := ob_bind h
        refine u_callV (st := []) g wv_X10_103 [.int q16] (kX_lt (show kX 0 = 10 from rfl) rfl) (ceX_10 (show kX 0 = 10 from rfl)) rfl rfl (t_X10_accept w x.2.1 hq20) (by decide) (by decide) rfl (Nat.le_of_ble_eq_true rfl) rfl dX10_proved_93 ?_
        show U shX w x r q19.2 96 [] [.int q19.1]
        exact u_iret g dX10_proved_96 (by rw [← hr]; obtain rfl := Option.some.inj h; rfl)
      have h := hq17
      refine u_if_eq g 92 dX10_proved_85 (by decide) (fun b21 => ?_) (fun b21 => ?_)
      · have h := ob_pos b21 h
        refine u_iconst g (v := (1 : Int32)) dX10_proved_92 rfl ?_
        obtain rfl := Option.some.inj h
        exact u_sub [] rfl K18
      · have h := ob_neg b21 h
        refine u_iconst g (v := (0 : Int32)) dX10_proved_88 rfl ?_
        refine u_goto g 93 dX10_proved_89 (by decide) ?_
        obtain rfl := Option.some.inj h
        exact u_sub [] rfl K18
    have h := hq14
    refine u_icmp_ne g 79 dX10_proved_61 (by decide) (fun b22 => ?_) (fun b22 => ?_)
    · have h := ob_neg b22 h
      refine u_iconst g (v := (0 : Int32)) dX10_proved_79 rfl ?_
      obtain rfl := Option.some.inj h
      exact u_sub [3] rfl K15
    · have h := ob_pos b22 h
      refine u_aload_n g 3 dX10_proved_64 rfl ?_
      refine gfX10_10 g (c := 0) rfl wf_X10_70 dX10_proved_65 ?_
      refine gfX2_1 g (c := 263) rfl wf_X10_292 (v := (q11.1 263 1)) rfl dX10_proved_68 ?_
      refine u_iload_n g 0 dX10_proved_71 rfl ?_
      refine u_icmp_ne g 79 dX10_proved_72 (by decide) (fun b23 => ?_) (fun b23 => ?_)
      · have h := ob_neg b23 h
        refine u_iconst g (v := (0 : Int32)) dX10_proved_79 rfl ?_
        obtain rfl := Option.some.inj h
        exact u_sub [3] rfl K15
      · have h := ob_pos b23 h
        refine u_iconst g (v := (1 : Int32)) dX10_proved_75 rfl ?_
        refine u_goto g 80 dX10_proved_76 (by decide) ?_
        obtain rfl := Option.some.inj h
        exact u_sub [3] rfl K15
