set_option maxRecDepth 100000 in
set_option maxHeartbeats 4000000 in
theorem s_X11_told_l1 {w : Wp} {x : Cx} {r : Option Value × Mem} (g : Gd shY w x RX11 cX11_told 2 (some .int) 3)   : ∀ (n : Nat) (v1 : Int32) (M : Mem) (q : Mem), f_X11_told_l1 n v1 M = some q → U shY w x r q 50 [(0, .ref (w.2.2.1 0))] [] → U shY w x r M 24 [(0, .ref (w.2.2.1 0)), (1, .int v1)] [] := by
  intro n
  induction n with
  | zero => intro v1 M q h K; rw [f_X11_told_l1] at h; cases h
  | succ n ih =>
    intro v1 M q h K
    rw [f_X11_told_l1] at h
    refine u_iload_n g 1 dX11_told_24 rfl ?_
    refine u_aload_n g 0 dX11_told_25 rfl ?_
    refine gfX11_7 g wf_X11_112 (v := (M.1 0 7)) rfl dX11_told_26 ?_
    refine u_icmp_ge g 50 dX11_told_29 (by decide) (fun b4 => ?_) (fun b4 => ?_)
    · have h := ob_pos b4 h
      obtain rfl := Option.some.inj h
      exact u_sub [0] rfl K
    · have h := ob_neg b4 h
      refine u_aload_n g 0 dX11_told_32 rfl ?_
      refine gfX11_21 g wf_X11_50 dX11_told_33 ?_
      refine u_aload_n g 0 dX11_told_36 rfl ?_
      refine gfX11_6 g wf_X11_19 dX11_told_37 ?_
      refine u_iload_n g 1 dX11_told_40 rfl ?_
      obtain ⟨e5, h⟩ := ob_if h
      refine aY_ild g (c := 4) 120 (by decide) rfl (v := (M.1 4 v1.toNatClampNeg)) (inB_in e5) rfl dX11_told_41 ?_
      refine u_iconst g (v := (1 : Int32)) dX11_told_42 rfl ?_
      obtain ⟨e6, h⟩ := ob_if h
      refine aY_zst g (c := 14) 65536 rfl (Or.inr rfl) (inB_in e6) (j := (M.1 4 v1.toNatClampNeg).toNatClampNeg) rfl dX11_told_43 ?_
      refine u_iinc g 1 [(1, .int (v1 + (1 : Int32))), (0, .ref (w.2.2.1 0))] dX11_told_44 rfl rfl (by decide) rfl ?_
      refine u_goto g 24 dX11_told_47 (by decide) ?_
      exact u_sub [1, 0] rfl (ih (v1 + (1 : Int32)) (sI M 14 (M.1 4 v1.toNatClampNeg).toNatClampNeg (1 : Int32)) _ h K)
set_option maxRecDepth 100000 in
set_option maxHeartbeats 4000000 in
theorem t_X11_told (w : Wp) (l : Launch)  {M : Mem} {q : Int32 × Mem} (h : f_X11_told M = some q) : Ct shY w l yX11_told cX11_told 2 (some .int) 3 [.ref (w.2.2.1 0)] M (some (.int q.1), q.2) := by
  rw [f_X11_told] at h
  refine ct_of shY_loc (by decide) (Nat.le_of_ble_eq_true rfl) rfl (fun x hx g => ?_)
  subst hx
  show U shY w x _ M 0 [(0, .ref (w.2.2.1 0))] []
  generalize hr : ((some (.int q.1), q.2) : Option Value × Mem) = r
  have g : Gd shY w x RX11 cX11_told 2 (some .int) 3 := g
  refine u_aload_n g 0 dX11_told_0 rfl ?_
  refine u_iconst g (v := (0 : Int32)) dX11_told_1 rfl ?_
  refine pfX11_5 g wf_X11_84 dX11_told_2 ?_
  refine u_aload_n g 0 dX11_told_5 rfl ?_
  refine gfX11_7 g wf_X11_112 (v := (M.1 0 7)) rfl dX11_told_6 ?_
  refine u_if_ne g 18 dX11_told_9 (by decide) (fun b1 => ?_) (fun b1 => ?_)
  · have h := ob_neg b1 h
    refine u_aload_n g 0 dX11_told_18 rfl ?_
    obtain ⟨q2, hq3, h⟩ := ob_bind h
    refine u_callV (st := []) g wv_X11_133 [] (show 0 < shY.1 by decide) ceY_0 rfl rfl (t_X11_noSets w x.2.1 hq3) (by decide) (by decide) rfl (Nat.le_of_ble_eq_true rfl) rfl dX11_told_19 ?_
    show U shY w x r q2 22 [(0, .ref (w.2.2.1 0))] []
    refine u_iconst g (v := (0 : Int32)) dX11_told_22 rfl ?_
    refine u_istore_n g [(1, .int (0 : Int32)), (0, .ref (w.2.2.1 0))] dX11_told_23 (by decide) rfl ?_
    obtain ⟨q4, hq5, h⟩ := ob_bind h
    refine u_sub [1, 0] rfl (s_X11_told_l1 g fuelN (0 : Int32) q2 _ hq5 ?_)
    show U shY w x r q4 50 [(0, .ref (w.2.2.1 0))] []
    refine u_aload_n g 0 dX11_told_50 rfl ?_
    refine u_iconst g (v := (0 : Int32)) dX11_told_51 rfl ?_
    obtain ⟨q6, hq7, h⟩ := ob_bind h
    refine u_callV (st := []) g wv_X11_143 [.int (0 : Int32)] (show 0 < shY.1 by decide) ceY_0 rfl rfl (t_X11_made w x.2.1 hq7) (by decide) (by decide) rfl (Nat.le_of_ble_eq_true rfl) rfl dX11_told_52 ?_
    show U shY w x r q6.2 55 [(0, .ref (w.2.2.1 0))] [.int q6.1]
    refine u_istore_n g [(1, .int q6.1), (0, .ref (w.2.2.1 0))] dX11_told_55 (by decide) rfl ?_
    refine u_iload_n g 0 dX11_told_56 rfl ?_
    refine u_iconst g (v := (-1 : Int32)) dX11_told_57 rfl ?_
    obtain ⟨q8, hq9, h⟩ := ob_bind h
    have K10 : U shY w x r q8 66 [(1, .int q6.1)] [] := by
      refine u_iload_n g 0 dX11_told_66 rfl ?_
      exact u_iret g dX11_told_67 (by rw [← hr]; obtain rfl := Option.some.inj h; rfl)
    have h := hq9
    refine u_icmp_eq g 66 dX11_told_58 (by decide) (fun b11 => ?_) (fun b11 => ?_)
    · have h := ob_pos b11 h
      obtain rfl := Option.some.inj h
      exact u_sub [0] rfl K10
    · have h := ob_neg b11 h
      refine u_aload_n g 1 dX11_told_61 rfl ?_
      refine u_iconst g (v := (0 : Int32)) dX11_told_62 rfl ?_
      refine pfX11_7 g wf_X11_112 dX11_told_63 ?_
      obtain rfl := Option.some.inj h
      exact u_sub [0] rfl K10
  · have h := ob_pos b1 h
    refine u_aload_n g 0 dX11_told_12 rfl ?_
    refine u_iconst g (v := (5 : Int32)) dX11_told_13 rfl ?_
    obtain ⟨q12, hq13, h⟩ := ob_bind h
    refine u_callV (st := []) g wv_X11_115 [.int (5 : Int32)] (show 0 < shY.1 by decide) ceY_0 rfl rfl (t_X11_no w x.2.1 hq13) (by decide) (by decide) rfl (Nat.le_of_ble_eq_true rfl) rfl dX11_told_14 ?_
    show U shY w x r q12.2 17 [(0, .ref (w.2.2.1 0))] [.int q12.1]
    exact u_iret g dX11_told_17 (by rw [← hr]; obtain rfl := Option.some.inj h; rfl)
set_option maxRecDepth 100000 in
set_option maxHeartbeats 4000000 in
theorem s_X11_strengthOf_l1 {w : Wp} {x : Cx} {r : Option Value × Mem} (g : Gd shY w x RX11 cX11_strengthOf 4 (some .int) 0) (a1 : Int32)  (M : Mem) : ∀ (n : Nat) (v2 : Int32) (v3 : Int32) (q : Int32), f_X11_strengthOf_l1 a1 M n v2 v3 = some q → U shY w x r M 40 [(2, .int q)] [] → U shY w x r M 4 [(0, .ref (w.2.2.1 0)), (1, .int a1), (2, .int v2), (3, .int v3)] [] := by
  intro n
  induction n with
  | zero => intro v2 v3 q h K; rw [f_X11_strengthOf_l1] at h; cases h
  | succ n ih =>
    intro v2 v3 q h K
    rw [f_X11_strengthOf_l1] at h
    refine u_iload_n g 3 dX11_strengthOf_4 rfl ?_
    refine u_aload_n g 0 dX11_strengthOf_5 rfl ?_
    refine gfX11_3 g wf_X11_91 (v := (M.1 0 3)) rfl dX11_strengthOf_6 ?_
    refine u_icmp_ge g 40 dX11_strengthOf_9 (by decide) (fun b1 => ?_) (fun b1 => ?_)
    · have h := ob_pos b1 h
      obtain rfl := Option.some.inj h
      exact u_sub [2] rfl K
    · have h := ob_neg b1 h
      refine u_iload_n g 2 dX11_strengthOf_12 rfl ?_
      refine u_iload_n g 1 dX11_strengthOf_13 rfl ?_
      refine u_iload_n g 3 dX11_strengthOf_14 rfl ?_
      refine u_ishr g dX11_strengthOf_15 ?_
      refine u_iconst g (v := (1 : Int32)) dX11_strengthOf_16 rfl ?_
      refine u_iand g dX11_strengthOf_17 ?_
      refine u_iconst g (v := (1 : Int32)) dX11_strengthOf_18 rfl ?_
      obtain ⟨q2, hq3, h⟩ := ob_bind h
      have K4 : U shY w x r M 32 [(0, .ref (w.2.2.1 0)), (1, .int a1), (3, .int v3)] [.int q2, .int v2] := by
        refine u_iadd g dX11_strengthOf_32 ?_
        refine u_istore_n g [(2, .int (v2 + q2)), (0, .ref (w.2.2.1 0)), (1, .int a1), (3, .int v3)] dX11_strengthOf_33 (by decide) rfl ?_
        refine u_iinc g 3 [(3, .int (v3 + (1 : Int32))), (2, .int (v2 + q2)), (0, .ref (w.2.2.1 0)), (1, .int a1)] dX11_strengthOf_34 rfl rfl (by decide) rfl ?_
        refine u_goto g 4 dX11_strengthOf_37 (by decide) ?_
        exact u_sub [2, 3, 1, 0] rfl (ih (v2 + q2) (v3 + (1 : Int32)) _ h K)
      have h := hq3
      refine u_icmp_ne g 31 dX11_strengthOf_19 (by decide) (fun b5 => ?_) (fun b5 => ?_)
      · have h := ob_neg b5 h
        refine u_iconst g (v := (0 : Int32)) dX11_strengthOf_31 rfl ?_
        obtain rfl := Option.some.inj h
        exact u_sub [0, 1, 3] rfl K4
      · have h := ob_pos b5 h
        refine u_aload_n g 0 dX11_strengthOf_22 rfl ?_
        refine gfX11_0 g wf_X11_7 dX11_strengthOf_23 ?_
        refine u_iload_n g 3 dX11_strengthOf_26 rfl ?_
        obtain ⟨e6, h⟩ := ob_if h
        refine aY_ild g (c := 1) 16 (by decide) rfl (v := (M.1 1 v3.toNatClampNeg)) (inB_in e6) rfl dX11_strengthOf_27 ?_
        refine u_goto g 32 dX11_strengthOf_28 (by decide) ?_
        obtain rfl := Option.some.inj h
        exact u_sub [0, 1, 3] rfl K4
set_option maxRecDepth 100000 in
set_option maxHeartbeats 4000000 in
theorem t_X11_strengthOf (w : Wp) (l : Launch) {a1 : Int32} {M : Mem} {q : Int32} (h : f_X11_strengthOf a1 M = some q) : Ct shY w l yX11_strengthOf cX11_strengthOf 4 (some .int) 0 [.ref (w.2.2.1 0), .int a1] M (some (.int q), M) := by
  rw [f_X11_strengthOf] at h
  refine ct_of shY_loc (by decide) (Nat.le_of_ble_eq_true rfl) rfl (fun x hx g => ?_)
  subst hx
  show U shY w x _ M 0 [(0, .ref (w.2.2.1 0)), (1, .int a1)] []
  generalize hr : ((some (.int q), M) : Option Value × Mem) = r
  have g : Gd shY w x RX11 cX11_strengthOf 4 (some .int) 0 := g
  refine u_iconst g (v := (0 : Int32)) dX11_strengthOf_0 rfl ?_
  refine u_istore_n g [(2, .int (0 : Int32)), (0, .ref (w.2.2.1 0)), (1, .int a1)] dX11_strengthOf_1 (by decide) rfl ?_
  refine u_iconst g (v := (0 : Int32)) dX11_strengthOf_2 rfl ?_
  refine u_istore_n g [(3, .int (0 : Int32)), (2, .int (0 : Int32)), (0, .ref (w.2.2.1 0)), (1, .int a1)] dX11_strengthOf_3 (by decide) rfl ?_
  obtain ⟨q1, hq2, h⟩ := ob_bind h
  refine u_sub [2, 3, 1, 0] rfl (s_X11_strengthOf_l1 g a1 M fuelN (0 : Int32) (0 : Int32) _ hq2 ?_)
  show U shY w x r M 40 [(2, .int q1)] []
  refine u_iload_n g 0 dX11_strengthOf_40 rfl ?_
  exact u_iret g dX11_strengthOf_41 (by rw [← hr]; obtain rfl := Option.some.inj h; rfl)
set_option maxRecDepth 100000 in
set_option maxHeartbeats 4000000 in
theorem s_X11_most_l1 {w : Wp} {x : Cx} {r : Option Value × Mem} (g : Gd shY w x RX11 cX11_most 4 (some .int) 3) (a1 : Int32) (a2 : Int32)  : ∀ (n : Nat) (v3 : Int32) (M : Mem) (q : Mem), f_X11_most_l1 a1 a2 n v3 M = some q → U shY w x r q 66 [(0, .ref (w.2.2.1 0))] [] → U shY w x r M 31 [(0, .ref (w.2.2.1 0)), (1, .int a1), (2, .int a2), (3, .int v3)] [] := by
  intro n
  induction n with
  | zero => intro v3 M q h K; rw [f_X11_most_l1] at h; cases h
  | succ n ih =>
    intro v3 M q h K
    rw [f_X11_most_l1] at h
    refine u_iload_n g 3 dX11_most_31 rfl ?_
    refine u_if_le g 66 dX11_most_32 (by decide) (fun b8 => ?_) (fun b8 => ?_)
    · have h := ob_pos b8 h
      obtain rfl := Option.some.inj h
      exact u_sub [0] rfl K
    · have h := ob_neg b8 h
      refine u_aload_n g 0 dX11_most_35 rfl ?_
      refine gfX11_21 g wf_X11_50 dX11_most_36 ?_
      refine u_iload_n g 3 dX11_most_39 rfl ?_
      refine u_iconst g (v := (2 : Int32)) dX11_most_40 rfl ?_
      refine u_aload_n g 0 dX11_most_41 rfl ?_
      refine u_iload_n g 3 dX11_most_42 rfl ?_
      obtain ⟨q9, hq10, h⟩ := ob_bind h
      refine u_callV (st := [.int (2 : Int32), .int v3, .ref (w.2.2.1 14)]) g wv_X11_146 [.int v3] (show 0 < shY.1 by decide) ceY_0 rfl rfl (t_X11_strengthOf w x.2.1 hq10) (by decide) (by decide) rfl (Nat.le_of_ble_eq_true rfl) rfl dX11_most_43 ?_
      show U shY w x r M 46 [(0, .ref (w.2.2.1 0)), (1, .int a1), (2, .int a2), (3, .int v3)] [.int q9, .int (2 : Int32), .int v3, .ref (w.2.2.1 14)]
      refine u_imul g dX11_most_46 ?_
      refine u_iload_n g 2 dX11_most_47 rfl ?_
      obtain ⟨q11, hq12, h⟩ := ob_bind h
      have K13 : U shY w x r M 56 [(0, .ref (w.2.2.1 0)), (1, .int a1), (2, .int a2), (3, .int v3)] [.int q11, .int v3, .ref (w.2.2.1 14)] := by
        obtain ⟨e14, h⟩ := ob_if h
        obtain ⟨e15, h⟩ := ob_if h
        refine aY_zst g (c := 14) 65536 rfl e15 (inB_in e14) (j := v3.toNatClampNeg) rfl dX11_most_56 ?_
        refine u_iload_n g 3 dX11_most_57 rfl ?_
        refine u_iconst g (v := (1 : Int32)) dX11_most_58 rfl ?_
        refine u_isub g dX11_most_59 ?_
        refine u_iload_n g 1 dX11_most_60 rfl ?_
        refine u_iand g dX11_most_61 ?_
        refine u_istore_n g [(3, .int ((v3 - (1 : Int32)) &&& a1)), (0, .ref (w.2.2.1 0)), (1, .int a1), (2, .int a2)] dX11_most_62 (by decide) rfl ?_
        refine u_goto g 31 dX11_most_63 (by decide) ?_
        exact u_sub [1, 2, 3, 0] rfl (ih ((v3 - (1 : Int32)) &&& a1) (sI M 14 v3.toNatClampNeg q11) _ h K)
      have h := hq12
      refine u_icmp_le g 55 dX11_most_48 (by decide) (fun b16 => ?_) (fun b16 => ?_)
      · have h := ob_pos b16 h
        refine u_iconst g (v := (0 : Int32)) dX11_most_55 rfl ?_
        obtain rfl := Option.some.inj h
        exact u_sub [0, 1, 2, 3] rfl K13
      · have h := ob_neg b16 h
        refine u_iconst g (v := (1 : Int32)) dX11_most_51 rfl ?_
        refine u_goto g 56 dX11_most_52 (by decide) ?_
        obtain rfl := Option.some.inj h
        exact u_sub [0, 1, 2, 3] rfl K13
set_option maxRecDepth 100000 in
set_option maxHeartbeats 4000000 in
theorem t_X11_most (w : Wp) (l : Launch) {a1 : Int32} {M : Mem} {q : Int32 × Mem} (h : f_X11_most a1 M = some q) : Ct shY w l yX11_most cX11_most 4 (some .int) 3 [.ref (w.2.2.1 0), .int a1] M (some (.int q.1), q.2) := by
  rw [f_X11_most] at h
  refine ct_of shY_loc (by decide) (Nat.le_of_ble_eq_true rfl) rfl (fun x hx g => ?_)
  subst hx
  show U shY w x _ M 0 [(0, .ref (w.2.2.1 0)), (1, .int a1)] []
  generalize hr : ((some (.int q.1), q.2) : Option Value × Mem) = r
  have g : Gd shY w x RX11 cX11_most 4 (some .int) 3 := g
  refine u_aload_n g 0 dX11_most_0 rfl ?_
  refine u_iconst g (v := (0 : Int32)) dX11_most_1 rfl ?_
  refine pfX11_5 g wf_X11_84 dX11_most_2 ?_
  refine u_aload_n g 0 dX11_most_5 rfl ?_
  refine u_iload_n g 1 dX11_most_6 rfl ?_
  obtain ⟨q1, hq2, h⟩ := ob_bind h
  refine u_callV (st := []) g wv_X11_140 [.int a1] (show 0 < shY.1 by decide) ceY_0 rfl rfl (t_X11_isSet w x.2.1 hq2) (by decide) (by decide) rfl (Nat.le_of_ble_eq_true rfl) rfl dX11_most_7 ?_
  show U shY w x r (sI M 0 5 (0 : Int32)) 10 [(0, .ref (w.2.2.1 0)), (1, .int a1)] [.int q1]
  refine u_if_ne g 19 dX11_most_10 (by decide) (fun b3 => ?_) (fun b3 => ?_)
  · have h := ob_neg b3 h
    refine u_aload_n g 0 dX11_most_19 rfl ?_
    obtain ⟨q4, hq5, h⟩ := ob_bind h
    refine u_callV (st := []) g wv_X11_133 [] (show 0 < shY.1 by decide) ceY_0 rfl rfl (t_X11_noSets w x.2.1 hq5) (by decide) (by decide) rfl (Nat.le_of_ble_eq_true rfl) rfl dX11_most_20 ?_
    show U shY w x r q4 23 [(0, .ref (w.2.2.1 0)), (1, .int a1)] []
    refine u_aload_n g 0 dX11_most_23 rfl ?_
    refine u_iload_n g 1 dX11_most_24 rfl ?_
    obtain ⟨q6, hq7, h⟩ := ob_bind h
    refine u_callV (st := []) g wv_X11_146 [.int a1] (show 0 < shY.1 by decide) ceY_0 rfl rfl (t_X11_strengthOf w x.2.1 hq7) (by decide) (by decide) rfl (Nat.le_of_ble_eq_true rfl) rfl dX11_most_25 ?_
    show U shY w x r q4 28 [(0, .ref (w.2.2.1 0)), (1, .int a1)] [.int q6]
    refine u_istore_n g [(2, .int q6), (0, .ref (w.2.2.1 0)), (1, .int a1)] dX11_most_28 (by decide) rfl ?_
    refine u_iload_n g 2 dX11_most_29 rfl ?_
    refine u_istore_n g [(3, .int a1), (2, .int q6), (0, .ref (w.2.2.1 0)), (1, .int a1)] dX11_most_30 (by decide) rfl ?_
    obtain ⟨q8, hq9, h⟩ := ob_bind h
    refine u_sub [2, 3, 1, 0] rfl (s_X11_most_l1 g a1 q6 fuelN a1 q4 _ hq9 ?_)
    show U shY w x r q8 66 [(0, .ref (w.2.2.1 0))] []
    refine u_aload_n g 0 dX11_most_66 rfl ?_
    refine u_iconst g (v := (1 : Int32)) dX11_most_67 rfl ?_
    obtain ⟨q10, hq11, h⟩ := ob_bind h
    refine u_callV (st := []) g wv_X11_143 [.int (1 : Int32)] (show 0 < shY.1 by decide) ceY_0 rfl rfl (t_X11_made w x.2.1 hq11) (by decide) (by decide) rfl (Nat.le_of_ble_eq_true rfl) rfl dX11_most_68 ?_
    show U shY w x r q10.2 71 [(0, .ref (w.2.2.1 0))] [.int q10.1]
    exact u_iret g dX11_most_71 (by rw [← hr]; obtain rfl := Option.some.inj h; rfl)
  · have h := ob_pos b3 h
    refine u_aload_n g 0 dX11_most_13 rfl ?_
    refine u_iconst g (v := (2 : Int32)) dX11_most_14 rfl ?_
    obtain ⟨q12, hq13, h⟩ := ob_bind h
    refine u_callV (st := []) g wv_X11_115 [.int (2 : Int32)] (show 0 < shY.1 by decide) ceY_0 rfl rfl (t_X11_no w x.2.1 hq13) (by decide) (by decide) rfl (Nat.le_of_ble_eq_true rfl) rfl dX11_most_15 ?_
    show U shY w x r q12.2 18 [(0, .ref (w.2.2.1 0)), (1, .int a1)] [.int q12.1]
    exact u_iret g dX11_most_18 (by rw [← hr]; obtain rfl := Option.some.inj h; rfl)
set_option maxRecDepth 100000 in
set_option maxHeartbeats 4000000 in
theorem s_X11_comeRows_l2 {w : Wp} {x : Cx} {r : Option Value × Mem} (g : Gd shY w x RX11 cX11_comeRows 6 none 1) (a1 : Int32) (a2 : Int32)  : ∀ (n : Nat) (v3 : Int32) (M : Mem) (q : Mem), f_X11_comeRows_l2 a1 a2 n v3 M = some q → U shY w x r q 57 [(0, .ref (w.2.2.1 0)), (1, .int a1), (2, .int a2)] [] → U shY w x r M 36 [(0, .ref (w.2.2.1 0)), (1, .int a1), (2, .int a2), (3, .int v3)] [] := by
  intro n
  induction n with
  | zero => intro v3 M q h K; rw [f_X11_comeRows_l2] at h; cases h
  | succ n ih =>
    intro v3 M q h K
    rw [f_X11_comeRows_l2] at h
    refine u_iload_n g 3 dX11_comeRows_36 rfl ?_
    refine u_aload_n g 0 dX11_comeRows_37 rfl ?_
    refine gfX11_27 g wf_X11_149 (v := (M.1 0 27)) rfl dX11_comeRows_38 ?_
    refine u_icmp_ge g 57 dX11_comeRows_41 (by decide) (fun b6 => ?_) (fun b6 => ?_)
    · have h := ob_pos b6 h
      obtain rfl := Option.some.inj h
      exact u_sub [0, 1, 2] rfl K
    · have h := ob_neg b6 h
      refine u_aload_n g 0 dX11_comeRows_44 rfl ?_
      refine gfX11_28 g wf_X11_66 dX11_comeRows_45 ?_
      refine u_iload_n g 3 dX11_comeRows_48 rfl ?_
      refine u_iconst g (v := (0 : Int32)) dX11_comeRows_49 rfl ?_
      obtain ⟨e7, h⟩ := ob_if h
      refine aY_ist g (c := 19) 17 (by decide) rfl (inB_in e7) (j := v3.toNatClampNeg) rfl dX11_comeRows_50 ?_
      refine u_iinc g 3 [(3, .int (v3 + (1 : Int32))), (0, .ref (w.2.2.1 0)), (1, .int a1), (2, .int a2)] dX11_comeRows_51 rfl rfl (by decide) rfl ?_
      refine u_goto g 36 dX11_comeRows_54 (by decide) ?_
      exact u_sub [1, 2, 3, 0] rfl (ih (v3 + (1 : Int32)) (sI M 19 v3.toNatClampNeg (0 : Int32)) _ h K)
set_option maxRecDepth 100000 in
set_option maxHeartbeats 4000000 in
theorem s_X11_comeRows_l4 {w : Wp} {x : Cx} {r : Option Value × Mem} (g : Gd shY w x RX11 cX11_comeRows 6 none 1) (a1 : Int32) (a2 : Int32)  (M : Mem) : ∀ (n : Nat) (v4 : Int32) (v5 : Int32) (q : Int32), f_X11_comeRows_l4 a1 a2 M n v4 v5 = some q → U shY w x r M 108 [(0, .ref (w.2.2.1 0)), (1, .int a1), (2, .int a2), (4, .int q)] [] → U shY w x r M 71 [(0, .ref (w.2.2.1 0)), (1, .int a1), (2, .int a2), (4, .int v4), (5, .int v5)] [] := by
  intro n
  induction n with
  | zero => intro v4 v5 q h K; rw [f_X11_comeRows_l4] at h; cases h
  | succ n ih =>
    intro v4 v5 q h K
    rw [f_X11_comeRows_l4] at h
    refine u_iload g 4 dX11_comeRows_71 rfl ?_
    refine u_aload_n g 0 dX11_comeRows_73 rfl ?_
    refine gfX11_27 g wf_X11_149 (v := (M.1 0 27)) rfl dX11_comeRows_74 ?_
    refine u_icmp_ge g 108 dX11_comeRows_77 (by decide) (fun b9 => ?_) (fun b9 => ?_)
    · have h := ob_pos b9 h
      obtain rfl := Option.some.inj h
      exact u_sub [0, 1, 2, 3] rfl K
    · have h := ob_neg b9 h
      refine u_iload g 3 dX11_comeRows_80 rfl ?_
      refine u_iconst g (v := (1 : Int32)) dX11_comeRows_82 rfl ?_
      refine u_aload_n g 0 dX11_comeRows_83 rfl ?_
      refine gfX11_25 g wf_X11_60 dX11_comeRows_84 ?_
      refine u_iload g 4 dX11_comeRows_87 rfl ?_
      obtain ⟨e10, h⟩ := ob_if h
      refine aY_ild g (c := 17) 17 (by decide) rfl (v := (M.1 17 v5.toNatClampNeg)) (inB_in e10) rfl dX11_comeRows_89 ?_
      refine u_aload_n g 0 dX11_comeRows_90 rfl ?_
      refine gfX11_28 g wf_X11_66 dX11_comeRows_91 ?_
      refine u_iload g 4 dX11_comeRows_94 rfl ?_
      obtain ⟨e11, h⟩ := ob_if h
      refine aY_ild g (c := 19) 17 (by decide) rfl (v := (M.1 19 v5.toNatClampNeg)) (inB_in e11) rfl dX11_comeRows_96 ?_
      refine u_iadd g dX11_comeRows_97 ?_
      refine u_ishl g dX11_comeRows_98 ?_
      refine u_ior g dX11_comeRows_99 ?_
      refine u_istore g [(4, .int (v4 ||| ((1 : Int32) <<< (((M.1 17 v5.toNatClampNeg) + (M.1 19 v5.toNatClampNeg)) &&& 31)))), (0, .ref (w.2.2.1 0)), (1, .int a1), (2, .int a2), (5, .int v5)] dX11_comeRows_100 (by decide) rfl ?_
      refine u_iinc g 4 [(5, .int (v5 + (1 : Int32))), (4, .int (v4 ||| ((1 : Int32) <<< (((M.1 17 v5.toNatClampNeg) + (M.1 19 v5.toNatClampNeg)) &&& 31)))), (0, .ref (w.2.2.1 0)), (1, .int a1), (2, .int a2)] dX11_comeRows_102 rfl rfl (by decide) rfl ?_
      refine u_goto g 71 dX11_comeRows_105 (by decide) ?_
      exact u_sub [2, 3, 4, 1, 0] rfl (ih (v4 ||| ((1 : Int32) <<< (((M.1 17 v5.toNatClampNeg) + (M.1 19 v5.toNatClampNeg)) &&& 31))) (v5 + (1 : Int32)) _ h K)
set_option maxRecDepth 100000 in
set_option maxHeartbeats 4000000 in
theorem s_X11_comeRows_l5 {w : Wp} {x : Cx} {r : Option Value × Mem} (g : Gd shY w x RX11 cX11_comeRows 6 none 1) (a1 : Int32) (a2 : Int32)  : ∀ (n : Nat) (v5 : Int32) (M : Mem) (q : Int32 × Mem), f_X11_comeRows_l5 a1 a2 n v5 M = some q → U shY w x r q.2 163 [(0, .ref (w.2.2.1 0)), (1, .int a1), (2, .int a2), (5, .int q.1)] [] → U shY w x r M 124 [(0, .ref (w.2.2.1 0)), (1, .int a1), (2, .int a2), (5, .int v5)] [] := by
  intro n
  induction n with
  | zero => intro v5 M q h K; rw [f_X11_comeRows_l5] at h; cases h
  | succ n ih =>
    intro v5 M q h K
    rw [f_X11_comeRows_l5] at h
    refine u_iload g 3 dX11_comeRows_124 rfl ?_
    refine u_iload_n g 1 dX11_comeRows_126 rfl ?_
    refine u_icmp_le g 163 dX11_comeRows_127 (by decide) (fun b12 => ?_) (fun b12 => ?_)
    · have h := ob_pos b12 h
      obtain rfl := Option.some.inj h
      exact u_sub [0, 1, 2, 3] rfl K
    · have h := ob_neg b12 h
      refine u_aload_n g 0 dX11_comeRows_130 rfl ?_
      refine gfX11_28 g wf_X11_66 dX11_comeRows_131 ?_
      refine u_iload g 3 dX11_comeRows_134 rfl ?_
      obtain ⟨e13, h⟩ := ob_if h
      refine aY_ild g (c := 19) 17 (by decide) rfl (v := (M.1 19 v5.toNatClampNeg)) (inB_in e13) rfl dX11_comeRows_136 ?_
      refine u_aload_n g 0 dX11_comeRows_137 rfl ?_
      refine gfX11_26 g wf_X11_63 dX11_comeRows_138 ?_
      refine u_iload g 3 dX11_comeRows_141 rfl ?_
      obtain ⟨e14, h⟩ := ob_if h
      refine aY_ild g (c := 18) 17 (by decide) rfl (v := (M.1 18 v5.toNatClampNeg)) (inB_in e14) rfl dX11_comeRows_143 ?_
      refine u_iconst g (v := (1 : Int32)) dX11_comeRows_144 rfl ?_
      refine u_isub g dX11_comeRows_145 ?_
      refine u_icmp_ne g 163 dX11_comeRows_146 (by decide) (fun b15 => ?_) (fun b15 => ?_)
      · have h := ob_neg b15 h
        obtain rfl := Option.some.inj h
        exact u_sub [0, 1, 2, 3] rfl K
      · have h := ob_pos b15 h
        refine u_aload_n g 0 dX11_comeRows_149 rfl ?_
        refine gfX11_28 g wf_X11_66 dX11_comeRows_150 ?_
        refine u_iload g 3 dX11_comeRows_153 rfl ?_
        refine u_iconst g (v := (0 : Int32)) dX11_comeRows_155 rfl ?_
        obtain ⟨e16, h⟩ := ob_if h
        refine aY_ist g (c := 19) 17 (by decide) rfl (inB_in e16) (j := v5.toNatClampNeg) rfl dX11_comeRows_156 ?_
        refine u_iinc g 3 [(5, .int (v5 + (-1 : Int32))), (0, .ref (w.2.2.1 0)), (1, .int a1), (2, .int a2)] dX11_comeRows_157 rfl rfl (by decide) rfl ?_
        refine u_goto g 124 dX11_comeRows_160 (by decide) ?_
        exact u_sub [1, 2, 3, 0] rfl (ih (v5 + (-1 : Int32)) (sI M 19 v5.toNatClampNeg (0 : Int32)) _ h K)
set_option maxRecDepth 100000 in
set_option maxHeartbeats 4000000 in
theorem s_X11_comeRows_l3 {w : Wp} {x : Cx} {r : Option Value × Mem} (g : Gd shY w x RX11 cX11_comeRows 6 none 1) (a1 : Int32) (a2 : Int32)  : ∀ (n : Nat) (v3 : Int32) (M : Mem) (q : Mem), f_X11_comeRows_l3 a1 a2 n v3 M = some q → U shY w x r q 193 [(0, .ref (w.2.2.1 0)), (1, .int a1)] [] → U shY w x r M 59 [(0, .ref (w.2.2.1 0)), (1, .int a1), (2, .int a2), (3, .int v3)] [] := by
  intro n
  induction n with
  | zero => intro v3 M q h K; rw [f_X11_comeRows_l3] at h; cases h
  | succ n ih =>
    intro v3 M q h K
    rw [f_X11_comeRows_l3] at h
    refine u_iload_n g 3 dX11_comeRows_59 rfl ?_
    refine u_if_eq g 193 dX11_comeRows_60 (by decide) (fun b8 => ?_) (fun b8 => ?_)
    · have h := ob_pos b8 h
      obtain rfl := Option.some.inj h
      exact u_sub [0, 1] rfl K
    · have h := ob_neg b8 h
      refine u_iload_n g 2 dX11_comeRows_63 rfl ?_
      refine u_istore g [(4, .int a2), (0, .ref (w.2.2.1 0)), (1, .int a1), (2, .int a2), (3, .int v3)] dX11_comeRows_64 (by decide) rfl ?_
      refine u_iload_n g 2 dX11_comeRows_66 rfl ?_
      refine u_iconst g (v := (1 : Int32)) dX11_comeRows_67 rfl ?_
      refine u_iadd g dX11_comeRows_68 ?_
      refine u_istore g [(5, .int (a1 + (1 : Int32))), (4, .int a2), (0, .ref (w.2.2.1 0)), (1, .int a1), (2, .int a2), (3, .int v3)] dX11_comeRows_69 (by decide) rfl ?_
      obtain ⟨q9, hq10, h⟩ := ob_bind h
      refine u_sub [2, 3, 4, 1, 0] rfl (s_X11_comeRows_l4 g a1 a2 M fuelN a2 (a1 + (1 : Int32)) _ hq10 ?_)
      show U shY w x r M 108 [(0, .ref (w.2.2.1 0)), (1, .int a1), (2, .int a2), (4, .int q9)] []
      refine u_aload_n g 0 dX11_comeRows_108 rfl ?_
      refine gfX11_21 g wf_X11_50 dX11_comeRows_109 ?_
      refine u_iload g 3 dX11_comeRows_112 rfl ?_
      refine u_iconst g (v := (1 : Int32)) dX11_comeRows_114 rfl ?_
      obtain ⟨e11, h⟩ := ob_if h
      refine aY_zst g (c := 14) 65536 rfl (Or.inr rfl) (inB_in e11) (j := q9.toNatClampNeg) rfl dX11_comeRows_115 ?_
      refine u_aload_n g 0 dX11_comeRows_116 rfl ?_
      refine gfX11_27 g wf_X11_149 (v := (M.1 0 27)) rfl dX11_comeRows_117 ?_
      refine u_iconst g (v := (1 : Int32)) dX11_comeRows_120 rfl ?_
      refine u_isub g dX11_comeRows_121 ?_
      refine u_istore g [(5, .int ((M.1 0 27) - (1 : Int32))), (0, .ref (w.2.2.1 0)), (1, .int a1), (2, .int a2), (4, .int q9)] dX11_comeRows_122 (by decide) rfl ?_
      obtain ⟨q12, hq13, h⟩ := ob_bind h
      refine u_sub [1, 2, 3, 0] rfl (s_X11_comeRows_l5 g a1 a2 fuelN ((M.1 0 27) - (1 : Int32)) (sI M 14 q9.toNatClampNeg (1 : Int32)) _ hq13 ?_)
      show U shY w x r q12.2 163 [(0, .ref (w.2.2.1 0)), (1, .int a1), (2, .int a2), (5, .int q12.1)] []
      refine u_iload g 3 dX11_comeRows_163 rfl ?_
      refine u_iload_n g 1 dX11_comeRows_165 rfl ?_
      obtain ⟨q14, hq15, h⟩ := ob_bind h
      have K16 : U shY w x r q12.2 174 [(0, .ref (w.2.2.1 0)), (1, .int a1), (2, .int a2), (5, .int q12.1)] [.int q14] := by
        refine u_istore_n g [(3, .int q14), (0, .ref (w.2.2.1 0)), (1, .int a1), (2, .int a2), (5, .int q12.1)] dX11_comeRows_174 (by decide) rfl ?_
        refine u_iload_n g 0 dX11_comeRows_175 rfl ?_
        obtain ⟨q17, hq18, h⟩ := ob_bind h
        have K19 : U shY w x r q17 190 [(0, .ref (w.2.2.1 0)), (1, .int a1), (2, .int a2), (3, .int q14)] [] := by
          refine u_goto g 59 dX11_comeRows_190 (by decide) ?_
          exact u_sub [0, 1, 2, 3] rfl (ih q14 q17 _ h K)
        have h := hq18
        refine u_if_eq g 190 dX11_comeRows_176 (by decide) (fun b20 => ?_) (fun b20 => ?_)
        · have h := ob_pos b20 h
          obtain rfl := Option.some.inj h
          exact u_sub [1, 2, 3, 0] rfl K19
        · have h := ob_neg b20 h
          refine u_aload_n g 1 dX11_comeRows_179 rfl ?_
          refine gfX11_28 g wf_X11_66 dX11_comeRows_180 ?_
          refine u_iload g 4 dX11_comeRows_183 rfl ?_
          refine u_dup2 g dX11_comeRows_185 rfl rfl ?_
          obtain ⟨e21, h⟩ := ob_if h
          refine aY_ild g (c := 19) 17 (by decide) rfl (v := (q12.2.1 19 q12.1.toNatClampNeg)) (inB_in e21) rfl dX11_comeRows_186 ?_
          refine u_iconst g (v := (1 : Int32)) dX11_comeRows_187 rfl ?_
          refine u_iadd g dX11_comeRows_188 ?_
          obtain ⟨e22, h⟩ := ob_if h
          refine aY_ist g (c := 19) 17 (by decide) rfl (inB_in e22) (j := q12.1.toNatClampNeg) rfl dX11_comeRows_189 ?_
          obtain rfl := Option.some.inj h
          exact u_sub [1, 2, 3, 0] rfl K19
      have h := hq15
      refine u_icmp_le g 173 dX11_comeRows_166 (by decide) (fun b23 => ?_) (fun b23 => ?_)
      · have h := ob_pos b23 h
        refine u_iconst g (v := (0 : Int32)) dX11_comeRows_173 rfl ?_
        obtain rfl := Option.some.inj h
        exact u_sub [0, 1, 2, 3] rfl K16
      · have h := ob_neg b23 h
        refine u_iconst g (v := (1 : Int32)) dX11_comeRows_169 rfl ?_
        refine u_goto g 174 dX11_comeRows_170 (by decide) ?_
        obtain rfl := Option.some.inj h
        exact u_sub [0, 1, 2, 3] rfl K16
set_option maxRecDepth 100000 in
set_option maxHeartbeats 4000000 in
theorem s_X11_comeRows_l1 {w : Wp} {x : Cx} {r : Option Value × Mem} (g : Gd shY w x RX11 cX11_comeRows 6 none 1)   : ∀ (n : Nat) (v1 : Int32) (M : Mem) (q : Mem), f_X11_comeRows_l1 n v1 M = some q → U shY w x r q 199 [] [] → U shY w x r M 6 [(0, .ref (w.2.2.1 0)), (1, .int v1)] [] := by
  intro n
  induction n with
  | zero => intro v1 M q h K; rw [f_X11_comeRows_l1] at h; cases h
  | succ n ih =>
    intro v1 M q h K
    rw [f_X11_comeRows_l1] at h
    refine u_iload_n g 1 dX11_comeRows_6 rfl ?_
    refine u_aload_n g 0 dX11_comeRows_7 rfl ?_
    refine gfX11_27 g wf_X11_149 (v := (M.1 0 27)) rfl dX11_comeRows_8 ?_
    refine u_icmp_ge g 199 dX11_comeRows_11 (by decide) (fun b3 => ?_) (fun b3 => ?_)
    · have h := ob_pos b3 h
      obtain rfl := Option.some.inj h
      exact u_sub [] rfl K
    · have h := ob_neg b3 h
      refine u_iconst g (v := (1 : Int32)) dX11_comeRows_14 rfl ?_
      refine u_aload_n g 0 dX11_comeRows_15 rfl ?_
      refine gfX11_26 g wf_X11_63 dX11_comeRows_16 ?_
      refine u_iload_n g 1 dX11_comeRows_19 rfl ?_
      obtain ⟨e4, h⟩ := ob_if h
      refine aY_ild g (c := 18) 17 (by decide) rfl (v := (M.1 18 v1.toNatClampNeg)) (inB_in e4) rfl dX11_comeRows_20 ?_
      refine u_ishl g dX11_comeRows_21 ?_
      refine u_iconst g (v := (1 : Int32)) dX11_comeRows_22 rfl ?_
      refine u_isub g dX11_comeRows_23 ?_
      refine u_aload_n g 0 dX11_comeRows_24 rfl ?_
      refine gfX11_25 g wf_X11_60 dX11_comeRows_25 ?_
      refine u_iload_n g 1 dX11_comeRows_28 rfl ?_
      obtain ⟨e5, h⟩ := ob_if h
      refine aY_ild g (c := 17) 17 (by decide) rfl (v := (M.1 17 v1.toNatClampNeg)) (inB_in e5) rfl dX11_comeRows_29 ?_
      refine u_ishl g dX11_comeRows_30 ?_
      refine u_istore_n g [(2, .int ((((1 : Int32) <<< ((M.1 18 v1.toNatClampNeg) &&& 31)) - (1 : Int32)) <<< ((M.1 17 v1.toNatClampNeg) &&& 31))), (0, .ref (w.2.2.1 0)), (1, .int v1)] dX11_comeRows_31 (by decide) rfl ?_
      refine u_iload_n g 2 dX11_comeRows_32 rfl ?_
      refine u_iconst g (v := (1 : Int32)) dX11_comeRows_33 rfl ?_
      refine u_iadd g dX11_comeRows_34 ?_
      refine u_istore_n g [(3, .int (v1 + (1 : Int32))), (2, .int ((((1 : Int32) <<< ((M.1 18 v1.toNatClampNeg) &&& 31)) - (1 : Int32)) <<< ((M.1 17 v1.toNatClampNeg) &&& 31))), (0, .ref (w.2.2.1 0)), (1, .int v1)] dX11_comeRows_35 (by decide) rfl ?_
      obtain ⟨q6, hq7, h⟩ := ob_bind h
      refine u_sub [2, 3, 1, 0] rfl (s_X11_comeRows_l2 g v1 ((((1 : Int32) <<< ((M.1 18 v1.toNatClampNeg) &&& 31)) - (1 : Int32)) <<< ((M.1 17 v1.toNatClampNeg) &&& 31)) fuelN (v1 + (1 : Int32)) M _ hq7 ?_)
      show U shY w x r q6 57 [(0, .ref (w.2.2.1 0)), (1, .int v1), (2, .int ((((1 : Int32) <<< ((M.1 18 v1.toNatClampNeg) &&& 31)) - (1 : Int32)) <<< ((M.1 17 v1.toNatClampNeg) &&& 31)))] []
      refine u_iconst g (v := (1 : Int32)) dX11_comeRows_57 rfl ?_
      refine u_istore_n g [(3, .int (1 : Int32)), (0, .ref (w.2.2.1 0)), (1, .int v1), (2, .int ((((1 : Int32) <<< ((M.1 18 v1.toNatClampNeg) &&& 31)) - (1 : Int32)) <<< ((M.1 17 v1.toNatClampNeg) &&& 31)))] dX11_comeRows_58 (by decide) rfl ?_
      obtain ⟨q8, hq9, h⟩ := ob_bind h
      refine u_sub [1, 2, 3, 0] rfl (s_X11_comeRows_l3 g v1 ((((1 : Int32) <<< ((M.1 18 v1.toNatClampNeg) &&& 31)) - (1 : Int32)) <<< ((M.1 17 v1.toNatClampNeg) &&& 31)) fuelN (1 : Int32) q6 _ hq9 ?_)
      show U shY w x r q8 193 [(0, .ref (w.2.2.1 0)), (1, .int v1)] []
      refine u_iinc g 1 [(1, .int (v1 + (1 : Int32))), (0, .ref (w.2.2.1 0))] dX11_comeRows_193 rfl rfl (by decide) rfl ?_
      refine u_goto g 6 dX11_comeRows_196 (by decide) ?_
      exact u_sub [1, 0] rfl (ih (v1 + (1 : Int32)) q8 _ h K)
set_option maxRecDepth 100000 in
set_option maxHeartbeats 4000000 in
theorem t_X11_comeRows (w : Wp) (l : Launch)  {M : Mem} {q : Mem} (h : f_X11_comeRows M = some q) : Ct shY w l yX11_comeRows cX11_comeRows 6 none 1 [.ref (w.2.2.1 0)] M (none, q) := by
  rw [f_X11_comeRows] at h
  refine ct_of shY_loc (by decide) (Nat.le_of_ble_eq_true rfl) rfl (fun x hx g => ?_)
  subst hx
  show U shY w x _ M 0 [(0, .ref (w.2.2.1 0))] []
  generalize hr : ((none, q) : Option Value × Mem) = r
  have g : Gd shY w x RX11 cX11_comeRows 6 none 1 := g
  refine u_aload_n g 0 dX11_comeRows_0 rfl ?_
  obtain ⟨q1, hq2, h⟩ := ob_bind h
  refine u_callV (st := []) g wv_X11_133 [] (show 0 < shY.1 by decide) ceY_0 rfl rfl (t_X11_noSets w x.2.1 hq2) (by decide) (by decide) rfl (Nat.le_of_ble_eq_true rfl) rfl dX11_comeRows_1 ?_
  show U shY w x r q1 4 [(0, .ref (w.2.2.1 0))] []
  refine u_iconst g (v := (0 : Int32)) dX11_comeRows_4 rfl ?_
  refine u_istore_n g [(1, .int (0 : Int32)), (0, .ref (w.2.2.1 0))] dX11_comeRows_5 (by decide) rfl ?_
  obtain ⟨q3, hq4, h⟩ := ob_bind h
  refine u_sub [1, 0] rfl (s_X11_comeRows_l1 g fuelN (0 : Int32) q1 _ hq4 ?_)
  show U shY w x r q3 199 [] []
  exact u_vret g dX11_comeRows_199 (by rw [← hr]; obtain rfl := Option.some.inj h; rfl)
set_option maxRecDepth 100000 in
set_option maxHeartbeats 4000000 in
theorem t_X11_areKeepers (w : Wp) (l : Launch) {a1 : Int32} {a2 : Int32} {M : Mem} {q : Int32} (h : f_X11_areKeepers a1 a2 M = some q) : Ct shY w l yX11_areKeepers cX11_areKeepers 3 (some .boolean) 0 [.ref (w.2.2.1 0), .int a1, .int a2] M (some (.int q), M) := by
  rw [f_X11_areKeepers] at h
  refine ct_of shY_loc (by decide) (Nat.le_of_ble_eq_true rfl) rfl (fun x hx g => ?_)
  subst hx
  show U shY w x _ M 0 [(0, .ref (w.2.2.1 0)), (1, .int a1), (2, .int a2)] []
  generalize hr : ((some (.int q), M) : Option Value × Mem) = r
  have g : Gd shY w x RX11 cX11_areKeepers 3 (some .boolean) 0 := g
  refine u_iload_n g 1 dX11_areKeepers_0 rfl ?_
  refine u_if_lt g 26 dX11_areKeepers_1 (by decide) (fun b1 => ?_) (fun b1 => ?_)
  · have h := ob_pos b1 h
    refine u_iconst g (v := (0 : Int32)) dX11_areKeepers_26 rfl ?_
    exact u_zret g (Or.inl rfl) dX11_areKeepers_27 (by rw [← hr]; obtain rfl := Option.some.inj h; rfl)
  · have h := ob_neg b1 h
    refine u_iload_n g 1 dX11_areKeepers_4 rfl ?_
    refine u_aload_n g 0 dX11_areKeepers_5 rfl ?_
    refine gfX11_3 g wf_X11_91 (v := (M.1 0 3)) rfl dX11_areKeepers_6 ?_
    refine u_icmp_ge g 26 dX11_areKeepers_9 (by decide) (fun b2 => ?_) (fun b2 => ?_)
    · have h := ob_pos b2 h
      refine u_iconst g (v := (0 : Int32)) dX11_areKeepers_26 rfl ?_
      exact u_zret g (Or.inl rfl) dX11_areKeepers_27 (by rw [← hr]; obtain rfl := Option.some.inj h; rfl)
    · have h := ob_neg b2 h
      refine u_iload_n g 2 dX11_areKeepers_12 rfl ?_
      refine u_aload_n g 0 dX11_areKeepers_13 rfl ?_
      refine gfX11_3 g wf_X11_91 (v := (M.1 0 3)) rfl dX11_areKeepers_14 ?_
      refine u_iload_n g 1 dX11_areKeepers_17 rfl ?_
      refine u_isub g dX11_areKeepers_18 ?_
      refine u_icmp_gt g 26 dX11_areKeepers_19 (by decide) (fun b3 => ?_) (fun b3 => ?_)
      · have h := ob_pos b3 h
        refine u_iconst g (v := (0 : Int32)) dX11_areKeepers_26 rfl ?_
        exact u_zret g (Or.inl rfl) dX11_areKeepers_27 (by rw [← hr]; obtain rfl := Option.some.inj h; rfl)
      · have h := ob_neg b3 h
        refine u_iconst g (v := (1 : Int32)) dX11_areKeepers_22 rfl ?_
        refine u_goto g 27 dX11_areKeepers_23 (by decide) ?_
        exact u_zret g (Or.inr rfl) dX11_areKeepers_27 (by rw [← hr]; obtain rfl := Option.some.inj h; rfl)
set_option maxRecDepth 100000 in
set_option maxHeartbeats 4000000 in
theorem s_X11_grid_l1 {w : Wp} {x : Cx} {r : Option Value × Mem} (g : Gd shY w x RX11 cX11_grid 5 (some .int) 3) (a2 : Int32) (a3 : Int32)  : ∀ (n : Nat) (v4 : Int32) (M : Mem) (q : Mem), f_X11_grid_l1 a2 a3 n v4 M = some q → U shY w x r q 94 [(0, .ref (w.2.2.1 0))] [] → U shY w x r M 58 [(0, .ref (w.2.2.1 0)), (2, .int a2), (3, .int a3), (4, .int v4)] [] := by
  intro n
  induction n with
  | zero => intro v4 M q h K; rw [f_X11_grid_l1] at h; cases h
  | succ n ih =>
    intro v4 M q h K
    rw [f_X11_grid_l1] at h
    refine u_iload g 3 dX11_grid_58 rfl ?_
    refine u_aload_n g 0 dX11_grid_60 rfl ?_
    refine gfX11_27 g wf_X11_149 (v := (M.1 0 27)) rfl dX11_grid_61 ?_
    refine u_icmp_ge g 94 dX11_grid_64 (by decide) (fun b12 => ?_) (fun b12 => ?_)
    · have h := ob_pos b12 h
      obtain rfl := Option.some.inj h
      exact u_sub [0] rfl K
    · have h := ob_neg b12 h
      refine u_aload_n g 0 dX11_grid_67 rfl ?_
      refine gfX11_25 g wf_X11_60 dX11_grid_68 ?_
      refine u_iload g 3 dX11_grid_71 rfl ?_
      refine u_iload_n g 2 dX11_grid_73 rfl ?_
      refine u_iload g 3 dX11_grid_74 rfl ?_
      refine u_iload_n g 1 dX11_grid_76 rfl ?_
      refine u_imul g dX11_grid_77 ?_
      refine u_iadd g dX11_grid_78 ?_
      obtain ⟨e13, h⟩ := ob_if h
      refine aY_ist g (c := 17) 17 (by decide) rfl (inB_in e13) (j := v4.toNatClampNeg) rfl dX11_grid_79 ?_
      refine u_aload_n g 0 dX11_grid_80 rfl ?_
      refine gfX11_26 g wf_X11_63 dX11_grid_81 ?_
      refine u_iload g 3 dX11_grid_84 rfl ?_
      refine u_iload_n g 1 dX11_grid_86 rfl ?_
      obtain ⟨e14, h⟩ := ob_if h
      refine aY_ist g (c := 18) 17 (by decide) rfl (inB_in e14) (j := v4.toNatClampNeg) rfl dX11_grid_87 ?_
      refine u_iinc g 3 [(4, .int (v4 + (1 : Int32))), (0, .ref (w.2.2.1 0)), (2, .int a2), (3, .int a3)] dX11_grid_88 rfl rfl (by decide) rfl ?_
      refine u_goto g 58 dX11_grid_91 (by decide) ?_
      exact u_sub [1, 2, 3, 0] rfl (ih (v4 + (1 : Int32)) (sI (sI M 17 v4.toNatClampNeg (a3 + (v4 * a2))) 18 v4.toNatClampNeg a2) _ h K)
set_option maxRecDepth 100000 in
set_option maxHeartbeats 4000000 in
theorem t_X11_grid (w : Wp) (l : Launch) {a1 : Int32} {a2 : Int32} {a3 : Int32} {M : Mem} {q : Int32 × Mem} (h : f_X11_grid a1 a2 a3 M = some q) : Ct shY w l yX11_grid cX11_grid 5 (some .int) 3 [.ref (w.2.2.1 0), .int a1, .int a2, .int a3] M (some (.int q.1), q.2) := by
  rw [f_X11_grid] at h
  refine ct_of shY_loc (by decide) (Nat.le_of_ble_eq_true rfl) rfl (fun x hx g => ?_)
  subst hx
  show U shY w x _ M 0 [(0, .ref (w.2.2.1 0)), (1, .int a1), (2, .int a2), (3, .int a3)] []
  generalize hr : ((some (.int q.1), q.2) : Option Value × Mem) = r
  have g : Gd shY w x RX11 cX11_grid 5 (some .int) 3 := g
  refine u_aload_n g 0 dX11_grid_0 rfl ?_
  refine u_iconst g (v := (0 : Int32)) dX11_grid_1 rfl ?_
  refine pfX11_5 g wf_X11_84 dX11_grid_2 ?_
  refine u_aload_n g 0 dX11_grid_5 rfl ?_
  refine u_iload_n g 1 dX11_grid_6 rfl ?_
  refine u_iconst g (v := (1 : Int32)) dX11_grid_7 rfl ?_
  refine u_bipush g (v := (16 : Int32)) dX11_grid_8 rfl ?_
  obtain ⟨q1, hq2, h⟩ := ob_bind h
  refine u_callV (st := []) g wv_X11_97 [.int a1, .int (1 : Int32), .int (16 : Int32)] (show 0 < shY.1 by decide) ceY_0 rfl rfl (t_X11_in w x.2.1 hq2) (by decide) (by decide) rfl (Nat.le_of_ble_eq_true rfl) rfl dX11_grid_10 ?_
  show U shY w x r (sI M 0 5 (0 : Int32)) 13 [(0, .ref (w.2.2.1 0)), (1, .int a1), (2, .int a2), (3, .int a3)] [.int q1]
  refine u_if_eq g 27 dX11_grid_13 (by decide) (fun b3 => ?_) (fun b3 => ?_)
  · have h := ob_pos b3 h
    refine u_aload_n g 0 dX11_grid_27 rfl ?_
    refine u_iconst g (v := (2 : Int32)) dX11_grid_28 rfl ?_
    obtain ⟨q4, hq5, h⟩ := ob_bind h
    refine u_callV (st := []) g wv_X11_115 [.int (2 : Int32)] (show 0 < shY.1 by decide) ceY_0 rfl rfl (t_X11_no w x.2.1 hq5) (by decide) (by decide) rfl (Nat.le_of_ble_eq_true rfl) rfl dX11_grid_29 ?_
    show U shY w x r q4.2 32 [(0, .ref (w.2.2.1 0)), (1, .int a1), (2, .int a2), (3, .int a3)] [.int q4.1]
    exact u_iret g dX11_grid_32 (by rw [← hr]; obtain rfl := Option.some.inj h; rfl)
  · have h := ob_neg b3 h
    refine u_aload_n g 0 dX11_grid_16 rfl ?_
    refine u_iload_n g 2 dX11_grid_17 rfl ?_
    refine u_iconst g (v := (1 : Int32)) dX11_grid_18 rfl ?_
    refine u_bipush g (v := (16 : Int32)) dX11_grid_19 rfl ?_
    obtain ⟨q6, hq7, h⟩ := ob_bind h
    refine u_callV (st := []) g wv_X11_97 [.int a2, .int (1 : Int32), .int (16 : Int32)] (show 0 < shY.1 by decide) ceY_0 rfl rfl (t_X11_in w x.2.1 hq7) (by decide) (by decide) rfl (Nat.le_of_ble_eq_true rfl) rfl dX11_grid_21 ?_
    show U shY w x r (sI M 0 5 (0 : Int32)) 24 [(0, .ref (w.2.2.1 0)), (1, .int a1), (2, .int a2), (3, .int a3)] [.int q6]
    refine u_if_ne g 33 dX11_grid_24 (by decide) (fun b8 => ?_) (fun b8 => ?_)
    · have h := ob_neg b8 h
      refine u_aload_n g 0 dX11_grid_33 rfl ?_
      refine u_iload_n g 3 dX11_grid_34 rfl ?_
      refine u_iload_n g 1 dX11_grid_35 rfl ?_
      refine u_iload_n g 2 dX11_grid_36 rfl ?_
      refine u_imul g dX11_grid_37 ?_
      obtain ⟨q9, hq10, h⟩ := ob_bind h
      refine u_callV (st := []) g wv_X11_152 [.int a3, .int (a1 * a2)] (show 0 < shY.1 by decide) ceY_0 rfl rfl (t_X11_areKeepers w x.2.1 hq10) (by decide) (by decide) rfl (Nat.le_of_ble_eq_true rfl) rfl dX11_grid_38 ?_
      show U shY w x r (sI M 0 5 (0 : Int32)) 41 [(0, .ref (w.2.2.1 0)), (1, .int a1), (2, .int a2), (3, .int a3)] [.int q9]
      refine u_if_ne g 50 dX11_grid_41 (by decide) (fun b11 => ?_) (fun b11 => ?_)
      · have h := ob_neg b11 h
        refine u_aload_n g 0 dX11_grid_50 rfl ?_
        refine u_iload_n g 1 dX11_grid_51 rfl ?_
        refine pfX11_27 g wf_X11_149 dX11_grid_52 ?_
        refine u_iconst g (v := (0 : Int32)) dX11_grid_55 rfl ?_
        refine u_istore g [(4, .int (0 : Int32)), (0, .ref (w.2.2.1 0)), (1, .int a1), (2, .int a2), (3, .int a3)] dX11_grid_56 (by decide) rfl ?_
        obtain ⟨q12, hq13, h⟩ := ob_bind h
        refine u_sub [1, 3, 4, 0] rfl (s_X11_grid_l1 g a2 a3 fuelN (0 : Int32) (sI (sI M 0 5 (0 : Int32)) 0 27 a1) _ hq13 ?_)
        show U shY w x r q12 94 [(0, .ref (w.2.2.1 0))] []
        refine u_aload_n g 0 dX11_grid_94 rfl ?_
        obtain ⟨q14, hq15, h⟩ := ob_bind h
        refine u_callV (st := []) g wv_X11_156 [] (show 0 < shY.1 by decide) ceY_0 rfl rfl (t_X11_comeRows w x.2.1 hq15) (by decide) (by decide) rfl (Nat.le_of_ble_eq_true rfl) rfl dX11_grid_95 ?_
        show U shY w x r q14 98 [(0, .ref (w.2.2.1 0))] []
        refine u_aload_n g 0 dX11_grid_98 rfl ?_
        refine u_iconst g (v := (2 : Int32)) dX11_grid_99 rfl ?_
        obtain ⟨q16, hq17, h⟩ := ob_bind h
        refine u_callV (st := []) g wv_X11_143 [.int (2 : Int32)] (show 0 < shY.1 by decide) ceY_0 rfl rfl (t_X11_made w x.2.1 hq17) (by decide) (by decide) rfl (Nat.le_of_ble_eq_true rfl) rfl dX11_grid_100 ?_
        show U shY w x r q16.2 103 [(0, .ref (w.2.2.1 0))] [.int q16.1]
        exact u_iret g dX11_grid_103 (by rw [← hr]; obtain rfl := Option.some.inj h; rfl)
      · have h := ob_pos b11 h
        refine u_aload_n g 0 dX11_grid_44 rfl ?_
        refine u_iconst g (v := (1 : Int32)) dX11_grid_45 rfl ?_
        obtain ⟨q18, hq19, h⟩ := ob_bind h
        refine u_callV (st := []) g wv_X11_115 [.int (1 : Int32)] (show 0 < shY.1 by decide) ceY_0 rfl rfl (t_X11_no w x.2.1 hq19) (by decide) (by decide) rfl (Nat.le_of_ble_eq_true rfl) rfl dX11_grid_46 ?_
        show U shY w x r q18.2 49 [(0, .ref (w.2.2.1 0)), (1, .int a1), (2, .int a2), (3, .int a3)] [.int q18.1]
        exact u_iret g dX11_grid_49 (by rw [← hr]; obtain rfl := Option.some.inj h; rfl)
    · have h := ob_pos b8 h
      refine u_aload_n g 0 dX11_grid_27 rfl ?_
      refine u_iconst g (v := (2 : Int32)) dX11_grid_28 rfl ?_
      obtain ⟨q20, hq21, h⟩ := ob_bind h
      refine u_callV (st := []) g wv_X11_115 [.int (2 : Int32)] (show 0 < shY.1 by decide) ceY_0 rfl rfl (t_X11_no w x.2.1 hq21) (by decide) (by decide) rfl (Nat.le_of_ble_eq_true rfl) rfl dX11_grid_29 ?_
      show U shY w x r q20.2 32 [(0, .ref (w.2.2.1 0)), (1, .int a1), (2, .int a2), (3, .int a3)] [.int q20.1]
      exact u_iret g dX11_grid_32 (by rw [← hr]; obtain rfl := Option.some.inj h; rfl)
set_option maxRecDepth 100000 in
set_option maxHeartbeats 4000000 in
theorem s_X11_wall_l1 {w : Wp} {x : Cx} {r : Option Value × Mem} (g : Gd shY w x RX11 cX11_wall 11 (some .int) 3) (a1 : Int32) (a2 : Int32) (a3 : Int32) (a4 : Int32) (a5 : Int32) (a6 : Int32)  : ∀ (n : Nat) (v7 : Int32) (v8 : Int32) (v9 : Int32) (M : Mem) (q : (Int32 × Mem) ⊕ (Int32 × Mem)), f_X11_wall_l1 a1 a2 a3 a4 a5 a6 n v7 v8 v9 M = some q → (∀ e : Int32 × Mem, q = .inl e → U shY w x r e.2 167 [(0, .ref (w.2.2.1 0)), (1, .int a1), (7, .int e.1)] []) → (∀ v : Int32 × Mem, q = .inr v → r = (some (.int v.1), v.2)) → U shY w x r M 19 [(0, .ref (w.2.2.1 0)), (1, .int a1), (2, .int a2), (3, .int a3), (4, .int a4), (5, .int a5), (6, .int a6), (7, .int v7), (8, .int v8), (9, .int v9)] [] := by
  intro n
  induction n with
  | zero => intro v7 v8 v9 M q h K1 K2; rw [f_X11_wall_l1] at h; cases h
  | succ n ih =>
    intro v7 v8 v9 M q h K1 K2
    rw [f_X11_wall_l1] at h
    refine u_iload g 9 dX11_wall_19 rfl ?_
    refine u_iconst g (v := (5 : Int32)) dX11_wall_21 rfl ?_
    refine u_icmp_ge g 167 dX11_wall_22 (by decide) (fun b1 => ?_) (fun b1 => ?_)
    · have h := ob_pos b1 h
      exact u_sub [0, 1, 7] rfl (K1 _ (Option.some.inj h).symm)
    · have h := ob_neg b1 h
      refine u_iload g 9 dX11_wall_25 rfl ?_
      obtain ⟨q2, hq3, h⟩ := ob_bind h
      have K4 : U shY w x r M 68 [(0, .ref (w.2.2.1 0)), (1, .int a1), (2, .int a2), (3, .int a3), (4, .int a4), (5, .int a5), (6, .int a6), (7, .int v7), (8, .int v8), (9, .int v9)] [.int q2] := by
        refine u_istore g [(10, .int q2), (0, .ref (w.2.2.1 0)), (1, .int a1), (2, .int a2), (3, .int a3), (4, .int a4), (5, .int a5), (6, .int a6), (7, .int v7), (8, .int v8), (9, .int v9)] dX11_wall_68 (by decide) rfl ?_
        refine u_aload_n g 1 dX11_wall_70 rfl ?_
        refine u_iload g 0 dX11_wall_71 rfl ?_
        refine u_iload g 10 dX11_wall_73 rfl ?_
        obtain ⟨q5, hq6, h⟩ := ob_bind h
        have K7 : U shY w x r M 83 [(0, .ref (w.2.2.1 0)), (1, .int a1), (2, .int a2), (3, .int a3), (4, .int a4), (5, .int a5), (6, .int a6), (7, .int v7), (8, .int v8), (9, .int v9), (10, .int q2)] [.int q5, .int q2, .ref (w.2.2.1 0)] := by
          refine u_bipush g (v := (16 : Int32)) dX11_wall_83 rfl ?_
          obtain ⟨q8, hq9, h⟩ := ob_bind h
          refine u_callV (st := []) g wv_X11_97 [.int q2, .int q5, .int (16 : Int32)] (show 0 < shY.1 by decide) ceY_0 rfl rfl (t_X11_in w x.2.1 hq9) (by decide) (by decide) rfl (Nat.le_of_ble_eq_true rfl) rfl dX11_wall_85 ?_
          show U shY w x r M 88 [(0, .ref (w.2.2.1 0)), (1, .int a1), (2, .int a2), (3, .int a3), (4, .int a4), (5, .int a5), (6, .int a6), (7, .int v7), (8, .int v8), (9, .int v9), (10, .int q2)] [.int q8]
          refine u_if_ne g 97 dX11_wall_88 (by decide) (fun b10 => ?_) (fun b10 => ?_)
          · have h := ob_neg b10 h
            refine u_iload g 8 dX11_wall_97 rfl ?_
            obtain ⟨q11, hq12, h⟩ := ob_bind h
            have K13 : U shY w x r M 112 [(0, .ref (w.2.2.1 0)), (1, .int a1), (2, .int a2), (3, .int a3), (4, .int a4), (5, .int a5), (6, .int a6), (7, .int v7), (9, .int v9), (10, .int q2)] [.int q11] := by
              refine u_istore g [(8, .int q11), (0, .ref (w.2.2.1 0)), (1, .int a1), (2, .int a2), (3, .int a3), (4, .int a4), (5, .int a5), (6, .int a6), (7, .int v7), (9, .int v9), (10, .int q2)] dX11_wall_112 (by decide) rfl ?_
              refine u_iload g 0 dX11_wall_114 rfl ?_
              obtain ⟨q14, hq15, h⟩ := ob_bind h
              have K16 : U shY w x r q14.2 161 [(0, .ref (w.2.2.1 0)), (1, .int a1), (2, .int a2), (3, .int a3), (4, .int a4), (5, .int a5), (6, .int a6), (7, .int q14.1), (8, .int q11), (9, .int v9)] [] := by
                refine u_iinc g 9 [(9, .int (v9 + (1 : Int32))), (0, .ref (w.2.2.1 0)), (1, .int a1), (2, .int a2), (3, .int a3), (4, .int a4), (5, .int a5), (6, .int a6), (7, .int q14.1), (8, .int q11)] dX11_wall_161 rfl rfl (by decide) rfl ?_
                refine u_goto g 19 dX11_wall_164 (by decide) ?_
                exact u_sub [1, 2, 3, 4, 5, 6, 7, 8, 9, 0] rfl (ih q14.1 q11 (v9 + (1 : Int32)) q14.2 _ h K1 K2)
              have h := hq15
              refine u_if_ne g 122 dX11_wall_116 (by decide) (fun b17 => ?_) (fun b17 => ?_)
              · have h := ob_neg b17 h
                refine u_aload_n g 1 dX11_wall_122 rfl ?_
                refine gfX11_25 g wf_X11_60 dX11_wall_123 ?_
                refine u_aload_n g 1 dX11_wall_126 rfl ?_
                refine gfX11_27 g wf_X11_149 (v := (M.1 0 27)) rfl dX11_wall_127 ?_
                refine u_iload g 8 dX11_wall_130 rfl ?_
                obtain ⟨e18, h⟩ := ob_if h
                refine aY_ist g (c := 17) 17 (by decide) rfl (inB_in e18) (j := (M.1 0 27).toNatClampNeg) rfl dX11_wall_132 ?_
                refine u_aload_n g 1 dX11_wall_133 rfl ?_
                refine gfX11_26 g wf_X11_63 dX11_wall_134 ?_
                refine u_aload_n g 1 dX11_wall_137 rfl ?_
                refine gfX11_27 g wf_X11_149 (v := (M.1 0 27)) rfl dX11_wall_138 ?_
                refine u_iload g 10 dX11_wall_141 rfl ?_
                obtain ⟨e19, h⟩ := ob_if h
                refine aY_ist g (c := 18) 17 (by decide) rfl (inB_in e19) (j := (M.1 0 27).toNatClampNeg) rfl dX11_wall_143 ?_
                refine u_aload_n g 1 dX11_wall_144 rfl ?_
                refine u_dup g dX11_wall_145 rfl ?_
                refine gfX11_27 g wf_X11_149 (v := (M.1 0 27)) rfl dX11_wall_146 ?_
                refine u_iconst g (v := (1 : Int32)) dX11_wall_149 rfl ?_
                refine u_iadd g dX11_wall_150 ?_
                refine pfX11_27 g wf_X11_149 dX11_wall_151 ?_
                refine u_iload g 8 dX11_wall_154 rfl ?_
                refine u_iload g 10 dX11_wall_156 rfl ?_
                refine u_iadd g dX11_wall_158 ?_
                refine u_istore g [(7, .int (v7 + q2)), (8, .int q11), (0, .ref (w.2.2.1 0)), (1, .int a1), (2, .int a2), (3, .int a3), (4, .int a4), (5, .int a5), (6, .int a6), (9, .int v9), (10, .int q2)] dX11_wall_159 (by decide) rfl ?_
                obtain rfl := Option.some.inj h
                exact u_sub [2, 3, 4, 5, 6, 7, 8, 0, 1, 9] rfl K16
              · have h := ob_pos b17 h
                refine u_goto g 161 dX11_wall_119 (by decide) ?_
                obtain rfl := Option.some.inj h
                exact u_sub [1, 2, 3, 4, 5, 6, 7, 8, 0, 9] rfl K16
            have h := hq12
            refine u_if_eq g 111 dX11_wall_99 (by decide) (fun b20 => ?_) (fun b20 => ?_)
            · have h := ob_pos b20 h
              refine u_iconst g (v := (0 : Int32)) dX11_wall_111 rfl ?_
              obtain rfl := Option.some.inj h
              exact u_sub [0, 1, 2, 3, 4, 5, 6, 7, 9, 10] rfl K13
            · have h := ob_neg b20 h
              refine u_iload g 10 dX11_wall_102 rfl ?_
              refine u_if_le g 111 dX11_wall_104 (by decide) (fun b21 => ?_) (fun b21 => ?_)
              · have h := ob_pos b21 h
                refine u_iconst g (v := (0 : Int32)) dX11_wall_111 rfl ?_
                obtain rfl := Option.some.inj h
                exact u_sub [0, 1, 2, 3, 4, 5, 6, 7, 9, 10] rfl K13
              · have h := ob_neg b21 h
                refine u_iconst g (v := (1 : Int32)) dX11_wall_107 rfl ?_
                refine u_goto g 112 dX11_wall_108 (by decide) ?_
                obtain rfl := Option.some.inj h
                exact u_sub [0, 1, 2, 3, 4, 5, 6, 7, 9, 10] rfl K13
          · have h := ob_pos b10 h
            refine u_aload_n g 0 dX11_wall_91 rfl ?_
            refine u_iconst g (v := (2 : Int32)) dX11_wall_92 rfl ?_
            obtain ⟨q22, hq23, h⟩ := ob_bind h
            refine u_callV (st := []) g wv_X11_115 [.int (2 : Int32)] (show 0 < shY.1 by decide) ceY_0 rfl rfl (t_X11_no w x.2.1 hq23) (by decide) (by decide) rfl (Nat.le_of_ble_eq_true rfl) rfl dX11_wall_93 ?_
            show U shY w x r q22.2 96 [(0, .ref (w.2.2.1 0)), (1, .int a1), (2, .int a2), (3, .int a3), (4, .int a4), (5, .int a5), (6, .int a6), (7, .int v7), (8, .int v8), (9, .int v9), (10, .int q2)] [.int q22.1]
            exact u_iret g dX11_wall_96 (K2 _ (Option.some.inj h).symm)
        have h := hq6
        refine u_if_ne g 82 dX11_wall_75 (by decide) (fun b24 => ?_) (fun b24 => ?_)
        · have h := ob_neg b24 h
          refine u_iconst g (v := (0 : Int32)) dX11_wall_82 rfl ?_
          obtain rfl := Option.some.inj h
          exact u_sub [1, 2, 3, 4, 5, 6, 7, 8, 9, 10, 0] rfl K7
        · have h := ob_pos b24 h
          refine u_iconst g (v := (1 : Int32)) dX11_wall_78 rfl ?_
          refine u_goto g 83 dX11_wall_79 (by decide) ?_
          obtain rfl := Option.some.inj h
          exact u_sub [1, 2, 3, 4, 5, 6, 7, 8, 9, 10, 0] rfl K7
      have h := hq3
      refine u_if_ne g 34 dX11_wall_27 (by decide) (fun b25 => ?_) (fun b25 => ?_)
      · have h := ob_neg b25 h
        refine u_iload g 9 dX11_wall_34 rfl ?_
        refine u_iconst g (v := (1 : Int32)) dX11_wall_36 rfl ?_
        refine u_icmp_ne g 44 dX11_wall_37 (by decide) (fun b26 => ?_) (fun b26 => ?_)
        · have h := ob_neg b26 h
          refine u_iload g 9 dX11_wall_44 rfl ?_
          refine u_iconst g (v := (2 : Int32)) dX11_wall_46 rfl ?_
          refine u_icmp_ne g 55 dX11_wall_47 (by decide) (fun b27 => ?_) (fun b27 => ?_)
          · have h := ob_neg b27 h
            refine u_iload g 9 dX11_wall_55 rfl ?_
            refine u_iconst g (v := (3 : Int32)) dX11_wall_57 rfl ?_
            refine u_icmp_ne g 66 dX11_wall_58 (by decide) (fun b28 => ?_) (fun b28 => ?_)
            · have h := ob_neg b28 h
              refine u_iload g 6 dX11_wall_66 rfl ?_
              obtain rfl := Option.some.inj h
              exact u_sub [0, 1, 2, 3, 4, 5, 6, 7, 8, 9] rfl K4
            · have h := ob_pos b28 h
              refine u_iload g 5 dX11_wall_61 rfl ?_
              refine u_goto g 68 dX11_wall_63 (by decide) ?_
              obtain rfl := Option.some.inj h
              exact u_sub [0, 1, 2, 3, 4, 5, 6, 7, 8, 9] rfl K4
          · have h := ob_pos b27 h
            refine u_iload g 4 dX11_wall_50 rfl ?_
            refine u_goto g 68 dX11_wall_52 (by decide) ?_
            obtain rfl := Option.some.inj h
            exact u_sub [0, 1, 2, 3, 4, 5, 6, 7, 8, 9] rfl K4
        · have h := ob_pos b26 h
          refine u_iload_n g 3 dX11_wall_40 rfl ?_
          refine u_goto g 68 dX11_wall_41 (by decide) ?_
          obtain rfl := Option.some.inj h
          exact u_sub [0, 1, 2, 3, 4, 5, 6, 7, 8, 9] rfl K4
      · have h := ob_pos b25 h
        refine u_iload_n g 2 dX11_wall_30 rfl ?_
        refine u_goto g 68 dX11_wall_31 (by decide) ?_
        obtain rfl := Option.some.inj h
        exact u_sub [0, 1, 2, 3, 4, 5, 6, 7, 8, 9] rfl K4
set_option maxRecDepth 100000 in
set_option maxHeartbeats 4000000 in
theorem s_X11_wall_l2 {w : Wp} {x : Cx} {r : Option Value × Mem} (g : Gd shY w x RX11 cX11_wall 11 (some .int) 3) (a1 : Int32)  : ∀ (n : Nat) (v9 : Int32) (M : Mem) (q : Mem), f_X11_wall_l2 a1 n v9 M = some q → U shY w x r q 212 [(0, .ref (w.2.2.1 0))] [] → U shY w x r M 186 [(0, .ref (w.2.2.1 0)), (1, .int a1), (9, .int v9)] [] := by
  intro n
  induction n with
  | zero => intro v9 M q h K; rw [f_X11_wall_l2] at h; cases h
  | succ n ih =>
    intro v9 M q h K
    rw [f_X11_wall_l2] at h
    refine u_iload g 2 dX11_wall_186 rfl ?_
    refine u_aload_n g 0 dX11_wall_188 rfl ?_
    refine gfX11_27 g wf_X11_149 (v := (M.1 0 27)) rfl dX11_wall_189 ?_
    refine u_icmp_ge g 212 dX11_wall_192 (by decide) (fun b9 => ?_) (fun b9 => ?_)
    · have h := ob_pos b9 h
      obtain rfl := Option.some.inj h
      exact u_sub [0] rfl K
    · have h := ob_neg b9 h
      refine u_aload_n g 0 dX11_wall_195 rfl ?_
      refine gfX11_25 g wf_X11_60 dX11_wall_196 ?_
      refine u_iload g 2 dX11_wall_199 rfl ?_
      refine u_dup2 g dX11_wall_201 rfl rfl ?_
      obtain ⟨e10, h⟩ := ob_if h
      refine aY_ild g (c := 17) 17 (by decide) rfl (v := (M.1 17 v9.toNatClampNeg)) (inB_in e10) rfl dX11_wall_202 ?_
      refine u_iload_n g 1 dX11_wall_203 rfl ?_
      refine u_iadd g dX11_wall_204 ?_
      obtain ⟨e11, h⟩ := ob_if h
      refine aY_ist g (c := 17) 17 (by decide) rfl (inB_in e11) (j := v9.toNatClampNeg) rfl dX11_wall_205 ?_
      refine u_iinc g 2 [(9, .int (v9 + (1 : Int32))), (0, .ref (w.2.2.1 0)), (1, .int a1)] dX11_wall_206 rfl rfl (by decide) rfl ?_
      refine u_goto g 186 dX11_wall_209 (by decide) ?_
      exact u_sub [1, 2, 0] rfl (ih (v9 + (1 : Int32)) (sI M 17 v9.toNatClampNeg ((M.1 17 v9.toNatClampNeg) + a1)) _ h K)
set_option maxRecDepth 100000 in
set_option maxHeartbeats 4000000 in
theorem t_X11_wall (w : Wp) (l : Launch) {a1 : Int32} {a2 : Int32} {a3 : Int32} {a4 : Int32} {a5 : Int32} {a6 : Int32} {M : Mem} {q : Int32 × Mem} (h : f_X11_wall a1 a2 a3 a4 a5 a6 M = some q) : Ct shY w l yX11_wall cX11_wall 11 (some .int) 3 [.ref (w.2.2.1 0), .int a1, .int a2, .int a3, .int a4, .int a5, .int a6] M (some (.int q.1), q.2) := by
  rw [f_X11_wall] at h
  refine ct_of shY_loc (by decide) (Nat.le_of_ble_eq_true rfl) rfl (fun x hx g => ?_)
  subst hx
  show U shY w x _ M 0 [(0, .ref (w.2.2.1 0)), (1, .int a1), (2, .int a2), (3, .int a3), (4, .int a4), (5, .int a5), (6, .int a6)] []
  generalize hr : ((some (.int q.1), q.2) : Option Value × Mem) = r
  have g : Gd shY w x RX11 cX11_wall 11 (some .int) 3 := g
  refine u_aload_n g 0 dX11_wall_0 rfl ?_
  refine u_iconst g (v := (0 : Int32)) dX11_wall_1 rfl ?_
  refine pfX11_5 g wf_X11_84 dX11_wall_2 ?_
  refine u_aload_n g 0 dX11_wall_5 rfl ?_
  refine u_iconst g (v := (0 : Int32)) dX11_wall_6 rfl ?_
  refine pfX11_27 g wf_X11_149 dX11_wall_7 ?_
  refine u_iconst g (v := (0 : Int32)) dX11_wall_10 rfl ?_
  refine u_istore g [(7, .int (0 : Int32)), (0, .ref (w.2.2.1 0)), (1, .int a1), (2, .int a2), (3, .int a3), (4, .int a4), (5, .int a5), (6, .int a6)] dX11_wall_11 (by decide) rfl ?_
  refine u_iconst g (v := (1 : Int32)) dX11_wall_13 rfl ?_
  refine u_istore g [(8, .int (1 : Int32)), (7, .int (0 : Int32)), (0, .ref (w.2.2.1 0)), (1, .int a1), (2, .int a2), (3, .int a3), (4, .int a4), (5, .int a5), (6, .int a6)] dX11_wall_14 (by decide) rfl ?_
  refine u_iconst g (v := (0 : Int32)) dX11_wall_16 rfl ?_
  refine u_istore g [(9, .int (0 : Int32)), (8, .int (1 : Int32)), (7, .int (0 : Int32)), (0, .ref (w.2.2.1 0)), (1, .int a1), (2, .int a2), (3, .int a3), (4, .int a4), (5, .int a5), (6, .int a6)] dX11_wall_17 (by decide) rfl ?_
  obtain ⟨q1, hq2, h⟩ := ob_bind h
  refine u_sub [3, 4, 5, 6, 7, 8, 9, 2, 1, 0] rfl (s_X11_wall_l1 g a1 a2 a3 a4 a5 a6 fuelN (0 : Int32) (1 : Int32) (0 : Int32) (sI (sI M 0 5 (0 : Int32)) 0 27 (0 : Int32)) _ hq2 (fun e3 he5 => ?_) (fun v4 he5 => ?_))
  · subst he5
    have h := ob_inl h
    refine u_aload_n g 0 dX11_wall_167 rfl ?_
    refine u_iload_n g 1 dX11_wall_168 rfl ?_
    refine u_iload g 2 dX11_wall_169 rfl ?_
    obtain ⟨q6, hq7, h⟩ := ob_bind h
    refine u_callV (st := []) g wv_X11_152 [.int a1, .int e3.1] (show 0 < shY.1 by decide) ceY_0 rfl rfl (t_X11_areKeepers w x.2.1 hq7) (by decide) (by decide) rfl (Nat.le_of_ble_eq_true rfl) rfl dX11_wall_171 ?_
    show U shY w x r e3.2 174 [(0, .ref (w.2.2.1 0)), (1, .int a1), (7, .int e3.1)] [.int q6]
    refine u_if_ne g 183 dX11_wall_174 (by decide) (fun b8 => ?_) (fun b8 => ?_)
    · have h := ob_neg b8 h
      refine u_iconst g (v := (0 : Int32)) dX11_wall_183 rfl ?_
      refine u_istore g [(9, .int (0 : Int32)), (0, .ref (w.2.2.1 0)), (1, .int a1), (7, .int e3.1)] dX11_wall_184 (by decide) rfl ?_
      obtain ⟨q9, hq10, h⟩ := ob_bind h
      refine u_sub [1, 2, 0] rfl (s_X11_wall_l2 g a1 fuelN (0 : Int32) e3.2 _ hq10 ?_)
      show U shY w x r q9 212 [(0, .ref (w.2.2.1 0))] []
      refine u_aload_n g 0 dX11_wall_212 rfl ?_
      obtain ⟨q11, hq12, h⟩ := ob_bind h
      refine u_callV (st := []) g wv_X11_156 [] (show 0 < shY.1 by decide) ceY_0 rfl rfl (t_X11_comeRows w x.2.1 hq12) (by decide) (by decide) rfl (Nat.le_of_ble_eq_true rfl) rfl dX11_wall_213 ?_
      show U shY w x r q11 216 [(0, .ref (w.2.2.1 0))] []
      refine u_aload_n g 0 dX11_wall_216 rfl ?_
      refine u_iconst g (v := (3 : Int32)) dX11_wall_217 rfl ?_
      obtain ⟨q13, hq14, h⟩ := ob_bind h
      refine u_callV (st := []) g wv_X11_143 [.int (3 : Int32)] (show 0 < shY.1 by decide) ceY_0 rfl rfl (t_X11_made w x.2.1 hq14) (by decide) (by decide) rfl (Nat.le_of_ble_eq_true rfl) rfl dX11_wall_218 ?_
      show U shY w x r q13.2 221 [(0, .ref (w.2.2.1 0))] [.int q13.1]
      exact u_iret g dX11_wall_221 (by rw [← hr]; obtain rfl := Option.some.inj h; rfl)
    · have h := ob_pos b8 h
      refine u_aload_n g 0 dX11_wall_177 rfl ?_
      refine u_iconst g (v := (1 : Int32)) dX11_wall_178 rfl ?_
      obtain ⟨q15, hq16, h⟩ := ob_bind h
      refine u_callV (st := []) g wv_X11_115 [.int (1 : Int32)] (show 0 < shY.1 by decide) ceY_0 rfl rfl (t_X11_no w x.2.1 hq16) (by decide) (by decide) rfl (Nat.le_of_ble_eq_true rfl) rfl dX11_wall_179 ?_
      show U shY w x r q15.2 182 [(0, .ref (w.2.2.1 0)), (1, .int a1), (7, .int e3.1)] [.int q15.1]
      exact u_iret g dX11_wall_182 (by rw [← hr]; obtain rfl := Option.some.inj h; rfl)
  · subst he5
    have h := ob_inr h
    obtain rfl := Option.some.inj h
    exact hr.symm
set_option maxRecDepth 100000 in
set_option maxHeartbeats 4000000 in
theorem t_X11_enoughs (w : Wp) (l : Launch) {a1 : Int32} {a2 : Int32} {M : Mem} {q : Mem} (h : f_X11_enoughs a1 a2 M = some q) : Ct shY w l yX11_enoughs cX11_enoughs 3 none 0 [.ref (w.2.2.1 0), .int a1, .int a2] M (none, q) := by
  rw [f_X11_enoughs] at h
  refine ct_of shY_loc (by decide) (Nat.le_of_ble_eq_true rfl) rfl (fun x hx g => ?_)
  subst hx
  show U shY w x _ M 0 [(0, .ref (w.2.2.1 0)), (1, .int a1), (2, .int a2)] []
  generalize hr : ((none, q) : Option Value × Mem) = r
  have g : Gd shY w x RX11 cX11_enoughs 3 none 0 := g
  refine u_aload_n g 0 dX11_enoughs_0 rfl ?_
  refine gfX11_29 g wf_X11_69 dX11_enoughs_1 ?_
  refine u_sipush g (v := (256 : Int32)) dX11_enoughs_4 rfl ?_
  refine u_iload_n g 1 dX11_enoughs_7 rfl ?_
  refine u_imul g dX11_enoughs_8 ?_
  refine u_aload_n g 0 dX11_enoughs_9 rfl ?_
  refine gfX11_30 g wf_X11_72 dX11_enoughs_10 ?_
  refine u_iload_n g 1 dX11_enoughs_13 rfl ?_
  obtain ⟨e1, h⟩ := ob_if h
  refine aY_ild g (c := 21) 16 (by decide) rfl (v := (M.1 21 a1.toNatClampNeg)) (inB_in e1) rfl dX11_enoughs_14 ?_
  refine u_iadd g dX11_enoughs_15 ?_
  refine u_iload_n g 2 dX11_enoughs_16 rfl ?_
  obtain ⟨e2, h⟩ := ob_if h
  refine aY_ist g (c := 20) 4096 (by decide) rfl (inB_in e2) (j := (((256 : Int32) * a1) + (M.1 21 a1.toNatClampNeg)).toNatClampNeg) rfl dX11_enoughs_17 ?_
  refine u_aload_n g 0 dX11_enoughs_18 rfl ?_
  refine gfX11_30 g wf_X11_72 dX11_enoughs_19 ?_
  refine u_iload_n g 1 dX11_enoughs_22 rfl ?_
  refine u_dup2 g dX11_enoughs_23 rfl rfl ?_
  obtain ⟨e3, h⟩ := ob_if h
  refine aY_ild g (c := 21) 16 (by decide) rfl (v := (M.1 21 a1.toNatClampNeg)) (inB_in e3) rfl dX11_enoughs_24 ?_
  refine u_iconst g (v := (1 : Int32)) dX11_enoughs_25 rfl ?_
  refine u_iadd g dX11_enoughs_26 ?_
  obtain ⟨e4, h⟩ := ob_if h
  refine aY_ist g (c := 21) 16 (by decide) rfl (inB_in e4) (j := a1.toNatClampNeg) rfl dX11_enoughs_27 ?_
  exact u_vret g dX11_enoughs_28 (by rw [← hr]; obtain rfl := Option.some.inj h; rfl)
set_option maxRecDepth 100000 in
set_option maxHeartbeats 4000000 in
theorem s_X11_tree_l2 {w : Wp} {x : Cx} {r : Option Value × Mem} (g : Gd shY w x RX11 cX11_tree 10 (some .int) 3) (a2 : Int32) (a3 : Int32) (a4 : Int32) (a5 : Int32) (a6 : Int32) (a7 : Int32)  : ∀ (n : Nat) (v8 : Int32) (M : Mem) (q : Mem), f_X11_tree_l2 a2 a3 a4 a5 a6 a7 n v8 M = some q → U shY w x r q 143 [(0, .ref (w.2.2.1 0)), (2, .int a2), (3, .int a3), (4, .int a4), (5, .int a5), (6, .int a6), (7, .int a7)] [] → U shY w x r M 102 [(0, .ref (w.2.2.1 0)), (2, .int a2), (3, .int a3), (4, .int a4), (5, .int a5), (6, .int a6), (7, .int a7), (8, .int v8)] [] := by
  intro n
  induction n with
  | zero => intro v8 M q h K; rw [f_X11_tree_l2] at h; cases h
  | succ n ih =>
    intro v8 M q h K
    rw [f_X11_tree_l2] at h
    refine u_iload g 7 dX11_tree_102 rfl ?_
    refine u_aload_n g 0 dX11_tree_104 rfl ?_
    refine gfX11_30 g wf_X11_72 dX11_tree_105 ?_
    refine u_iload g 5 dX11_tree_108 rfl ?_
    obtain ⟨e10, h⟩ := ob_if h
    refine aY_ild g (c := 21) 16 (by decide) rfl (v := (M.1 21 a6.toNatClampNeg)) (inB_in e10) rfl dX11_tree_110 ?_
    refine u_icmp_ge g 143 dX11_tree_111 (by decide) (fun b11 => ?_) (fun b11 => ?_)
    · have h := ob_pos b11 h
      obtain rfl := Option.some.inj h
      exact u_sub [0, 1, 2, 3, 4, 5, 6] rfl K
    · have h := ob_neg b11 h
      refine u_aload_n g 0 dX11_tree_114 rfl ?_
      refine u_iload g 3 dX11_tree_115 rfl ?_
      refine u_iload g 4 dX11_tree_117 rfl ?_
      refine u_aload_n g 0 dX11_tree_119 rfl ?_
      refine gfX11_29 g wf_X11_69 dX11_tree_120 ?_
      refine u_sipush g (v := (256 : Int32)) dX11_tree_123 rfl ?_
      refine u_iload g 5 dX11_tree_126 rfl ?_
      refine u_imul g dX11_tree_128 ?_
      refine u_iload g 7 dX11_tree_129 rfl ?_
      refine u_iadd g dX11_tree_131 ?_
      obtain ⟨e12, h⟩ := ob_if h
      refine aY_ild g (c := 20) 4096 (by decide) rfl (v := (M.1 20 (((256 : Int32) * a6) + v8).toNatClampNeg)) (inB_in e12) rfl dX11_tree_132 ?_
      refine u_ior g dX11_tree_133 ?_
      obtain ⟨q13, hq14, h⟩ := ob_bind h
      refine u_callV (st := []) g wv_X11_159 [.int a4, .int (a5 ||| (M.1 20 (((256 : Int32) * a6) + v8).toNatClampNeg))] (show 0 < shY.1 by decide) ceY_0 rfl rfl (t_X11_enoughs w x.2.1 hq14) (by decide) (by decide) rfl (Nat.le_of_ble_eq_true rfl) rfl dX11_tree_134 ?_
      show U shY w x r q13 137 [(0, .ref (w.2.2.1 0)), (2, .int a2), (3, .int a3), (4, .int a4), (5, .int a5), (6, .int a6), (7, .int a7), (8, .int v8)] []
      refine u_iinc g 7 [(8, .int (v8 + (1 : Int32))), (0, .ref (w.2.2.1 0)), (2, .int a2), (3, .int a3), (4, .int a4), (5, .int a5), (6, .int a6), (7, .int a7)] dX11_tree_137 rfl rfl (by decide) rfl ?_
      refine u_goto g 102 dX11_tree_140 (by decide) ?_
      exact u_sub [1, 2, 3, 4, 5, 6, 7, 0] rfl (ih (v8 + (1 : Int32)) q13 _ h K)
set_option maxRecDepth 100000 in
set_option maxHeartbeats 4000000 in
theorem s_X11_tree_l3 {w : Wp} {x : Cx} {r : Option Value × Mem} (g : Gd shY w x RX11 cX11_tree 10 (some .int) 3) (a2 : Int32) (a3 : Int32) (a4 : Int32) (a5 : Int32) (a6 : Int32) (a7 : Int32)  : ∀ (n : Nat) (v8 : Int32) (M : Mem) (q : Mem), f_X11_tree_l3 a2 a3 a4 a5 a6 a7 n v8 M = some q → U shY w x r q 187 [(0, .ref (w.2.2.1 0)), (2, .int a2), (3, .int a3), (4, .int a4), (6, .int a6), (7, .int a7)] [] → U shY w x r M 146 [(0, .ref (w.2.2.1 0)), (2, .int a2), (3, .int a3), (4, .int a4), (5, .int a5), (6, .int a6), (7, .int a7), (8, .int v8)] [] := by
  intro n
  induction n with
  | zero => intro v8 M q h K; rw [f_X11_tree_l3] at h; cases h
  | succ n ih =>
    intro v8 M q h K
    rw [f_X11_tree_l3] at h
    refine u_iload g 7 dX11_tree_146 rfl ?_
    refine u_aload_n g 0 dX11_tree_148 rfl ?_
    refine gfX11_30 g wf_X11_72 dX11_tree_149 ?_
    refine u_iload g 6 dX11_tree_152 rfl ?_
    obtain ⟨e12, h⟩ := ob_if h
    refine aY_ild g (c := 21) 16 (by decide) rfl (v := (M.1 21 a7.toNatClampNeg)) (inB_in e12) rfl dX11_tree_154 ?_
    refine u_icmp_ge g 187 dX11_tree_155 (by decide) (fun b13 => ?_) (fun b13 => ?_)
    · have h := ob_pos b13 h
      obtain rfl := Option.some.inj h
      exact u_sub [0, 1, 2, 3, 5, 6] rfl K
    · have h := ob_neg b13 h
      refine u_aload_n g 0 dX11_tree_158 rfl ?_
      refine u_iload g 3 dX11_tree_159 rfl ?_
      refine u_iload g 4 dX11_tree_161 rfl ?_
      refine u_aload_n g 0 dX11_tree_163 rfl ?_
      refine gfX11_29 g wf_X11_69 dX11_tree_164 ?_
      refine u_sipush g (v := (256 : Int32)) dX11_tree_167 rfl ?_
      refine u_iload g 6 dX11_tree_170 rfl ?_
      refine u_imul g dX11_tree_172 ?_
      refine u_iload g 7 dX11_tree_173 rfl ?_
      refine u_iadd g dX11_tree_175 ?_
      obtain ⟨e14, h⟩ := ob_if h
      refine aY_ild g (c := 20) 4096 (by decide) rfl (v := (M.1 20 (((256 : Int32) * a7) + v8).toNatClampNeg)) (inB_in e14) rfl dX11_tree_176 ?_
      refine u_ior g dX11_tree_177 ?_
      obtain ⟨q15, hq16, h⟩ := ob_bind h
      refine u_callV (st := []) g wv_X11_159 [.int a4, .int (a5 ||| (M.1 20 (((256 : Int32) * a7) + v8).toNatClampNeg))] (show 0 < shY.1 by decide) ceY_0 rfl rfl (t_X11_enoughs w x.2.1 hq16) (by decide) (by decide) rfl (Nat.le_of_ble_eq_true rfl) rfl dX11_tree_178 ?_
      show U shY w x r q15 181 [(0, .ref (w.2.2.1 0)), (2, .int a2), (3, .int a3), (4, .int a4), (5, .int a5), (6, .int a6), (7, .int a7), (8, .int v8)] []
      refine u_iinc g 7 [(8, .int (v8 + (1 : Int32))), (0, .ref (w.2.2.1 0)), (2, .int a2), (3, .int a3), (4, .int a4), (5, .int a5), (6, .int a6), (7, .int a7)] dX11_tree_181 rfl rfl (by decide) rfl ?_
      refine u_goto g 146 dX11_tree_184 (by decide) ?_
      exact u_sub [1, 2, 3, 4, 5, 6, 7, 0] rfl (ih (v8 + (1 : Int32)) q15 _ h K)
set_option maxRecDepth 100000 in
set_option maxHeartbeats 4000000 in
theorem s_X11_tree_l5 {w : Wp} {x : Cx} {r : Option Value × Mem} (g : Gd shY w x RX11 cX11_tree 10 (some .int) 3) (a2 : Int32) (a3 : Int32) (a4 : Int32) (a6 : Int32) (a7 : Int32) (a8 : Int32)  : ∀ (n : Nat) (v9 : Int32) (M : Mem) (q : Mem), f_X11_tree_l5 a2 a3 a4 a6 a7 a8 n v9 M = some q → U shY w x r q 258 [(0, .ref (w.2.2.1 0)), (2, .int a2), (3, .int a3), (4, .int a4), (6, .int a6), (7, .int a7), (8, .int a8)] [] → U shY w x r M 205 [(0, .ref (w.2.2.1 0)), (2, .int a2), (3, .int a3), (4, .int a4), (6, .int a6), (7, .int a7), (8, .int a8), (9, .int v9)] [] := by
  intro n
  induction n with
  | zero => intro v9 M q h K; rw [f_X11_tree_l5] at h; cases h
  | succ n ih =>
    intro v9 M q h K
    rw [f_X11_tree_l5] at h
    refine u_iload g 7 dX11_tree_205 rfl ?_
    refine u_aload_n g 0 dX11_tree_207 rfl ?_
    refine gfX11_30 g wf_X11_72 dX11_tree_208 ?_
    refine u_iload g 5 dX11_tree_211 rfl ?_
    obtain ⟨e16, h⟩ := ob_if h
    refine aY_ild g (c := 21) 16 (by decide) rfl (v := (M.1 21 a7.toNatClampNeg)) (inB_in e16) rfl dX11_tree_213 ?_
    refine u_icmp_ge g 258 dX11_tree_214 (by decide) (fun b17 => ?_) (fun b17 => ?_)
    · have h := ob_pos b17 h
      obtain rfl := Option.some.inj h
      exact u_sub [0, 1, 2, 3, 4, 5, 6] rfl K
    · have h := ob_neg b17 h
      refine u_aload_n g 0 dX11_tree_217 rfl ?_
      refine u_iload g 3 dX11_tree_218 rfl ?_
      refine u_aload_n g 0 dX11_tree_220 rfl ?_
      refine gfX11_29 g wf_X11_69 dX11_tree_221 ?_
      refine u_sipush g (v := (256 : Int32)) dX11_tree_224 rfl ?_
      refine u_iload g 4 dX11_tree_227 rfl ?_
      refine u_imul g dX11_tree_229 ?_
      refine u_iload g 6 dX11_tree_230 rfl ?_
      refine u_iadd g dX11_tree_232 ?_
      obtain ⟨e18, h⟩ := ob_if h
      refine aY_ild g (c := 20) 4096 (by decide) rfl (v := (M.1 20 (((256 : Int32) * a6) + a8).toNatClampNeg)) (inB_in e18) rfl dX11_tree_233 ?_
      refine u_aload_n g 0 dX11_tree_234 rfl ?_
      refine gfX11_29 g wf_X11_69 dX11_tree_235 ?_
      refine u_sipush g (v := (256 : Int32)) dX11_tree_238 rfl ?_
      refine u_iload g 5 dX11_tree_241 rfl ?_
      refine u_imul g dX11_tree_243 ?_
      refine u_iload g 7 dX11_tree_244 rfl ?_
      refine u_iadd g dX11_tree_246 ?_
      obtain ⟨e19, h⟩ := ob_if h
      refine aY_ild g (c := 20) 4096 (by decide) rfl (v := (M.1 20 (((256 : Int32) * a7) + v9).toNatClampNeg)) (inB_in e19) rfl dX11_tree_247 ?_
      refine u_ior g dX11_tree_248 ?_
      obtain ⟨q20, hq21, h⟩ := ob_bind h
      refine u_callV (st := []) g wv_X11_159 [.int a4, .int ((M.1 20 (((256 : Int32) * a6) + a8).toNatClampNeg) ||| (M.1 20 (((256 : Int32) * a7) + v9).toNatClampNeg))] (show 0 < shY.1 by decide) ceY_0 rfl rfl (t_X11_enoughs w x.2.1 hq21) (by decide) (by decide) rfl (Nat.le_of_ble_eq_true rfl) rfl dX11_tree_249 ?_
      show U shY w x r q20 252 [(0, .ref (w.2.2.1 0)), (2, .int a2), (3, .int a3), (4, .int a4), (6, .int a6), (7, .int a7), (8, .int a8), (9, .int v9)] []
      refine u_iinc g 7 [(9, .int (v9 + (1 : Int32))), (0, .ref (w.2.2.1 0)), (2, .int a2), (3, .int a3), (4, .int a4), (6, .int a6), (7, .int a7), (8, .int a8)] dX11_tree_252 rfl rfl (by decide) rfl ?_
      refine u_goto g 205 dX11_tree_255 (by decide) ?_
      exact u_sub [1, 2, 3, 4, 5, 6, 7, 0] rfl (ih (v9 + (1 : Int32)) q20 _ h K)
set_option maxRecDepth 100000 in
set_option maxHeartbeats 4000000 in
theorem s_X11_tree_l4 {w : Wp} {x : Cx} {r : Option Value × Mem} (g : Gd shY w x RX11 cX11_tree 10 (some .int) 3) (a2 : Int32) (a3 : Int32) (a4 : Int32) (a6 : Int32) (a7 : Int32)  : ∀ (n : Nat) (v8 : Int32) (M : Mem) (q : Mem), f_X11_tree_l4 a2 a3 a4 a6 a7 n v8 M = some q → U shY w x r q 264 [(0, .ref (w.2.2.1 0)), (2, .int a2), (3, .int a3), (4, .int a4)] [] → U shY w x r M 190 [(0, .ref (w.2.2.1 0)), (2, .int a2), (3, .int a3), (4, .int a4), (6, .int a6), (7, .int a7), (8, .int v8)] [] := by
  intro n
  induction n with
  | zero => intro v8 M q h K; rw [f_X11_tree_l4] at h; cases h
  | succ n ih =>
    intro v8 M q h K
    rw [f_X11_tree_l4] at h
    refine u_iload g 6 dX11_tree_190 rfl ?_
    refine u_aload_n g 0 dX11_tree_192 rfl ?_
    refine gfX11_30 g wf_X11_72 dX11_tree_193 ?_
    refine u_iload g 4 dX11_tree_196 rfl ?_
    obtain ⟨e14, h⟩ := ob_if h
    refine aY_ild g (c := 21) 16 (by decide) rfl (v := (M.1 21 a6.toNatClampNeg)) (inB_in e14) rfl dX11_tree_198 ?_
    refine u_icmp_ge g 264 dX11_tree_199 (by decide) (fun b15 => ?_) (fun b15 => ?_)
    · have h := ob_pos b15 h
      obtain rfl := Option.some.inj h
      exact u_sub [0, 1, 2, 3] rfl K
    · have h := ob_neg b15 h
      refine u_iconst g (v := (0 : Int32)) dX11_tree_202 rfl ?_
      refine u_istore g [(9, .int (0 : Int32)), (0, .ref (w.2.2.1 0)), (2, .int a2), (3, .int a3), (4, .int a4), (6, .int a6), (7, .int a7), (8, .int v8)] dX11_tree_203 (by decide) rfl ?_
      obtain ⟨q16, hq17, h⟩ := ob_bind h
      refine u_sub [1, 2, 3, 4, 5, 6, 7, 0] rfl (s_X11_tree_l5 g a2 a3 a4 a6 a7 v8 fuelN (0 : Int32) M _ hq17 ?_)
      show U shY w x r q16 258 [(0, .ref (w.2.2.1 0)), (2, .int a2), (3, .int a3), (4, .int a4), (6, .int a6), (7, .int a7), (8, .int v8)] []
      refine u_iinc g 6 [(8, .int (v8 + (1 : Int32))), (0, .ref (w.2.2.1 0)), (2, .int a2), (3, .int a3), (4, .int a4), (6, .int a6), (7, .int a7)] dX11_tree_258 rfl rfl (by decide) rfl ?_
      refine u_goto g 190 dX11_tree_261 (by decide) ?_
      exact u_sub [1, 2, 3, 4, 5, 6, 0] rfl (ih (v8 + (1 : Int32)) q16 _ h K)
set_option maxRecDepth 100000 in
set_option maxHeartbeats 4000000 in
theorem s_X11_tree_l1 {w : Wp} {x : Cx} {r : Option Value × Mem} (g : Gd shY w x RX11 cX11_tree 10 (some .int) 3) (a2 : Int32) (a3 : Int32)  : ∀ (n : Nat) (v4 : Int32) (M : Mem) (q : Mem), f_X11_tree_l1 a2 a3 n v4 M = some q → U shY w x r q 270 [(0, .ref (w.2.2.1 0))] [] → U shY w x r M 45 [(0, .ref (w.2.2.1 0)), (2, .int a2), (3, .int a3), (4, .int v4)] [] := by
  intro n
  induction n with
  | zero => intro v4 M q h K; rw [f_X11_tree_l1] at h; cases h
  | succ n ih =>
    intro v4 M q h K
    rw [f_X11_tree_l1] at h
    refine u_iload g 3 dX11_tree_45 rfl ?_
    refine u_if_le g 270 dX11_tree_47 (by decide) (fun b7 => ?_) (fun b7 => ?_)
    · have h := ob_pos b7 h
      obtain rfl := Option.some.inj h
      exact u_sub [0] rfl K
    · have h := ob_neg b7 h
      refine u_iconst g (v := (1 : Int32)) dX11_tree_50 rfl ?_
      refine u_iload_n g 1 dX11_tree_51 rfl ?_
      refine u_iload g 3 dX11_tree_52 rfl ?_
      refine u_iadd g dX11_tree_54 ?_
      refine u_iconst g (v := (1 : Int32)) dX11_tree_55 rfl ?_
      refine u_isub g dX11_tree_56 ?_
      refine u_ishl g dX11_tree_57 ?_
      refine u_istore g [(5, .int ((1 : Int32) <<< (((a2 + v4) - (1 : Int32)) &&& 31))), (0, .ref (w.2.2.1 0)), (2, .int a2), (3, .int a3), (4, .int v4)] dX11_tree_58 (by decide) rfl ?_
      refine u_aload_n g 1 dX11_tree_60 rfl ?_
      refine gfX11_30 g wf_X11_72 dX11_tree_61 ?_
      refine u_iload g 4 dX11_tree_64 rfl ?_
      refine u_iconst g (v := (0 : Int32)) dX11_tree_66 rfl ?_
      obtain ⟨e8, h⟩ := ob_if h
      refine aY_ist g (c := 21) 16 (by decide) rfl (inB_in e8) (j := v4.toNatClampNeg) rfl dX11_tree_67 ?_
      refine u_iconst g (v := (2 : Int32)) dX11_tree_68 rfl ?_
      refine u_iload g 4 dX11_tree_69 rfl ?_
      refine u_imul g dX11_tree_71 ?_
      refine u_iload_n g 3 dX11_tree_72 rfl ?_
      obtain ⟨q9, hq10, h⟩ := ob_bind h
      have K11 : U shY w x r q9 264 [(0, .ref (w.2.2.1 0)), (2, .int a2), (3, .int a3), (4, .int v4)] [] := by
        refine u_iinc g 3 [(4, .int (v4 + (-1 : Int32))), (0, .ref (w.2.2.1 0)), (2, .int a2), (3, .int a3)] dX11_tree_264 rfl rfl (by decide) rfl ?_
        refine u_goto g 45 dX11_tree_267 (by decide) ?_
        exact u_sub [1, 2, 3, 0] rfl (ih (v4 + (-1 : Int32)) q9 _ h K)
      have h := hq10
      refine u_icmp_le g 87 dX11_tree_73 (by decide) (fun b12 => ?_) (fun b12 => ?_)
      · have h := ob_pos b12 h
        refine u_iconst g (v := (2 : Int32)) dX11_tree_87 rfl ?_
        refine u_iload g 4 dX11_tree_88 rfl ?_
        refine u_imul g dX11_tree_90 ?_
        refine u_istore g [(6, .int ((2 : Int32) * v4)), (5, .int ((1 : Int32) <<< (((a2 + v4) - (1 : Int32)) &&& 31))), (0, .ref (w.2.2.1 0)), (2, .int a2), (3, .int a3), (4, .int v4)] dX11_tree_91 (by decide) rfl ?_
        refine u_iload g 0 dX11_tree_93 rfl ?_
        refine u_iconst g (v := (1 : Int32)) dX11_tree_95 rfl ?_
        refine u_iadd g dX11_tree_96 ?_
        refine u_istore g [(7, .int (((2 : Int32) * v4) + (1 : Int32))), (6, .int ((2 : Int32) * v4)), (5, .int ((1 : Int32) <<< (((a2 + v4) - (1 : Int32)) &&& 31))), (0, .ref (w.2.2.1 0)), (2, .int a2), (3, .int a3), (4, .int v4)] dX11_tree_97 (by decide) rfl ?_
        refine u_iconst g (v := (0 : Int32)) dX11_tree_99 rfl ?_
        refine u_istore g [(8, .int (0 : Int32)), (7, .int (((2 : Int32) * v4) + (1 : Int32))), (6, .int ((2 : Int32) * v4)), (5, .int ((1 : Int32) <<< (((a2 + v4) - (1 : Int32)) &&& 31))), (0, .ref (w.2.2.1 0)), (2, .int a2), (3, .int a3), (4, .int v4)] dX11_tree_100 (by decide) rfl ?_
        obtain ⟨q13, hq14, h⟩ := ob_bind h
        refine u_sub [4, 5, 6, 7, 3, 2, 1, 0] rfl (s_X11_tree_l2 g a2 a3 v4 ((1 : Int32) <<< (((a2 + v4) - (1 : Int32)) &&& 31)) ((2 : Int32) * v4) (((2 : Int32) * v4) + (1 : Int32)) fuelN (0 : Int32) (sI M 21 v4.toNatClampNeg (0 : Int32)) _ hq14 ?_)
        show U shY w x r q13 143 [(0, .ref (w.2.2.1 0)), (2, .int a2), (3, .int a3), (4, .int v4), (5, .int ((1 : Int32) <<< (((a2 + v4) - (1 : Int32)) &&& 31))), (6, .int ((2 : Int32) * v4)), (7, .int (((2 : Int32) * v4) + (1 : Int32)))] []
        refine u_iconst g (v := (0 : Int32)) dX11_tree_143 rfl ?_
        refine u_istore g [(8, .int (0 : Int32)), (0, .ref (w.2.2.1 0)), (2, .int a2), (3, .int a3), (4, .int v4), (5, .int ((1 : Int32) <<< (((a2 + v4) - (1 : Int32)) &&& 31))), (6, .int ((2 : Int32) * v4)), (7, .int (((2 : Int32) * v4) + (1 : Int32)))] dX11_tree_144 (by decide) rfl ?_
        obtain ⟨q15, hq16, h⟩ := ob_bind h
        refine u_sub [1, 2, 3, 4, 5, 6, 7, 0] rfl (s_X11_tree_l3 g a2 a3 v4 ((1 : Int32) <<< (((a2 + v4) - (1 : Int32)) &&& 31)) ((2 : Int32) * v4) (((2 : Int32) * v4) + (1 : Int32)) fuelN (0 : Int32) q13 _ hq16 ?_)
        show U shY w x r q15 187 [(0, .ref (w.2.2.1 0)), (2, .int a2), (3, .int a3), (4, .int v4), (6, .int ((2 : Int32) * v4)), (7, .int (((2 : Int32) * v4) + (1 : Int32)))] []
        refine u_iconst g (v := (0 : Int32)) dX11_tree_187 rfl ?_
        refine u_istore g [(8, .int (0 : Int32)), (0, .ref (w.2.2.1 0)), (2, .int a2), (3, .int a3), (4, .int v4), (6, .int ((2 : Int32) * v4)), (7, .int (((2 : Int32) * v4) + (1 : Int32)))] dX11_tree_188 (by decide) rfl ?_
        obtain ⟨q17, hq18, h⟩ := ob_bind h
        refine u_sub [1, 2, 3, 4, 5, 6, 0] rfl (s_X11_tree_l4 g a2 a3 v4 ((2 : Int32) * v4) (((2 : Int32) * v4) + (1 : Int32)) fuelN (0 : Int32) q15 _ hq18 ?_)
        show U shY w x r q17 264 [(0, .ref (w.2.2.1 0)), (2, .int a2), (3, .int a3), (4, .int v4)] []
        obtain rfl := Option.some.inj h
        exact u_sub [0, 1, 2, 3] rfl K11
      · have h := ob_neg b12 h
        refine u_aload_n g 1 dX11_tree_76 rfl ?_
        refine u_iload g 4 dX11_tree_77 rfl ?_
        refine u_iload g 0 dX11_tree_79 rfl ?_
        obtain ⟨q19, hq20, h⟩ := ob_bind h
        refine u_callV (st := []) g wv_X11_159 [.int v4, .int ((1 : Int32) <<< (((a2 + v4) - (1 : Int32)) &&& 31))] (show 0 < shY.1 by decide) ceY_0 rfl rfl (t_X11_enoughs w x.2.1 hq20) (by decide) (by decide) rfl (Nat.le_of_ble_eq_true rfl) rfl dX11_tree_81 ?_
        show U shY w x r q19 84 [(5, .int ((1 : Int32) <<< (((a2 + v4) - (1 : Int32)) &&& 31))), (0, .ref (w.2.2.1 0)), (2, .int a2), (3, .int a3), (4, .int v4)] []
        refine u_goto g 264 dX11_tree_84 (by decide) ?_
        obtain rfl := Option.some.inj h
        exact u_sub [1, 2, 3, 4] rfl K11
set_option maxRecDepth 100000 in
set_option maxHeartbeats 4000000 in
theorem s_X11_tree_l6 {w : Wp} {x : Cx} {r : Option Value × Mem} (g : Gd shY w x RX11 cX11_tree 10 (some .int) 3)   : ∀ (n : Nat) (v4 : Int32) (M : Mem) (q : Mem), f_X11_tree_l6 n v4 M = some q → U shY w x r q 311 [(0, .ref (w.2.2.1 0))] [] → U shY w x r M 277 [(0, .ref (w.2.2.1 0)), (4, .int v4)] [] := by
  intro n
  induction n with
  | zero => intro v4 M q h K; rw [f_X11_tree_l6] at h; cases h
  | succ n ih =>
    intro v4 M q h K
    rw [f_X11_tree_l6] at h
    refine u_iload g 1 dX11_tree_277 rfl ?_
    refine u_aload_n g 0 dX11_tree_279 rfl ?_
    refine gfX11_30 g wf_X11_72 dX11_tree_280 ?_
    refine u_iconst g (v := (1 : Int32)) dX11_tree_283 rfl ?_
    refine aY_ild g (c := 21) 16 (by decide) rfl (v := (M.1 21 1)) (inB_in rfl) rfl dX11_tree_284 ?_
    refine u_icmp_ge g 311 dX11_tree_285 (by decide) (fun b11 => ?_) (fun b11 => ?_)
    · have h := ob_pos b11 h
      obtain rfl := Option.some.inj h
      exact u_sub [0] rfl K
    · have h := ob_neg b11 h
      refine u_aload_n g 0 dX11_tree_288 rfl ?_
      refine gfX11_21 g wf_X11_50 dX11_tree_289 ?_
      refine u_aload_n g 0 dX11_tree_292 rfl ?_
      refine gfX11_29 g wf_X11_69 dX11_tree_293 ?_
      refine u_sipush g (v := (256 : Int32)) dX11_tree_296 rfl ?_
      refine u_iload g 1 dX11_tree_299 rfl ?_
      refine u_iadd g dX11_tree_301 ?_
      obtain ⟨e12, h⟩ := ob_if h
      refine aY_ild g (c := 20) 4096 (by decide) rfl (v := (M.1 20 ((256 : Int32) + v4).toNatClampNeg)) (inB_in e12) rfl dX11_tree_302 ?_
      refine u_iconst g (v := (1 : Int32)) dX11_tree_303 rfl ?_
      obtain ⟨e13, h⟩ := ob_if h
      refine aY_zst g (c := 14) 65536 rfl (Or.inr rfl) (inB_in e13) (j := (M.1 20 ((256 : Int32) + v4).toNatClampNeg).toNatClampNeg) rfl dX11_tree_304 ?_
      refine u_iinc g 1 [(4, .int (v4 + (1 : Int32))), (0, .ref (w.2.2.1 0))] dX11_tree_305 rfl rfl (by decide) rfl ?_
      refine u_goto g 277 dX11_tree_308 (by decide) ?_
      exact u_sub [1, 0] rfl (ih (v4 + (1 : Int32)) (sI M 14 (M.1 20 ((256 : Int32) + v4).toNatClampNeg).toNatClampNeg (1 : Int32)) _ h K)
set_option maxRecDepth 100000 in
set_option maxHeartbeats 4000000 in
theorem t_X11_tree (w : Wp) (l : Launch) {a1 : Int32} {a2 : Int32} {M : Mem} {q : Int32 × Mem} (h : f_X11_tree a1 a2 M = some q) : Ct shY w l yX11_tree cX11_tree 10 (some .int) 3 [.ref (w.2.2.1 0), .int a1, .int a2] M (some (.int q.1), q.2) := by
  rw [f_X11_tree] at h
  refine ct_of shY_loc (by decide) (Nat.le_of_ble_eq_true rfl) rfl (fun x hx g => ?_)
  subst hx
  show U shY w x _ M 0 [(0, .ref (w.2.2.1 0)), (1, .int a1), (2, .int a2)] []
  generalize hr : ((some (.int q.1), q.2) : Option Value × Mem) = r
  have g : Gd shY w x RX11 cX11_tree 10 (some .int) 3 := g
  refine u_aload_n g 0 dX11_tree_0 rfl ?_
  refine u_iconst g (v := (0 : Int32)) dX11_tree_1 rfl ?_
  refine pfX11_5 g wf_X11_84 dX11_tree_2 ?_
  refine u_aload_n g 0 dX11_tree_5 rfl ?_
  refine u_iload_n g 1 dX11_tree_6 rfl ?_
  refine u_iconst g (v := (1 : Int32)) dX11_tree_7 rfl ?_
  refine u_iconst g (v := (4 : Int32)) dX11_tree_8 rfl ?_
  obtain ⟨q1, hq2, h⟩ := ob_bind h
  refine u_callV (st := []) g wv_X11_97 [.int a1, .int (1 : Int32), .int (4 : Int32)] (show 0 < shY.1 by decide) ceY_0 rfl rfl (t_X11_in w x.2.1 hq2) (by decide) (by decide) rfl (Nat.le_of_ble_eq_true rfl) rfl dX11_tree_9 ?_
  show U shY w x r (sI M 0 5 (0 : Int32)) 12 [(0, .ref (w.2.2.1 0)), (1, .int a1), (2, .int a2)] [.int q1]
  refine u_if_ne g 21 dX11_tree_12 (by decide) (fun b3 => ?_) (fun b3 => ?_)
  · have h := ob_neg b3 h
    refine u_iconst g (v := (1 : Int32)) dX11_tree_21 rfl ?_
    refine u_iload_n g 1 dX11_tree_22 rfl ?_
    refine u_ishl g dX11_tree_23 ?_
    refine u_iconst g (v := (1 : Int32)) dX11_tree_24 rfl ?_
    refine u_isub g dX11_tree_25 ?_
    refine u_istore_n g [(3, .int (((1 : Int32) <<< (a1 &&& 31)) - (1 : Int32))), (0, .ref (w.2.2.1 0)), (1, .int a1), (2, .int a2)] dX11_tree_26 (by decide) rfl ?_
    refine u_aload_n g 1 dX11_tree_27 rfl ?_
    refine u_iload_n g 3 dX11_tree_28 rfl ?_
    refine u_iload_n g 0 dX11_tree_29 rfl ?_
    obtain ⟨q4, hq5, h⟩ := ob_bind h
    refine u_callV (st := []) g wv_X11_152 [.int a2, .int (((1 : Int32) <<< (a1 &&& 31)) - (1 : Int32))] (show 0 < shY.1 by decide) ceY_0 rfl rfl (t_X11_areKeepers w x.2.1 hq5) (by decide) (by decide) rfl (Nat.le_of_ble_eq_true rfl) rfl dX11_tree_30 ?_
    show U shY w x r (sI M 0 5 (0 : Int32)) 33 [(3, .int (((1 : Int32) <<< (a1 &&& 31)) - (1 : Int32))), (0, .ref (w.2.2.1 0)), (1, .int a1), (2, .int a2)] [.int q4]
    refine u_if_ne g 42 dX11_tree_33 (by decide) (fun b6 => ?_) (fun b6 => ?_)
    · have h := ob_neg b6 h
      refine u_iload_n g 0 dX11_tree_42 rfl ?_
      refine u_istore g [(4, .int (((1 : Int32) <<< (a1 &&& 31)) - (1 : Int32))), (3, .int (((1 : Int32) <<< (a1 &&& 31)) - (1 : Int32))), (0, .ref (w.2.2.1 0)), (1, .int a1), (2, .int a2)] dX11_tree_43 (by decide) rfl ?_
      obtain ⟨q7, hq8, h⟩ := ob_bind h
      refine u_sub [2, 4, 1, 0] rfl (s_X11_tree_l1 g a2 (((1 : Int32) <<< (a1 &&& 31)) - (1 : Int32)) fuelN (((1 : Int32) <<< (a1 &&& 31)) - (1 : Int32)) (sI M 0 5 (0 : Int32)) _ hq8 ?_)
      show U shY w x r q7 270 [(0, .ref (w.2.2.1 0))] []
      refine u_aload_n g 0 dX11_tree_270 rfl ?_
      obtain ⟨q9, hq10, h⟩ := ob_bind h
      refine u_callV (st := []) g wv_X11_133 [] (show 0 < shY.1 by decide) ceY_0 rfl rfl (t_X11_noSets w x.2.1 hq10) (by decide) (by decide) rfl (Nat.le_of_ble_eq_true rfl) rfl dX11_tree_271 ?_
      show U shY w x r q9 274 [(0, .ref (w.2.2.1 0))] []
      refine u_iconst g (v := (0 : Int32)) dX11_tree_274 rfl ?_
      refine u_istore g [(4, .int (0 : Int32)), (0, .ref (w.2.2.1 0))] dX11_tree_275 (by decide) rfl ?_
      obtain ⟨q11, hq12, h⟩ := ob_bind h
      refine u_sub [1, 0] rfl (s_X11_tree_l6 g fuelN (0 : Int32) q9 _ hq12 ?_)
      show U shY w x r q11 311 [(0, .ref (w.2.2.1 0))] []
      refine u_aload_n g 0 dX11_tree_311 rfl ?_
      refine u_iconst g (v := (4 : Int32)) dX11_tree_312 rfl ?_
      obtain ⟨q13, hq14, h⟩ := ob_bind h
      refine u_callV (st := []) g wv_X11_143 [.int (4 : Int32)] (show 0 < shY.1 by decide) ceY_0 rfl rfl (t_X11_made w x.2.1 hq14) (by decide) (by decide) rfl (Nat.le_of_ble_eq_true rfl) rfl dX11_tree_313 ?_
      show U shY w x r q13.2 316 [(0, .ref (w.2.2.1 0))] [.int q13.1]
      exact u_iret g dX11_tree_316 (by rw [← hr]; obtain rfl := Option.some.inj h; rfl)
    · have h := ob_pos b6 h
      refine u_aload_n g 1 dX11_tree_36 rfl ?_
      refine u_iconst g (v := (1 : Int32)) dX11_tree_37 rfl ?_
      obtain ⟨q15, hq16, h⟩ := ob_bind h
      refine u_callV (st := []) g wv_X11_115 [.int (1 : Int32)] (show 0 < shY.1 by decide) ceY_0 rfl rfl (t_X11_no w x.2.1 hq16) (by decide) (by decide) rfl (Nat.le_of_ble_eq_true rfl) rfl dX11_tree_38 ?_
      show U shY w x r q15.2 41 [(3, .int (((1 : Int32) <<< (a1 &&& 31)) - (1 : Int32))), (0, .ref (w.2.2.1 0)), (1, .int a1), (2, .int a2)] [.int q15.1]
      exact u_iret g dX11_tree_41 (by rw [← hr]; obtain rfl := Option.some.inj h; rfl)
  · have h := ob_pos b3 h
    refine u_aload_n g 0 dX11_tree_15 rfl ?_
    refine u_iconst g (v := (2 : Int32)) dX11_tree_16 rfl ?_
    obtain ⟨q17, hq18, h⟩ := ob_bind h
    refine u_callV (st := []) g wv_X11_115 [.int (2 : Int32)] (show 0 < shY.1 by decide) ceY_0 rfl rfl (t_X11_no w x.2.1 hq18) (by decide) (by decide) rfl (Nat.le_of_ble_eq_true rfl) rfl dX11_tree_17 ?_
    show U shY w x r q17.2 20 [(0, .ref (w.2.2.1 0)), (1, .int a1), (2, .int a2)] [.int q17.1]
    exact u_iret g dX11_tree_20 (by rw [← hr]; obtain rfl := Option.some.inj h; rfl)
set_option maxRecDepth 100000 in
set_option maxHeartbeats 4000000 in
theorem s_X11_plane_l1 {w : Wp} {x : Cx} {r : Option Value × Mem} (g : Gd shY w x RX11 cX11_plane 6 (some .int) 3) (a1 : Int32) (a2 : Int32) (a3 : Int32)  : ∀ (n : Nat) (v4 : Int32) (M : Mem) (q : Mem), f_X11_plane_l1 a1 a2 a3 n v4 M = some q → U shY w x r q 121 [(0, .ref (w.2.2.1 0))] [] → U shY w x r M 56 [(0, .ref (w.2.2.1 0)), (1, .int a1), (2, .int a2), (3, .int a3), (4, .int v4)] [] := by
  intro n
  induction n with
  | zero => intro v4 M q h K; rw [f_X11_plane_l1] at h; cases h
  | succ n ih =>
    intro v4 M q h K
    rw [f_X11_plane_l1] at h
    refine u_iload g 4 dX11_plane_56 rfl ?_
    refine u_iload_n g 3 dX11_plane_58 rfl ?_
    refine u_icmp_ge g 121 dX11_plane_59 (by decide) (fun b12 => ?_) (fun b12 => ?_)
    · have h := ob_pos b12 h
      obtain rfl := Option.some.inj h
      exact u_sub [0] rfl K
    · have h := ob_neg b12 h
      refine u_iconst g (v := (1 : Int32)) dX11_plane_62 rfl ?_
      refine u_iload g 4 dX11_plane_63 rfl ?_
      refine u_ishl g dX11_plane_65 ?_
      refine u_iconst g (v := (1 : Int32)) dX11_plane_66 rfl ?_
      refine u_iload g 4 dX11_plane_67 rfl ?_
      refine u_iconst g (v := (1 : Int32)) dX11_plane_69 rfl ?_
      refine u_iadd g dX11_plane_70 ?_
      refine u_iload_n g 3 dX11_plane_71 rfl ?_
      obtain ⟨e13, h⟩ := ob_if h
      refine u_irem g dX11_plane_72 e13 ?_
      refine u_ishl g dX11_plane_73 ?_
      refine u_ior g dX11_plane_74 ?_
      refine u_iconst g (v := (1 : Int32)) dX11_plane_75 rfl ?_
      refine u_iload g 4 dX11_plane_76 rfl ?_
      refine u_iconst g (v := (3 : Int32)) dX11_plane_78 rfl ?_
      refine u_iadd g dX11_plane_79 ?_
      refine u_iload_n g 3 dX11_plane_80 rfl ?_
      obtain ⟨e14, h⟩ := ob_if h
      refine u_irem g dX11_plane_81 e14 ?_
      refine u_ishl g dX11_plane_82 ?_
      refine u_ior g dX11_plane_83 ?_
      refine u_istore g [(5, .int ((((1 : Int32) <<< (v4 &&& 31)) ||| ((1 : Int32) <<< (((v4 + (1 : Int32)) - (v4 + (1 : Int32)) / a3 * a3) &&& 31))) ||| ((1 : Int32) <<< (((v4 + (3 : Int32)) - (v4 + (3 : Int32)) / a3 * a3) &&& 31)))), (0, .ref (w.2.2.1 0)), (1, .int a1), (2, .int a2), (3, .int a3), (4, .int v4)] dX11_plane_84 (by decide) rfl ?_
      refine u_iload_n g 2 dX11_plane_86 rfl ?_
      refine u_iconst g (v := (3 : Int32)) dX11_plane_87 rfl ?_
      obtain ⟨q15, hq16, h⟩ := ob_bind h
      have K17 : U shY w x r M 105 [(0, .ref (w.2.2.1 0)), (1, .int a1), (2, .int a2), (3, .int a3), (4, .int v4), (5, .int q15)] [] := by
        refine u_aload_n g 0 dX11_plane_105 rfl ?_
        refine gfX11_21 g wf_X11_50 dX11_plane_106 ?_
        refine u_iload g 5 dX11_plane_109 rfl ?_
        refine u_iload_n g 2 dX11_plane_111 rfl ?_
        refine u_ishl g dX11_plane_112 ?_
        refine u_iconst g (v := (1 : Int32)) dX11_plane_113 rfl ?_
        obtain ⟨e18, h⟩ := ob_if h
        refine aY_zst g (c := 14) 65536 rfl (Or.inr rfl) (inB_in e18) (j := (q15 <<< (a2 &&& 31)).toNatClampNeg) rfl dX11_plane_114 ?_
        refine u_iinc g 4 [(4, .int (v4 + (1 : Int32))), (0, .ref (w.2.2.1 0)), (1, .int a1), (2, .int a2), (3, .int a3), (5, .int q15)] dX11_plane_115 rfl rfl (by decide) rfl ?_
        refine u_goto g 56 dX11_plane_118 (by decide) ?_
        exact u_sub [1, 2, 3, 4, 0] rfl (ih (v4 + (1 : Int32)) (sI M 14 (q15 <<< (a2 &&& 31)).toNatClampNeg (1 : Int32)) _ h K)
      have h := hq16
      refine u_icmp_ne g 105 dX11_plane_88 (by decide) (fun b19 => ?_) (fun b19 => ?_)
      · have h := ob_neg b19 h
        obtain rfl := Option.some.inj h
        exact u_sub [1, 2, 3, 4, 5, 0] rfl K17
      · have h := ob_pos b19 h
        refine u_iload g 0 dX11_plane_91 rfl ?_
        refine u_iconst g (v := (1 : Int32)) dX11_plane_93 rfl ?_
        refine u_iload g 5 dX11_plane_94 rfl ?_
        refine u_bipush g (v := (9 : Int32)) dX11_plane_96 rfl ?_
        refine u_iadd g dX11_plane_98 ?_
        refine u_iload_n g 4 dX11_plane_99 rfl ?_
        obtain ⟨e20, h⟩ := ob_if h
        refine u_irem g dX11_plane_100 e20 ?_
        refine u_ishl g dX11_plane_101 ?_
        refine u_ior g dX11_plane_102 ?_
        refine u_istore g [(5, .int (((((1 : Int32) <<< (v4 &&& 31)) ||| ((1 : Int32) <<< (((v4 + (1 : Int32)) - (v4 + (1 : Int32)) / a3 * a3) &&& 31))) ||| ((1 : Int32) <<< (((v4 + (3 : Int32)) - (v4 + (3 : Int32)) / a3 * a3) &&& 31))) ||| ((1 : Int32) <<< (((v4 + (9 : Int32)) - (v4 + (9 : Int32)) / a3 * a3) &&& 31)))), (0, .ref (w.2.2.1 0)), (1, .int a1), (2, .int a2), (3, .int a3), (4, .int v4)] dX11_plane_103 (by decide) rfl ?_
        obtain rfl := Option.some.inj h
        exact u_sub [1, 2, 3, 4, 5, 0] rfl K17
set_option maxRecDepth 100000 in
set_option maxHeartbeats 4000000 in
theorem t_X11_plane (w : Wp) (l : Launch) {a1 : Int32} {a2 : Int32} {M : Mem} {q : Int32 × Mem} (h : f_X11_plane a1 a2 M = some q) : Ct shY w l yX11_plane cX11_plane 6 (some .int) 3 [.ref (w.2.2.1 0), .int a1, .int a2] M (some (.int q.1), q.2) := by
  rw [f_X11_plane] at h
  refine ct_of shY_loc (by decide) (Nat.le_of_ble_eq_true rfl) rfl (fun x hx g => ?_)
  subst hx
  show U shY w x _ M 0 [(0, .ref (w.2.2.1 0)), (1, .int a1), (2, .int a2)] []
  generalize hr : ((some (.int q.1), q.2) : Option Value × Mem) = r
  have g : Gd shY w x RX11 cX11_plane 6 (some .int) 3 := g
  refine u_aload_n g 0 dX11_plane_0 rfl ?_
  refine u_iconst g (v := (0 : Int32)) dX11_plane_1 rfl ?_
  refine pfX11_5 g wf_X11_84 dX11_plane_2 ?_
  refine u_aload_n g 0 dX11_plane_5 rfl ?_
  refine u_iload_n g 1 dX11_plane_6 rfl ?_
  refine u_iconst g (v := (2 : Int32)) dX11_plane_7 rfl ?_
  refine u_iconst g (v := (3 : Int32)) dX11_plane_8 rfl ?_
  obtain ⟨q1, hq2, h⟩ := ob_bind h
  refine u_callV (st := []) g wv_X11_97 [.int a1, .int (2 : Int32), .int (3 : Int32)] (show 0 < shY.1 by decide) ceY_0 rfl rfl (t_X11_in w x.2.1 hq2) (by decide) (by decide) rfl (Nat.le_of_ble_eq_true rfl) rfl dX11_plane_9 ?_
  show U shY w x r (sI M 0 5 (0 : Int32)) 12 [(0, .ref (w.2.2.1 0)), (1, .int a1), (2, .int a2)] [.int q1]
  refine u_if_ne g 21 dX11_plane_12 (by decide) (fun b3 => ?_) (fun b3 => ?_)
  · have h := ob_neg b3 h
    refine u_iload_n g 1 dX11_plane_21 rfl ?_
    refine u_iconst g (v := (2 : Int32)) dX11_plane_22 rfl ?_
    obtain ⟨q4, hq5, h⟩ := ob_bind h
    have K6 : U shY w x r (sI M 0 5 (0 : Int32)) 33 [(0, .ref (w.2.2.1 0)), (1, .int a1), (2, .int a2)] [.int q4] := by
      refine u_istore_n g [(3, .int q4), (0, .ref (w.2.2.1 0)), (1, .int a1), (2, .int a2)] dX11_plane_33 (by decide) rfl ?_
      refine u_aload_n g 1 dX11_plane_34 rfl ?_
      refine u_iload_n g 3 dX11_plane_35 rfl ?_
      refine u_iload_n g 0 dX11_plane_36 rfl ?_
      obtain ⟨q7, hq8, h⟩ := ob_bind h
      refine u_callV (st := []) g wv_X11_152 [.int a2, .int q4] (show 0 < shY.1 by decide) ceY_0 rfl rfl (t_X11_areKeepers w x.2.1 hq8) (by decide) (by decide) rfl (Nat.le_of_ble_eq_true rfl) rfl dX11_plane_37 ?_
      show U shY w x r (sI M 0 5 (0 : Int32)) 40 [(3, .int q4), (0, .ref (w.2.2.1 0)), (1, .int a1), (2, .int a2)] [.int q7]
      refine u_if_ne g 49 dX11_plane_40 (by decide) (fun b9 => ?_) (fun b9 => ?_)
      · have h := ob_neg b9 h
        refine u_aload_n g 1 dX11_plane_49 rfl ?_
        obtain ⟨q10, hq11, h⟩ := ob_bind h
        refine u_callV (st := []) g wv_X11_133 [] (show 0 < shY.1 by decide) ceY_0 rfl rfl (t_X11_noSets w x.2.1 hq11) (by decide) (by decide) rfl (Nat.le_of_ble_eq_true rfl) rfl dX11_plane_50 ?_
        show U shY w x r q10 53 [(3, .int q4), (0, .ref (w.2.2.1 0)), (1, .int a1), (2, .int a2)] []
        refine u_iconst g (v := (0 : Int32)) dX11_plane_53 rfl ?_
        refine u_istore g [(4, .int (0 : Int32)), (3, .int q4), (0, .ref (w.2.2.1 0)), (1, .int a1), (2, .int a2)] dX11_plane_54 (by decide) rfl ?_
        obtain ⟨q12, hq13, h⟩ := ob_bind h
        refine u_sub [2, 3, 4, 1, 0] rfl (s_X11_plane_l1 g a1 a2 q4 fuelN (0 : Int32) q10 _ hq13 ?_)
        show U shY w x r q12 121 [(0, .ref (w.2.2.1 0))] []
        refine u_aload_n g 0 dX11_plane_121 rfl ?_
        refine u_iconst g (v := (5 : Int32)) dX11_plane_122 rfl ?_
        obtain ⟨q14, hq15, h⟩ := ob_bind h
        refine u_callV (st := []) g wv_X11_143 [.int (5 : Int32)] (show 0 < shY.1 by decide) ceY_0 rfl rfl (t_X11_made w x.2.1 hq15) (by decide) (by decide) rfl (Nat.le_of_ble_eq_true rfl) rfl dX11_plane_123 ?_
        show U shY w x r q14.2 126 [(0, .ref (w.2.2.1 0))] [.int q14.1]
        exact u_iret g dX11_plane_126 (by rw [← hr]; obtain rfl := Option.some.inj h; rfl)
      · have h := ob_pos b9 h
        refine u_aload_n g 1 dX11_plane_43 rfl ?_
        refine u_iconst g (v := (1 : Int32)) dX11_plane_44 rfl ?_
        obtain ⟨q16, hq17, h⟩ := ob_bind h
        refine u_callV (st := []) g wv_X11_115 [.int (1 : Int32)] (show 0 < shY.1 by decide) ceY_0 rfl rfl (t_X11_no w x.2.1 hq17) (by decide) (by decide) rfl (Nat.le_of_ble_eq_true rfl) rfl dX11_plane_45 ?_
        show U shY w x r q16.2 48 [(3, .int q4), (0, .ref (w.2.2.1 0)), (1, .int a1), (2, .int a2)] [.int q16.1]
        exact u_iret g dX11_plane_48 (by rw [← hr]; obtain rfl := Option.some.inj h; rfl)
    have h := hq5
    refine u_icmp_ne g 31 dX11_plane_23 (by decide) (fun b18 => ?_) (fun b18 => ?_)
    · have h := ob_neg b18 h
      refine u_bipush g (v := (13 : Int32)) dX11_plane_31 rfl ?_
      obtain rfl := Option.some.inj h
      exact u_sub [0, 1, 2] rfl K6
    · have h := ob_pos b18 h
      refine u_bipush g (v := (7 : Int32)) dX11_plane_26 rfl ?_
      refine u_goto g 33 dX11_plane_28 (by decide) ?_
      obtain rfl := Option.some.inj h
      exact u_sub [0, 1, 2] rfl K6
  · have h := ob_pos b3 h
    refine u_aload_n g 0 dX11_plane_15 rfl ?_
    refine u_iconst g (v := (2 : Int32)) dX11_plane_16 rfl ?_
    obtain ⟨q19, hq20, h⟩ := ob_bind h
    refine u_callV (st := []) g wv_X11_115 [.int (2 : Int32)] (show 0 < shY.1 by decide) ceY_0 rfl rfl (t_X11_no w x.2.1 hq20) (by decide) (by decide) rfl (Nat.le_of_ble_eq_true rfl) rfl dX11_plane_17 ?_
    show U shY w x r q19.2 20 [(0, .ref (w.2.2.1 0)), (1, .int a1), (2, .int a2)] [.int q19.1]
    exact u_iret g dX11_plane_20 (by rw [← hr]; obtain rfl := Option.some.inj h; rfl)
