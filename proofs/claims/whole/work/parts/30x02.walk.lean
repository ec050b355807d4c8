set_option maxRecDepth 100000 in
set_option maxHeartbeats 4000000 in
theorem t_X4_closeLatest (w : Wp) (l : Launch)  {M : Mem} {q : Option Nat × Mem} (h : f_X4_closeLatest M = some q) : Ct shX w l yX4_closeLatest cX4_closeLatest 1 (some (.object "MeetHouse$Act")) 0 [.ref (w.2.2.1 10)] M (some (rv w q.1), q.2) := by
  rw [f_X4_closeLatest] at h
  refine ct_of shX_loc (by decide) (Nat.le_of_ble_eq_true rfl) rfl (fun x hx g => ?_)
  subst hx
  show U shX w x _ M 0 [(0, .ref (w.2.2.1 10))] []
  generalize hr : ((some (rv w q.1), q.2) : Option Value × Mem) = r
  have g : Gd shX w x RX4 cX4_closeLatest 1 (some (.object "MeetHouse$Act")) 0 := g
  refine u_aload_n g 0 dX4_closeLatest_0 rfl ?_
  refine gfX4_2 g (c := 10) rfl wf_X4_21 (v := (M.1 10 2)) rfl dX4_closeLatest_1 ?_
  refine u_if_gt g 9 dX4_closeLatest_4 (by decide) (fun b1 => ?_) (fun b1 => ?_)
  · have h := ob_pos b1 h
    refine u_aload_n g 0 dX4_closeLatest_9 rfl ?_
    refine u_dup g dX4_closeLatest_10 rfl ?_
    refine gfX4_2 g (c := 10) rfl wf_X4_21 (v := (M.1 10 2)) rfl dX4_closeLatest_11 ?_
    refine u_iconst g (v := (1 : Int32)) dX4_closeLatest_14 rfl ?_
    refine u_isub g dX4_closeLatest_15 ?_
    refine pfX4_2 g (c := 10) rfl wf_X4_21 dX4_closeLatest_16 ?_
    refine u_aload_n g 0 dX4_closeLatest_19 rfl ?_
    refine gfX4_0 g (c := 10) rfl wf_X4_11 dX4_closeLatest_20 ?_
    refine u_aload_n g 0 dX4_closeLatest_23 rfl ?_
    refine gfX4_1 g (c := 10) rfl wf_X4_17 (v := (M.1 10 1)) rfl dX4_closeLatest_24 ?_
    refine u_aload_n g 0 dX4_closeLatest_27 rfl ?_
    refine gfX4_2 g (c := 10) rfl wf_X4_21 (v := ((M.1 10 2) - (1 : Int32))) rfl dX4_closeLatest_28 ?_
    refine u_iadd g dX4_closeLatest_31 ?_
    refine u_bipush g (v := (60 : Int32)) dX4_closeLatest_32 rfl ?_
    refine u_irem g dX4_closeLatest_34 (by decide) ?_
    obtain ⟨e2, h⟩ := ob_if h
    refine aX_act g (inB_in e2) dX4_closeLatest_35 ?_
    exact u_aret (v := some (12 + 4 * (((M.1 10 1) + ((M.1 10 2) - (1 : Int32))) - ((M.1 10 1) + ((M.1 10 2) - (1 : Int32))) / (60 : Int32) * (60 : Int32)).toNatClampNeg)) g dX4_closeLatest_36 (by rw [← hr]; obtain rfl := Option.some.inj h; rfl)
  · have h := ob_neg b1 h
    refine u_null g dX4_closeLatest_7 ?_
    exact u_aret (v := none) g dX4_closeLatest_8 (by rw [← hr]; obtain rfl := Option.some.inj h; rfl)
set_option maxRecDepth 100000 in
set_option maxHeartbeats 4000000 in
theorem t_X5_isThere (w : Wp) (l : Launch) {a1 : Int32} {M : Mem} {q : Int32} (h : f_X5_isThere a1 M = some q) : Ct shX w l yX5_isThere cX5_isThere 2 (some .boolean) 0 [.ref (w.2.2.1 1), .int a1] M (some (.int q), M) := by
  rw [f_X5_isThere] at h
  refine ct_of shX_loc (by decide) (Nat.le_of_ble_eq_true rfl) rfl (fun x hx g => ?_)
  subst hx
  show U shX w x _ M 0 [(0, .ref (w.2.2.1 1)), (1, .int a1)] []
  generalize hr : ((some (.int q), M) : Option Value × Mem) = r
  have g : Gd shX w x RX5 cX5_isThere 2 (some .boolean) 0 := g
  refine u_iload_n g 1 dX5_isThere_0 rfl ?_
  refine u_if_lt g 22 dX5_isThere_1 (by decide) (fun b1 => ?_) (fun b1 => ?_)
  · have h := ob_pos b1 h
    refine u_iconst g (v := (0 : Int32)) dX5_isThere_22 rfl ?_
    exact u_zret g (Or.inl rfl) dX5_isThere_23 (by rw [← hr]; obtain rfl := Option.some.inj h; rfl)
  · have h := ob_neg b1 h
    refine u_iload_n g 1 dX5_isThere_4 rfl ?_
    refine u_aload_n g 0 dX5_isThere_5 rfl ?_
    refine gfX5_0 g (c := 1) rfl wf_X5_9 (v := (M.1 1 0)) rfl dX5_isThere_6 ?_
    refine u_icmp_ge g 22 dX5_isThere_9 (by decide) (fun b2 => ?_) (fun b2 => ?_)
    · have h := ob_pos b2 h
      refine u_iconst g (v := (0 : Int32)) dX5_isThere_22 rfl ?_
      exact u_zret g (Or.inl rfl) dX5_isThere_23 (by rw [← hr]; obtain rfl := Option.some.inj h; rfl)
    · have h := ob_neg b2 h
      refine u_iload_n g 1 dX5_isThere_12 rfl ?_
      refine u_bipush g (v := (16 : Int32)) dX5_isThere_13 rfl ?_
      refine u_icmp_ge g 22 dX5_isThere_15 (by decide) (fun b3 => ?_) (fun b3 => ?_)
      · have h := ob_pos b3 h
        refine u_iconst g (v := (0 : Int32)) dX5_isThere_22 rfl ?_
        exact u_zret g (Or.inl rfl) dX5_isThere_23 (by rw [← hr]; obtain rfl := Option.some.inj h; rfl)
      · have h := ob_neg b3 h
        refine u_iconst g (v := (1 : Int32)) dX5_isThere_18 rfl ?_
        refine u_goto g 23 dX5_isThere_19 (by decide) ?_
        exact u_zret g (Or.inr rfl) dX5_isThere_23 (by rw [← hr]; obtain rfl := Option.some.inj h; rfl)
set_option maxRecDepth 100000 in
set_option maxHeartbeats 4000000 in
theorem t_X5_areThere (w : Wp) (l : Launch) {a1 : Int32} {a2 : Int32} {M : Mem} {q : Int32} (h : f_X5_areThere a1 a2 M = some q) : Ct shX w l yX5_areThere cX5_areThere 3 (some .boolean) 0 [.ref (w.2.2.1 1), .int a1, .int a2] M (some (.int q), M) := by
  rw [f_X5_areThere] at h
  refine ct_of shX_loc (by decide) (Nat.le_of_ble_eq_true rfl) rfl (fun x hx g => ?_)
  subst hx
  show U shX w x _ M 0 [(0, .ref (w.2.2.1 1)), (1, .int a1), (2, .int a2)] []
  generalize hr : ((some (.int q), M) : Option Value × Mem) = r
  have g : Gd shX w x RX5 cX5_areThere 3 (some .boolean) 0 := g
  refine u_iload_n g 1 dX5_areThere_0 rfl ?_
  refine u_if_lt g 30 dX5_areThere_1 (by decide) (fun b1 => ?_) (fun b1 => ?_)
  · have h := ob_pos b1 h
    refine u_iconst g (v := (0 : Int32)) dX5_areThere_30 rfl ?_
    exact u_zret g (Or.inl rfl) dX5_areThere_31 (by rw [← hr]; obtain rfl := Option.some.inj h; rfl)
  · have h := ob_neg b1 h
    refine u_iload_n g 1 dX5_areThere_4 rfl ?_
    refine u_aload_n g 0 dX5_areThere_5 rfl ?_
    refine gfX5_0 g (c := 1) rfl wf_X5_9 (v := (M.1 1 0)) rfl dX5_areThere_6 ?_
    refine u_icmp_ge g 30 dX5_areThere_9 (by decide) (fun b2 => ?_) (fun b2 => ?_)
    · have h := ob_pos b2 h
      refine u_iconst g (v := (0 : Int32)) dX5_areThere_30 rfl ?_
      exact u_zret g (Or.inl rfl) dX5_areThere_31 (by rw [← hr]; obtain rfl := Option.some.inj h; rfl)
    · have h := ob_neg b2 h
      refine u_iload_n g 2 dX5_areThere_12 rfl ?_
      refine u_if_lt g 30 dX5_areThere_13 (by decide) (fun b3 => ?_) (fun b3 => ?_)
      · have h := ob_pos b3 h
        refine u_iconst g (v := (0 : Int32)) dX5_areThere_30 rfl ?_
        exact u_zret g (Or.inl rfl) dX5_areThere_31 (by rw [← hr]; obtain rfl := Option.some.inj h; rfl)
      · have h := ob_neg b3 h
        refine u_iload_n g 2 dX5_areThere_16 rfl ?_
        refine u_aload_n g 0 dX5_areThere_17 rfl ?_
        refine gfX5_0 g (c := 1) rfl wf_X5_9 (v := (M.1 1 0)) rfl dX5_areThere_18 ?_
        refine u_iload_n g 1 dX5_areThere_21 rfl ?_
        refine u_isub g dX5_areThere_22 ?_
        refine u_icmp_gt g 30 dX5_areThere_23 (by decide) (fun b4 => ?_) (fun b4 => ?_)
        · have h := ob_pos b4 h
          refine u_iconst g (v := (0 : Int32)) dX5_areThere_30 rfl ?_
          exact u_zret g (Or.inl rfl) dX5_areThere_31 (by rw [← hr]; obtain rfl := Option.some.inj h; rfl)
        · have h := ob_neg b4 h
          refine u_iconst g (v := (1 : Int32)) dX5_areThere_26 rfl ?_
          refine u_goto g 31 dX5_areThere_27 (by decide) ?_
          exact u_zret g (Or.inr rfl) dX5_areThere_31 (by rw [← hr]; obtain rfl := Option.some.inj h; rfl)
set_option maxRecDepth 100000 in
set_option maxHeartbeats 4000000 in
theorem t_X5_areASet (w : Wp) (l : Launch) {a1 : Int32} {M : Mem} {q : Int32} (h : f_X5_areASet a1 M = some q) : Ct shX w l yX5_areASet cX5_areASet 3 (some .boolean) 0 [.ref (w.2.2.1 1), .int a1] M (some (.int q), M) := by
  rw [f_X5_areASet] at h
  refine ct_of shX_loc (by decide) (Nat.le_of_ble_eq_true rfl) rfl (fun x hx g => ?_)
  subst hx
  show U shX w x _ M 0 [(0, .ref (w.2.2.1 1)), (1, .int a1)] []
  generalize hr : ((some (.int q), M) : Option Value × Mem) = r
  have g : Gd shX w x RX5 cX5_areASet 3 (some .boolean) 0 := g
  refine u_iconst g (v := (1 : Int32)) dX5_areASet_0 rfl ?_
  refine u_aload_n g 0 dX5_areASet_1 rfl ?_
  refine gfX5_0 g (c := 1) rfl wf_X5_9 (v := (M.1 1 0)) rfl dX5_areASet_2 ?_
  refine u_ishl g dX5_areASet_5 ?_
  refine u_iconst g (v := (1 : Int32)) dX5_areASet_6 rfl ?_
  refine u_isub g dX5_areASet_7 ?_
  refine u_istore_n g [(2, .int (((1 : Int32) <<< ((M.1 1 0) &&& 31)) - (1 : Int32))), (0, .ref (w.2.2.1 1)), (1, .int a1)] dX5_areASet_8 (by decide) rfl ?_
  refine u_iload_n g 2 dX5_areASet_9 rfl ?_
  refine u_if_eq g 25 dX5_areASet_10 (by decide) (fun b1 => ?_) (fun b1 => ?_)
  · have h := ob_pos b1 h
    refine u_iconst g (v := (0 : Int32)) dX5_areASet_25 rfl ?_
    exact u_zret g (Or.inl rfl) dX5_areASet_26 (by rw [← hr]; obtain rfl := Option.some.inj h; rfl)
  · have h := ob_neg b1 h
    refine u_iload_n g 2 dX5_areASet_13 rfl ?_
    refine u_iload_n g 0 dX5_areASet_14 rfl ?_
    refine u_iconst g (v := (-1 : Int32)) dX5_areASet_15 rfl ?_
    refine u_ixor g dX5_areASet_16 ?_
    refine u_iand g dX5_areASet_17 ?_
    refine u_if_ne g 25 dX5_areASet_18 (by decide) (fun b2 => ?_) (fun b2 => ?_)
    · have h := ob_neg b2 h
      refine u_iconst g (v := (0 : Int32)) dX5_areASet_25 rfl ?_
      exact u_zret g (Or.inl rfl) dX5_areASet_26 (by rw [← hr]; obtain rfl := Option.some.inj h; rfl)
    · have h := ob_pos b2 h
      refine u_iconst g (v := (1 : Int32)) dX5_areASet_21 rfl ?_
      refine u_goto g 26 dX5_areASet_22 (by decide) ?_
      exact u_zret g (Or.inr rfl) dX5_areASet_26 (by rw [← hr]; obtain rfl := Option.some.inj h; rfl)
set_option maxRecDepth 100000 in
set_option maxHeartbeats 4000000 in
theorem t_X5_weightOf (w : Wp) (l : Launch) {a1 : Int32} {M : Mem} {q : Int32} (h : f_X5_weightOf a1 M = some q) : Ct shX w l yX5_weightOf cX5_weightOf 2 (some .int) 1 [.ref (w.2.2.1 1), .int a1] M (some (.int q), M) := by
  rw [f_X5_weightOf] at h
  refine ct_of shX_loc (by decide) (Nat.le_of_ble_eq_true rfl) rfl (fun x hx g => ?_)
  subst hx
  show U shX w x _ M 0 [(0, .ref (w.2.2.1 1)), (1, .int a1)] []
  generalize hr : ((some (.int q), M) : Option Value × Mem) = r
  have g : Gd shX w x RX5 cX5_weightOf 2 (some .int) 1 := g
  refine u_aload_n g 0 dX5_weightOf_0 rfl ?_
  refine gfX5_3 g (c := 1) rfl wf_X5_22 dX5_weightOf_1 ?_
  refine u_iload_n g 1 dX5_weightOf_4 rfl ?_
  obtain ⟨q1, hq2, h⟩ := ob_bind h
  refine u_callS (st := []) g wv_X5_25 [.ref (w.2.2.1 4), .int a1] (t_X5_sumOf w x.2.1 hq2) (by decide) (by decide) rfl (Nat.le_of_ble_eq_true rfl) rfl dX5_weightOf_5 ?_
  show U shX w x r M 8 [(0, .ref (w.2.2.1 1)), (1, .int a1)] [.int q1]
  exact u_iret g dX5_weightOf_8 (by rw [← hr]; obtain rfl := Option.some.inj h; rfl)
set_option maxRecDepth 100000 in
set_option maxHeartbeats 4000000 in
theorem s_X5_weightTimesStrength_l1 {w : Wp} {x : Cx} {r : Option Value × Mem} (g : Gd shX w x RX5 cX5_weightTimesStrength 3 (some .int) 0)   (M : Mem) : ∀ (n : Nat) (v1 : Int32) (v2 : Int32) (q : Int32), f_X5_weightTimesStrength_l1 M n v1 v2 = some q → U shX w x r M 40 [(1, .int q)] [] → U shX w x r M 4 [(0, .ref (w.2.2.1 1)), (1, .int v1), (2, .int v2)] [] := by
  intro n
  induction n with
  | zero => intro v1 v2 q h K; rw [f_X5_weightTimesStrength_l1] at h; cases h
  | succ n ih =>
    intro v1 v2 q h K
    rw [f_X5_weightTimesStrength_l1] at h
    refine u_iload_n g 2 dX5_weightTimesStrength_4 rfl ?_
    refine u_aload_n g 0 dX5_weightTimesStrength_5 rfl ?_
    refine gfX5_0 g (c := 1) rfl wf_X5_9 (v := (M.1 1 0)) rfl dX5_weightTimesStrength_6 ?_
    refine u_icmp_ge g 40 dX5_weightTimesStrength_9 (by decide) (fun b1 => ?_) (fun b1 => ?_)
    · have h := ob_pos b1 h
      obtain rfl := Option.some.inj h
      exact u_sub [1] rfl K
    · have h := ob_neg b1 h
      refine u_iload_n g 2 dX5_weightTimesStrength_12 rfl ?_
      refine u_bipush g (v := (16 : Int32)) dX5_weightTimesStrength_13 rfl ?_
      refine u_icmp_ge g 40 dX5_weightTimesStrength_15 (by decide) (fun b2 => ?_) (fun b2 => ?_)
      · have h := ob_pos b2 h
        obtain rfl := Option.some.inj h
        exact u_sub [1] rfl K
      · have h := ob_neg b2 h
        refine u_iload_n g 1 dX5_weightTimesStrength_18 rfl ?_
        refine u_aload_n g 0 dX5_weightTimesStrength_19 rfl ?_
        refine gfX5_3 g (c := 1) rfl wf_X5_22 dX5_weightTimesStrength_20 ?_
        refine u_iload_n g 2 dX5_weightTimesStrength_23 rfl ?_
        obtain ⟨e3, h⟩ := ob_if h
        refine aX_ild g (c := 4) 16 (by decide) rfl (v := (M.1 4 v2.toNatClampNeg)) (inB_in e3) rfl dX5_weightTimesStrength_24 ?_
        refine u_aload_n g 0 dX5_weightTimesStrength_25 rfl ?_
        refine gfX5_1 g (c := 1) rfl wf_X5_15 dX5_weightTimesStrength_26 ?_
        refine u_iload_n g 2 dX5_weightTimesStrength_29 rfl ?_
        obtain ⟨e4, h⟩ := ob_if h
        refine aX_ild g (c := 2) 16 (by decide) rfl (v := (M.1 2 v2.toNatClampNeg)) (inB_in e4) rfl dX5_weightTimesStrength_30 ?_
        refine u_imul g dX5_weightTimesStrength_31 ?_
        refine u_iadd g dX5_weightTimesStrength_32 ?_
        refine u_istore_n g [(1, .int (v1 + ((M.1 4 v2.toNatClampNeg) * (M.1 2 v2.toNatClampNeg)))), (0, .ref (w.2.2.1 1)), (2, .int v2)] dX5_weightTimesStrength_33 (by decide) rfl ?_
        refine u_iinc g 2 [(2, .int (v2 + (1 : Int32))), (1, .int (v1 + ((M.1 4 v2.toNatClampNeg) * (M.1 2 v2.toNatClampNeg)))), (0, .ref (w.2.2.1 1))] dX5_weightTimesStrength_34 rfl rfl (by decide) rfl ?_
        refine u_goto g 4 dX5_weightTimesStrength_37 (by decide) ?_
        exact u_sub [2, 1, 0] rfl (ih (v1 + ((M.1 4 v2.toNatClampNeg) * (M.1 2 v2.toNatClampNeg))) (v2 + (1 : Int32)) _ h K)
set_option maxRecDepth 100000 in
set_option maxHeartbeats 4000000 in
theorem t_X5_weightTimesStrength (w : Wp) (l : Launch)  {M : Mem} {q : Int32} (h : f_X5_weightTimesStrength M = some q) : Ct shX w l yX5_weightTimesStrength cX5_weightTimesStrength 3 (some .int) 0 [.ref (w.2.2.1 1)] M (some (.int q), M) := by
  rw [f_X5_weightTimesStrength] at h
  refine ct_of shX_loc (by decide) (Nat.le_of_ble_eq_true rfl) rfl (fun x hx g => ?_)
  subst hx
  show U shX w x _ M 0 [(0, .ref (w.2.2.1 1))] []
  generalize hr : ((some (.int q), M) : Option Value × Mem) = r
  have g : Gd shX w x RX5 cX5_weightTimesStrength 3 (some .int) 0 := g
  refine u_iconst g (v := (0 : Int32)) dX5_weightTimesStrength_0 rfl ?_
  refine u_istore_n g [(1, .int (0 : Int32)), (0, .ref (w.2.2.1 1))] dX5_weightTimesStrength_1 (by decide) rfl ?_
  refine u_iconst g (v := (0 : Int32)) dX5_weightTimesStrength_2 rfl ?_
  refine u_istore_n g [(2, .int (0 : Int32)), (1, .int (0 : Int32)), (0, .ref (w.2.2.1 1))] dX5_weightTimesStrength_3 (by decide) rfl ?_
  obtain ⟨q1, hq2, h⟩ := ob_bind h
  refine u_sub [2, 1, 0] rfl (s_X5_weightTimesStrength_l1 g M fuelN (0 : Int32) (0 : Int32) _ hq2 ?_)
  show U shX w x r M 40 [(1, .int q1)] []
  refine u_iload_n g 0 dX5_weightTimesStrength_40 rfl ?_
  exact u_iret g dX5_weightTimesStrength_41 (by rw [← hr]; obtain rfl := Option.some.inj h; rfl)
set_option maxRecDepth 100000 in
set_option maxHeartbeats 4000000 in
theorem t_X5_tenthsOrAll (w : Wp) (l : Launch) {a1 : Int32} {M : Mem} {q : Int32} (h : f_X5_tenthsOrAll a1 M = some q) : Ct shX w l yX5_tenthsOrAll cX5_tenthsOrAll 2 (some .int) 1 [.ref (w.2.2.1 1), .int a1] M (some (.int q), M) := by
  rw [f_X5_tenthsOrAll] at h
  refine ct_of shX_loc (by decide) (Nat.le_of_ble_eq_true rfl) rfl (fun x hx g => ?_)
  subst hx
  show U shX w x _ M 0 [(0, .ref (w.2.2.1 1)), (1, .int a1)] []
  generalize hr : ((some (.int q), M) : Option Value × Mem) = r
  have g : Gd shX w x RX5 cX5_tenthsOrAll 2 (some .int) 1 := g
  refine u_aload_n g 0 dX5_tenthsOrAll_0 rfl ?_
  refine u_iload_n g 1 dX5_tenthsOrAll_1 rfl ?_
  obtain ⟨q1, hq2, h⟩ := ob_bind h
  refine u_callV (st := []) g wv_X5_29 [.int a1] (kX_lt (show kX 1 = 5 from rfl) rfl) (ceX_5 (show kX 1 = 5 from rfl)) rfl rfl (t_X5_isThere w x.2.1 hq2) (by decide) (by decide) rfl (Nat.le_of_ble_eq_true rfl) rfl dX5_tenthsOrAll_2 ?_
  show U shX w x r M 5 [(0, .ref (w.2.2.1 1)), (1, .int a1)] [.int q1]
  refine u_if_eq g 17 dX5_tenthsOrAll_5 (by decide) (fun b3 => ?_) (fun b3 => ?_)
  · have h := ob_pos b3 h
    refine u_bipush g (v := (10 : Int32)) dX5_tenthsOrAll_17 rfl ?_
    exact u_iret g dX5_tenthsOrAll_19 (by rw [← hr]; obtain rfl := Option.some.inj h; rfl)
  · have h := ob_neg b3 h
    refine u_aload_n g 0 dX5_tenthsOrAll_8 rfl ?_
    refine gfX5_2 g (c := 1) rfl wf_X5_19 dX5_tenthsOrAll_9 ?_
    refine u_iload_n g 1 dX5_tenthsOrAll_12 rfl ?_
    obtain ⟨e4, h⟩ := ob_if h
    refine aX_ild g (c := 3) 16 (by decide) rfl (v := (M.1 3 a1.toNatClampNeg)) (inB_in e4) rfl dX5_tenthsOrAll_13 ?_
    refine u_goto g 19 dX5_tenthsOrAll_14 (by decide) ?_
    exact u_iret g dX5_tenthsOrAll_19 (by rw [← hr]; obtain rfl := Option.some.inj h; rfl)
set_option maxRecDepth 100000 in
set_option maxHeartbeats 4000000 in
theorem t_X6_isThere (w : Wp) (l : Launch) {t0 : Nat} {M : Mem} {q : Int32} (h : f_X6_isThere t0 M = some q) : Ct shX w l yX6_isThere cX6_isThere 1 (some .boolean) 0 [.ref (w.2.2.1 t0)] M (some (.int q), M) := by
  rw [f_X6_isThere] at h
  obtain ⟨h0, h⟩ := ob_if h
  refine ct_of shX_loc (by decide) (Nat.le_of_ble_eq_true rfl) rfl (fun x hx g => ?_)
  subst hx
  show U shX w x _ M 0 [(0, .ref (w.2.2.1 t0))] []
  generalize hr : ((some (.int q), M) : Option Value × Mem) = r
  have g : Gd shX w x RX6 cX6_isThere 1 (some .boolean) 0 := g
  refine u_aload_n g 0 dX6_isThere_0 rfl ?_
  refine gfX6_0 g h0 wf_X6_9 (v := (M.1 t0 0)) rfl dX6_isThere_1 ?_
  refine u_iconst g (v := (-1 : Int32)) dX6_isThere_4 rfl ?_
  refine u_icmp_eq g 12 dX6_isThere_5 (by decide) (fun b1 => ?_) (fun b1 => ?_)
  · have h := ob_pos b1 h
    refine u_iconst g (v := (0 : Int32)) dX6_isThere_12 rfl ?_
    exact u_zret g (Or.inl rfl) dX6_isThere_13 (by rw [← hr]; obtain rfl := Option.some.inj h; rfl)
  · have h := ob_neg b1 h
    refine u_iconst g (v := (1 : Int32)) dX6_isThere_8 rfl ?_
    refine u_goto g 13 dX6_isThere_9 (by decide) ?_
    exact u_zret g (Or.inr rfl) dX6_isThere_13 (by rw [← hr]; obtain rfl := Option.some.inj h; rfl)
set_option maxRecDepth 100000 in
set_option maxHeartbeats 4000000 in
theorem s_X6_beEven_l1 {w : Wp} {x : Cx} {r : Option Value × Mem} (g : Gd shX w x RX6 cX6_beEven 4 none 1) (t0 : Nat) (h0 : kX t0 = 6) : ∀ (n : Nat) (v3 : Int32) (M : Mem) (q : Mem), f_X6_beEven_l1 t0 n v3 M = some q → U shX w x r q 38 [] [] → U shX w x r M 17 [(0, .ref (w.2.2.1 t0)), (3, .int v3)] [] := by
  intro n
  induction n with
  | zero => intro v3 M q h K; rw [f_X6_beEven_l1] at h; cases h
  | succ n ih =>
    intro v3 M q h K
    rw [f_X6_beEven_l1] at h
    refine u_iload_n g 1 dX6_beEven_17 rfl ?_
    refine u_aload_n g 0 dX6_beEven_18 rfl ?_
    refine gfX6_1 g h0 wf_X6_15 (v := (M.1 t0 1)) rfl dX6_beEven_19 ?_
    refine u_icmp_ge g 38 dX6_beEven_22 (by decide) (fun b1 => ?_) (fun b1 => ?_)
    · have h := ob_pos b1 h
      obtain rfl := Option.some.inj h
      exact u_sub [] rfl K
    · have h := ob_neg b1 h
      refine u_aload_n g 0 dX6_beEven_25 rfl ?_
      refine gfX6_2 g h0 wf_X6_18 dX6_beEven_26 ?_
      refine u_iload_n g 1 dX6_beEven_29 rfl ?_
      refine u_iconst g (v := (1 : Int32)) dX6_beEven_30 rfl ?_
      obtain ⟨e2, h⟩ := ob_if h
      refine aX_ist g (c := (t0 + 1)) 120 (by decide) (kX_s6 h0) (inB_in e2) (j := v3.toNatClampNeg) rfl dX6_beEven_31 ?_
      refine u_iinc g 1 [(3, .int (v3 + (1 : Int32))), (0, .ref (w.2.2.1 t0))] dX6_beEven_32 rfl rfl (by decide) rfl ?_
      refine u_goto g 17 dX6_beEven_35 (by decide) ?_
      exact u_sub [1, 0] rfl (ih (v3 + (1 : Int32)) (sI M (t0 + 1) v3.toNatClampNeg (1 : Int32)) _ h K)
set_option maxRecDepth 100000 in
set_option maxHeartbeats 4000000 in
theorem t_X6_beEven (w : Wp) (l : Launch) {t0 : Nat} {a1 : Int32} {a2 : Int32} {M : Mem} {q : Mem} (h : f_X6_beEven t0 a1 a2 M = some q) : Ct shX w l yX6_beEven cX6_beEven 4 none 1 [.ref (w.2.2.1 t0), .int a1, .int a2] M (none, q) := by
  rw [f_X6_beEven] at h
  obtain ⟨h0, h⟩ := ob_if h
  refine ct_of shX_loc (by decide) (Nat.le_of_ble_eq_true rfl) rfl (fun x hx g => ?_)
  subst hx
  show U shX w x _ M 0 [(0, .ref (w.2.2.1 t0)), (1, .int a1), (2, .int a2)] []
  generalize hr : ((none, q) : Option Value × Mem) = r
  have g : Gd shX w x RX6 cX6_beEven 4 none 1 := g
  refine u_aload_n g 0 dX6_beEven_0 rfl ?_
  refine u_iload_n g 1 dX6_beEven_1 rfl ?_
  refine pfX6_0 g h0 wf_X6_9 dX6_beEven_2 ?_
  refine u_aload_n g 0 dX6_beEven_5 rfl ?_
  refine u_iload_n g 2 dX6_beEven_6 rfl ?_
  refine u_bipush g (v := (120 : Int32)) dX6_beEven_7 rfl ?_
  refine u_mmin (st := [.ref (w.2.2.1 t0)]) g wv_X6_22 (by decide) (Nat.le_of_ble_eq_true rfl) dX6_beEven_9 ?_
  refine pfX6_1 g h0 wf_X6_15 dX6_beEven_12 ?_
  refine u_iconst g (v := (0 : Int32)) dX6_beEven_15 rfl ?_
  refine u_istore_n g [(3, .int (0 : Int32)), (0, .ref (w.2.2.1 t0)), (1, .int a1), (2, .int a2)] dX6_beEven_16 (by decide) rfl ?_
  obtain ⟨q1, hq2, h⟩ := ob_bind h
  refine u_sub [1, 0] rfl (s_X6_beEven_l1 g t0 h0 fuelN (0 : Int32) (sI (sI M t0 0 a1) t0 1 (imin a2 (120 : Int32))) _ hq2 ?_)
  show U shX w x r q1 38 [] []
  exact u_vret g dX6_beEven_38 (by rw [← hr]; obtain rfl := Option.some.inj h; rfl)
set_option maxRecDepth 100000 in
set_option maxHeartbeats 4000000 in
theorem s_X6_become_l1 {w : Wp} {x : Cx} {r : Option Value × Mem} (g : Gd shX w x RX6 cX6_become 3 none 0) (t0 : Nat) (t1 : Nat) (h0 : kX t0 = 6) (h1 : kX t1 = 6) : ∀ (n : Nat) (v2 : Int32) (M : Mem) (q : Mem), f_X6_become_l1 t0 t1 n v2 M = some q → U shX w x r q 44 [] [] → U shX w x r M 18 [(0, .ref (w.2.2.1 t0)), (1, .ref (w.2.2.1 t1)), (2, .int v2)] [] := by
  intro n
  induction n with
  | zero => intro v2 M q h K; rw [f_X6_become_l1] at h; cases h
  | succ n ih =>
    intro v2 M q h K
    rw [f_X6_become_l1] at h
    refine u_iload_n g 2 dX6_become_18 rfl ?_
    refine u_aload_n g 0 dX6_become_19 rfl ?_
    refine gfX6_1 g h0 wf_X6_15 (v := (M.1 t0 1)) rfl dX6_become_20 ?_
    refine u_icmp_ge g 44 dX6_become_23 (by decide) (fun b1 => ?_) (fun b1 => ?_)
    · have h := ob_pos b1 h
      obtain rfl := Option.some.inj h
      exact u_sub [] rfl K
    · have h := ob_neg b1 h
      refine u_aload_n g 0 dX6_become_26 rfl ?_
      refine gfX6_2 g h0 wf_X6_18 dX6_become_27 ?_
      refine u_iload_n g 2 dX6_become_30 rfl ?_
      refine u_aload_n g 1 dX6_become_31 rfl ?_
      refine gfX6_2 g h1 wf_X6_18 dX6_become_32 ?_
      refine u_iload_n g 2 dX6_become_35 rfl ?_
      obtain ⟨e2, h⟩ := ob_if h
      refine aX_ild g (c := (t1 + 1)) 120 (by decide) (kX_s6 h1) (v := (M.1 (t1 + 1) v2.toNatClampNeg)) (inB_in e2) rfl dX6_become_36 ?_
      obtain ⟨e3, h⟩ := ob_if h
      refine aX_ist g (c := (t0 + 1)) 120 (by decide) (kX_s6 h0) (inB_in e3) (j := v2.toNatClampNeg) rfl dX6_become_37 ?_
      refine u_iinc g 2 [(2, .int (v2 + (1 : Int32))), (0, .ref (w.2.2.1 t0)), (1, .ref (w.2.2.1 t1))] dX6_become_38 rfl rfl (by decide) rfl ?_
      refine u_goto g 18 dX6_become_41 (by decide) ?_
      exact u_sub [1, 2, 0] rfl (ih (v2 + (1 : Int32)) (sI M (t0 + 1) v2.toNatClampNeg (M.1 (t1 + 1) v2.toNatClampNeg)) _ h K)
set_option maxRecDepth 100000 in
set_option maxHeartbeats 4000000 in
theorem t_X6_become (w : Wp) (l : Launch) {t0 : Nat} {t1 : Nat} {M : Mem} {q : Mem} (h : f_X6_become t0 t1 M = some q) : Ct shX w l yX6_become cX6_become 3 none 0 [.ref (w.2.2.1 t0), .ref (w.2.2.1 t1)] M (none, q) := by
  rw [f_X6_become] at h
  obtain ⟨h0, h⟩ := ob_if h
  obtain ⟨h1, h⟩ := ob_if h
  refine ct_of shX_loc (by decide) (Nat.le_of_ble_eq_true rfl) rfl (fun x hx g => ?_)
  subst hx
  show U shX w x _ M 0 [(0, .ref (w.2.2.1 t0)), (1, .ref (w.2.2.1 t1))] []
  generalize hr : ((none, q) : Option Value × Mem) = r
  have g : Gd shX w x RX6 cX6_become 3 none 0 := g
  refine u_aload_n g 0 dX6_become_0 rfl ?_
  refine u_aload_n g 1 dX6_become_1 rfl ?_
  refine gfX6_0 g h1 wf_X6_9 (v := (M.1 t1 0)) rfl dX6_become_2 ?_
  refine pfX6_0 g h0 wf_X6_9 dX6_become_5 ?_
  refine u_aload_n g 0 dX6_become_8 rfl ?_
  refine u_aload_n g 1 dX6_become_9 rfl ?_
  refine gfX6_1 g h1 wf_X6_15 (v := ((sI M t0 0 (M.1 t1 0)).1 t1 1)) rfl dX6_become_10 ?_
  refine pfX6_1 g h0 wf_X6_15 dX6_become_13 ?_
  refine u_iconst g (v := (0 : Int32)) dX6_become_16 rfl ?_
  refine u_istore_n g [(2, .int (0 : Int32)), (0, .ref (w.2.2.1 t0)), (1, .ref (w.2.2.1 t1))] dX6_become_17 (by decide) rfl ?_
  obtain ⟨q1, hq2, h⟩ := ob_bind h
  refine u_sub [1, 2, 0] rfl (s_X6_become_l1 g t0 t1 h0 h1 fuelN (0 : Int32) (sI (sI M t0 0 (M.1 t1 0)) t0 1 ((sI M t0 0 (M.1 t1 0)).1 t1 1)) _ hq2 ?_)
  show U shX w x r q1 44 [] []
  exact u_vret g dX6_become_44 (by rw [← hr]; obtain rfl := Option.some.inj h; rfl)
set_option maxRecDepth 100000 in
set_option maxHeartbeats 4000000 in
theorem t_X6_hasPart (w : Wp) (l : Launch) {t0 : Nat} {a1 : Int32} {M : Mem} {q : Int32} (h : f_X6_hasPart t0 a1 M = some q) : Ct shX w l yX6_hasPart cX6_hasPart 2 (some .boolean) 0 [.ref (w.2.2.1 t0), .int a1] M (some (.int q), M) := by
  rw [f_X6_hasPart] at h
  obtain ⟨h0, h⟩ := ob_if h
  refine ct_of shX_loc (by decide) (Nat.le_of_ble_eq_true rfl) rfl (fun x hx g => ?_)
  subst hx
  show U shX w x _ M 0 [(0, .ref (w.2.2.1 t0)), (1, .int a1)] []
  generalize hr : ((some (.int q), M) : Option Value × Mem) = r
  have g : Gd shX w x RX6 cX6_hasPart 2 (some .boolean) 0 := g
  refine u_iload_n g 1 dX6_hasPart_0 rfl ?_
  refine u_if_lt g 16 dX6_hasPart_1 (by decide) (fun b1 => ?_) (fun b1 => ?_)
  · have h := ob_pos b1 h
    refine u_iconst g (v := (0 : Int32)) dX6_hasPart_16 rfl ?_
    exact u_zret g (Or.inl rfl) dX6_hasPart_17 (by rw [← hr]; obtain rfl := Option.some.inj h; rfl)
  · have h := ob_neg b1 h
    refine u_iload_n g 1 dX6_hasPart_4 rfl ?_
    refine u_aload_n g 0 dX6_hasPart_5 rfl ?_
    refine gfX6_1 g h0 wf_X6_15 (v := (M.1 t0 1)) rfl dX6_hasPart_6 ?_
    refine u_icmp_ge g 16 dX6_hasPart_9 (by decide) (fun b2 => ?_) (fun b2 => ?_)
    · have h := ob_pos b2 h
      refine u_iconst g (v := (0 : Int32)) dX6_hasPart_16 rfl ?_
      exact u_zret g (Or.inl rfl) dX6_hasPart_17 (by rw [← hr]; obtain rfl := Option.some.inj h; rfl)
    · have h := ob_neg b2 h
      refine u_iconst g (v := (1 : Int32)) dX6_hasPart_12 rfl ?_
      refine u_goto g 17 dX6_hasPart_13 (by decide) ?_
      exact u_zret g (Or.inr rfl) dX6_hasPart_17 (by rw [← hr]; obtain rfl := Option.some.inj h; rfl)
set_option maxRecDepth 100000 in
set_option maxHeartbeats 4000000 in
theorem t_X6_hasRun (w : Wp) (l : Launch) {t0 : Nat} {a1 : Int32} {a2 : Int32} {M : Mem} {q : Int32} (h : f_X6_hasRun t0 a1 a2 M = some q) : Ct shX w l yX6_hasRun cX6_hasRun 3 (some .boolean) 0 [.ref (w.2.2.1 t0), .int a1, .int a2] M (some (.int q), M) := by
  rw [f_X6_hasRun] at h
  obtain ⟨h0, h⟩ := ob_if h
  refine ct_of shX_loc (by decide) (Nat.le_of_ble_eq_true rfl) rfl (fun x hx g => ?_)
  subst hx
  show U shX w x _ M 0 [(0, .ref (w.2.2.1 t0)), (1, .int a1), (2, .int a2)] []
  generalize hr : ((some (.int q), M) : Option Value × Mem) = r
  have g : Gd shX w x RX6 cX6_hasRun 3 (some .boolean) 0 := g
  refine u_iload_n g 1 dX6_hasRun_0 rfl ?_
  refine u_if_lt g 30 dX6_hasRun_1 (by decide) (fun b1 => ?_) (fun b1 => ?_)
  · have h := ob_pos b1 h
    refine u_iconst g (v := (0 : Int32)) dX6_hasRun_30 rfl ?_
    exact u_zret g (Or.inl rfl) dX6_hasRun_31 (by rw [← hr]; obtain rfl := Option.some.inj h; rfl)
  · have h := ob_neg b1 h
    refine u_iload_n g 2 dX6_hasRun_4 rfl ?_
    refine u_if_lt g 30 dX6_hasRun_5 (by decide) (fun b2 => ?_) (fun b2 => ?_)
    · have h := ob_pos b2 h
      refine u_iconst g (v := (0 : Int32)) dX6_hasRun_30 rfl ?_
      exact u_zret g (Or.inl rfl) dX6_hasRun_31 (by rw [← hr]; obtain rfl := Option.some.inj h; rfl)
    · have h := ob_neg b2 h
      refine u_iload_n g 1 dX6_hasRun_8 rfl ?_
      refine u_aload_n g 0 dX6_hasRun_9 rfl ?_
      refine gfX6_1 g h0 wf_X6_15 (v := (M.1 t0 1)) rfl dX6_hasRun_10 ?_
      refine u_icmp_gt g 30 dX6_hasRun_13 (by decide) (fun b3 => ?_) (fun b3 => ?_)
      · have h := ob_pos b3 h
        refine u_iconst g (v := (0 : Int32)) dX6_hasRun_30 rfl ?_
        exact u_zret g (Or.inl rfl) dX6_hasRun_31 (by rw [← hr]; obtain rfl := Option.some.inj h; rfl)
      · have h := ob_neg b3 h
        refine u_iload_n g 2 dX6_hasRun_16 rfl ?_
        refine u_aload_n g 0 dX6_hasRun_17 rfl ?_
        refine gfX6_1 g h0 wf_X6_15 (v := (M.1 t0 1)) rfl dX6_hasRun_18 ?_
        refine u_iload_n g 1 dX6_hasRun_21 rfl ?_
        refine u_isub g dX6_hasRun_22 ?_
        refine u_icmp_gt g 30 dX6_hasRun_23 (by decide) (fun b4 => ?_) (fun b4 => ?_)
        · have h := ob_pos b4 h
          refine u_iconst g (v := (0 : Int32)) dX6_hasRun_30 rfl ?_
          exact u_zret g (Or.inl rfl) dX6_hasRun_31 (by rw [← hr]; obtain rfl := Option.some.inj h; rfl)
        · have h := ob_neg b4 h
          refine u_iconst g (v := (1 : Int32)) dX6_hasRun_26 rfl ?_
          refine u_goto g 31 dX6_hasRun_27 (by decide) ?_
          exact u_zret g (Or.inr rfl) dX6_hasRun_31 (by rw [← hr]; obtain rfl := Option.some.inj h; rfl)
set_option maxRecDepth 100000 in
set_option maxHeartbeats 4000000 in
theorem s_X6_overlay_l1 {w : Wp} {x : Cx} {r : Option Value × Mem} (g : Gd shX w x RX6 cX6_overlay 8 none 1) (t0 : Nat) (a1 : Int32) (t2 : Nat) (a3 : Int32) (a4 : Int32) (a5 : Int32) (h0 : kX t0 = 6) (h2 : kX t2 = 6) : ∀ (n : Nat) (v6 : Int32) (M : Mem) (q : Mem), f_X6_overlay_l1 t0 a1 t2 a3 a4 a5 n v6 M = some q → U shX w x r q 87 [] [] → U shX w x r M 15 [(0, .ref (w.2.2.1 t0)), (1, .int a1), (2, .ref (w.2.2.1 t2)), (3, .int a3), (4, .int a4), (5, .int a5), (6, .int v6)] [] := by
  intro n
  induction n with
  | zero => intro v6 M q h K; rw [f_X6_overlay_l1] at h; cases h
  | succ n ih =>
    intro v6 M q h K
    rw [f_X6_overlay_l1] at h
    refine u_iload g 6 dX6_overlay_15 rfl ?_
    refine u_iload g 4 dX6_overlay_17 rfl ?_
    refine u_icmp_ge g 87 dX6_overlay_19 (by decide) (fun b4 => ?_) (fun b4 => ?_)
    · have h := ob_pos b4 h
      obtain rfl := Option.some.inj h
      exact u_sub [] rfl K
    · have h := ob_neg b4 h
      refine u_iload g 5 dX6_overlay_22 rfl ?_
      obtain ⟨q5, hq6, h⟩ := ob_bind h
      have K7 : U shX w x r M 39 [(0, .ref (w.2.2.1 t0)), (1, .int a1), (2, .ref (w.2.2.1 t2)), (3, .int a3), (4, .int a4), (5, .int a5), (6, .int v6)] [.int q5] := by
        refine u_istore g [(7, .int q5), (0, .ref (w.2.2.1 t0)), (1, .int a1), (2, .ref (w.2.2.1 t2)), (3, .int a3), (4, .int a4), (5, .int a5), (6, .int v6)] dX6_overlay_39 (by decide) rfl ?_
        refine u_aload_n g 1 dX6_overlay_41 rfl ?_
        refine u_iload_n g 2 dX6_overlay_42 rfl ?_
        refine u_iload g 0 dX6_overlay_43 rfl ?_
        refine u_iadd g dX6_overlay_45 ?_
        obtain ⟨q8, hq9, h⟩ := ob_bind h
        refine u_callV (st := []) g wv_X6_28 [.int (a1 + q5)] (kX_lt h0 rfl) (ceX_6 h0) rfl rfl (t_X6_hasPart w x.2.1 hq9) (by decide) (by decide) rfl (Nat.le_of_ble_eq_true rfl) rfl dX6_overlay_46 ?_
        show U shX w x r M 49 [(7, .int q5), (0, .ref (w.2.2.1 t0)), (1, .int a1), (2, .ref (w.2.2.1 t2)), (3, .int a3), (4, .int a4), (5, .int a5), (6, .int v6)] [.int q8]
        obtain ⟨q10, hq11, h⟩ := ob_bind h
        have K12 : U shX w x r q10 81 [(0, .ref (w.2.2.1 t0)), (1, .int a1), (2, .ref (w.2.2.1 t2)), (3, .int a3), (4, .int a4), (5, .int a5), (6, .int v6)] [] := by
          refine u_iinc g 6 [(6, .int (v6 + (1 : Int32))), (0, .ref (w.2.2.1 t0)), (1, .int a1), (2, .ref (w.2.2.1 t2)), (3, .int a3), (4, .int a4), (5, .int a5)] dX6_overlay_81 rfl rfl (by decide) rfl ?_
          refine u_goto g 15 dX6_overlay_84 (by decide) ?_
          exact u_sub [1, 2, 3, 4, 5, 6, 0] rfl (ih (v6 + (1 : Int32)) q10 _ h K)
        have h := hq11
        refine u_if_eq g 81 dX6_overlay_49 (by decide) (fun b13 => ?_) (fun b13 => ?_)
        · have h := ob_pos b13 h
          obtain rfl := Option.some.inj h
          exact u_sub [1, 2, 3, 4, 5, 6, 7] rfl K12
        · have h := ob_neg b13 h
          refine u_aload_n g 3 dX6_overlay_52 rfl ?_
          refine u_iload_n g 4 dX6_overlay_53 rfl ?_
          refine u_iload g 0 dX6_overlay_54 rfl ?_
          refine u_iadd g dX6_overlay_56 ?_
          obtain ⟨q14, hq15, h⟩ := ob_bind h
          refine u_callV (st := []) g wv_X6_28 [.int (a3 + q5)] (kX_lt h2 rfl) (ceX_6 h2) rfl rfl (t_X6_hasPart w x.2.1 hq15) (by decide) (by decide) rfl (Nat.le_of_ble_eq_true rfl) rfl dX6_overlay_57 ?_
          show U shX w x r M 60 [(7, .int q5), (0, .ref (w.2.2.1 t0)), (1, .int a1), (2, .ref (w.2.2.1 t2)), (3, .int a3), (4, .int a4), (5, .int a5), (6, .int v6)] [.int q14]
          refine u_if_eq g 81 dX6_overlay_60 (by decide) (fun b16 => ?_) (fun b16 => ?_)
          · have h := ob_pos b16 h
            obtain rfl := Option.some.inj h
            exact u_sub [1, 2, 3, 4, 5, 6, 7] rfl K12
          · have h := ob_neg b16 h
            refine u_aload_n g 1 dX6_overlay_63 rfl ?_
            refine gfX6_2 g h0 wf_X6_18 dX6_overlay_64 ?_
            refine u_iload_n g 2 dX6_overlay_67 rfl ?_
            refine u_iload g 0 dX6_overlay_68 rfl ?_
            refine u_iadd g dX6_overlay_70 ?_
            refine u_aload_n g 3 dX6_overlay_71 rfl ?_
            refine gfX6_2 g h2 wf_X6_18 dX6_overlay_72 ?_
            refine u_iload_n g 4 dX6_overlay_75 rfl ?_
            refine u_iload g 0 dX6_overlay_76 rfl ?_
            refine u_iadd g dX6_overlay_78 ?_
            obtain ⟨e17, h⟩ := ob_if h
            refine aX_ild g (c := (t2 + 1)) 120 (by decide) (kX_s6 h2) (v := (M.1 (t2 + 1) (a3 + q5).toNatClampNeg)) (inB_in e17) rfl dX6_overlay_79 ?_
            obtain ⟨e18, h⟩ := ob_if h
            refine aX_ist g (c := (t0 + 1)) 120 (by decide) (kX_s6 h0) (inB_in e18) (j := (a1 + q5).toNatClampNeg) rfl dX6_overlay_80 ?_
            obtain rfl := Option.some.inj h
            exact u_sub [1, 2, 3, 4, 5, 6, 7] rfl K12
      have h := hq6
      refine u_if_eq g 37 dX6_overlay_24 (by decide) (fun b19 => ?_) (fun b19 => ?_)
      · have h := ob_pos b19 h
        refine u_iload g 6 dX6_overlay_37 rfl ?_
        obtain rfl := Option.some.inj h
        exact u_sub [0, 1, 2, 3, 4, 5, 6] rfl K7
      · have h := ob_neg b19 h
        refine u_iload g 4 dX6_overlay_27 rfl ?_
        refine u_iconst g (v := (1 : Int32)) dX6_overlay_29 rfl ?_
        refine u_isub g dX6_overlay_30 ?_
        refine u_iload g 6 dX6_overlay_31 rfl ?_
        refine u_isub g dX6_overlay_33 ?_
        refine u_goto g 39 dX6_overlay_34 (by decide) ?_
        obtain rfl := Option.some.inj h
        exact u_sub [0, 1, 2, 3, 4, 5, 6] rfl K7
set_option maxRecDepth 100000 in
set_option maxHeartbeats 4000000 in
theorem t_X6_overlay (w : Wp) (l : Launch) {t0 : Nat} {a1 : Int32} {t2 : Nat} {a3 : Int32} {a4 : Int32} {M : Mem} {q : Mem} (h : f_X6_overlay t0 a1 t2 a3 a4 M = some q) : Ct shX w l yX6_overlay cX6_overlay 8 none 1 [.ref (w.2.2.1 t0), .int a1, .ref (w.2.2.1 t2), .int a3, .int a4] M (none, q) := by
  rw [f_X6_overlay] at h
  obtain ⟨h0, h⟩ := ob_if h
  obtain ⟨h2, h⟩ := ob_if h
  refine ct_of shX_loc (by decide) (Nat.le_of_ble_eq_true rfl) rfl (fun x hx g => ?_)
  subst hx
  show U shX w x _ M 0 [(0, .ref (w.2.2.1 t0)), (1, .int a1), (2, .ref (w.2.2.1 t2)), (3, .int a3), (4, .int a4)] []
  generalize hr : ((none, q) : Option Value × Mem) = r
  have g : Gd shX w x RX6 cX6_overlay 8 none 1 := g
  refine u_iload_n g 1 dX6_overlay_0 rfl ?_
  refine u_iload_n g 3 dX6_overlay_1 rfl ?_
  obtain ⟨q1, hq2, h⟩ := ob_bind h
  have K3 : U shX w x r M 10 [(0, .ref (w.2.2.1 t0)), (1, .int a1), (2, .ref (w.2.2.1 t2)), (3, .int a3), (4, .int a4)] [.int q1] := by
    refine u_istore g [(5, .int q1), (0, .ref (w.2.2.1 t0)), (1, .int a1), (2, .ref (w.2.2.1 t2)), (3, .int a3), (4, .int a4)] dX6_overlay_10 (by decide) rfl ?_
    refine u_iconst g (v := (0 : Int32)) dX6_overlay_12 rfl ?_
    refine u_istore g [(6, .int (0 : Int32)), (5, .int q1), (0, .ref (w.2.2.1 t0)), (1, .int a1), (2, .ref (w.2.2.1 t2)), (3, .int a3), (4, .int a4)] dX6_overlay_13 (by decide) rfl ?_
    obtain ⟨q4, hq5, h⟩ := ob_bind h
    refine u_sub [2, 3, 4, 5, 6, 1, 0] rfl (s_X6_overlay_l1 g t0 a1 t2 a3 a4 q1 h0 h2 fuelN (0 : Int32) M _ hq5 ?_)
    show U shX w x r q4 87 [] []
    exact u_vret g dX6_overlay_87 (by rw [← hr]; obtain rfl := Option.some.inj h; rfl)
  have h := hq2
  refine u_icmp_le g 9 dX6_overlay_2 (by decide) (fun b6 => ?_) (fun b6 => ?_)
  · have h := ob_pos b6 h
    refine u_iconst g (v := (0 : Int32)) dX6_overlay_9 rfl ?_
    obtain rfl := Option.some.inj h
    exact u_sub [0, 1, 2, 3, 4] rfl K3
  · have h := ob_neg b6 h
    refine u_iconst g (v := (1 : Int32)) dX6_overlay_5 rfl ?_
    refine u_goto g 10 dX6_overlay_6 (by decide) ?_
    obtain rfl := Option.some.inj h
    exact u_sub [0, 1, 2, 3, 4] rfl K3
set_option maxRecDepth 100000 in
set_option maxHeartbeats 4000000 in
theorem s_X6_allParts_l1 {w : Wp} {x : Cx} {r : Option Value × Mem} (g : Gd shX w x RX6 cX6_allParts 3 (some .int) 0) (t0 : Nat) (h0 : kX t0 = 6) (M : Mem) : ∀ (n : Nat) (v1 : Int32) (v2 : Int32) (q : Int32), f_X6_allParts_l1 t0 M n v1 v2 = some q → U shX w x r M 27 [(1, .int q)] [] → U shX w x r M 4 [(0, .ref (w.2.2.1 t0)), (1, .int v1), (2, .int v2)] [] := by
  intro n
  induction n with
  | zero => intro v1 v2 q h K; rw [f_X6_allParts_l1] at h; cases h
  | succ n ih =>
    intro v1 v2 q h K
    rw [f_X6_allParts_l1] at h
    refine u_iload_n g 2 dX6_allParts_4 rfl ?_
    refine u_aload_n g 0 dX6_allParts_5 rfl ?_
    refine gfX6_1 g h0 wf_X6_15 (v := (M.1 t0 1)) rfl dX6_allParts_6 ?_
    refine u_icmp_ge g 27 dX6_allParts_9 (by decide) (fun b1 => ?_) (fun b1 => ?_)
    · have h := ob_pos b1 h
      obtain rfl := Option.some.inj h
      exact u_sub [1] rfl K
    · have h := ob_neg b1 h
      refine u_iload_n g 1 dX6_allParts_12 rfl ?_
      refine u_aload_n g 0 dX6_allParts_13 rfl ?_
      refine gfX6_2 g h0 wf_X6_18 dX6_allParts_14 ?_
      refine u_iload_n g 2 dX6_allParts_17 rfl ?_
      obtain ⟨e2, h⟩ := ob_if h
      refine aX_ild g (c := (t0 + 1)) 120 (by decide) (kX_s6 h0) (v := (M.1 (t0 + 1) v2.toNatClampNeg)) (inB_in e2) rfl dX6_allParts_18 ?_
      refine u_iadd g dX6_allParts_19 ?_
      refine u_istore_n g [(1, .int (v1 + (M.1 (t0 + 1) v2.toNatClampNeg))), (0, .ref (w.2.2.1 t0)), (2, .int v2)] dX6_allParts_20 (by decide) rfl ?_
      refine u_iinc g 2 [(2, .int (v2 + (1 : Int32))), (1, .int (v1 + (M.1 (t0 + 1) v2.toNatClampNeg))), (0, .ref (w.2.2.1 t0))] dX6_allParts_21 rfl rfl (by decide) rfl ?_
      refine u_goto g 4 dX6_allParts_24 (by decide) ?_
      exact u_sub [2, 1, 0] rfl (ih (v1 + (M.1 (t0 + 1) v2.toNatClampNeg)) (v2 + (1 : Int32)) _ h K)
set_option maxRecDepth 100000 in
set_option maxHeartbeats 4000000 in
theorem t_X6_allParts (w : Wp) (l : Launch) {t0 : Nat} {M : Mem} {q : Int32} (h : f_X6_allParts t0 M = some q) : Ct shX w l yX6_allParts cX6_allParts 3 (some .int) 0 [.ref (w.2.2.1 t0)] M (some (.int q), M) := by
  rw [f_X6_allParts] at h
  obtain ⟨h0, h⟩ := ob_if h
  refine ct_of shX_loc (by decide) (Nat.le_of_ble_eq_true rfl) rfl (fun x hx g => ?_)
  subst hx
  show U shX w x _ M 0 [(0, .ref (w.2.2.1 t0))] []
  generalize hr : ((some (.int q), M) : Option Value × Mem) = r
  have g : Gd shX w x RX6 cX6_allParts 3 (some .int) 0 := g
  refine u_iconst g (v := (0 : Int32)) dX6_allParts_0 rfl ?_
  refine u_istore_n g [(1, .int (0 : Int32)), (0, .ref (w.2.2.1 t0))] dX6_allParts_1 (by decide) rfl ?_
  refine u_iconst g (v := (0 : Int32)) dX6_allParts_2 rfl ?_
  refine u_istore_n g [(2, .int (0 : Int32)), (1, .int (0 : Int32)), (0, .ref (w.2.2.1 t0))] dX6_allParts_3 (by decide) rfl ?_
  obtain ⟨q1, hq2, h⟩ := ob_bind h
  refine u_sub [2, 1, 0] rfl (s_X6_allParts_l1 g t0 h0 M fuelN (0 : Int32) (0 : Int32) _ hq2 ?_)
  show U shX w x r M 27 [(1, .int q1)] []
  refine u_iload_n g 0 dX6_allParts_27 rfl ?_
  exact u_iret g dX6_allParts_28 (by rw [← hr]; obtain rfl := Option.some.inj h; rfl)
set_option maxRecDepth 100000 in
set_option maxHeartbeats 4000000 in
theorem s_X6_partsWith_l1 {w : Wp} {x : Cx} {r : Option Value × Mem} (g : Gd shX w x RX6 cX6_partsWith 5 (some .int) 0) (t0 : Nat) (t1 : Nat) (a2 : Int32) (h0 : kX t0 = 6) (h1 : kX t1 = 1) (M : Mem) : ∀ (n : Nat) (v3 : Int32) (v4 : Int32) (q : Int32), f_X6_partsWith_l1 t0 t1 a2 M n v3 v4 = some q → U shX w x r M 53 [(3, .int q)] [] → U shX w x r M 5 [(0, .ref (w.2.2.1 t0)), (1, .ref (w.2.2.1 t1)), (2, .int a2), (3, .int v3), (4, .int v4)] [] := by
  intro n
  induction n with
  | zero => intro v3 v4 q h K; rw [f_X6_partsWith_l1] at h; cases h
  | succ n ih =>
    intro v3 v4 q h K
    rw [f_X6_partsWith_l1] at h
    refine u_iload g 4 dX6_partsWith_5 rfl ?_
    refine u_aload_n g 0 dX6_partsWith_7 rfl ?_
    refine gfX6_1 g h0 wf_X6_15 (v := (M.1 t0 1)) rfl dX6_partsWith_8 ?_
    refine u_icmp_ge g 53 dX6_partsWith_11 (by decide) (fun b1 => ?_) (fun b1 => ?_)
    · have h := ob_pos b1 h
      obtain rfl := Option.some.inj h
      exact u_sub [3] rfl K
    · have h := ob_neg b1 h
      refine u_iload g 4 dX6_partsWith_14 rfl ?_
      refine u_aload_n g 1 dX6_partsWith_16 rfl ?_
      refine gfX1_1 g h1 wf_X6_32 (v := (M.1 t1 1)) rfl dX6_partsWith_17 ?_
      refine u_icmp_ge g 53 dX6_partsWith_20 (by decide) (fun b2 => ?_) (fun b2 => ?_)
      · have h := ob_pos b2 h
        obtain rfl := Option.some.inj h
        exact u_sub [3] rfl K
      · have h := ob_neg b2 h
        refine u_aload_n g 1 dX6_partsWith_23 rfl ?_
        refine gfX1_2 g h1 wf_X6_35 dX6_partsWith_24 ?_
        refine u_iload g 4 dX6_partsWith_27 rfl ?_
        obtain ⟨e3, h⟩ := ob_if h
        refine aX_ild g (c := (t1 + 1)) 120 (by decide) (kX_s1 h1) (v := (M.1 (t1 + 1) v4.toNatClampNeg)) (inB_in e3) rfl dX6_partsWith_29 ?_
        refine u_iload_n g 2 dX6_partsWith_30 rfl ?_
        refine u_ishr g dX6_partsWith_31 ?_
        refine u_iconst g (v := (1 : Int32)) dX6_partsWith_32 rfl ?_
        refine u_iand g dX6_partsWith_33 ?_
        obtain ⟨q4, hq5, h⟩ := ob_bind h
        have K6 : U shX w x r M 47 [(0, .ref (w.2.2.1 t0)), (1, .ref (w.2.2.1 t1)), (2, .int a2), (3, .int q4), (4, .int v4)] [] := by
          refine u_iinc g 4 [(4, .int (v4 + (1 : Int32))), (0, .ref (w.2.2.1 t0)), (1, .ref (w.2.2.1 t1)), (2, .int a2), (3, .int q4)] dX6_partsWith_47 rfl rfl (by decide) rfl ?_
          refine u_goto g 5 dX6_partsWith_50 (by decide) ?_
          exact u_sub [1, 2, 3, 4, 0] rfl (ih q4 (v4 + (1 : Int32)) _ h K)
        have h := hq5
        refine u_if_eq g 47 dX6_partsWith_34 (by decide) (fun b7 => ?_) (fun b7 => ?_)
        · have h := ob_pos b7 h
          obtain rfl := Option.some.inj h
          exact u_sub [0, 1, 2, 3, 4] rfl K6
        · have h := ob_neg b7 h
          refine u_iload_n g 3 dX6_partsWith_37 rfl ?_
          refine u_aload_n g 0 dX6_partsWith_38 rfl ?_
          refine gfX6_2 g h0 wf_X6_18 dX6_partsWith_39 ?_
          refine u_iload g 4 dX6_partsWith_42 rfl ?_
          obtain ⟨e8, h⟩ := ob_if h
          refine aX_ild g (c := (t0 + 1)) 120 (by decide) (kX_s6 h0) (v := (M.1 (t0 + 1) v4.toNatClampNeg)) (inB_in e8) rfl dX6_partsWith_44 ?_
          refine u_iadd g dX6_partsWith_45 ?_
          refine u_istore_n g [(3, .int (v3 + (M.1 (t0 + 1) v4.toNatClampNeg))), (0, .ref (w.2.2.1 t0)), (1, .ref (w.2.2.1 t1)), (2, .int a2), (4, .int v4)] dX6_partsWith_46 (by decide) rfl ?_
          obtain rfl := Option.some.inj h
          exact u_sub [1, 2, 3, 0, 4] rfl K6
set_option maxRecDepth 100000 in
set_option maxHeartbeats 4000000 in
theorem t_X6_partsWith (w : Wp) (l : Launch) {t0 : Nat} {t1 : Nat} {a2 : Int32} {M : Mem} {q : Int32} (h : f_X6_partsWith t0 t1 a2 M = some q) : Ct shX w l yX6_partsWith cX6_partsWith 5 (some .int) 0 [.ref (w.2.2.1 t0), .ref (w.2.2.1 t1), .int a2] M (some (.int q), M) := by
  rw [f_X6_partsWith] at h
  obtain ⟨h0, h⟩ := ob_if h
  obtain ⟨h1, h⟩ := ob_if h
  refine ct_of shX_loc (by decide) (Nat.le_of_ble_eq_true rfl) rfl (fun x hx g => ?_)
  subst hx
  show U shX w x _ M 0 [(0, .ref (w.2.2.1 t0)), (1, .ref (w.2.2.1 t1)), (2, .int a2)] []
  generalize hr : ((some (.int q), M) : Option Value × Mem) = r
  have g : Gd shX w x RX6 cX6_partsWith 5 (some .int) 0 := g
  refine u_iconst g (v := (0 : Int32)) dX6_partsWith_0 rfl ?_
  refine u_istore_n g [(3, .int (0 : Int32)), (0, .ref (w.2.2.1 t0)), (1, .ref (w.2.2.1 t1)), (2, .int a2)] dX6_partsWith_1 (by decide) rfl ?_
  refine u_iconst g (v := (0 : Int32)) dX6_partsWith_2 rfl ?_
  refine u_istore g [(4, .int (0 : Int32)), (3, .int (0 : Int32)), (0, .ref (w.2.2.1 t0)), (1, .ref (w.2.2.1 t1)), (2, .int a2)] dX6_partsWith_3 (by decide) rfl ?_
  obtain ⟨q1, hq2, h⟩ := ob_bind h
  refine u_sub [2, 3, 4, 1, 0] rfl (s_X6_partsWith_l1 g t0 t1 a2 h0 h1 M fuelN (0 : Int32) (0 : Int32) _ hq2 ?_)
  show U shX w x r M 53 [(3, .int q1)] []
  refine u_iload_n g 0 dX6_partsWith_53 rfl ?_
  exact u_iret g dX6_partsWith_54 (by rw [← hr]; obtain rfl := Option.some.inj h; rfl)
set_option maxRecDepth 100000 in
set_option maxHeartbeats 4000000 in
theorem s_X7_grownWord_l1 {w : Wp} {x : Cx} {r : Option Value × Mem} (g : Gd shX w x RX7 cX7_grownWord 5 (some .long) 0) (a0 : Int64)  (M : Mem) : ∀ (n : Nat) (v2 : Int64) (v4 : Int32) (q : Int64), f_X7_grownWord_l1 a0 n v2 v4 = some q → U shX w x r M 34 [(2, .long q)] [] → U shX w x r M 5 [(0, .long a0), (2, .long v2), (4, .int v4)] [] := by
  intro n
  induction n with
  | zero => intro v2 v4 q h K; rw [f_X7_grownWord_l1] at h; cases h
  | succ n ih =>
    intro v2 v4 q h K
    rw [f_X7_grownWord_l1] at h
    refine u_iload g 2 dX7_grownWord_5 rfl ?_
    refine u_bipush g (v := (6 : Int32)) dX7_grownWord_7 rfl ?_
    refine u_icmp_ge g 34 dX7_grownWord_9 (by decide) (fun b1 => ?_) (fun b1 => ?_)
    · have h := ob_pos b1 h
      obtain rfl := Option.some.inj h
      exact u_sub [1] rfl K
    · have h := ob_neg b1 h
      refine u_lload_n g 1 dX7_grownWord_12 rfl ?_
      refine u_lload_n g 0 dX7_grownWord_13 rfl ?_
      refine u_getsW g wf_X7_86 dX7_grownWord_14 ?_
      refine u_iload g 2 dX7_grownWord_17 rfl ?_
      obtain ⟨e2, h⟩ := ob_if h
      refine u_tlW g (inB_in e2) dX7_grownWord_19 ?_
      refine u_land g dX7_grownWord_20 ?_
      refine u_iconst g (v := (1 : Int32)) dX7_grownWord_21 rfl ?_
      refine u_iload g 2 dX7_grownWord_22 rfl ?_
      refine u_ishl g dX7_grownWord_24 ?_
      refine u_lshl g dX7_grownWord_25 ?_
      refine u_lor g dX7_grownWord_26 ?_
      refine u_lstore_n g [(2, .long (v2 ||| (lshl (a0 &&& (WL v4.toNatClampNeg)) ((1 : Int32) <<< (v4 &&& 31))))), (0, .long a0), (4, .int v4)] dX7_grownWord_27 (by decide) rfl ?_
      refine u_iinc g 2 [(4, .int (v4 + (1 : Int32))), (2, .long (v2 ||| (lshl (a0 &&& (WL v4.toNatClampNeg)) ((1 : Int32) <<< (v4 &&& 31))))), (0, .long a0)] dX7_grownWord_28 rfl rfl (by decide) rfl ?_
      refine u_goto g 5 dX7_grownWord_31 (by decide) ?_
      exact u_sub [2, 1, 0] rfl (ih (v2 ||| (lshl (a0 &&& (WL v4.toNatClampNeg)) ((1 : Int32) <<< (v4 &&& 31)))) (v4 + (1 : Int32)) _ h K)
set_option maxRecDepth 100000 in
set_option maxHeartbeats 4000000 in
theorem t_X7_grownWord (w : Wp) (l : Launch) {a0 : Int64} {M : Mem} {q : Int64} (h : f_X7_grownWord a0 = some q) : Ct shX w l yX7_grownWord cX7_grownWord 5 (some .long) 0 [.long a0] M (some (.long q), M) := by
  rw [f_X7_grownWord] at h
  refine ct_of shX_loc (by decide) (Nat.le_of_ble_eq_true rfl) rfl (fun x hx g => ?_)
  subst hx
  show U shX w x _ M 0 [(0, .long a0)] []
  generalize hr : ((some (.long q), M) : Option Value × Mem) = r
  have g : Gd shX w x RX7 cX7_grownWord 5 (some .long) 0 := g
  refine u_lconst g (v := (0 : Int64)) dX7_grownWord_0 rfl ?_
  refine u_lstore_n g [(2, .long (0 : Int64)), (0, .long a0)] dX7_grownWord_1 (by decide) rfl ?_
  refine u_iconst g (v := (0 : Int32)) dX7_grownWord_2 rfl ?_
  refine u_istore g [(4, .int (0 : Int32)), (2, .long (0 : Int64)), (0, .long a0)] dX7_grownWord_3 (by decide) rfl ?_
  obtain ⟨q1, hq2, h⟩ := ob_bind h
  refine u_sub [2, 1, 0] rfl (s_X7_grownWord_l1 g a0 M fuelN (0 : Int64) (0 : Int32) _ hq2 ?_)
  show U shX w x r M 34 [(2, .long q1)] []
  refine u_lload_n g 0 dX7_grownWord_34 rfl ?_
  exact u_lret g dX7_grownWord_35 (by rw [← hr]; obtain rfl := Option.some.inj h; rfl)
set_option maxRecDepth 100000 in
set_option maxHeartbeats 4000000 in
theorem s_X7_keepLeast_l2 {w : Wp} {x : Cx} {r : Option Value × Mem} (g : Gd shX w x RX7 cX7_keepLeast 5 none 1) (a1 : Int32)  (M : Mem) : ∀ (n : Nat) (v2 : Int64) (v4 : Int32) (q : Int64), f_X7_keepLeast_l2 a1 M n v2 v4 = some q → U shX w x r M 58 [(0, .ref (w.2.2.1 255)), (1, .int a1), (2, .long q)] [] → U shX w x r M 24 [(0, .ref (w.2.2.1 255)), (1, .int a1), (2, .long v2), (4, .int v4)] [] := by
  intro n
  induction n with
  | zero => intro v2 v4 q h K; rw [f_X7_keepLeast_l2] at h; cases h
  | succ n ih =>
    intro v2 v4 q h K
    rw [f_X7_keepLeast_l2] at h
    refine u_iload g 3 dX7_keepLeast_24 rfl ?_
    refine u_iload_n g 1 dX7_keepLeast_26 rfl ?_
    refine u_icmp_gt g 58 dX7_keepLeast_27 (by decide) (fun b5 => ?_) (fun b5 => ?_)
    · have h := ob_pos b5 h
      obtain rfl := Option.some.inj h
      exact u_sub [0, 1, 2] rfl K
    · have h := ob_neg b5 h
      refine u_iload_n g 1 dX7_keepLeast_30 rfl ?_
      refine u_iload g 3 dX7_keepLeast_31 rfl ?_
      refine u_iand g dX7_keepLeast_33 ?_
      obtain ⟨q6, hq7, h⟩ := ob_bind h
      have K8 : U shX w x r M 49 [(0, .ref (w.2.2.1 255)), (1, .int a1), (2, .long q6), (4, .int v4)] [] := by
        refine u_iload g 3 dX7_keepLeast_49 rfl ?_
        refine u_iconst g (v := (1 : Int32)) dX7_keepLeast_51 rfl ?_
        refine u_ishl g dX7_keepLeast_52 ?_
        refine u_istore g [(4, .int (v4 <<< ((1 : Int32) &&& 31))), (0, .ref (w.2.2.1 255)), (1, .int a1), (2, .long q6)] dX7_keepLeast_53 (by decide) rfl ?_
        refine u_goto g 24 dX7_keepLeast_55 (by decide) ?_
        exact u_sub [1, 2, 3, 0] rfl (ih q6 (v4 <<< ((1 : Int32) &&& 31)) _ h K)
      have h := hq7
      refine u_if_eq g 49 dX7_keepLeast_34 (by decide) (fun b9 => ?_) (fun b9 => ?_)
      · have h := ob_pos b9 h
        obtain rfl := Option.some.inj h
        exact u_sub [0, 1, 2, 3] rfl K8
      · have h := ob_neg b9 h
        refine u_lload_n g 2 dX7_keepLeast_37 rfl ?_
        refine u_aload_n g 0 dX7_keepLeast_38 rfl ?_
        refine gfX7_0 g (c := 255) rfl wf_X7_11 dX7_keepLeast_39 ?_
        refine u_iload_n g 1 dX7_keepLeast_42 rfl ?_
        refine u_iload g 3 dX7_keepLeast_43 rfl ?_
        refine u_isub g dX7_keepLeast_45 ?_
        obtain ⟨e10, h⟩ := ob_if h
        refine aX_lld g (c := 256) 1024 (by decide) rfl (v := (M.2 256 (a1 - v4).toNatClampNeg)) (inB_in e10) rfl dX7_keepLeast_46 ?_
        refine u_lor g dX7_keepLeast_47 ?_
        refine u_lstore_n g [(2, .long (v2 ||| (M.2 256 (a1 - v4).toNatClampNeg))), (0, .ref (w.2.2.1 255)), (1, .int a1), (4, .int v4)] dX7_keepLeast_48 (by decide) rfl ?_
        obtain rfl := Option.some.inj h
        exact u_sub [1, 2, 0, 3] rfl K8
set_option maxRecDepth 100000 in
set_option maxHeartbeats 4000000 in
theorem s_X7_keepLeast_l1 {w : Wp} {x : Cx} {r : Option Value × Mem} (g : Gd shX w x RX7 cX7_keepLeast 5 none 1)   : ∀ (n : Nat) (v1 : Int32) (M : Mem) (q : Mem), f_X7_keepLeast_l1 n v1 M = some q → U shX w x r q 78 [] [] → U shX w x r M 7 [(0, .ref (w.2.2.1 255)), (1, .int v1)] [] := by
  intro n
  induction n with
  | zero => intro v1 M q h K; rw [f_X7_keepLeast_l1] at h; cases h
  | succ n ih =>
    intro v1 M q h K
    rw [f_X7_keepLeast_l1] at h
    refine u_iload_n g 1 dX7_keepLeast_7 rfl ?_
    refine u_if_lt g 78 dX7_keepLeast_8 (by decide) (fun b1 => ?_) (fun b1 => ?_)
    · have h := ob_pos b1 h
      obtain rfl := Option.some.inj h
      exact u_sub [] rfl K
    · have h := ob_neg b1 h
      refine u_aload_n g 0 dX7_keepLeast_11 rfl ?_
      refine gfX7_0 g (c := 255) rfl wf_X7_11 dX7_keepLeast_12 ?_
      refine u_iload_n g 1 dX7_keepLeast_15 rfl ?_
      obtain ⟨e2, h⟩ := ob_if h
      refine aX_lld g (c := 256) 1024 (by decide) rfl (v := (M.2 256 v1.toNatClampNeg)) (inB_in e2) rfl dX7_keepLeast_16 ?_
      obtain ⟨q3, hq4, h⟩ := ob_bind h
      refine u_callS (st := []) g wv_X7_35 [.long (M.2 256 v1.toNatClampNeg)] (t_X7_grownWord w x.2.1 hq4) (by decide) (by decide) rfl (Nat.le_of_ble_eq_true rfl) rfl dX7_keepLeast_17 ?_
      show U shX w x r M 20 [(0, .ref (w.2.2.1 255)), (1, .int v1)] [.long q3]
      refine u_lstore_n g [(2, .long q3), (0, .ref (w.2.2.1 255)), (1, .int v1)] dX7_keepLeast_20 (by decide) rfl ?_
      refine u_iconst g (v := (1 : Int32)) dX7_keepLeast_21 rfl ?_
      refine u_istore g [(4, .int (1 : Int32)), (2, .long q3), (0, .ref (w.2.2.1 255)), (1, .int v1)] dX7_keepLeast_22 (by decide) rfl ?_
      obtain ⟨q5, hq6, h⟩ := ob_bind h
      refine u_sub [2, 3, 1, 0] rfl (s_X7_keepLeast_l2 g v1 M fuelN q3 (1 : Int32) _ hq6 ?_)
      show U shX w x r M 58 [(0, .ref (w.2.2.1 255)), (1, .int v1), (2, .long q5)] []
      refine u_aload_n g 0 dX7_keepLeast_58 rfl ?_
      refine gfX7_0 g (c := 255) rfl wf_X7_11 dX7_keepLeast_59 ?_
      refine u_iload_n g 1 dX7_keepLeast_62 rfl ?_
      refine u_dup2 g dX7_keepLeast_63 rfl rfl ?_
      obtain ⟨e7, h⟩ := ob_if h
      refine aX_lld g (c := 256) 1024 (by decide) rfl (v := (M.2 256 v1.toNatClampNeg)) (inB_in e7) rfl dX7_keepLeast_64 ?_
      refine u_lload_n g 2 dX7_keepLeast_65 rfl ?_
      refine u_ldc2_w g wk_X7_38 dX7_keepLeast_66 ?_
      refine u_lxor g dX7_keepLeast_69 ?_
      refine u_land g dX7_keepLeast_70 ?_
      obtain ⟨e8, h⟩ := ob_if h
      refine aX_lst g (c := 256) 1024 (by decide) rfl (inB_in e8) (j := v1.toNatClampNeg) rfl dX7_keepLeast_71 ?_
      refine u_iinc g 1 [(1, .int (v1 + (-1 : Int32))), (0, .ref (w.2.2.1 255)), (2, .long q5)] dX7_keepLeast_72 rfl rfl (by decide) rfl ?_
      refine u_goto g 7 dX7_keepLeast_75 (by decide) ?_
      exact u_sub [1, 0] rfl (ih (v1 + (-1 : Int32)) (sL M 256 v1.toNatClampNeg ((M.2 256 v1.toNatClampNeg) &&& (q5 ^^^ (-1 : Int64)))) _ h K)
set_option maxRecDepth 100000 in
set_option maxHeartbeats 4000000 in
theorem t_X7_keepLeast (w : Wp) (l : Launch)  {M : Mem} {q : Mem} (h : f_X7_keepLeast M = some q) : Ct shX w l yX7_keepLeast cX7_keepLeast 5 none 1 [.ref (w.2.2.1 255)] M (none, q) := by
  rw [f_X7_keepLeast] at h
  refine ct_of shX_loc (by decide) (Nat.le_of_ble_eq_true rfl) rfl (fun x hx g => ?_)
  subst hx
  show U shX w x _ M 0 [(0, .ref (w.2.2.1 255))] []
  generalize hr : ((none, q) : Option Value × Mem) = r
  have g : Gd shX w x RX7 cX7_keepLeast 5 none 1 := g
  refine u_aload_n g 0 dX7_keepLeast_0 rfl ?_
  refine gfX7_2 g (c := 255) rfl wf_X7_18 (v := (M.1 255 2)) rfl dX7_keepLeast_1 ?_
  refine u_iconst g (v := (1 : Int32)) dX7_keepLeast_4 rfl ?_
  refine u_isub g dX7_keepLeast_5 ?_
  refine u_istore_n g [(1, .int ((M.1 255 2) - (1 : Int32))), (0, .ref (w.2.2.1 255))] dX7_keepLeast_6 (by decide) rfl ?_
  obtain ⟨q1, hq2, h⟩ := ob_bind h
  refine u_sub [1, 0] rfl (s_X7_keepLeast_l1 g fuelN ((M.1 255 2) - (1 : Int32)) M _ hq2 ?_)
  show U shX w x r q1 78 [] []
  exact u_vret g dX7_keepLeast_78 (by rw [← hr]; obtain rfl := Option.some.inj h; rfl)
set_option maxRecDepth 100000 in
set_option maxHeartbeats 4000000 in
theorem s_X7_countSets_l1 {w : Wp} {x : Cx} {r : Option Value × Mem} (g : Gd shX w x RX7 cX7_countSets 3 (some .int) 1)   (M : Mem) : ∀ (n : Nat) (v1 : Int32) (v2 : Int32) (q : Int32), f_X7_countSets_l1 M n v1 v2 = some q → U shX w x r M 30 [(1, .int q)] [] → U shX w x r M 4 [(0, .ref (w.2.2.1 255)), (1, .int v1), (2, .int v2)] [] := by
  intro n
  induction n with
  | zero => intro v1 v2 q h K; rw [f_X7_countSets_l1] at h; cases h
  | succ n ih =>
    intro v1 v2 q h K
    rw [f_X7_countSets_l1] at h
    refine u_iload_n g 2 dX7_countSets_4 rfl ?_
    refine u_aload_n g 0 dX7_countSets_5 rfl ?_
    refine gfX7_2 g (c := 255) rfl wf_X7_18 (v := (M.1 255 2)) rfl dX7_countSets_6 ?_
    refine u_icmp_ge g 30 dX7_countSets_9 (by decide) (fun b1 => ?_) (fun b1 => ?_)
    · have h := ob_pos b1 h
      obtain rfl := Option.some.inj h
      exact u_sub [1] rfl K
    · have h := ob_neg b1 h
      refine u_iload_n g 1 dX7_countSets_12 rfl ?_
      refine u_aload_n g 0 dX7_countSets_13 rfl ?_
      refine gfX7_0 g (c := 255) rfl wf_X7_11 dX7_countSets_14 ?_
      refine u_iload_n g 2 dX7_countSets_17 rfl ?_
      obtain ⟨e2, h⟩ := ob_if h
      refine aX_lld g (c := 256) 1024 (by decide) rfl (v := (M.2 256 v2.toNatClampNeg)) (inB_in e2) rfl dX7_countSets_18 ?_
      obtain ⟨q3, hq4, h⟩ := ob_bind h
      refine u_callS (st := [.int v1]) g wv_X7_55 [.long (M.2 256 v2.toNatClampNeg)] (t_J13_bitCount_95d88 w x.2.1 hq4) (by decide) (by decide) rfl (Nat.le_of_ble_eq_true rfl) rfl dX7_countSets_19 ?_
      show U shX w x r M 22 [(0, .ref (w.2.2.1 255)), (1, .int v1), (2, .int v2)] [.int q3, .int v1]
      refine u_iadd g dX7_countSets_22 ?_
      refine u_istore_n g [(1, .int (v1 + q3)), (0, .ref (w.2.2.1 255)), (2, .int v2)] dX7_countSets_23 (by decide) rfl ?_
      refine u_iinc g 2 [(2, .int (v2 + (1 : Int32))), (1, .int (v1 + q3)), (0, .ref (w.2.2.1 255))] dX7_countSets_24 rfl rfl (by decide) rfl ?_
      refine u_goto g 4 dX7_countSets_27 (by decide) ?_
      exact u_sub [2, 1, 0] rfl (ih (v1 + q3) (v2 + (1 : Int32)) _ h K)
set_option maxRecDepth 100000 in
set_option maxHeartbeats 4000000 in
theorem t_X7_countSets (w : Wp) (l : Launch)  {M : Mem} {q : Int32} (h : f_X7_countSets M = some q) : Ct shX w l yX7_countSets cX7_countSets 3 (some .int) 1 [.ref (w.2.2.1 255)] M (some (.int q), M) := by
  rw [f_X7_countSets] at h
  refine ct_of shX_loc (by decide) (Nat.le_of_ble_eq_true rfl) rfl (fun x hx g => ?_)
  subst hx
  show U shX w x _ M 0 [(0, .ref (w.2.2.1 255))] []
  generalize hr : ((some (.int q), M) : Option Value × Mem) = r
  have g : Gd shX w x RX7 cX7_countSets 3 (some .int) 1 := g
  refine u_iconst g (v := (0 : Int32)) dX7_countSets_0 rfl ?_
  refine u_istore_n g [(1, .int (0 : Int32)), (0, .ref (w.2.2.1 255))] dX7_countSets_1 (by decide) rfl ?_
  refine u_iconst g (v := (0 : Int32)) dX7_countSets_2 rfl ?_
  refine u_istore_n g [(2, .int (0 : Int32)), (1, .int (0 : Int32)), (0, .ref (w.2.2.1 255))] dX7_countSets_3 (by decide) rfl ?_
  obtain ⟨q1, hq2, h⟩ := ob_bind h
  refine u_sub [2, 1, 0] rfl (s_X7_countSets_l1 g M fuelN (0 : Int32) (0 : Int32) _ hq2 ?_)
  show U shX w x r M 30 [(1, .int q1)] []
  refine u_iload_n g 0 dX7_countSets_30 rfl ?_
  exact u_iret g dX7_countSets_31 (by rw [← hr]; obtain rfl := Option.some.inj h; rfl)
set_option maxRecDepth 100000 in
set_option maxHeartbeats 4000000 in
theorem s_X7_smallestSet_l1 {w : Wp} {x : Cx} {r : Option Value × Mem} (g : Gd shX w x RX7 cX7_smallestSet 4 (some .int) 3)   (M : Mem) : ∀ (n : Nat) (v1 : Int32) (v2 : Int32) (v3 : Int32) (q : Int32), f_X7_smallestSet_l1 M n v1 v2 v3 = some q → U shX w x r M 47 [(1, .int q)] [] → U shX w x r M 10 [(0, .ref (w.2.2.1 255)), (1, .int v1), (2, .int v2), (3, .int v3)] [] := by
  intro n
  induction n with
  | zero => intro v1 v2 v3 q h K; rw [f_X7_smallestSet_l1] at h; cases h
  | succ n ih =>
    intro v1 v2 v3 q h K
    rw [f_X7_smallestSet_l1] at h
    refine u_iload_n g 3 dX7_smallestSet_10 rfl ?_
    refine u_ldc g wk_X7_63 dX7_smallestSet_11 ?_
    refine u_icmp_ge g 47 dX7_smallestSet_13 (by decide) (fun b3 => ?_) (fun b3 => ?_)
    · have h := ob_pos b3 h
      obtain rfl := Option.some.inj h
      exact u_sub [1] rfl K
    · have h := ob_neg b3 h
      refine u_iload_n g 2 dX7_smallestSet_16 rfl ?_
      refine u_if_lt g 47 dX7_smallestSet_17 (by decide) (fun b4 => ?_) (fun b4 => ?_)
      · have h := ob_pos b4 h
        obtain rfl := Option.some.inj h
        exact u_sub [1] rfl K
      · have h := ob_neg b4 h
        refine u_iload_n g 2 dX7_smallestSet_20 rfl ?_
        obtain ⟨q5, hq6, h⟩ := ob_bind h
        refine u_callS (st := []) g wv_X7_64 [.int v2] (t_J6_bitCount_0f7a4 w x.2.1 hq6) (by decide) (by decide) rfl (Nat.le_of_ble_eq_true rfl) rfl dX7_smallestSet_21 ?_
        show U shX w x r M 24 [(0, .ref (w.2.2.1 255)), (1, .int v1), (2, .int v2), (3, .int v3)] [.int q5]
        refine u_iload_n g 1 dX7_smallestSet_24 rfl ?_
        obtain ⟨q7, hq8, h⟩ := ob_bind h
        refine u_callS (st := [.int q5]) g wv_X7_64 [.int v1] (t_J6_bitCount_0f7a4 w x.2.1 hq8) (by decide) (by decide) rfl (Nat.le_of_ble_eq_true rfl) rfl dX7_smallestSet_25 ?_
        show U shX w x r M 28 [(0, .ref (w.2.2.1 255)), (1, .int v1), (2, .int v2), (3, .int v3)] [.int q7, .int q5]
        obtain ⟨q9, hq10, h⟩ := ob_bind h
        have K11 : U shX w x r M 33 [(0, .ref (w.2.2.1 255)), (1, .int q9), (2, .int v2), (3, .int v3)] [] := by
          refine u_aload_n g 0 dX7_smallestSet_33 rfl ?_
          refine u_iload_n g 2 dX7_smallestSet_34 rfl ?_
          refine u_iconst g (v := (1 : Int32)) dX7_smallestSet_35 rfl ?_
          refine u_iadd g dX7_smallestSet_36 ?_
          obtain ⟨q12, hq13, h⟩ := ob_bind h
          refine u_callV (st := []) g wv_X7_60 [.int (v2 + (1 : Int32))] (kX_lt (show kX 255 = 7 from rfl) rfl) (ceX_7 (show kX 255 = 7 from rfl)) rfl rfl (t_X7_next w x.2.1 hq13) (by decide) (by decide) rfl (Nat.le_of_ble_eq_true rfl) rfl dX7_smallestSet_37 ?_
          show U shX w x r M 40 [(0, .ref (w.2.2.1 255)), (1, .int q9), (2, .int v2), (3, .int v3)] [.int q12]
          refine u_istore_n g [(2, .int q12), (0, .ref (w.2.2.1 255)), (1, .int q9), (3, .int v3)] dX7_smallestSet_40 (by decide) rfl ?_
          refine u_iinc g 3 [(3, .int (v3 + (1 : Int32))), (2, .int q12), (0, .ref (w.2.2.1 255)), (1, .int q9)] dX7_smallestSet_41 rfl rfl (by decide) rfl ?_
          refine u_goto g 10 dX7_smallestSet_44 (by decide) ?_
          exact u_sub [2, 3, 1, 0] rfl (ih q9 q12 (v3 + (1 : Int32)) _ h K)
        have h := hq10
        refine u_icmp_ge g 33 dX7_smallestSet_28 (by decide) (fun b14 => ?_) (fun b14 => ?_)
        · have h := ob_pos b14 h
          obtain rfl := Option.some.inj h
          exact u_sub [0, 1, 2, 3] rfl K11
        · have h := ob_neg b14 h
          refine u_iload_n g 2 dX7_smallestSet_31 rfl ?_
          refine u_istore_n g [(1, .int v2), (0, .ref (w.2.2.1 255)), (2, .int v2), (3, .int v3)] dX7_smallestSet_32 (by decide) rfl ?_
          obtain rfl := Option.some.inj h
          exact u_sub [1, 0, 2, 3] rfl K11
set_option maxRecDepth 100000 in
set_option maxHeartbeats 4000000 in
theorem t_X7_smallestSet (w : Wp) (l : Launch)  {M : Mem} {q : Int32} (h : f_X7_smallestSet M = some q) : Ct shX w l yX7_smallestSet cX7_smallestSet 4 (some .int) 3 [.ref (w.2.2.1 255)] M (some (.int q), M) := by
  rw [f_X7_smallestSet] at h
  refine ct_of shX_loc (by decide) (Nat.le_of_ble_eq_true rfl) rfl (fun x hx g => ?_)
  subst hx
  show U shX w x _ M 0 [(0, .ref (w.2.2.1 255))] []
  generalize hr : ((some (.int q), M) : Option Value × Mem) = r
  have g : Gd shX w x RX7 cX7_smallestSet 4 (some .int) 3 := g
  refine u_aload_n g 0 dX7_smallestSet_0 rfl ?_
  refine u_iconst g (v := (0 : Int32)) dX7_smallestSet_1 rfl ?_
  obtain ⟨q1, hq2, h⟩ := ob_bind h
  refine u_callV (st := []) g wv_X7_60 [.int (0 : Int32)] (kX_lt (show kX 255 = 7 from rfl) rfl) (ceX_7 (show kX 255 = 7 from rfl)) rfl rfl (t_X7_next w x.2.1 hq2) (by decide) (by decide) rfl (Nat.le_of_ble_eq_true rfl) rfl dX7_smallestSet_2 ?_
  show U shX w x r M 5 [(0, .ref (w.2.2.1 255))] [.int q1]
  refine u_istore_n g [(1, .int q1), (0, .ref (w.2.2.1 255))] dX7_smallestSet_5 (by decide) rfl ?_
  refine u_iload_n g 0 dX7_smallestSet_6 rfl ?_
  refine u_istore_n g [(2, .int q1), (1, .int q1), (0, .ref (w.2.2.1 255))] dX7_smallestSet_7 (by decide) rfl ?_
  refine u_iconst g (v := (0 : Int32)) dX7_smallestSet_8 rfl ?_
  refine u_istore_n g [(3, .int (0 : Int32)), (2, .int q1), (1, .int q1), (0, .ref (w.2.2.1 255))] dX7_smallestSet_9 (by decide) rfl ?_
  obtain ⟨q3, hq4, h⟩ := ob_bind h
  refine u_sub [3, 2, 1, 0] rfl (s_X7_smallestSet_l1 g M fuelN q1 q1 (0 : Int32) _ hq4 ?_)
  show U shX w x r M 47 [(1, .int q3)] []
  refine u_iload_n g 0 dX7_smallestSet_47 rfl ?_
  exact u_iret g dX7_smallestSet_48 (by rw [← hr]; obtain rfl := Option.some.inj h; rfl)
set_option maxRecDepth 100000 in
set_option maxHeartbeats 4000000 in
theorem s_X7_reckonLowChances_l2 {w : Wp} {x : Cx} {r : Option Value × Mem} (g : Gd shX w x RX7 cX7_reckonLowChances 6 none 2) (a2 : Int32) (a3 : Int32) (a4 : Int32)  : ∀ (n : Nat) (v5 : Int32) (M : Mem) (q : Mem), f_X7_reckonLowChances_l2 a2 a3 a4 n v5 M = some q → U shX w x r q 82 [(0, .ref (w.2.2.1 255)), (1, .ref (w.2.2.1 1)), (2, .int a2)] [] → U shX w x r M 29 [(0, .ref (w.2.2.1 255)), (1, .ref (w.2.2.1 1)), (2, .int a2), (3, .int a3), (4, .int a4), (5, .int v5)] [] := by
  intro n
  induction n with
  | zero => intro v5 M q h K; rw [f_X7_reckonLowChances_l2] at h; cases h
  | succ n ih =>
    intro v5 M q h K
    rw [f_X7_reckonLowChances_l2] at h
    refine u_iload g 5 dX7_reckonLowChances_29 rfl ?_
    refine u_iload g 4 dX7_reckonLowChances_31 rfl ?_
    refine u_icmp_ge g 82 dX7_reckonLowChances_33 (by decide) (fun b4 => ?_) (fun b4 => ?_)
    · have h := ob_pos b4 h
      obtain rfl := Option.some.inj h
      exact u_sub [0, 1, 2] rfl K
    · have h := ob_neg b4 h
      refine u_aload_n g 0 dX7_reckonLowChances_36 rfl ?_
      refine gfX7_1 g (c := 255) rfl wf_X7_15 dX7_reckonLowChances_37 ?_
      refine u_iload g 5 dX7_reckonLowChances_40 rfl ?_
      refine u_iload g 4 dX7_reckonLowChances_42 rfl ?_
      refine u_iadd g dX7_reckonLowChances_44 ?_
      refine u_aload_n g 0 dX7_reckonLowChances_45 rfl ?_
      refine gfX7_1 g (c := 255) rfl wf_X7_15 dX7_reckonLowChances_46 ?_
      refine u_iload g 5 dX7_reckonLowChances_49 rfl ?_
      obtain ⟨e5, h⟩ := ob_if h
      refine aX_lld g (c := 257) 64 (by decide) rfl (v := (M.2 257 v5.toNatClampNeg)) (inB_in e5) rfl dX7_reckonLowChances_51 ?_
      refine u_iload_n g 3 dX7_reckonLowChances_52 rfl ?_
      refine u_i2l g dX7_reckonLowChances_53 ?_
      refine u_lmul g dX7_reckonLowChances_54 ?_
      obtain ⟨e6, h⟩ := ob_if h
      refine aX_lst g (c := 257) 64 (by decide) rfl (inB_in e6) (j := (v5 + a4).toNatClampNeg) rfl dX7_reckonLowChances_55 ?_
      refine u_aload_n g 0 dX7_reckonLowChances_56 rfl ?_
      refine gfX7_1 g (c := 255) rfl wf_X7_15 dX7_reckonLowChances_57 ?_
      refine u_iload g 5 dX7_reckonLowChances_60 rfl ?_
      refine u_aload_n g 0 dX7_reckonLowChances_62 rfl ?_
      refine gfX7_1 g (c := 255) rfl wf_X7_15 dX7_reckonLowChances_63 ?_
      refine u_iload g 5 dX7_reckonLowChances_66 rfl ?_
      obtain ⟨e7, h⟩ := ob_if h
      refine aX_lld g (c := 257) 64 (by decide) rfl (v := ((sL M 257 (v5 + a4).toNatClampNeg ((M.2 257 v5.toNatClampNeg) * (a3).toInt64)).2 257 v5.toNatClampNeg)) (inB_in e7) rfl dX7_reckonLowChances_68 ?_
      refine u_bipush g (v := (10 : Int32)) dX7_reckonLowChances_69 rfl ?_
      refine u_iload_n g 3 dX7_reckonLowChances_71 rfl ?_
      refine u_isub g dX7_reckonLowChances_72 ?_
      refine u_i2l g dX7_reckonLowChances_73 ?_
      refine u_lmul g dX7_reckonLowChances_74 ?_
      obtain ⟨e8, h⟩ := ob_if h
      refine aX_lst g (c := 257) 64 (by decide) rfl (inB_in e8) (j := v5.toNatClampNeg) rfl dX7_reckonLowChances_75 ?_
      refine u_iinc g 5 [(5, .int (v5 + (1 : Int32))), (0, .ref (w.2.2.1 255)), (1, .ref (w.2.2.1 1)), (2, .int a2), (3, .int a3), (4, .int a4)] dX7_reckonLowChances_76 rfl rfl (by decide) rfl ?_
      refine u_goto g 29 dX7_reckonLowChances_79 (by decide) ?_
      exact u_sub [1, 2, 3, 4, 5, 0] rfl (ih (v5 + (1 : Int32)) (sL (sL M 257 (v5 + a4).toNatClampNeg ((M.2 257 v5.toNatClampNeg) * (a3).toInt64)) 257 v5.toNatClampNeg (((sL M 257 (v5 + a4).toNatClampNeg ((M.2 257 v5.toNatClampNeg) * (a3).toInt64)).2 257 v5.toNatClampNeg) * (((10 : Int32) - a3)).toInt64)) _ h K)
set_option maxRecDepth 100000 in
set_option maxHeartbeats 4000000 in
theorem s_X7_reckonLowChances_l1 {w : Wp} {x : Cx} {r : Option Value × Mem} (g : Gd shX w x RX7 cX7_reckonLowChances 6 none 2)   : ∀ (n : Nat) (v2 : Int32) (M : Mem) (q : Mem), f_X7_reckonLowChances_l1 n v2 M = some q → U shX w x r q 88 [] [] → U shX w x r M 9 [(0, .ref (w.2.2.1 255)), (1, .ref (w.2.2.1 1)), (2, .int v2)] [] := by
  intro n
  induction n with
  | zero => intro v2 M q h K; rw [f_X7_reckonLowChances_l1] at h; cases h
  | succ n ih =>
    intro v2 M q h K
    rw [f_X7_reckonLowChances_l1] at h
    refine u_iload_n g 2 dX7_reckonLowChances_9 rfl ?_
    refine u_bipush g (v := (6 : Int32)) dX7_reckonLowChances_10 rfl ?_
    refine u_icmp_ge g 88 dX7_reckonLowChances_12 (by decide) (fun b1 => ?_) (fun b1 => ?_)
    · have h := ob_pos b1 h
      obtain rfl := Option.some.inj h
      exact u_sub [] rfl K
    · have h := ob_neg b1 h
      refine u_aload_n g 1 dX7_reckonLowChances_15 rfl ?_
      refine u_iload_n g 2 dX7_reckonLowChances_16 rfl ?_
      obtain ⟨q2, hq3, h⟩ := ob_bind h
      refine u_callV (st := []) g wv_X7_77 [.int v2] (kX_lt (show kX 1 = 5 from rfl) rfl) (ceX_5 (show kX 1 = 5 from rfl)) rfl rfl (t_X5_tenthsOrAll w x.2.1 hq3) (by decide) (by decide) rfl (Nat.le_of_ble_eq_true rfl) rfl dX7_reckonLowChances_17 ?_
      show U shX w x r M 20 [(0, .ref (w.2.2.1 255)), (1, .ref (w.2.2.1 1)), (2, .int v2)] [.int q2]
      refine u_istore_n g [(3, .int q2), (0, .ref (w.2.2.1 255)), (1, .ref (w.2.2.1 1)), (2, .int v2)] dX7_reckonLowChances_20 (by decide) rfl ?_
      refine u_iconst g (v := (1 : Int32)) dX7_reckonLowChances_21 rfl ?_
      refine u_iload_n g 3 dX7_reckonLowChances_22 rfl ?_
      refine u_ishl g dX7_reckonLowChances_23 ?_
      refine u_istore g [(4, .int ((1 : Int32) <<< (v2 &&& 31))), (3, .int q2), (0, .ref (w.2.2.1 255)), (1, .ref (w.2.2.1 1)), (2, .int v2)] dX7_reckonLowChances_24 (by decide) rfl ?_
      refine u_iconst g (v := (0 : Int32)) dX7_reckonLowChances_26 rfl ?_
      refine u_istore g [(5, .int (0 : Int32)), (4, .int ((1 : Int32) <<< (v2 &&& 31))), (3, .int q2), (0, .ref (w.2.2.1 255)), (1, .ref (w.2.2.1 1)), (2, .int v2)] dX7_reckonLowChances_27 (by decide) rfl ?_
      obtain ⟨q4, hq5, h⟩ := ob_bind h
      refine u_sub [3, 4, 5, 2, 1, 0] rfl (s_X7_reckonLowChances_l2 g v2 q2 ((1 : Int32) <<< (v2 &&& 31)) fuelN (0 : Int32) M _ hq5 ?_)
      show U shX w x r q4 82 [(0, .ref (w.2.2.1 255)), (1, .ref (w.2.2.1 1)), (2, .int v2)] []
      refine u_iinc g 2 [(2, .int (v2 + (1 : Int32))), (0, .ref (w.2.2.1 255)), (1, .ref (w.2.2.1 1))] dX7_reckonLowChances_82 rfl rfl (by decide) rfl ?_
      refine u_goto g 9 dX7_reckonLowChances_85 (by decide) ?_
      exact u_sub [1, 2, 0] rfl (ih (v2 + (1 : Int32)) q4 _ h K)
set_option maxRecDepth 100000 in
set_option maxHeartbeats 4000000 in
theorem t_X7_reckonLowChances (w : Wp) (l : Launch)  {M : Mem} {q : Mem} (h : f_X7_reckonLowChances M = some q) : Ct shX w l yX7_reckonLowChances cX7_reckonLowChances 6 none 2 [.ref (w.2.2.1 255), .ref (w.2.2.1 1)] M (none, q) := by
  rw [f_X7_reckonLowChances] at h
  refine ct_of shX_loc (by decide) (Nat.le_of_ble_eq_true rfl) rfl (fun x hx g => ?_)
  subst hx
  show U shX w x _ M 0 [(0, .ref (w.2.2.1 255)), (1, .ref (w.2.2.1 1))] []
  generalize hr : ((none, q) : Option Value × Mem) = r
  have g : Gd shX w x RX7 cX7_reckonLowChances 6 none 2 := g
  refine u_aload_n g 0 dX7_reckonLowChances_0 rfl ?_
  refine gfX7_1 g (c := 255) rfl wf_X7_15 dX7_reckonLowChances_1 ?_
  refine u_iconst g (v := (0 : Int32)) dX7_reckonLowChances_4 rfl ?_
  refine u_lconst g (v := (1 : Int64)) dX7_reckonLowChances_5 rfl ?_
  refine aX_lst g (c := 257) 64 (by decide) rfl (inB_in rfl) (j := 0) rfl dX7_reckonLowChances_6 ?_
  refine u_iconst g (v := (0 : Int32)) dX7_reckonLowChances_7 rfl ?_
  refine u_istore_n g [(2, .int (0 : Int32)), (0, .ref (w.2.2.1 255)), (1, .ref (w.2.2.1 1))] dX7_reckonLowChances_8 (by decide) rfl ?_
  obtain ⟨q1, hq2, h⟩ := ob_bind h
  refine u_sub [1, 2, 0] rfl (s_X7_reckonLowChances_l1 g fuelN (0 : Int32) (sL M 257 0 (1 : Int64)) _ hq2 ?_)
  show U shX w x r q1 88 [] []
  exact u_vret g dX7_reckonLowChances_88 (by rw [← hr]; obtain rfl := Option.some.inj h; rfl)
set_option maxRecDepth 100000 in
set_option maxHeartbeats 4000000 in
theorem s_X7_chanceOfWord_l1 {w : Wp} {x : Cx} {r : Option Value × Mem} (g : Gd shX w x RX7 cX7_chanceOfWord 8 (some .long) 2)   (M : Mem) : ∀ (n : Nat) (v3 : Int64) (v5 : Int64) (v7 : Int32) (q : Int64), f_X7_chanceOfWord_l1 M n v3 v5 v7 = some q → U shX w x r M 53 [(3, .long q)] [] → U shX w x r M 8 [(0, .ref (w.2.2.1 255)), (3, .long v3), (5, .long v5), (7, .int v7)] [] := by
  intro n
  induction n with
  | zero => intro v3 v5 v7 q h K; rw [f_X7_chanceOfWord_l1] at h; cases h
  | succ n ih =>
    intro v3 v5 v7 q h K
    rw [f_X7_chanceOfWord_l1] at h
    refine u_iload g 3 dX7_chanceOfWord_8 rfl ?_
    refine u_bipush g (v := (64 : Int32)) dX7_chanceOfWord_10 rfl ?_
    refine u_icmp_ge g 53 dX7_chanceOfWord_12 (by decide) (fun b1 => ?_) (fun b1 => ?_)
    · have h := ob_pos b1 h
      obtain rfl := Option.some.inj h
      exact u_sub [1] rfl K
    · have h := ob_neg b1 h
      refine u_lload g 2 dX7_chanceOfWord_15 rfl ?_
      refine u_lconst g (v := (0 : Int64)) dX7_chanceOfWord_17 rfl ?_
      refine u_lcmp g dX7_chanceOfWord_18 ?_
      refine u_if_eq g 53 dX7_chanceOfWord_19 (by decide) (fun b2 => ?_) (fun b2 => ?_)
      · have h := ob_pos b2 h
        obtain rfl := Option.some.inj h
        exact u_sub [1] rfl K
      · have h := ob_neg b2 h
        refine u_lload_n g 1 dX7_chanceOfWord_22 rfl ?_
        refine u_aload_n g 0 dX7_chanceOfWord_23 rfl ?_
        refine gfX7_1 g (c := 255) rfl wf_X7_15 dX7_chanceOfWord_24 ?_
        refine u_lload g 2 dX7_chanceOfWord_27 rfl ?_
        obtain ⟨q3, hq4, h⟩ := ob_bind h
        refine u_callS (st := [.ref (w.2.2.1 257), .long v3]) g wv_X7_51 [.long v5] (t_X7_lowestBit w x.2.1 hq4) (by decide) (by decide) rfl (Nat.le_of_ble_eq_true rfl) rfl dX7_chanceOfWord_29 ?_
        show U shX w x r M 32 [(0, .ref (w.2.2.1 255)), (3, .long v3), (5, .long v5), (7, .int v7)] [.int q3, .ref (w.2.2.1 257), .long v3]
        refine u_bipush g (v := (63 : Int32)) dX7_chanceOfWord_32 rfl ?_
        refine u_iand g dX7_chanceOfWord_34 ?_
        obtain ⟨e5, h⟩ := ob_if h
        refine aX_lld g (c := 257) 64 (by decide) rfl (v := (M.2 257 (q3 &&& (63 : Int32)).toNatClampNeg)) (inB_in e5) rfl dX7_chanceOfWord_35 ?_
        refine u_ladd g dX7_chanceOfWord_36 ?_
        refine u_lstore_n g [(3, .long (v3 + (M.2 257 (q3 &&& (63 : Int32)).toNatClampNeg))), (0, .ref (w.2.2.1 255)), (5, .long v5), (7, .int v7)] dX7_chanceOfWord_37 (by decide) rfl ?_
        refine u_lload g 2 dX7_chanceOfWord_38 rfl ?_
        refine u_lload g 2 dX7_chanceOfWord_40 rfl ?_
        refine u_lconst g (v := (1 : Int64)) dX7_chanceOfWord_42 rfl ?_
        refine u_lsub g dX7_chanceOfWord_43 ?_
        refine u_land g dX7_chanceOfWord_44 ?_
        refine u_lstore g [(5, .long (v5 &&& (v5 - (1 : Int64)))), (3, .long (v3 + (M.2 257 (q3 &&& (63 : Int32)).toNatClampNeg))), (0, .ref (w.2.2.1 255)), (7, .int v7)] dX7_chanceOfWord_45 (by decide) rfl ?_
        refine u_iinc g 3 [(7, .int (v7 + (1 : Int32))), (5, .long (v5 &&& (v5 - (1 : Int64)))), (3, .long (v3 + (M.2 257 (q3 &&& (63 : Int32)).toNatClampNeg))), (0, .ref (w.2.2.1 255))] dX7_chanceOfWord_47 rfl rfl (by decide) rfl ?_
        refine u_goto g 8 dX7_chanceOfWord_50 (by decide) ?_
        exact u_sub [3, 2, 1, 0] rfl (ih (v3 + (M.2 257 (q3 &&& (63 : Int32)).toNatClampNeg)) (v5 &&& (v5 - (1 : Int64))) (v7 + (1 : Int32)) _ h K)
set_option maxRecDepth 100000 in
set_option maxHeartbeats 4000000 in
theorem t_X7_chanceOfWord (w : Wp) (l : Launch) {a1 : Int64} {M : Mem} {q : Int64} (h : f_X7_chanceOfWord a1 M = some q) : Ct shX w l yX7_chanceOfWord cX7_chanceOfWord 8 (some .long) 2 [.ref (w.2.2.1 255), .long a1] M (some (.long q), M) := by
  rw [f_X7_chanceOfWord] at h
  refine ct_of shX_loc (by decide) (Nat.le_of_ble_eq_true rfl) rfl (fun x hx g => ?_)
  subst hx
  show U shX w x _ M 0 [(0, .ref (w.2.2.1 255)), (1, .long a1)] []
  generalize hr : ((some (.long q), M) : Option Value × Mem) = r
  have g : Gd shX w x RX7 cX7_chanceOfWord 8 (some .long) 2 := g
  refine u_lconst g (v := (0 : Int64)) dX7_chanceOfWord_0 rfl ?_
  refine u_lstore_n g [(3, .long (0 : Int64)), (0, .ref (w.2.2.1 255)), (1, .long a1)] dX7_chanceOfWord_1 (by decide) rfl ?_
  refine u_lload_n g 2 dX7_chanceOfWord_2 rfl ?_
  refine u_lstore g [(5, .long a1), (3, .long (0 : Int64)), (0, .ref (w.2.2.1 255)), (1, .long a1)] dX7_chanceOfWord_3 (by decide) rfl ?_
  refine u_iconst g (v := (0 : Int32)) dX7_chanceOfWord_5 rfl ?_
  refine u_istore g [(7, .int (0 : Int32)), (5, .long a1), (3, .long (0 : Int64)), (0, .ref (w.2.2.1 255)), (1, .long a1)] dX7_chanceOfWord_6 (by decide) rfl ?_
  obtain ⟨q1, hq2, h⟩ := ob_bind h
  refine u_sub [3, 2, 1, 0] rfl (s_X7_chanceOfWord_l1 g M fuelN (0 : Int64) a1 (0 : Int32) _ hq2 ?_)
  show U shX w x r M 53 [(3, .long q1)] []
  refine u_lload_n g 0 dX7_chanceOfWord_53 rfl ?_
  exact u_lret g dX7_chanceOfWord_54 (by rw [← hr]; obtain rfl := Option.some.inj h; rfl)
set_option maxRecDepth 100000 in
set_option maxHeartbeats 4000000 in
theorem s_X7_fold_l1 {w : Wp} {x : Cx} {r : Option Value × Mem} (g : Gd shX w x RX7 cX7_fold 4 none 0) (a1 : Int32) (a2 : Int32)  : ∀ (n : Nat) (v3 : Int32) (M : Mem) (q : Mem), f_X7_fold_l1 a1 a2 n v3 M = some q → U shX w x r q 53 [] [] → U shX w x r M 2 [(0, .ref (w.2.2.1 255)), (1, .int a1), (2, .int a2), (3, .int v3)] [] := by
  intro n
  induction n with
  | zero => intro v3 M q h K; rw [f_X7_fold_l1] at h; cases h
  | succ n ih =>
    intro v3 M q h K
    rw [f_X7_fold_l1] at h
    refine u_iload_n g 3 dX7_fold_2 rfl ?_
    refine u_iload_n g 1 dX7_fold_3 rfl ?_
    refine u_icmp_ge g 53 dX7_fold_4 (by decide) (fun b1 => ?_) (fun b1 => ?_)
    · have h := ob_pos b1 h
      obtain rfl := Option.some.inj h
      exact u_sub [] rfl K
    · have h := ob_neg b1 h
      refine u_iload_n g 3 dX7_fold_7 rfl ?_
      refine u_iload_n g 1 dX7_fold_8 rfl ?_
      refine u_iadd g dX7_fold_9 ?_
      refine u_aload_n g 0 dX7_fold_10 rfl ?_
      refine gfX7_2 g (c := 255) rfl wf_X7_18 (v := (M.1 255 2)) rfl dX7_fold_11 ?_
      refine u_icmp_ge g 53 dX7_fold_14 (by decide) (fun b2 => ?_) (fun b2 => ?_)
      · have h := ob_pos b2 h
        obtain rfl := Option.some.inj h
        exact u_sub [] rfl K
      · have h := ob_neg b2 h
        refine u_aload_n g 0 dX7_fold_17 rfl ?_
        refine gfX7_0 g (c := 255) rfl wf_X7_11 dX7_fold_18 ?_
        refine u_iload_n g 3 dX7_fold_21 rfl ?_
        refine u_aload_n g 0 dX7_fold_22 rfl ?_
        refine gfX7_0 g (c := 255) rfl wf_X7_11 dX7_fold_23 ?_
        refine u_iload_n g 3 dX7_fold_26 rfl ?_
        obtain ⟨e3, h⟩ := ob_if h
        refine aX_lld g (c := 256) 1024 (by decide) rfl (v := (M.2 256 v3.toNatClampNeg)) (inB_in e3) rfl dX7_fold_27 ?_
        refine u_bipush g (v := (10 : Int32)) dX7_fold_28 rfl ?_
        refine u_iload_n g 2 dX7_fold_30 rfl ?_
        refine u_isub g dX7_fold_31 ?_
        refine u_i2l g dX7_fold_32 ?_
        refine u_lmul g dX7_fold_33 ?_
        refine u_aload_n g 0 dX7_fold_34 rfl ?_
        refine gfX7_0 g (c := 255) rfl wf_X7_11 dX7_fold_35 ?_
        refine u_iload_n g 3 dX7_fold_38 rfl ?_
        refine u_iload_n g 1 dX7_fold_39 rfl ?_
        refine u_iadd g dX7_fold_40 ?_
        obtain ⟨e4, h⟩ := ob_if h
        refine aX_lld g (c := 256) 1024 (by decide) rfl (v := (M.2 256 (v3 + a1).toNatClampNeg)) (inB_in e4) rfl dX7_fold_41 ?_
        refine u_iload_n g 2 dX7_fold_42 rfl ?_
        refine u_i2l g dX7_fold_43 ?_
        refine u_lmul g dX7_fold_44 ?_
        refine u_ladd g dX7_fold_45 ?_
        obtain ⟨e5, h⟩ := ob_if h
        refine aX_lst g (c := 256) 1024 (by decide) rfl (inB_in e5) (j := v3.toNatClampNeg) rfl dX7_fold_46 ?_
        refine u_iinc g 3 [(3, .int (v3 + (1 : Int32))), (0, .ref (w.2.2.1 255)), (1, .int a1), (2, .int a2)] dX7_fold_47 rfl rfl (by decide) rfl ?_
        refine u_goto g 2 dX7_fold_50 (by decide) ?_
        exact u_sub [1, 2, 3, 0] rfl (ih (v3 + (1 : Int32)) (sL M 256 v3.toNatClampNeg (((M.2 256 v3.toNatClampNeg) * (((10 : Int32) - a2)).toInt64) + ((M.2 256 (v3 + a1).toNatClampNeg) * (a2).toInt64))) _ h K)
set_option maxRecDepth 100000 in
set_option maxHeartbeats 4000000 in
theorem t_X7_fold (w : Wp) (l : Launch) {a1 : Int32} {a2 : Int32} {M : Mem} {q : Mem} (h : f_X7_fold a1 a2 M = some q) : Ct shX w l yX7_fold cX7_fold 4 none 0 [.ref (w.2.2.1 255), .int a1, .int a2] M (none, q) := by
  rw [f_X7_fold] at h
  refine ct_of shX_loc (by decide) (Nat.le_of_ble_eq_true rfl) rfl (fun x hx g => ?_)
  subst hx
  show U shX w x _ M 0 [(0, .ref (w.2.2.1 255)), (1, .int a1), (2, .int a2)] []
  generalize hr : ((none, q) : Option Value × Mem) = r
  have g : Gd shX w x RX7 cX7_fold 4 none 0 := g
  refine u_iconst g (v := (0 : Int32)) dX7_fold_0 rfl ?_
  refine u_istore_n g [(3, .int (0 : Int32)), (0, .ref (w.2.2.1 255)), (1, .int a1), (2, .int a2)] dX7_fold_1 (by decide) rfl ?_
  obtain ⟨q1, hq2, h⟩ := ob_bind h
  refine u_sub [1, 2, 3, 0] rfl (s_X7_fold_l1 g a1 a2 fuelN (0 : Int32) M _ hq2 ?_)
  show U shX w x r q1 53 [] []
  exact u_vret g dX7_fold_53 (by rw [← hr]; obtain rfl := Option.some.inj h; rfl)
set_option maxRecDepth 100000 in
set_option maxHeartbeats 4000000 in
theorem s_X7_chanceOfSets_l1 {w : Wp} {x : Cx} {r : Option Value × Mem} (g : Gd shX w x RX7 cX7_chanceOfSets 6 (some .long) 3)   : ∀ (n : Nat) (v2 : Int32) (M : Mem) (q : Mem), f_X7_chanceOfSets_l1 n v2 M = some q → U shX w x r q 37 [(0, .ref (w.2.2.1 255)), (1, .ref (w.2.2.1 1))] [] → U shX w x r M 7 [(0, .ref (w.2.2.1 255)), (1, .ref (w.2.2.1 1)), (2, .int v2)] [] := by
  intro n
  induction n with
  | zero => intro v2 M q h K; rw [f_X7_chanceOfSets_l1] at h; cases h
  | succ n ih =>
    intro v2 M q h K
    rw [f_X7_chanceOfSets_l1] at h
    refine u_iload_n g 2 dX7_chanceOfSets_7 rfl ?_
    refine u_aload_n g 0 dX7_chanceOfSets_8 rfl ?_
    refine gfX7_2 g (c := 255) rfl wf_X7_18 (v := (M.1 255 2)) rfl dX7_chanceOfSets_9 ?_
    refine u_icmp_ge g 37 dX7_chanceOfSets_12 (by decide) (fun b3 => ?_) (fun b3 => ?_)
    · have h := ob_pos b3 h
      obtain rfl := Option.some.inj h
      exact u_sub [0, 1] rfl K
    · have h := ob_neg b3 h
      refine u_aload_n g 0 dX7_chanceOfSets_15 rfl ?_
      refine gfX7_0 g (c := 255) rfl wf_X7_11 dX7_chanceOfSets_16 ?_
      refine u_iload_n g 2 dX7_chanceOfSets_19 rfl ?_
      refine u_aload_n g 0 dX7_chanceOfSets_20 rfl ?_
      refine u_aload_n g 0 dX7_chanceOfSets_21 rfl ?_
      refine gfX7_0 g (c := 255) rfl wf_X7_11 dX7_chanceOfSets_22 ?_
      refine u_iload_n g 2 dX7_chanceOfSets_25 rfl ?_
      obtain ⟨e4, h⟩ := ob_if h
      refine aX_lld g (c := 256) 1024 (by decide) rfl (v := (M.2 256 v2.toNatClampNeg)) (inB_in e4) rfl dX7_chanceOfSets_26 ?_
      obtain ⟨q5, hq6, h⟩ := ob_bind h
      refine u_callV (st := [.int v2, .ref (w.2.2.1 256)]) g wv_X7_72 [.long (M.2 256 v2.toNatClampNeg)] (kX_lt (show kX 255 = 7 from rfl) rfl) (ceX_7 (show kX 255 = 7 from rfl)) rfl rfl (t_X7_chanceOfWord w x.2.1 hq6) (by decide) (by decide) rfl (Nat.le_of_ble_eq_true rfl) rfl dX7_chanceOfSets_27 ?_
      show U shX w x r M 30 [(0, .ref (w.2.2.1 255)), (1, .ref (w.2.2.1 1)), (2, .int v2)] [.long q5, .int v2, .ref (w.2.2.1 256)]
      obtain ⟨e7, h⟩ := ob_if h
      refine aX_lst g (c := 256) 1024 (by decide) rfl (inB_in e7) (j := v2.toNatClampNeg) rfl dX7_chanceOfSets_30 ?_
      refine u_iinc g 2 [(2, .int (v2 + (1 : Int32))), (0, .ref (w.2.2.1 255)), (1, .ref (w.2.2.1 1))] dX7_chanceOfSets_31 rfl rfl (by decide) rfl ?_
      refine u_goto g 7 dX7_chanceOfSets_34 (by decide) ?_
      exact u_sub [1, 2, 0] rfl (ih (v2 + (1 : Int32)) (sL M 256 v2.toNatClampNeg q5) _ h K)
set_option maxRecDepth 100000 in
set_option maxHeartbeats 4000000 in
theorem s_X7_chanceOfSets_l2 {w : Wp} {x : Cx} {r : Option Value × Mem} (g : Gd shX w x RX7 cX7_chanceOfSets 6 (some .long) 3)   : ∀ (n : Nat) (v2 : Int64) (v4 : Int32) (M : Mem) (q : Int64 × Mem), f_X7_chanceOfSets_l2 n v2 v4 M = some q → U shX w x r q.2 95 [(0, .ref (w.2.2.1 255)), (2, .long q.1)] [] → U shX w x r M 43 [(0, .ref (w.2.2.1 255)), (1, .ref (w.2.2.1 1)), (2, .long v2), (4, .int v4)] [] := by
  intro n
  induction n with
  | zero => intro v2 v4 M q h K; rw [f_X7_chanceOfSets_l2] at h; cases h
  | succ n ih =>
    intro v2 v4 M q h K
    rw [f_X7_chanceOfSets_l2] at h
    refine u_iload g 3 dX7_chanceOfSets_43 rfl ?_
    refine u_bipush g (v := (6 : Int32)) dX7_chanceOfSets_45 rfl ?_
    refine u_icmp_lt g 95 dX7_chanceOfSets_47 (by decide) (fun b5 => ?_) (fun b5 => ?_)
    · have h := ob_pos b5 h
      obtain rfl := Option.some.inj h
      exact u_sub [0, 2] rfl K
    · have h := ob_neg b5 h
      refine u_iconst g (v := (1 : Int32)) dX7_chanceOfSets_50 rfl ?_
      refine u_iload g 3 dX7_chanceOfSets_51 rfl ?_
      refine u_bipush g (v := (6 : Int32)) dX7_chanceOfSets_53 rfl ?_
      refine u_isub g dX7_chanceOfSets_55 ?_
      refine u_ishl g dX7_chanceOfSets_56 ?_
      refine u_istore g [(5, .int ((1 : Int32) <<< ((v4 - (6 : Int32)) &&& 31))), (0, .ref (w.2.2.1 255)), (1, .ref (w.2.2.1 1)), (2, .long v2), (4, .int v4)] dX7_chanceOfSets_57 (by decide) rfl ?_
      refine u_iload g 0 dX7_chanceOfSets_59 rfl ?_
      refine u_aload_n g 1 dX7_chanceOfSets_61 rfl ?_
      refine gfX7_2 g (c := 255) rfl wf_X7_18 (v := (M.1 255 2)) rfl dX7_chanceOfSets_62 ?_
      obtain ⟨q6, hq7, h⟩ := ob_bind h
      have K8 : U shX w x r q6.2 89 [(0, .ref (w.2.2.1 255)), (1, .ref (w.2.2.1 1)), (2, .long q6.1), (4, .int v4)] [] := by
        refine u_iinc g 3 [(4, .int (v4 + (-1 : Int32))), (0, .ref (w.2.2.1 255)), (1, .ref (w.2.2.1 1)), (2, .long q6.1)] dX7_chanceOfSets_89 rfl rfl (by decide) rfl ?_
        refine u_goto g 43 dX7_chanceOfSets_92 (by decide) ?_
        exact u_sub [1, 2, 3, 0] rfl (ih q6.1 (v4 + (-1 : Int32)) q6.2 _ h K)
      have h := hq7
      refine u_icmp_lt g 77 dX7_chanceOfSets_65 (by decide) (fun b9 => ?_) (fun b9 => ?_)
      · have h := ob_pos b9 h
        refine u_aload_n g 1 dX7_chanceOfSets_77 rfl ?_
        refine u_iload g 0 dX7_chanceOfSets_78 rfl ?_
        refine u_aload_n g 2 dX7_chanceOfSets_80 rfl ?_
        refine u_iload g 4 dX7_chanceOfSets_81 rfl ?_
        obtain ⟨q10, hq11, h⟩ := ob_bind h
        refine u_callV (st := [.int ((1 : Int32) <<< ((v4 - (6 : Int32)) &&& 31)), .ref (w.2.2.1 255)]) g wv_X7_77 [.int v4] (kX_lt (show kX 1 = 5 from rfl) rfl) (ceX_5 (show kX 1 = 5 from rfl)) rfl rfl (t_X5_tenthsOrAll w x.2.1 hq11) (by decide) (by decide) rfl (Nat.le_of_ble_eq_true rfl) rfl dX7_chanceOfSets_83 ?_
        show U shX w x r M 86 [(5, .int ((1 : Int32) <<< ((v4 - (6 : Int32)) &&& 31))), (0, .ref (w.2.2.1 255)), (1, .ref (w.2.2.1 1)), (2, .long v2), (4, .int v4)] [.int q10, .int ((1 : Int32) <<< ((v4 - (6 : Int32)) &&& 31)), .ref (w.2.2.1 255)]
        obtain ⟨q12, hq13, h⟩ := ob_bind h
        refine u_callV (st := []) g wv_X7_82 [.int ((1 : Int32) <<< ((v4 - (6 : Int32)) &&& 31)), .int q10] (kX_lt (show kX 255 = 7 from rfl) rfl) (ceX_7 (show kX 255 = 7 from rfl)) rfl rfl (t_X7_fold w x.2.1 hq13) (by decide) (by decide) rfl (Nat.le_of_ble_eq_true rfl) rfl dX7_chanceOfSets_86 ?_
        show U shX w x r q12 89 [(5, .int ((1 : Int32) <<< ((v4 - (6 : Int32)) &&& 31))), (0, .ref (w.2.2.1 255)), (1, .ref (w.2.2.1 1)), (2, .long v2), (4, .int v4)] []
        obtain rfl := Option.some.inj h
        exact u_sub [1, 2, 3, 4] rfl K8
      · have h := ob_neg b9 h
        refine u_lload_n g 3 dX7_chanceOfSets_68 rfl ?_
        refine u_ldc2_w g wk_X7_75 dX7_chanceOfSets_69 ?_
        refine u_lmul g dX7_chanceOfSets_72 ?_
        refine u_lstore_n g [(2, .long (v2 * (10 : Int64))), (5, .int ((1 : Int32) <<< ((v4 - (6 : Int32)) &&& 31))), (0, .ref (w.2.2.1 255)), (1, .ref (w.2.2.1 1)), (4, .int v4)] dX7_chanceOfSets_73 (by decide) rfl ?_
        refine u_goto g 89 dX7_chanceOfSets_74 (by decide) ?_
        obtain rfl := Option.some.inj h
        exact u_sub [2, 3, 0, 4] rfl K8
set_option maxRecDepth 100000 in
set_option maxHeartbeats 4000000 in
theorem t_X7_chanceOfSets (w : Wp) (l : Launch)  {M : Mem} {q : Int64 × Mem} (h : f_X7_chanceOfSets M = some q) : Ct shX w l yX7_chanceOfSets cX7_chanceOfSets 6 (some .long) 3 [.ref (w.2.2.1 255), .ref (w.2.2.1 1)] M (some (.long q.1), q.2) := by
  rw [f_X7_chanceOfSets] at h
  refine ct_of shX_loc (by decide) (Nat.le_of_ble_eq_true rfl) rfl (fun x hx g => ?_)
  subst hx
  show U shX w x _ M 0 [(0, .ref (w.2.2.1 255)), (1, .ref (w.2.2.1 1))] []
  generalize hr : ((some (.long q.1), q.2) : Option Value × Mem) = r
  have g : Gd shX w x RX7 cX7_chanceOfSets 6 (some .long) 3 := g
  refine u_aload_n g 0 dX7_chanceOfSets_0 rfl ?_
  refine u_aload_n g 1 dX7_chanceOfSets_1 rfl ?_
  obtain ⟨q1, hq2, h⟩ := ob_bind h
  refine u_callV (st := []) g wv_X7_68 [.ref (w.2.2.1 1)] (kX_lt (show kX 255 = 7 from rfl) rfl) (ceX_7 (show kX 255 = 7 from rfl)) rfl rfl (t_X7_reckonLowChances w x.2.1 hq2) (by decide) (by decide) rfl (Nat.le_of_ble_eq_true rfl) rfl dX7_chanceOfSets_2 ?_
  show U shX w x r q1 5 [(0, .ref (w.2.2.1 255)), (1, .ref (w.2.2.1 1))] []
  refine u_iconst g (v := (0 : Int32)) dX7_chanceOfSets_5 rfl ?_
  refine u_istore_n g [(2, .int (0 : Int32)), (0, .ref (w.2.2.1 255)), (1, .ref (w.2.2.1 1))] dX7_chanceOfSets_6 (by decide) rfl ?_
  obtain ⟨q3, hq4, h⟩ := ob_bind h
  refine u_sub [1, 2, 0] rfl (s_X7_chanceOfSets_l1 g fuelN (0 : Int32) q1 _ hq4 ?_)
  show U shX w x r q3 37 [(0, .ref (w.2.2.1 255)), (1, .ref (w.2.2.1 1))] []
  refine u_lconst g (v := (1 : Int64)) dX7_chanceOfSets_37 rfl ?_
  refine u_lstore_n g [(2, .long (1 : Int64)), (0, .ref (w.2.2.1 255)), (1, .ref (w.2.2.1 1))] dX7_chanceOfSets_38 (by decide) rfl ?_
  refine u_bipush g (v := (15 : Int32)) dX7_chanceOfSets_39 rfl ?_
  refine u_istore g [(4, .int (15 : Int32)), (2, .long (1 : Int64)), (0, .ref (w.2.2.1 255)), (1, .ref (w.2.2.1 1))] dX7_chanceOfSets_41 (by decide) rfl ?_
  obtain ⟨q5, hq6, h⟩ := ob_bind h
  refine u_sub [2, 3, 1, 0] rfl (s_X7_chanceOfSets_l2 g fuelN (1 : Int64) (15 : Int32) q3 _ hq6 ?_)
  show U shX w x r q5.2 95 [(0, .ref (w.2.2.1 255)), (2, .long q5.1)] []
  refine u_aload_n g 0 dX7_chanceOfSets_95 rfl ?_
  refine gfX7_0 g (c := 255) rfl wf_X7_11 dX7_chanceOfSets_96 ?_
  refine u_iconst g (v := (0 : Int32)) dX7_chanceOfSets_99 rfl ?_
  refine aX_lld g (c := 256) 1024 (by decide) rfl (v := (q5.2.2 256 0)) (inB_in rfl) rfl dX7_chanceOfSets_100 ?_
  refine u_lload_n g 1 dX7_chanceOfSets_101 rfl ?_
  refine u_lmul g dX7_chanceOfSets_102 ?_
  exact u_lret g dX7_chanceOfSets_103 (by rw [← hr]; obtain rfl := Option.some.inj h; rfl)
set_option maxRecDepth 100000 in
set_option maxHeartbeats 4000000 in
theorem t_X8_hasPair (w : Wp) (l : Launch) {a1 : Int32} {M : Mem} {q : Int32} (h : f_X8_hasPair a1 M = some q) : Ct shX w l yX8_hasPair cX8_hasPair 2 (some .boolean) 0 [.ref (w.2.2.1 252), .int a1] M (some (.int q), M) := by
  rw [f_X8_hasPair] at h
  refine ct_of shX_loc (by decide) (Nat.le_of_ble_eq_true rfl) rfl (fun x hx g => ?_)
  subst hx
  show U shX w x _ M 0 [(0, .ref (w.2.2.1 252)), (1, .int a1)] []
  generalize hr : ((some (.int q), M) : Option Value × Mem) = r
  have g : Gd shX w x RX8 cX8_hasPair 2 (some .boolean) 0 := g
  refine u_iload_n g 1 dX8_hasPair_0 rfl ?_
  refine u_if_lt g 16 dX8_hasPair_1 (by decide) (fun b1 => ?_) (fun b1 => ?_)
  · have h := ob_pos b1 h
    refine u_iconst g (v := (0 : Int32)) dX8_hasPair_16 rfl ?_
    exact u_zret g (Or.inl rfl) dX8_hasPair_17 (by rw [← hr]; obtain rfl := Option.some.inj h; rfl)
  · have h := ob_neg b1 h
    refine u_iload_n g 1 dX8_hasPair_4 rfl ?_
    refine u_aload_n g 0 dX8_hasPair_5 rfl ?_
    refine gfX8_0 g (c := 252) rfl wf_X8_9 (v := (M.1 252 0)) rfl dX8_hasPair_6 ?_
    refine u_icmp_ge g 16 dX8_hasPair_9 (by decide) (fun b2 => ?_) (fun b2 => ?_)
    · have h := ob_pos b2 h
      refine u_iconst g (v := (0 : Int32)) dX8_hasPair_16 rfl ?_
      exact u_zret g (Or.inl rfl) dX8_hasPair_17 (by rw [← hr]; obtain rfl := Option.some.inj h; rfl)
    · have h := ob_neg b2 h
      refine u_iconst g (v := (1 : Int32)) dX8_hasPair_12 rfl ?_
      refine u_goto g 17 dX8_hasPair_13 (by decide) ?_
      exact u_zret g (Or.inr rfl) dX8_hasPair_17 (by rw [← hr]; obtain rfl := Option.some.inj h; rfl)
set_option maxRecDepth 100000 in
set_option maxHeartbeats 4000000 in
theorem t_X8_leastKeeper (w : Wp) (l : Launch) {a0 : Int32} {M : Mem} {q : Int32} (h : f_X8_leastKeeper a0 = some q) : Ct shX w l yX8_leastKeeper cX8_leastKeeper 1 (some .int) 1 [.int a0] M (some (.int q), M) := by
  rw [f_X8_leastKeeper] at h
  refine ct_of shX_loc (by decide) (Nat.le_of_ble_eq_true rfl) rfl (fun x hx g => ?_)
  subst hx
  show U shX w x _ M 0 [(0, .int a0)] []
  generalize hr : ((some (.int q), M) : Option Value × Mem) = r
  have g : Gd shX w x RX8 cX8_leastKeeper 1 (some .int) 1 := g
  refine u_iload_n g 0 dX8_leastKeeper_0 rfl ?_
  refine u_if_ne g 8 dX8_leastKeeper_1 (by decide) (fun b1 => ?_) (fun b1 => ?_)
  · have h := ob_neg b1 h
    refine u_iload_n g 0 dX8_leastKeeper_8 rfl ?_
    refine u_iload_n g 0 dX8_leastKeeper_9 rfl ?_
    refine u_ineg g dX8_leastKeeper_10 ?_
    refine u_iand g dX8_leastKeeper_11 ?_
    refine u_iconst g (v := (1 : Int32)) dX8_leastKeeper_12 rfl ?_
    refine u_isub g dX8_leastKeeper_13 ?_
    obtain ⟨q2, hq3, h⟩ := ob_bind h
    refine u_callS (st := []) g wv_X8_33 [.int ((a0 &&& (-a0)) - (1 : Int32))] (t_J6_bitCount_0f7a4 w x.2.1 hq3) (by decide) (by decide) rfl (Nat.le_of_ble_eq_true rfl) rfl dX8_leastKeeper_14 ?_
    show U shX w x r M 17 [(0, .int a0)] [.int q2]
    exact u_iret g dX8_leastKeeper_17 (by rw [← hr]; obtain rfl := Option.some.inj h; rfl)
  · have h := ob_pos b1 h
    refine u_iconst g (v := (-1 : Int32)) dX8_leastKeeper_4 rfl ?_
    refine u_goto g 17 dX8_leastKeeper_5 (by decide) ?_
    exact u_iret g dX8_leastKeeper_17 (by rw [← hr]; obtain rfl := Option.some.inj h; rfl)
set_option maxRecDepth 100000 in
set_option maxHeartbeats 4000000 in
theorem s_X8_write_l2 {w : Wp} {x : Cx} {r : Option Value × Mem} (g : Gd shX w x RX8 cX8_write 4 none 2) (t1 : Nat) (a2 : Int32) (h1 : kX t1 = 1) : ∀ (n : Nat) (v3 : Int32) (M : Mem) (q : Mem), f_X8_write_l2 t1 a2 n v3 M = some q → U shX w x r q 78 [(0, .ref (w.2.2.1 252)), (1, .ref (w.2.2.1 t1)), (2, .int a2)] [] → U shX w x r M 19 [(0, .ref (w.2.2.1 252)), (1, .ref (w.2.2.1 t1)), (2, .int a2), (3, .int v3)] [] := by
  intro n
  induction n with
  | zero => intro v3 M q h K; rw [f_X8_write_l2] at h; cases h
  | succ n ih =>
    intro v3 M q h K
    rw [f_X8_write_l2] at h
    refine u_iload_n g 3 dX8_write_19 rfl ?_
    refine u_aload_n g 1 dX8_write_20 rfl ?_
    refine gfX1_1 g h1 wf_X8_19 (v := (M.1 t1 1)) rfl dX8_write_21 ?_
    refine u_icmp_ge g 78 dX8_write_24 (by decide) (fun b2 => ?_) (fun b2 => ?_)
    · have h := ob_pos b2 h
      obtain rfl := Option.some.inj h
      exact u_sub [0, 1, 2] rfl K
    · have h := ob_neg b2 h
      refine u_aload_n g 0 dX8_write_27 rfl ?_
      refine gfX8_0 g (c := 252) rfl wf_X8_9 (v := (M.1 252 0)) rfl dX8_write_28 ?_
      refine u_sipush g (v := (7140 : Int32)) dX8_write_31 rfl ?_
      refine u_icmp_ge g 78 dX8_write_34 (by decide) (fun b3 => ?_) (fun b3 => ?_)
      · have h := ob_pos b3 h
        obtain rfl := Option.some.inj h
        exact u_sub [0, 1, 2] rfl K
      · have h := ob_neg b3 h
        refine u_aload_n g 0 dX8_write_37 rfl ?_
        refine gfX8_1 g (c := 252) rfl wf_X8_15 dX8_write_38 ?_
        refine u_aload_n g 0 dX8_write_41 rfl ?_
        refine gfX8_0 g (c := 252) rfl wf_X8_9 (v := (M.1 252 0)) rfl dX8_write_42 ?_
        refine u_aload_n g 1 dX8_write_45 rfl ?_
        refine gfX1_2 g h1 wf_X8_22 dX8_write_46 ?_
        refine u_iload_n g 2 dX8_write_49 rfl ?_
        obtain ⟨e4, h⟩ := ob_if h
        refine aX_ild g (c := (t1 + 1)) 120 (by decide) (kX_s1 h1) (v := (M.1 (t1 + 1) a2.toNatClampNeg)) (inB_in e4) rfl dX8_write_50 ?_
        refine u_aload_n g 1 dX8_write_51 rfl ?_
        refine gfX1_2 g h1 wf_X8_22 dX8_write_52 ?_
        refine u_iload_n g 3 dX8_write_55 rfl ?_
        obtain ⟨e5, h⟩ := ob_if h
        refine aX_ild g (c := (t1 + 1)) 120 (by decide) (kX_s1 h1) (v := (M.1 (t1 + 1) v3.toNatClampNeg)) (inB_in e5) rfl dX8_write_56 ?_
        refine u_iand g dX8_write_57 ?_
        obtain ⟨q6, hq7, h⟩ := ob_bind h
        refine u_callS (st := [.int (M.1 252 0), .ref (w.2.2.1 253)]) g wv_X8_25 [.int ((M.1 (t1 + 1) a2.toNatClampNeg) &&& (M.1 (t1 + 1) v3.toNatClampNeg))] (t_X8_leastKeeper w x.2.1 hq7) (by decide) (by decide) rfl (Nat.le_of_ble_eq_true rfl) rfl dX8_write_58 ?_
        show U shX w x r M 61 [(0, .ref (w.2.2.1 252)), (1, .ref (w.2.2.1 t1)), (2, .int a2), (3, .int v3)] [.int q6, .int (M.1 252 0), .ref (w.2.2.1 253)]
        obtain ⟨e8, h⟩ := ob_if h
        refine aX_ist g (c := 253) 7140 (by decide) rfl (inB_in e8) (j := (M.1 252 0).toNatClampNeg) rfl dX8_write_61 ?_
        refine u_aload_n g 0 dX8_write_62 rfl ?_
        refine u_dup g dX8_write_63 rfl ?_
        refine gfX8_0 g (c := 252) rfl wf_X8_9 (v := (M.1 252 0)) rfl dX8_write_64 ?_
        refine u_iconst g (v := (1 : Int32)) dX8_write_67 rfl ?_
        refine u_iadd g dX8_write_68 ?_
        refine pfX8_0 g (c := 252) rfl wf_X8_9 dX8_write_69 ?_
        refine u_iinc g 3 [(3, .int (v3 + (1 : Int32))), (0, .ref (w.2.2.1 252)), (1, .ref (w.2.2.1 t1)), (2, .int a2)] dX8_write_72 rfl rfl (by decide) rfl ?_
        refine u_goto g 19 dX8_write_75 (by decide) ?_
        exact u_sub [1, 2, 3, 0] rfl (ih (v3 + (1 : Int32)) (sI (sI M 253 (M.1 252 0).toNatClampNeg q6) 252 0 ((M.1 252 0) + (1 : Int32))) _ h K)
set_option maxRecDepth 100000 in
set_option maxHeartbeats 4000000 in
theorem s_X8_write_l1 {w : Wp} {x : Cx} {r : Option Value × Mem} (g : Gd shX w x RX8 cX8_write 4 none 2) (t1 : Nat) (h1 : kX t1 = 1) : ∀ (n : Nat) (v2 : Int32) (M : Mem) (q : Mem), f_X8_write_l1 t1 n v2 M = some q → U shX w x r q 84 [] [] → U shX w x r M 7 [(0, .ref (w.2.2.1 252)), (1, .ref (w.2.2.1 t1)), (2, .int v2)] [] := by
  intro n
  induction n with
  | zero => intro v2 M q h K; rw [f_X8_write_l1] at h; cases h
  | succ n ih =>
    intro v2 M q h K
    rw [f_X8_write_l1] at h
    refine u_iload_n g 2 dX8_write_7 rfl ?_
    refine u_aload_n g 1 dX8_write_8 rfl ?_
    refine gfX1_1 g h1 wf_X8_19 (v := (M.1 t1 1)) rfl dX8_write_9 ?_
    refine u_icmp_ge g 84 dX8_write_12 (by decide) (fun b1 => ?_) (fun b1 => ?_)
    · have h := ob_pos b1 h
      obtain rfl := Option.some.inj h
      exact u_sub [] rfl K
    · have h := ob_neg b1 h
      refine u_iload_n g 2 dX8_write_15 rfl ?_
      refine u_iconst g (v := (1 : Int32)) dX8_write_16 rfl ?_
      refine u_iadd g dX8_write_17 ?_
      refine u_istore_n g [(3, .int (v2 + (1 : Int32))), (0, .ref (w.2.2.1 252)), (1, .ref (w.2.2.1 t1)), (2, .int v2)] dX8_write_18 (by decide) rfl ?_
      obtain ⟨q2, hq3, h⟩ := ob_bind h
      refine u_sub [1, 2, 3, 0] rfl (s_X8_write_l2 g t1 v2 h1 fuelN (v2 + (1 : Int32)) M _ hq3 ?_)
      show U shX w x r q2 78 [(0, .ref (w.2.2.1 252)), (1, .ref (w.2.2.1 t1)), (2, .int v2)] []
      refine u_iinc g 2 [(2, .int (v2 + (1 : Int32))), (0, .ref (w.2.2.1 252)), (1, .ref (w.2.2.1 t1))] dX8_write_78 rfl rfl (by decide) rfl ?_
      refine u_goto g 7 dX8_write_81 (by decide) ?_
      exact u_sub [1, 2, 0] rfl (ih (v2 + (1 : Int32)) q2 _ h K)
set_option maxRecDepth 100000 in
set_option maxHeartbeats 4000000 in
theorem t_X8_write (w : Wp) (l : Launch) {t1 : Nat} {M : Mem} {q : Mem} (h : f_X8_write t1 M = some q) : Ct shX w l yX8_write cX8_write 4 none 2 [.ref (w.2.2.1 252), .ref (w.2.2.1 t1)] M (none, q) := by
  rw [f_X8_write] at h
  obtain ⟨h1, h⟩ := ob_if h
  refine ct_of shX_loc (by decide) (Nat.le_of_ble_eq_true rfl) rfl (fun x hx g => ?_)
  subst hx
  show U shX w x _ M 0 [(0, .ref (w.2.2.1 252)), (1, .ref (w.2.2.1 t1))] []
  generalize hr : ((none, q) : Option Value × Mem) = r
  have g : Gd shX w x RX8 cX8_write 4 none 2 := g
  refine u_aload_n g 0 dX8_write_0 rfl ?_
  refine u_iconst g (v := (0 : Int32)) dX8_write_1 rfl ?_
  refine pfX8_0 g (c := 252) rfl wf_X8_9 dX8_write_2 ?_
  refine u_iconst g (v := (0 : Int32)) dX8_write_5 rfl ?_
  refine u_istore_n g [(2, .int (0 : Int32)), (0, .ref (w.2.2.1 252)), (1, .ref (w.2.2.1 t1))] dX8_write_6 (by decide) rfl ?_
  obtain ⟨q1, hq2, h⟩ := ob_bind h
  refine u_sub [1, 2, 0] rfl (s_X8_write_l1 g t1 h1 fuelN (0 : Int32) (sI M 252 0 (0 : Int32)) _ hq2 ?_)
  show U shX w x r q1 84 [] []
  exact u_vret g dX8_write_84 (by rw [← hr]; obtain rfl := Option.some.inj h; rfl)
set_option maxRecDepth 100000 in
set_option maxHeartbeats 4000000 in
theorem t_X8_isKeeperOf (w : Wp) (l : Launch) {a0 : Int32} {a1 : Int32} {M : Mem} {q : Int32} (h : f_X8_isKeeperOf a0 a1 = some q) : Ct shX w l yX8_isKeeperOf cX8_isKeeperOf 2 (some .boolean) 0 [.int a0, .int a1] M (some (.int q), M) := by
  rw [f_X8_isKeeperOf] at h
  refine ct_of shX_loc (by decide) (Nat.le_of_ble_eq_true rfl) rfl (fun x hx g => ?_)
  subst hx
  show U shX w x _ M 0 [(0, .int a0), (1, .int a1)] []
  generalize hr : ((some (.int q), M) : Option Value × Mem) = r
  have g : Gd shX w x RX8 cX8_isKeeperOf 2 (some .boolean) 0 := g
  refine u_iload_n g 0 dX8_isKeeperOf_0 rfl ?_
  refine u_if_lt g 22 dX8_isKeeperOf_1 (by decide) (fun b1 => ?_) (fun b1 => ?_)
  · have h := ob_pos b1 h
    refine u_iconst g (v := (0 : Int32)) dX8_isKeeperOf_22 rfl ?_
    exact u_zret g (Or.inl rfl) dX8_isKeeperOf_23 (by rw [← hr]; obtain rfl := Option.some.inj h; rfl)
  · have h := ob_neg b1 h
    refine u_iload_n g 0 dX8_isKeeperOf_4 rfl ?_
    refine u_bipush g (v := (16 : Int32)) dX8_isKeeperOf_5 rfl ?_
    refine u_icmp_ge g 22 dX8_isKeeperOf_7 (by decide) (fun b2 => ?_) (fun b2 => ?_)
    · have h := ob_pos b2 h
      refine u_iconst g (v := (0 : Int32)) dX8_isKeeperOf_22 rfl ?_
      exact u_zret g (Or.inl rfl) dX8_isKeeperOf_23 (by rw [← hr]; obtain rfl := Option.some.inj h; rfl)
    · have h := ob_neg b2 h
      refine u_iload_n g 1 dX8_isKeeperOf_10 rfl ?_
      refine u_iload_n g 0 dX8_isKeeperOf_11 rfl ?_
      refine u_ishr g dX8_isKeeperOf_12 ?_
      refine u_iconst g (v := (1 : Int32)) dX8_isKeeperOf_13 rfl ?_
      refine u_iand g dX8_isKeeperOf_14 ?_
      refine u_if_eq g 22 dX8_isKeeperOf_15 (by decide) (fun b3 => ?_) (fun b3 => ?_)
      · have h := ob_pos b3 h
        refine u_iconst g (v := (0 : Int32)) dX8_isKeeperOf_22 rfl ?_
        exact u_zret g (Or.inl rfl) dX8_isKeeperOf_23 (by rw [← hr]; obtain rfl := Option.some.inj h; rfl)
      · have h := ob_neg b3 h
        refine u_iconst g (v := (1 : Int32)) dX8_isKeeperOf_18 rfl ?_
        refine u_goto g 23 dX8_isKeeperOf_19 (by decide) ?_
        exact u_zret g (Or.inr rfl) dX8_isKeeperOf_23 (by rw [← hr]; obtain rfl := Option.some.inj h; rfl)
set_option maxRecDepth 100000 in
set_option maxHeartbeats 4000000 in
theorem s_X8_firstFalsePair_l2 {w : Wp} {x : Cx} {r : Option Value × Mem} (g : Gd shX w x RX8 cX8_firstFalsePair 5 (some .int) 1) (t1 : Nat) (a3 : Int32) (h1 : kX t1 = 1) (M : Mem) : ∀ (n : Nat) (v2 : Int32) (v4 : Int32) (q : (Int32) ⊕ (Int32)), f_X8_firstFalsePair_l2 t1 a3 M n v2 v4 = some q → (∀ e : Int32, q = .inl e → U shX w x r M 71 [(0, .ref (w.2.2.1 252)), (1, .ref (w.2.2.1 t1)), (2, .int e), (3, .int a3)] []) → (∀ v : Int32, q = .inr v → r = (some (.int v), M)) → U shX w x r M 17 [(0, .ref (w.2.2.1 252)), (1, .ref (w.2.2.1 t1)), (2, .int v2), (3, .int a3), (4, .int v4)] [] := by
  intro n
  induction n with
  | zero => intro v2 v4 q h K1 K2; rw [f_X8_firstFalsePair_l2] at h; cases h
  | succ n ih =>
    intro v2 v4 q h K1 K2
    rw [f_X8_firstFalsePair_l2] at h
    refine u_iload g 4 dX8_firstFalsePair_17 rfl ?_
    refine u_aload_n g 1 dX8_firstFalsePair_19 rfl ?_
    refine gfX1_1 g h1 wf_X8_19 (v := (M.1 t1 1)) rfl dX8_firstFalsePair_20 ?_
    refine u_icmp_ge g 71 dX8_firstFalsePair_23 (by decide) (fun b2 => ?_) (fun b2 => ?_)
    · have h := ob_pos b2 h
      exact u_sub [0, 1, 2, 3] rfl (K1 _ (Option.some.inj h).symm)
    · have h := ob_neg b2 h
      refine u_iload_n g 2 dX8_firstFalsePair_26 rfl ?_
      refine u_aload_n g 0 dX8_firstFalsePair_27 rfl ?_
      refine gfX8_0 g (c := 252) rfl wf_X8_9 (v := (M.1 252 0)) rfl dX8_firstFalsePair_28 ?_
      refine u_icmp_ge g 71 dX8_firstFalsePair_31 (by decide) (fun b3 => ?_) (fun b3 => ?_)
      · have h := ob_pos b3 h
        exact u_sub [0, 1, 2, 3] rfl (K1 _ (Option.some.inj h).symm)
      · have h := ob_neg b3 h
        refine u_aload_n g 0 dX8_firstFalsePair_34 rfl ?_
        refine gfX8_1 g (c := 252) rfl wf_X8_15 dX8_firstFalsePair_35 ?_
        refine u_iload_n g 2 dX8_firstFalsePair_38 rfl ?_
        obtain ⟨e4, h⟩ := ob_if h
        refine aX_ild g (c := 253) 7140 (by decide) rfl (v := (M.1 253 v2.toNatClampNeg)) (inB_in e4) rfl dX8_firstFalsePair_39 ?_
        refine u_aload_n g 1 dX8_firstFalsePair_40 rfl ?_
        refine gfX1_2 g h1 wf_X8_22 dX8_firstFalsePair_41 ?_
        refine u_iload_n g 3 dX8_firstFalsePair_44 rfl ?_
        obtain ⟨e5, h⟩ := ob_if h
        refine aX_ild g (c := (t1 + 1)) 120 (by decide) (kX_s1 h1) (v := (M.1 (t1 + 1) a3.toNatClampNeg)) (inB_in e5) rfl dX8_firstFalsePair_45 ?_
        refine u_aload_n g 1 dX8_firstFalsePair_46 rfl ?_
        refine gfX1_2 g h1 wf_X8_22 dX8_firstFalsePair_47 ?_
        refine u_iload g 4 dX8_firstFalsePair_50 rfl ?_
        obtain ⟨e6, h⟩ := ob_if h
        refine aX_ild g (c := (t1 + 1)) 120 (by decide) (kX_s1 h1) (v := (M.1 (t1 + 1) v4.toNatClampNeg)) (inB_in e6) rfl dX8_firstFalsePair_52 ?_
        refine u_iand g dX8_firstFalsePair_53 ?_
        obtain ⟨q7, hq8, h⟩ := ob_bind h
        refine u_callS (st := []) g wv_X8_29 [.int (M.1 253 v2.toNatClampNeg), .int ((M.1 (t1 + 1) a3.toNatClampNeg) &&& (M.1 (t1 + 1) v4.toNatClampNeg))] (t_X8_isKeeperOf w x.2.1 hq8) (by decide) (by decide) rfl (Nat.le_of_ble_eq_true rfl) rfl dX8_firstFalsePair_54 ?_
        show U shX w x r M 57 [(0, .ref (w.2.2.1 252)), (1, .ref (w.2.2.1 t1)), (2, .int v2), (3, .int a3), (4, .int v4)] [.int q7]
        refine u_if_ne g 62 dX8_firstFalsePair_57 (by decide) (fun b9 => ?_) (fun b9 => ?_)
        · have h := ob_neg b9 h
          refine u_iinc g 2 [(2, .int (v2 + (1 : Int32))), (0, .ref (w.2.2.1 252)), (1, .ref (w.2.2.1 t1)), (3, .int a3), (4, .int v4)] dX8_firstFalsePair_62 rfl rfl (by decide) rfl ?_
          refine u_iinc g 4 [(4, .int (v4 + (1 : Int32))), (2, .int (v2 + (1 : Int32))), (0, .ref (w.2.2.1 252)), (1, .ref (w.2.2.1 t1)), (3, .int a3)] dX8_firstFalsePair_65 rfl rfl (by decide) rfl ?_
          refine u_goto g 17 dX8_firstFalsePair_68 (by decide) ?_
          exact u_sub [2, 3, 1, 4, 0] rfl (ih (v2 + (1 : Int32)) (v4 + (1 : Int32)) _ h K1 K2)
        · have h := ob_pos b9 h
          refine u_iload_n g 2 dX8_firstFalsePair_60 rfl ?_
          exact u_iret g dX8_firstFalsePair_61 (K2 _ (Option.some.inj h).symm)
set_option maxRecDepth 100000 in
set_option maxHeartbeats 4000000 in
theorem s_X8_firstFalsePair_l1 {w : Wp} {x : Cx} {r : Option Value × Mem} (g : Gd shX w x RX8 cX8_firstFalsePair 5 (some .int) 1) (t1 : Nat) (h1 : kX t1 = 1) (M : Mem) : ∀ (n : Nat) (v2 : Int32) (v3 : Int32) (q : (Unit) ⊕ (Int32)), f_X8_firstFalsePair_l1 t1 M n v2 v3 = some q → (∀ e : Unit, q = .inl e → U shX w x r M 77 [] []) → (∀ v : Int32, q = .inr v → r = (some (.int v), M)) → U shX w x r M 4 [(0, .ref (w.2.2.1 252)), (1, .ref (w.2.2.1 t1)), (2, .int v2), (3, .int v3)] [] := by
  intro n
  induction n with
  | zero => intro v2 v3 q h K1 K2; rw [f_X8_firstFalsePair_l1] at h; cases h
  | succ n ih =>
    intro v2 v3 q h K1 K2
    rw [f_X8_firstFalsePair_l1] at h
    refine u_iload_n g 3 dX8_firstFalsePair_4 rfl ?_
    refine u_aload_n g 1 dX8_firstFalsePair_5 rfl ?_
    refine gfX1_1 g h1 wf_X8_19 (v := (M.1 t1 1)) rfl dX8_firstFalsePair_6 ?_
    refine u_icmp_ge g 77 dX8_firstFalsePair_9 (by decide) (fun b1 => ?_) (fun b1 => ?_)
    · have h := ob_pos b1 h
      exact u_sub [] rfl (K1 _ (Option.some.inj h).symm)
    · have h := ob_neg b1 h
      refine u_iload_n g 3 dX8_firstFalsePair_12 rfl ?_
      refine u_iconst g (v := (1 : Int32)) dX8_firstFalsePair_13 rfl ?_
      refine u_iadd g dX8_firstFalsePair_14 ?_
      refine u_istore g [(4, .int (v3 + (1 : Int32))), (0, .ref (w.2.2.1 252)), (1, .ref (w.2.2.1 t1)), (2, .int v2), (3, .int v3)] dX8_firstFalsePair_15 (by decide) rfl ?_
      obtain ⟨q2, hq3, h⟩ := ob_bind h
      refine u_sub [1, 2, 3, 4, 0] rfl (s_X8_firstFalsePair_l2 g t1 v3 h1 M fuelN v2 (v3 + (1 : Int32)) _ hq3 (fun e4 he6 => ?_) (fun v5 he6 => ?_))
      · subst he6
        have h := ob_inl h
        refine u_iinc g 3 [(3, .int (v3 + (1 : Int32))), (0, .ref (w.2.2.1 252)), (1, .ref (w.2.2.1 t1)), (2, .int e4)] dX8_firstFalsePair_71 rfl rfl (by decide) rfl ?_
        refine u_goto g 4 dX8_firstFalsePair_74 (by decide) ?_
        exact u_sub [1, 2, 3, 0] rfl (ih e4 (v3 + (1 : Int32)) _ h K1 K2)
      · subst he6
        have h := ob_inr h
        exact K2 _ (Option.some.inj h).symm
set_option maxRecDepth 100000 in
set_option maxHeartbeats 4000000 in
theorem t_X8_firstFalsePair (w : Wp) (l : Launch) {t1 : Nat} {M : Mem} {q : Int32} (h : f_X8_firstFalsePair t1 M = some q) : Ct shX w l yX8_firstFalsePair cX8_firstFalsePair 5 (some .int) 1 [.ref (w.2.2.1 252), .ref (w.2.2.1 t1)] M (some (.int q), M) := by
  rw [f_X8_firstFalsePair] at h
  obtain ⟨h1, h⟩ := ob_if h
  refine ct_of shX_loc (by decide) (Nat.le_of_ble_eq_true rfl) rfl (fun x hx g => ?_)
  subst hx
  show U shX w x _ M 0 [(0, .ref (w.2.2.1 252)), (1, .ref (w.2.2.1 t1))] []
  generalize hr : ((some (.int q), M) : Option Value × Mem) = r
  have g : Gd shX w x RX8 cX8_firstFalsePair 5 (some .int) 1 := g
  refine u_iconst g (v := (0 : Int32)) dX8_firstFalsePair_0 rfl ?_
  refine u_istore_n g [(2, .int (0 : Int32)), (0, .ref (w.2.2.1 252)), (1, .ref (w.2.2.1 t1))] dX8_firstFalsePair_1 (by decide) rfl ?_
  refine u_iconst g (v := (0 : Int32)) dX8_firstFalsePair_2 rfl ?_
  refine u_istore_n g [(3, .int (0 : Int32)), (2, .int (0 : Int32)), (0, .ref (w.2.2.1 252)), (1, .ref (w.2.2.1 t1))] dX8_firstFalsePair_3 (by decide) rfl ?_
  obtain ⟨q1, hq2, h⟩ := ob_bind h
  refine u_sub [2, 3, 1, 0] rfl (s_X8_firstFalsePair_l1 g t1 h1 M fuelN (0 : Int32) (0 : Int32) _ hq2 (fun e3 he5 => ?_) (fun v4 he5 => ?_))
  · subst he5
    have h := ob_inl h
    refine u_bipush g (v := (-2 : Int32)) dX8_firstFalsePair_77 rfl ?_
    exact u_iret g dX8_firstFalsePair_79 (by rw [← hr]; obtain rfl := Option.some.inj h; rfl)
  · subst he5
    have h := ob_inr h
    obtain rfl := Option.some.inj h
    exact hr.symm
