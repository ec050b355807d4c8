set_option maxRecDepth 100000 in
set_option maxHeartbeats 4000000 in
theorem t_J13_bitCount_95d88 (w : Wp) (l : Launch) {a0 : Int64} {M : Mem} {q : Int32} (h : f_J13_bitCount_95d88 a0 = some q) : Ct shX w l yJ13_bitCount_95d88 cJ13_bitCount_95d88 2 (some .int) 0 [.long a0] M (some (.int q), M) := by
  rw [f_J13_bitCount_95d88] at h
  refine ct_of shX_loc (by decide) (Nat.le_of_ble_eq_true rfl) rfl (fun x hx g => ?_)
  subst hx
  show U shX w x _ M 0 [(0, .long a0)] []
  generalize hr : ((some (.int q), M) : Option Value × Mem) = r
  have g : Gd shX w x RJ13 cJ13_bitCount_95d88 2 (some .int) 0 := g
  refine u_lload_n g 0 dJ13_bitCount_95d88_0 rfl ?_
  refine u_lload_n g 0 dJ13_bitCount_95d88_1 rfl ?_
  refine u_iconst g (v := (1 : Int32)) dJ13_bitCount_95d88_2 rfl ?_
  refine u_lushr g dJ13_bitCount_95d88_3 ?_
  refine u_ldc2_w g wk_J13_314 dJ13_bitCount_95d88_4 ?_
  refine u_land g dJ13_bitCount_95d88_7 ?_
  refine u_lsub g dJ13_bitCount_95d88_8 ?_
  refine u_lstore_n g [(0, .long (a0 - ((lushr a0 (1 : Int32)) &&& (6148914691236517205 : Int64))))] dJ13_bitCount_95d88_9 (by decide) rfl ?_
  refine u_lload_n g 0 dJ13_bitCount_95d88_10 rfl ?_
  refine u_ldc2_w g wk_J13_316 dJ13_bitCount_95d88_11 ?_
  refine u_land g dJ13_bitCount_95d88_14 ?_
  refine u_lload_n g 0 dJ13_bitCount_95d88_15 rfl ?_
  refine u_iconst g (v := (2 : Int32)) dJ13_bitCount_95d88_16 rfl ?_
  refine u_lushr g dJ13_bitCount_95d88_17 ?_
  refine u_ldc2_w g wk_J13_316 dJ13_bitCount_95d88_18 ?_
  refine u_land g dJ13_bitCount_95d88_21 ?_
  refine u_ladd g dJ13_bitCount_95d88_22 ?_
  refine u_lstore_n g [(0, .long (((a0 - ((lushr a0 (1 : Int32)) &&& (6148914691236517205 : Int64))) &&& (3689348814741910323 : Int64)) + ((lushr (a0 - ((lushr a0 (1 : Int32)) &&& (6148914691236517205 : Int64))) (2 : Int32)) &&& (3689348814741910323 : Int64))))] dJ13_bitCount_95d88_23 (by decide) rfl ?_
  refine u_lload_n g 0 dJ13_bitCount_95d88_24 rfl ?_
  refine u_lload_n g 0 dJ13_bitCount_95d88_25 rfl ?_
  refine u_iconst g (v := (4 : Int32)) dJ13_bitCount_95d88_26 rfl ?_
  refine u_lushr g dJ13_bitCount_95d88_27 ?_
  refine u_ladd g dJ13_bitCount_95d88_28 ?_
  refine u_ldc2_w g wk_J13_318 dJ13_bitCount_95d88_29 ?_
  refine u_land g dJ13_bitCount_95d88_32 ?_
  refine u_lstore_n g [(0, .long (((((a0 - ((lushr a0 (1 : Int32)) &&& (6148914691236517205 : Int64))) &&& (3689348814741910323 : Int64)) + ((lushr (a0 - ((lushr a0 (1 : Int32)) &&& (6148914691236517205 : Int64))) (2 : Int32)) &&& (3689348814741910323 : Int64))) + (lushr (((a0 - ((lushr a0 (1 : Int32)) &&& (6148914691236517205 : Int64))) &&& (3689348814741910323 : Int64)) + ((lushr (a0 - ((lushr a0 (1 : Int32)) &&& (6148914691236517205 : Int64))) (2 : Int32)) &&& (3689348814741910323 : Int64))) (4 : Int32))) &&& (1085102592571150095 : Int64)))] dJ13_bitCount_95d88_33 (by decide) rfl ?_
  refine u_lload_n g 0 dJ13_bitCount_95d88_34 rfl ?_
  refine u_lload_n g 0 dJ13_bitCount_95d88_35 rfl ?_
  refine u_bipush g (v := (8 : Int32)) dJ13_bitCount_95d88_36 rfl ?_
  refine u_lushr g dJ13_bitCount_95d88_38 ?_
  refine u_ladd g dJ13_bitCount_95d88_39 ?_
  refine u_lstore_n g [(0, .long ((((((a0 - ((lushr a0 (1 : Int32)) &&& (6148914691236517205 : Int64))) &&& (3689348814741910323 : Int64)) + ((lushr (a0 - ((lushr a0 (1 : Int32)) &&& (6148914691236517205 : Int64))) (2 : Int32)) &&& (3689348814741910323 : Int64))) + (lushr (((a0 - ((lushr a0 (1 : Int32)) &&& (6148914691236517205 : Int64))) &&& (3689348814741910323 : Int64)) + ((lushr (a0 - ((lushr a0 (1 : Int32)) &&& (6148914691236517205 : Int64))) (2 : Int32)) &&& (3689348814741910323 : Int64))) (4 : Int32))) &&& (1085102592571150095 : Int64)) + (lushr (((((a0 - ((lushr a0 (1 : Int32)) &&& (6148914691236517205 : Int64))) &&& (3689348814741910323 : Int64)) + ((lushr (a0 - ((lushr a0 (1 : Int32)) &&& (6148914691236517205 : Int64))) (2 : Int32)) &&& (3689348814741910323 : Int64))) + (lushr (((a0 - ((lushr a0 (1 : Int32)) &&& (6148914691236517205 : Int64))) &&& (3689348814741910323 : Int64)) + ((lushr (a0 - ((lushr a0 (1 : Int32)) &&& (6148914691236517205 : Int64))) (2 : Int32)) &&& (3689348814741910323 : Int64))) (4 : Int32))) &&& (1085102592571150095 : Int64)) (8 : Int32))))] dJ13_bitCount_95d88_40 (by decide) rfl ?_
  refine u_lload_n g 0 dJ13_bitCount_95d88_41 rfl ?_
  refine u_lload_n g 0 dJ13_bitCount_95d88_42 rfl ?_
  refine u_bipush g (v := (16 : Int32)) dJ13_bitCount_95d88_43 rfl ?_
  refine u_lushr g dJ13_bitCount_95d88_45 ?_
  refine u_ladd g dJ13_bitCount_95d88_46 ?_
  refine u_lstore_n g [(0, .long (((((((a0 - ((lushr a0 (1 : Int32)) &&& (6148914691236517205 : Int64))) &&& (3689348814741910323 : Int64)) + ((lushr (a0 - ((lushr a0 (1 : Int32)) &&& (6148914691236517205 : Int64))) (2 : Int32)) &&& (3689348814741910323 : Int64))) + (lushr (((a0 - ((lushr a0 (1 : Int32)) &&& (6148914691236517205 : Int64))) &&& (3689348814741910323 : Int64)) + ((lushr (a0 - ((lushr a0 (1 : Int32)) &&& (6148914691236517205 : Int64))) (2 : Int32)) &&& (3689348814741910323 : Int64))) (4 : Int32))) &&& (1085102592571150095 : Int64)) + (lushr (((((a0 - ((lushr a0 (1 : Int32)) &&& (6148914691236517205 : Int64))) &&& (3689348814741910323 : Int64)) + ((lushr (a0 - ((lushr a0 (1 : Int32)) &&& (6148914691236517205 : Int64))) (2 : Int32)) &&& (3689348814741910323 : Int64))) + (lushr (((a0 - ((lushr a0 (1 : Int32)) &&& (6148914691236517205 : Int64))) &&& (3689348814741910323 : Int64)) + ((lushr (a0 - ((lushr a0 (1 : Int32)) &&& (6148914691236517205 : Int64))) (2 : Int32)) &&& (3689348814741910323 : Int64))) (4 : Int32))) &&& (1085102592571150095 : Int64)) (8 : Int32))) + (lushr ((((((a0 - ((lushr a0 (1 : Int32)) &&& (6148914691236517205 : Int64))) &&& (3689348814741910323 : Int64)) + ((lushr (a0 - ((lushr a0 (1 : Int32)) &&& (6148914691236517205 : Int64))) (2 : Int32)) &&& (3689348814741910323 : Int64))) + (lushr (((a0 - ((lushr a0 (1 : Int32)) &&& (6148914691236517205 : Int64))) &&& (3689348814741910323 : Int64)) + ((lushr (a0 - ((lushr a0 (1 : Int32)) &&& (6148914691236517205 : Int64))) (2 : Int32)) &&& (3689348814741910323 : Int64))) (4 : Int32))) &&& (1085102592571150095 : Int64)) + (lushr (((((a0 - ((lushr a0 (1 : Int32)) &&& (6148914691236517205 : Int64))) &&& (3689348814741910323 : Int64)) + ((lushr (a0 - ((lushr a0 (1 : Int32)) &&& (6148914691236517205 : Int64))) (2 : Int32)) &&& (3689348814741910323 : Int64))) + (lushr (((a0 - ((lushr a0 (1 : Int32)) &&& (6148914691236517205 : Int64))) &&& (3689348814741910323 : Int64)) + ((lushr (a0 - ((lushr a0 (1 : Int32)) &&& (6148914691236517205 : Int64))) (2 : Int32)) &&& (3689348814741910323 : Int64))) (4 : Int32))) &&& (1085102592571150095 : Int64)) (8 : Int32))) (16 : Int32))))] dJ13_bitCount_95d88_47 (by decide) rfl ?_
  refine u_lload_n g 0 dJ13_bitCount_95d88_48 rfl ?_
  refine u_lload_n g 0 dJ13_bitCount_95d88_49 rfl ?_
  refine u_bipush g (v := (32 : Int32)) dJ13_bitCount_95d88_50 rfl ?_
  refine u_lushr g dJ13_bitCount_95d88_52 ?_
  refine u_ladd g dJ13_bitCount_95d88_53 ?_
  refine u_lstore_n g [(0, .long ((((((((a0 - ((lushr a0 (1 : Int32)) &&& (6148914691236517205 : Int64))) &&& (3689348814741910323 : Int64)) + ((lushr (a0 - ((lushr a0 (1 : Int32)) &&& (6148914691236517205 : Int64))) (2 : Int32)) &&& (3689348814741910323 : Int64))) + (lushr (((a0 - ((lushr a0 (1 : Int32)) &&& (6148914691236517205 : Int64))) &&& (3689348814741910323 : Int64)) + ((lushr (a0 - ((lushr a0 (1 : Int32)) &&& (6148914691236517205 : Int64))) (2 : Int32)) &&& (3689348814741910323 : Int64))) (4 : Int32))) &&& (1085102592571150095 : Int64)) + (lushr (((((a0 - ((lushr a0 (1 : Int32)) &&& (6148914691236517205 : Int64))) &&& (3689348814741910323 : Int64)) + ((lushr (a0 - ((lushr a0 (1 : Int32)) &&& (6148914691236517205 : Int64))) (2 : Int32)) &&& (3689348814741910323 : Int64))) + (lushr (((a0 - ((lushr a0 (1 : Int32)) &&& (6148914691236517205 : Int64))) &&& (3689348814741910323 : Int64)) + ((lushr (a0 - ((lushr a0 (1 : Int32)) &&& (6148914691236517205 : Int64))) (2 : Int32)) &&& (3689348814741910323 : Int64))) (4 : Int32))) &&& (1085102592571150095 : Int64)) (8 : Int32))) + (lushr ((((((a0 - ((lushr a0 (1 : Int32)) &&& (6148914691236517205 : Int64))) &&& (3689348814741910323 : Int64)) + ((lushr (a0 - ((lushr a0 (1 : Int32)) &&& (6148914691236517205 : Int64))) (2 : Int32)) &&& (3689348814741910323 : Int64))) + (lushr (((a0 - ((lushr a0 (1 : Int32)) &&& (6148914691236517205 : Int64))) &&& (3689348814741910323 : Int64)) + ((lushr (a0 - ((lushr a0 (1 : Int32)) &&& (6148914691236517205 : Int64))) (2 : Int32)) &&& (3689348814741910323 : Int64))) (4 : Int32))) &&& (1085102592571150095 : Int64)) + (lushr (((((a0 - ((lushr a0 (1 : Int32)) &&& (6148914691236517205 : Int64))) &&& (3689348814741910323 : Int64)) + ((lushr (a0 - ((lushr a0 (1 : Int32)) &&& (6148914691236517205 : Int64))) (2 : Int32)) &&& (3689348814741910323 : Int64))) + (lushr (((a0 - ((lushr a0 (1 : Int32)) &&& (6148914691236517205 : Int64))) &&& (3689348814741910323 : Int64)) + ((lushr (a0 - ((lushr a0 (1 : Int32)) &&& (6148914691236517205 : Int64))) (2 : Int32)) &&& (3689348814741910323 : Int64))) (4 : Int32))) &&& (1085102592571150095 : Int64)) (8 : Int32))) (16 : Int32))) + (lushr (((((((a0 - ((lushr a0 (1 : Int32)) &&& (6148914691236517205 : Int64))) &&& (3689348814741910323 : Int64)) + ((lushr (a0 - ((lushr a0 (1 : Int32)) &&& (6148914691236517205 : Int64))) (2 : Int32)) &&& (3689348814741910323 : Int64))) + (lushr (((a0 - ((lushr a0 (1 : Int32)) &&& (6148914691236517205 : Int64))) &&& (3689348814741910323 : Int64)) + ((lushr (a0 - ((lushr a0 (1 : Int32)) &&& (6148914691236517205 : Int64))) (2 : Int32)) &&& (3689348814741910323 : Int64))) (4 : Int32))) &&& (1085102592571150095 : Int64)) + (lushr (((((a0 - ((lushr a0 (1 : Int32)) &&& (6148914691236517205 : Int64))) &&& (3689348814741910323 : Int64)) + ((lushr (a0 - ((lushr a0 (1 : Int32)) &&& (6148914691236517205 : Int64))) (2 : Int32)) &&& (3689348814741910323 : Int64))) + (lushr (((a0 - ((lushr a0 (1 : Int32)) &&& (6148914691236517205 : Int64))) &&& (3689348814741910323 : Int64)) + ((lushr (a0 - ((lushr a0 (1 : Int32)) &&& (6148914691236517205 : Int64))) (2 : Int32)) &&& (3689348814741910323 : Int64))) (4 : Int32))) &&& (1085102592571150095 : Int64)) (8 : Int32))) + (lushr ((((((a0 - ((lushr a0 (1 : Int32)) &&& (6148914691236517205 : Int64))) &&& (3689348814741910323 : Int64)) + ((lushr (a0 - ((lushr a0 (1 : Int32)) &&& (6148914691236517205 : Int64))) (2 : Int32)) &&& (3689348814741910323 : Int64))) + (lushr (((a0 - ((lushr a0 (1 : Int32)) &&& (6148914691236517205 : Int64))) &&& (3689348814741910323 : Int64)) + ((lushr (a0 - ((lushr a0 (1 : Int32)) &&& (6148914691236517205 : Int64))) (2 : Int32)) &&& (3689348814741910323 : Int64))) (4 : Int32))) &&& (1085102592571150095 : Int64)) + (lushr (((((a0 - ((lushr a0 (1 : Int32)) &&& (6148914691236517205 : Int64))) &&& (3689348814741910323 : Int64)) + ((lushr (a0 - ((lushr a0 (1 : Int32)) &&& (6148914691236517205 : Int64))) (2 : Int32)) &&& (3689348814741910323 : Int64))) + (lushr (((a0 - ((lushr a0 (1 : Int32)) &&& (6148914691236517205 : Int64))) &&& (3689348814741910323 : Int64)) + ((lushr (a0 - ((lushr a0 (1 : Int32)) &&& (6148914691236517205 : Int64))) (2 : Int32)) &&& (3689348814741910323 : Int64))) (4 : Int32))) &&& (1085102592571150095 : Int64)) (8 : Int32))) (16 : Int32))) (32 : Int32))))] dJ13_bitCount_95d88_54 (by decide) rfl ?_
  refine u_lload_n g 0 dJ13_bitCount_95d88_55 rfl ?_
  refine u_l2i g dJ13_bitCount_95d88_56 ?_
  refine u_bipush g (v := (127 : Int32)) dJ13_bitCount_95d88_57 rfl ?_
  refine u_iand g dJ13_bitCount_95d88_59 ?_
  exact u_iret g dJ13_bitCount_95d88_60 (by rw [← hr]; obtain rfl := Option.some.inj h; rfl)
set_option maxRecDepth 100000 in
set_option maxHeartbeats 4000000 in
theorem t_X7_lowestBit (w : Wp) (l : Launch) {a0 : Int64} {M : Mem} {q : Int32} (h : f_X7_lowestBit a0 = some q) : Ct shX w l yX7_lowestBit cX7_lowestBit 2 (some .int) 1 [.long a0] M (some (.int q), M) := by
  rw [f_X7_lowestBit] at h
  refine ct_of shX_loc (by decide) (Nat.le_of_ble_eq_true rfl) rfl (fun x hx g => ?_)
  subst hx
  show U shX w x _ M 0 [(0, .long a0)] []
  generalize hr : ((some (.int q), M) : Option Value × Mem) = r
  have g : Gd shX w x RX7 cX7_lowestBit 2 (some .int) 1 := g
  refine u_lload_n g 0 dX7_lowestBit_0 rfl ?_
  refine u_lload_n g 0 dX7_lowestBit_1 rfl ?_
  refine u_lneg g dX7_lowestBit_2 ?_
  refine u_land g dX7_lowestBit_3 ?_
  refine u_lconst g (v := (1 : Int64)) dX7_lowestBit_4 rfl ?_
  refine u_lsub g dX7_lowestBit_5 ?_
  obtain ⟨q1, hq2, h⟩ := ob_bind h
  refine u_callS (st := []) g wv_X7_55 [.long ((a0 &&& (-a0)) - (1 : Int64))] (t_J13_bitCount_95d88 w x.2.1 hq2) (by decide) (by decide) rfl (Nat.le_of_ble_eq_true rfl) rfl dX7_lowestBit_6 ?_
  show U shX w x r M 9 [(0, .long a0)] [.int q1]
  exact u_iret g dX7_lowestBit_9 (by rw [← hr]; obtain rfl := Option.some.inj h; rfl)
set_option maxRecDepth 100000 in
set_option maxHeartbeats 4000000 in
theorem s_X7_next_l1 {w : Wp} {x : Cx} {r : Option Value × Mem} (g : Gd shX w x RX7 cX7_next 6 (some .int) 2) (a1 : Int32) (a2 : Int32)  (M : Mem) : ∀ (n : Nat) (v3 : Int32) (q : (Unit) ⊕ (Int32)), f_X7_next_l1 a1 a2 M n v3 = some q → (∀ e : Unit, q = .inl e → U shX w x r M 70 [] []) → (∀ v : Int32, q = .inr v → r = (some (.int v), M)) → U shX w x r M 7 [(0, .ref (w.2.2.1 255)), (1, .int a1), (2, .int a2), (3, .int v3)] [] := by
  intro n
  induction n with
  | zero => intro v3 q h K1 K2; rw [f_X7_next_l1] at h; cases h
  | succ n ih =>
    intro v3 q h K1 K2
    rw [f_X7_next_l1] at h
    refine u_iload_n g 3 dX7_next_7 rfl ?_
    refine u_aload_n g 0 dX7_next_8 rfl ?_
    refine gfX7_2 g (c := 255) rfl wf_X7_18 (v := (M.1 255 2)) rfl dX7_next_9 ?_
    refine u_icmp_ge g 70 dX7_next_12 (by decide) (fun b1 => ?_) (fun b1 => ?_)
    · have h := ob_pos b1 h
      exact u_sub [] rfl (K1 _ (Option.some.inj h).symm)
    · have h := ob_neg b1 h
      refine u_iload_n g 3 dX7_next_15 rfl ?_
      refine u_iload_n g 2 dX7_next_16 rfl ?_
      obtain ⟨q2, hq3, h⟩ := ob_bind h
      have K4 : U shX w x r M 44 [(0, .ref (w.2.2.1 255)), (1, .int a1), (2, .int a2), (3, .int v3)] [.long q2] := by
        refine u_lstore g [(4, .long q2), (0, .ref (w.2.2.1 255)), (1, .int a1), (2, .int a2), (3, .int v3)] dX7_next_44 (by decide) rfl ?_
        refine u_lload g 0 dX7_next_46 rfl ?_
        refine u_lconst g (v := (0 : Int64)) dX7_next_48 rfl ?_
        refine u_lcmp g dX7_next_49 ?_
        refine u_if_eq g 64 dX7_next_50 (by decide) (fun b5 => ?_) (fun b5 => ?_)
        · have h := ob_pos b5 h
          refine u_iinc g 4 [(3, .int (v3 + (1 : Int32))), (4, .long q2), (0, .ref (w.2.2.1 255)), (1, .int a1), (2, .int a2)] dX7_next_64 rfl rfl (by decide) rfl ?_
          refine u_goto g 7 dX7_next_67 (by decide) ?_
          exact u_sub [2, 3, 4, 0] rfl (ih (v3 + (1 : Int32)) _ h K1 K2)
        · have h := ob_neg b5 h
          refine u_iload_n g 4 dX7_next_53 rfl ?_
          refine u_bipush g (v := (6 : Int32)) dX7_next_54 rfl ?_
          refine u_ishl g dX7_next_56 ?_
          refine u_lload g 0 dX7_next_57 rfl ?_
          obtain ⟨q6, hq7, h⟩ := ob_bind h
          refine u_callS (st := [.int (v3 <<< ((6 : Int32) &&& 31))]) g wv_X7_51 [.long q2] (t_X7_lowestBit w x.2.1 hq7) (by decide) (by decide) rfl (Nat.le_of_ble_eq_true rfl) rfl dX7_next_59 ?_
          show U shX w x r M 62 [(4, .long q2), (0, .ref (w.2.2.1 255)), (1, .int a1), (2, .int a2), (3, .int v3)] [.int q6, .int (v3 <<< ((6 : Int32) &&& 31))]
          refine u_iadd g dX7_next_62 ?_
          exact u_iret g dX7_next_63 (K2 _ (Option.some.inj h).symm)
      have h := hq3
      refine u_icmp_ne g 38 dX7_next_17 (by decide) (fun b8 => ?_) (fun b8 => ?_)
      · have h := ob_neg b8 h
        refine u_aload_n g 0 dX7_next_38 rfl ?_
        refine gfX7_0 g (c := 255) rfl wf_X7_11 dX7_next_39 ?_
        refine u_iload_n g 3 dX7_next_42 rfl ?_
        obtain ⟨e9, h⟩ := ob_if h
        refine aX_lld g (c := 256) 1024 (by decide) rfl (v := (M.2 256 v3.toNatClampNeg)) (inB_in e9) rfl dX7_next_43 ?_
        obtain rfl := Option.some.inj h
        exact u_sub [0, 1, 2, 3] rfl K4
      · have h := ob_pos b8 h
        refine u_aload_n g 0 dX7_next_20 rfl ?_
        refine gfX7_0 g (c := 255) rfl wf_X7_11 dX7_next_21 ?_
        refine u_iload_n g 3 dX7_next_24 rfl ?_
        obtain ⟨e10, h⟩ := ob_if h
        refine aX_lld g (c := 256) 1024 (by decide) rfl (v := (M.2 256 v3.toNatClampNeg)) (inB_in e10) rfl dX7_next_25 ?_
        refine u_ldc2_w g wk_X7_38 dX7_next_26 ?_
        refine u_iload_n g 1 dX7_next_29 rfl ?_
        refine u_bipush g (v := (63 : Int32)) dX7_next_30 rfl ?_
        refine u_iand g dX7_next_32 ?_
        refine u_lshl g dX7_next_33 ?_
        refine u_land g dX7_next_34 ?_
        refine u_goto g 44 dX7_next_35 (by decide) ?_
        obtain rfl := Option.some.inj h
        exact u_sub [0, 1, 2, 3] rfl K4
set_option maxRecDepth 100000 in
set_option maxHeartbeats 4000000 in
theorem t_X7_next (w : Wp) (l : Launch) {a1 : Int32} {M : Mem} {q : Int32} (h : f_X7_next a1 M = some q) : Ct shX w l yX7_next cX7_next 6 (some .int) 2 [.ref (w.2.2.1 255), .int a1] M (some (.int q), M) := by
  rw [f_X7_next] at h
  refine ct_of shX_loc (by decide) (Nat.le_of_ble_eq_true rfl) rfl (fun x hx g => ?_)
  subst hx
  show U shX w x _ M 0 [(0, .ref (w.2.2.1 255)), (1, .int a1)] []
  generalize hr : ((some (.int q), M) : Option Value × Mem) = r
  have g : Gd shX w x RX7 cX7_next 6 (some .int) 2 := g
  refine u_iload_n g 1 dX7_next_0 rfl ?_
  refine u_bipush g (v := (6 : Int32)) dX7_next_1 rfl ?_
  refine u_iushr g dX7_next_3 ?_
  refine u_istore_n g [(2, .int (iushr a1 (6 : Int32))), (0, .ref (w.2.2.1 255)), (1, .int a1)] dX7_next_4 (by decide) rfl ?_
  refine u_iload_n g 0 dX7_next_5 rfl ?_
  refine u_istore_n g [(3, .int (iushr a1 (6 : Int32))), (2, .int (iushr a1 (6 : Int32))), (0, .ref (w.2.2.1 255)), (1, .int a1)] dX7_next_6 (by decide) rfl ?_
  obtain ⟨q1, hq2, h⟩ := ob_bind h
  refine u_sub [2, 3, 1, 0] rfl (s_X7_next_l1 g a1 (iushr a1 (6 : Int32)) M fuelN (iushr a1 (6 : Int32)) _ hq2 (fun e3 he5 => ?_) (fun v4 he5 => ?_))
  · subst he5
    have h := ob_inl h
    refine u_iconst g (v := (-1 : Int32)) dX7_next_70 rfl ?_
    exact u_iret g dX7_next_71 (by rw [← hr]; obtain rfl := Option.some.inj h; rfl)
  · subst he5
    have h := ob_inr h
    obtain rfl := Option.some.inj h
    exact hr.symm
set_option maxRecDepth 100000 in
set_option maxHeartbeats 4000000 in
theorem s_X1_take_l1 {w : Wp} {x : Cx} {r : Option Value × Mem} (g : Gd shX w x RX1 cX1_take 4 none 3) (t0 : Nat) (h0 : kX t0 = 1) : ∀ (n : Nat) (v3 : Int32) (M : Mem) (q : Mem), f_X1_take_l1 t0 n v3 M = some q → U shX w x r q 60 [] [] → U shX w x r M 16 [(0, .ref (w.2.2.1 t0)), (2, .ref (w.2.2.1 255)), (3, .int v3)] [] := by
  intro n
  induction n with
  | zero => intro v3 M q h K; rw [f_X1_take_l1] at h; cases h
  | succ n ih =>
    intro v3 M q h K
    rw [f_X1_take_l1] at h
    refine u_iload_n g 2 dX1_take_16 rfl ?_
    refine u_if_lt g 60 dX1_take_17 (by decide) (fun b3 => ?_) (fun b3 => ?_)
    · have h := ob_pos b3 h
      obtain rfl := Option.some.inj h
      exact u_sub [] rfl K
    · have h := ob_neg b3 h
      refine u_aload_n g 0 dX1_take_20 rfl ?_
      refine gfX1_1 g h0 wf_X1_15 (v := (M.1 t0 1)) rfl dX1_take_21 ?_
      refine u_bipush g (v := (120 : Int32)) dX1_take_24 rfl ?_
      refine u_icmp_ge g 60 dX1_take_26 (by decide) (fun b4 => ?_) (fun b4 => ?_)
      · have h := ob_pos b4 h
        obtain rfl := Option.some.inj h
        exact u_sub [] rfl K
      · have h := ob_neg b4 h
        refine u_aload_n g 0 dX1_take_29 rfl ?_
        refine gfX1_2 g h0 wf_X1_18 dX1_take_30 ?_
        refine u_aload_n g 0 dX1_take_33 rfl ?_
        refine gfX1_1 g h0 wf_X1_15 (v := (M.1 t0 1)) rfl dX1_take_34 ?_
        refine u_iload_n g 2 dX1_take_37 rfl ?_
        obtain ⟨e5, h⟩ := ob_if h
        refine aX_ist g (c := (t0 + 1)) 120 (by decide) (kX_s1 h0) (inB_in e5) (j := (M.1 t0 1).toNatClampNeg) rfl dX1_take_38 ?_
        refine u_aload_n g 0 dX1_take_39 rfl ?_
        refine u_dup g dX1_take_40 rfl ?_
        refine gfX1_1 g h0 wf_X1_15 (v := ((sI M (t0 + 1) (M.1 t0 1).toNatClampNeg v3).1 t0 1)) rfl dX1_take_41 ?_
        refine u_iconst g (v := (1 : Int32)) dX1_take_44 rfl ?_
        refine u_iadd g dX1_take_45 ?_
        refine pfX1_1 g h0 wf_X1_15 dX1_take_46 ?_
        refine u_aload_n g 1 dX1_take_49 rfl ?_
        refine u_iload_n g 2 dX1_take_50 rfl ?_
        refine u_iconst g (v := (1 : Int32)) dX1_take_51 rfl ?_
        refine u_iadd g dX1_take_52 ?_
        obtain ⟨q6, hq7, h⟩ := ob_bind h
        refine u_callV (st := []) g wv_X1_22 [.int (v3 + (1 : Int32))] (kX_lt (show kX 255 = 7 from rfl) rfl) (ceX_7 (show kX 255 = 7 from rfl)) rfl rfl (t_X7_next w x.2.1 hq7) (by decide) (by decide) rfl (Nat.le_of_ble_eq_true rfl) rfl dX1_take_53 ?_
        show U shX w x r (sI (sI M (t0 + 1) (M.1 t0 1).toNatClampNeg v3) t0 1 (((sI M (t0 + 1) (M.1 t0 1).toNatClampNeg v3).1 t0 1) + (1 : Int32))) 56 [(0, .ref (w.2.2.1 t0)), (2, .ref (w.2.2.1 255)), (3, .int v3)] [.int q6]
        refine u_istore_n g [(3, .int q6), (0, .ref (w.2.2.1 t0)), (2, .ref (w.2.2.1 255))] dX1_take_56 (by decide) rfl ?_
        refine u_goto g 16 dX1_take_57 (by decide) ?_
        exact u_sub [1, 2, 0] rfl (ih q6 (sI (sI M (t0 + 1) (M.1 t0 1).toNatClampNeg v3) t0 1 (((sI M (t0 + 1) (M.1 t0 1).toNatClampNeg v3).1 t0 1) + (1 : Int32))) _ h K)
set_option maxRecDepth 100000 in
set_option maxHeartbeats 4000000 in
theorem t_X1_take (w : Wp) (l : Launch) {t0 : Nat} {a1 : Int32} {M : Mem} {q : Mem} (h : f_X1_take t0 a1 M = some q) : Ct shX w l yX1_take cX1_take 4 none 3 [.ref (w.2.2.1 t0), .int a1, .ref (w.2.2.1 255)] M (none, q) := by
  rw [f_X1_take] at h
  obtain ⟨h0, h⟩ := ob_if h
  refine ct_of shX_loc (by decide) (Nat.le_of_ble_eq_true rfl) rfl (fun x hx g => ?_)
  subst hx
  show U shX w x _ M 0 [(0, .ref (w.2.2.1 t0)), (1, .int a1), (2, .ref (w.2.2.1 255))] []
  generalize hr : ((none, q) : Option Value × Mem) = r
  have g : Gd shX w x RX1 cX1_take 4 none 3 := g
  refine u_aload_n g 0 dX1_take_0 rfl ?_
  refine u_iload_n g 1 dX1_take_1 rfl ?_
  refine pfX1_0 g h0 wf_X1_9 dX1_take_2 ?_
  refine u_aload_n g 0 dX1_take_5 rfl ?_
  refine u_iconst g (v := (0 : Int32)) dX1_take_6 rfl ?_
  refine pfX1_1 g h0 wf_X1_15 dX1_take_7 ?_
  refine u_aload_n g 2 dX1_take_10 rfl ?_
  refine u_iconst g (v := (0 : Int32)) dX1_take_11 rfl ?_
  obtain ⟨q1, hq2, h⟩ := ob_bind h
  refine u_callV (st := []) g wv_X1_22 [.int (0 : Int32)] (kX_lt (show kX 255 = 7 from rfl) rfl) (ceX_7 (show kX 255 = 7 from rfl)) rfl rfl (t_X7_next w x.2.1 hq2) (by decide) (by decide) rfl (Nat.le_of_ble_eq_true rfl) rfl dX1_take_12 ?_
  show U shX w x r (sI (sI M t0 0 a1) t0 1 (0 : Int32)) 15 [(0, .ref (w.2.2.1 t0)), (1, .int a1), (2, .ref (w.2.2.1 255))] [.int q1]
  refine u_istore_n g [(3, .int q1), (0, .ref (w.2.2.1 t0)), (1, .int a1), (2, .ref (w.2.2.1 255))] dX1_take_15 (by decide) rfl ?_
  obtain ⟨q3, hq4, h⟩ := ob_bind h
  refine u_sub [1, 3, 0] rfl (s_X1_take_l1 g t0 h0 fuelN q1 (sI (sI M t0 0 a1) t0 1 (0 : Int32)) _ hq4 ?_)
  show U shX w x r q3 60 [] []
  exact u_vret g dX1_take_60 (by rw [← hr]; obtain rfl := Option.some.inj h; rfl)
set_option maxRecDepth 100000 in
set_option maxHeartbeats 4000000 in
theorem s_X1_isHeldBy_l1 {w : Wp} {x : Cx} {r : Option Value × Mem} (g : Gd shX w x RX1 cX1_isHeldBy 3 (some .boolean) 0) (t0 : Nat) (a1 : Int32) (h0 : kX t0 = 1) (M : Mem) : ∀ (n : Nat) (v2 : Int32) (q : (Unit) ⊕ (Int32)), f_X1_isHeldBy_l1 t0 a1 M n v2 = some q → (∀ e : Unit, q = .inl e → U shX w x r M 31 [] []) → (∀ v : Int32, q = .inr v → r = (some (.int v), M)) → U shX w x r M 2 [(0, .ref (w.2.2.1 t0)), (1, .int a1), (2, .int v2)] [] := by
  intro n
  induction n with
  | zero => intro v2 q h K1 K2; rw [f_X1_isHeldBy_l1] at h; cases h
  | succ n ih =>
    intro v2 q h K1 K2
    rw [f_X1_isHeldBy_l1] at h
    refine u_iload_n g 2 dX1_isHeldBy_2 rfl ?_
    refine u_aload_n g 0 dX1_isHeldBy_3 rfl ?_
    refine gfX1_1 g h0 wf_X1_15 (v := (M.1 t0 1)) rfl dX1_isHeldBy_4 ?_
    refine u_icmp_ge g 31 dX1_isHeldBy_7 (by decide) (fun b1 => ?_) (fun b1 => ?_)
    · have h := ob_pos b1 h
      exact u_sub [] rfl (K1 _ (Option.some.inj h).symm)
    · have h := ob_neg b1 h
      refine u_aload_n g 0 dX1_isHeldBy_10 rfl ?_
      refine gfX1_2 g h0 wf_X1_18 dX1_isHeldBy_11 ?_
      refine u_iload_n g 2 dX1_isHeldBy_14 rfl ?_
      obtain ⟨e2, h⟩ := ob_if h
      refine aX_ild g (c := (t0 + 1)) 120 (by decide) (kX_s1 h0) (v := (M.1 (t0 + 1) v2.toNatClampNeg)) (inB_in e2) rfl dX1_isHeldBy_15 ?_
      refine u_iload_n g 1 dX1_isHeldBy_16 rfl ?_
      refine u_iconst g (v := (-1 : Int32)) dX1_isHeldBy_17 rfl ?_
      refine u_ixor g dX1_isHeldBy_18 ?_
      refine u_iand g dX1_isHeldBy_19 ?_
      refine u_if_ne g 25 dX1_isHeldBy_20 (by decide) (fun b3 => ?_) (fun b3 => ?_)
      · have h := ob_neg b3 h
        refine u_iinc g 2 [(2, .int (v2 + (1 : Int32))), (0, .ref (w.2.2.1 t0)), (1, .int a1)] dX1_isHeldBy_25 rfl rfl (by decide) rfl ?_
        refine u_goto g 2 dX1_isHeldBy_28 (by decide) ?_
        exact u_sub [1, 2, 0] rfl (ih (v2 + (1 : Int32)) _ h K1 K2)
      · have h := ob_pos b3 h
        refine u_iconst g (v := (1 : Int32)) dX1_isHeldBy_23 rfl ?_
        exact u_zret g (Or.inr rfl) dX1_isHeldBy_24 (K2 _ (Option.some.inj h).symm)
set_option maxRecDepth 100000 in
set_option maxHeartbeats 4000000 in
theorem t_X1_isHeldBy (w : Wp) (l : Launch) {t0 : Nat} {a1 : Int32} {M : Mem} {q : Int32} (h : f_X1_isHeldBy t0 a1 M = some q) : Ct shX w l yX1_isHeldBy cX1_isHeldBy 3 (some .boolean) 0 [.ref (w.2.2.1 t0), .int a1] M (some (.int q), M) := by
  rw [f_X1_isHeldBy] at h
  obtain ⟨h0, h⟩ := ob_if h
  refine ct_of shX_loc (by decide) (Nat.le_of_ble_eq_true rfl) rfl (fun x hx g => ?_)
  subst hx
  show U shX w x _ M 0 [(0, .ref (w.2.2.1 t0)), (1, .int a1)] []
  generalize hr : ((some (.int q), M) : Option Value × Mem) = r
  have g : Gd shX w x RX1 cX1_isHeldBy 3 (some .boolean) 0 := g
  refine u_iconst g (v := (0 : Int32)) dX1_isHeldBy_0 rfl ?_
  refine u_istore_n g [(2, .int (0 : Int32)), (0, .ref (w.2.2.1 t0)), (1, .int a1)] dX1_isHeldBy_1 (by decide) rfl ?_
  obtain ⟨q1, hq2, h⟩ := ob_bind h
  refine u_sub [1, 2, 0] rfl (s_X1_isHeldBy_l1 g t0 a1 h0 M fuelN (0 : Int32) _ hq2 (fun e3 he5 => ?_) (fun v4 he5 => ?_))
  · subst he5
    have h := ob_inl h
    refine u_iconst g (v := (0 : Int32)) dX1_isHeldBy_31 rfl ?_
    exact u_zret g (Or.inl rfl) dX1_isHeldBy_32 (by rw [← hr]; obtain rfl := Option.some.inj h; rfl)
  · subst he5
    have h := ob_inr h
    obtain rfl := Option.some.inj h
    exact hr.symm
set_option maxRecDepth 100000 in
set_option maxHeartbeats 4000000 in
theorem s_X1_allKeepers_l1 {w : Wp} {x : Cx} {r : Option Value × Mem} (g : Gd shX w x RX1 cX1_allKeepers 3 (some .int) 0) (t0 : Nat) (h0 : kX t0 = 1) (M : Mem) : ∀ (n : Nat) (v1 : Int32) (v2 : Int32) (q : Int32), f_X1_allKeepers_l1 t0 M n v1 v2 = some q → U shX w x r M 27 [(1, .int q)] [] → U shX w x r M 4 [(0, .ref (w.2.2.1 t0)), (1, .int v1), (2, .int v2)] [] := by
  intro n
  induction n with
  | zero => intro v1 v2 q h K; rw [f_X1_allKeepers_l1] at h; cases h
  | succ n ih =>
    intro v1 v2 q h K
    rw [f_X1_allKeepers_l1] at h
    refine u_iload_n g 2 dX1_allKeepers_4 rfl ?_
    refine u_aload_n g 0 dX1_allKeepers_5 rfl ?_
    refine gfX1_1 g h0 wf_X1_15 (v := (M.1 t0 1)) rfl dX1_allKeepers_6 ?_
    refine u_icmp_ge g 27 dX1_allKeepers_9 (by decide) (fun b1 => ?_) (fun b1 => ?_)
    · have h := ob_pos b1 h
      obtain rfl := Option.some.inj h
      exact u_sub [1] rfl K
    · have h := ob_neg b1 h
      refine u_iload_n g 1 dX1_allKeepers_12 rfl ?_
      refine u_aload_n g 0 dX1_allKeepers_13 rfl ?_
      refine gfX1_2 g h0 wf_X1_18 dX1_allKeepers_14 ?_
      refine u_iload_n g 2 dX1_allKeepers_17 rfl ?_
      obtain ⟨e2, h⟩ := ob_if h
      refine aX_ild g (c := (t0 + 1)) 120 (by decide) (kX_s1 h0) (v := (M.1 (t0 + 1) v2.toNatClampNeg)) (inB_in e2) rfl dX1_allKeepers_18 ?_
      refine u_ior g dX1_allKeepers_19 ?_
      refine u_istore_n g [(1, .int (v1 ||| (M.1 (t0 + 1) v2.toNatClampNeg))), (0, .ref (w.2.2.1 t0)), (2, .int v2)] dX1_allKeepers_20 (by decide) rfl ?_
      refine u_iinc g 2 [(2, .int (v2 + (1 : Int32))), (1, .int (v1 ||| (M.1 (t0 + 1) v2.toNatClampNeg))), (0, .ref (w.2.2.1 t0))] dX1_allKeepers_21 rfl rfl (by decide) rfl ?_
      refine u_goto g 4 dX1_allKeepers_24 (by decide) ?_
      exact u_sub [2, 1, 0] rfl (ih (v1 ||| (M.1 (t0 + 1) v2.toNatClampNeg)) (v2 + (1 : Int32)) _ h K)
set_option maxRecDepth 100000 in
set_option maxHeartbeats 4000000 in
theorem t_X1_allKeepers (w : Wp) (l : Launch) {t0 : Nat} {M : Mem} {q : Int32} (h : f_X1_allKeepers t0 M = some q) : Ct shX w l yX1_allKeepers cX1_allKeepers 3 (some .int) 0 [.ref (w.2.2.1 t0)] M (some (.int q), M) := by
  rw [f_X1_allKeepers] at h
  obtain ⟨h0, h⟩ := ob_if h
  refine ct_of shX_loc (by decide) (Nat.le_of_ble_eq_true rfl) rfl (fun x hx g => ?_)
  subst hx
  show U shX w x _ M 0 [(0, .ref (w.2.2.1 t0))] []
  generalize hr : ((some (.int q), M) : Option Value × Mem) = r
  have g : Gd shX w x RX1 cX1_allKeepers 3 (some .int) 0 := g
  refine u_iconst g (v := (0 : Int32)) dX1_allKeepers_0 rfl ?_
  refine u_istore_n g [(1, .int (0 : Int32)), (0, .ref (w.2.2.1 t0))] dX1_allKeepers_1 (by decide) rfl ?_
  refine u_iconst g (v := (0 : Int32)) dX1_allKeepers_2 rfl ?_
  refine u_istore_n g [(2, .int (0 : Int32)), (1, .int (0 : Int32)), (0, .ref (w.2.2.1 t0))] dX1_allKeepers_3 (by decide) rfl ?_
  obtain ⟨q1, hq2, h⟩ := ob_bind h
  refine u_sub [2, 1, 0] rfl (s_X1_allKeepers_l1 g t0 h0 M fuelN (0 : Int32) (0 : Int32) _ hq2 ?_)
  show U shX w x r M 27 [(1, .int q1)] []
  refine u_iload_n g 0 dX1_allKeepers_27 rfl ?_
  exact u_iret g dX1_allKeepers_28 (by rw [← hr]; obtain rfl := Option.some.inj h; rfl)
set_option maxRecDepth 100000 in
set_option maxHeartbeats 4000000 in
theorem t_J6_bitCount_0f7a4 (w : Wp) (l : Launch) {a0 : Int32} {M : Mem} {q : Int32} (h : f_J6_bitCount_0f7a4 a0 = some q) : Ct shX w l yJ6_bitCount_0f7a4 cJ6_bitCount_0f7a4 1 (some .int) 0 [.int a0] M (some (.int q), M) := by
  rw [f_J6_bitCount_0f7a4] at h
  refine ct_of shX_loc (by decide) (Nat.le_of_ble_eq_true rfl) rfl (fun x hx g => ?_)
  subst hx
  show U shX w x _ M 0 [(0, .int a0)] []
  generalize hr : ((some (.int q), M) : Option Value × Mem) = r
  have g : Gd shX w x RJ6 cJ6_bitCount_0f7a4 1 (some .int) 0 := g
  refine u_iload_n g 0 dJ6_bitCount_0f7a4_0 rfl ?_
  refine u_iload_n g 0 dJ6_bitCount_0f7a4_1 rfl ?_
  refine u_iconst g (v := (1 : Int32)) dJ6_bitCount_0f7a4_2 rfl ?_
  refine u_iushr g dJ6_bitCount_0f7a4_3 ?_
  refine u_ldc_w g wk_J6_265 dJ6_bitCount_0f7a4_4 ?_
  refine u_iand g dJ6_bitCount_0f7a4_7 ?_
  refine u_isub g dJ6_bitCount_0f7a4_8 ?_
  refine u_istore_n g [(0, .int (a0 - ((iushr a0 (1 : Int32)) &&& (1431655765 : Int32))))] dJ6_bitCount_0f7a4_9 (by decide) rfl ?_
  refine u_iload_n g 0 dJ6_bitCount_0f7a4_10 rfl ?_
  refine u_ldc_w g wk_J6_266 dJ6_bitCount_0f7a4_11 ?_
  refine u_iand g dJ6_bitCount_0f7a4_14 ?_
  refine u_iload_n g 0 dJ6_bitCount_0f7a4_15 rfl ?_
  refine u_iconst g (v := (2 : Int32)) dJ6_bitCount_0f7a4_16 rfl ?_
  refine u_iushr g dJ6_bitCount_0f7a4_17 ?_
  refine u_ldc_w g wk_J6_266 dJ6_bitCount_0f7a4_18 ?_
  refine u_iand g dJ6_bitCount_0f7a4_21 ?_
  refine u_iadd g dJ6_bitCount_0f7a4_22 ?_
  refine u_istore_n g [(0, .int (((a0 - ((iushr a0 (1 : Int32)) &&& (1431655765 : Int32))) &&& (858993459 : Int32)) + ((iushr (a0 - ((iushr a0 (1 : Int32)) &&& (1431655765 : Int32))) (2 : Int32)) &&& (858993459 : Int32))))] dJ6_bitCount_0f7a4_23 (by decide) rfl ?_
  refine u_iload_n g 0 dJ6_bitCount_0f7a4_24 rfl ?_
  refine u_iload_n g 0 dJ6_bitCount_0f7a4_25 rfl ?_
  refine u_iconst g (v := (4 : Int32)) dJ6_bitCount_0f7a4_26 rfl ?_
  refine u_iushr g dJ6_bitCount_0f7a4_27 ?_
  refine u_iadd g dJ6_bitCount_0f7a4_28 ?_
  refine u_ldc_w g wk_J6_267 dJ6_bitCount_0f7a4_29 ?_
  refine u_iand g dJ6_bitCount_0f7a4_32 ?_
  refine u_istore_n g [(0, .int (((((a0 - ((iushr a0 (1 : Int32)) &&& (1431655765 : Int32))) &&& (858993459 : Int32)) + ((iushr (a0 - ((iushr a0 (1 : Int32)) &&& (1431655765 : Int32))) (2 : Int32)) &&& (858993459 : Int32))) + (iushr (((a0 - ((iushr a0 (1 : Int32)) &&& (1431655765 : Int32))) &&& (858993459 : Int32)) + ((iushr (a0 - ((iushr a0 (1 : Int32)) &&& (1431655765 : Int32))) (2 : Int32)) &&& (858993459 : Int32))) (4 : Int32))) &&& (252645135 : Int32)))] dJ6_bitCount_0f7a4_33 (by decide) rfl ?_
  refine u_iload_n g 0 dJ6_bitCount_0f7a4_34 rfl ?_
  refine u_iload_n g 0 dJ6_bitCount_0f7a4_35 rfl ?_
  refine u_bipush g (v := (8 : Int32)) dJ6_bitCount_0f7a4_36 rfl ?_
  refine u_iushr g dJ6_bitCount_0f7a4_38 ?_
  refine u_iadd g dJ6_bitCount_0f7a4_39 ?_
  refine u_istore_n g [(0, .int ((((((a0 - ((iushr a0 (1 : Int32)) &&& (1431655765 : Int32))) &&& (858993459 : Int32)) + ((iushr (a0 - ((iushr a0 (1 : Int32)) &&& (1431655765 : Int32))) (2 : Int32)) &&& (858993459 : Int32))) + (iushr (((a0 - ((iushr a0 (1 : Int32)) &&& (1431655765 : Int32))) &&& (858993459 : Int32)) + ((iushr (a0 - ((iushr a0 (1 : Int32)) &&& (1431655765 : Int32))) (2 : Int32)) &&& (858993459 : Int32))) (4 : Int32))) &&& (252645135 : Int32)) + (iushr (((((a0 - ((iushr a0 (1 : Int32)) &&& (1431655765 : Int32))) &&& (858993459 : Int32)) + ((iushr (a0 - ((iushr a0 (1 : Int32)) &&& (1431655765 : Int32))) (2 : Int32)) &&& (858993459 : Int32))) + (iushr (((a0 - ((iushr a0 (1 : Int32)) &&& (1431655765 : Int32))) &&& (858993459 : Int32)) + ((iushr (a0 - ((iushr a0 (1 : Int32)) &&& (1431655765 : Int32))) (2 : Int32)) &&& (858993459 : Int32))) (4 : Int32))) &&& (252645135 : Int32)) (8 : Int32))))] dJ6_bitCount_0f7a4_40 (by decide) rfl ?_
  refine u_iload_n g 0 dJ6_bitCount_0f7a4_41 rfl ?_
  refine u_iload_n g 0 dJ6_bitCount_0f7a4_42 rfl ?_
  refine u_bipush g (v := (16 : Int32)) dJ6_bitCount_0f7a4_43 rfl ?_
  refine u_iushr g dJ6_bitCount_0f7a4_45 ?_
  refine u_iadd g dJ6_bitCount_0f7a4_46 ?_
  refine u_istore_n g [(0, .int (((((((a0 - ((iushr a0 (1 : Int32)) &&& (1431655765 : Int32))) &&& (858993459 : Int32)) + ((iushr (a0 - ((iushr a0 (1 : Int32)) &&& (1431655765 : Int32))) (2 : Int32)) &&& (858993459 : Int32))) + (iushr (((a0 - ((iushr a0 (1 : Int32)) &&& (1431655765 : Int32))) &&& (858993459 : Int32)) + ((iushr (a0 - ((iushr a0 (1 : Int32)) &&& (1431655765 : Int32))) (2 : Int32)) &&& (858993459 : Int32))) (4 : Int32))) &&& (252645135 : Int32)) + (iushr (((((a0 - ((iushr a0 (1 : Int32)) &&& (1431655765 : Int32))) &&& (858993459 : Int32)) + ((iushr (a0 - ((iushr a0 (1 : Int32)) &&& (1431655765 : Int32))) (2 : Int32)) &&& (858993459 : Int32))) + (iushr (((a0 - ((iushr a0 (1 : Int32)) &&& (1431655765 : Int32))) &&& (858993459 : Int32)) + ((iushr (a0 - ((iushr a0 (1 : Int32)) &&& (1431655765 : Int32))) (2 : Int32)) &&& (858993459 : Int32))) (4 : Int32))) &&& (252645135 : Int32)) (8 : Int32))) + (iushr ((((((a0 - ((iushr a0 (1 : Int32)) &&& (1431655765 : Int32))) &&& (858993459 : Int32)) + ((iushr (a0 - ((iushr a0 (1 : Int32)) &&& (1431655765 : Int32))) (2 : Int32)) &&& (858993459 : Int32))) + (iushr (((a0 - ((iushr a0 (1 : Int32)) &&& (1431655765 : Int32))) &&& (858993459 : Int32)) + ((iushr (a0 - ((iushr a0 (1 : Int32)) &&& (1431655765 : Int32))) (2 : Int32)) &&& (858993459 : Int32))) (4 : Int32))) &&& (252645135 : Int32)) + (iushr (((((a0 - ((iushr a0 (1 : Int32)) &&& (1431655765 : Int32))) &&& (858993459 : Int32)) + ((iushr (a0 - ((iushr a0 (1 : Int32)) &&& (1431655765 : Int32))) (2 : Int32)) &&& (858993459 : Int32))) + (iushr (((a0 - ((iushr a0 (1 : Int32)) &&& (1431655765 : Int32))) &&& (858993459 : Int32)) + ((iushr (a0 - ((iushr a0 (1 : Int32)) &&& (1431655765 : Int32))) (2 : Int32)) &&& (858993459 : Int32))) (4 : Int32))) &&& (252645135 : Int32)) (8 : Int32))) (16 : Int32))))] dJ6_bitCount_0f7a4_47 (by decide) rfl ?_
  refine u_iload_n g 0 dJ6_bitCount_0f7a4_48 rfl ?_
  refine u_bipush g (v := (63 : Int32)) dJ6_bitCount_0f7a4_49 rfl ?_
  refine u_iand g dJ6_bitCount_0f7a4_51 ?_
  exact u_iret g dJ6_bitCount_0f7a4_52 (by rw [← hr]; obtain rfl := Option.some.inj h; rfl)
set_option maxRecDepth 100000 in
set_option maxHeartbeats 4000000 in
theorem s_X1_fewestKeepers_l1 {w : Wp} {x : Cx} {r : Option Value × Mem} (g : Gd shX w x RX1 cX1_fewestKeepers 3 (some .int) 1) (t0 : Nat) (h0 : kX t0 = 1) (M : Mem) : ∀ (n : Nat) (v1 : Int32) (v2 : Int32) (q : Int32), f_X1_fewestKeepers_l1 t0 M n v1 v2 = some q → U shX w x r M 33 [(1, .int q)] [] → U shX w x r M 5 [(0, .ref (w.2.2.1 t0)), (1, .int v1), (2, .int v2)] [] := by
  intro n
  induction n with
  | zero => intro v1 v2 q h K; rw [f_X1_fewestKeepers_l1] at h; cases h
  | succ n ih =>
    intro v1 v2 q h K
    rw [f_X1_fewestKeepers_l1] at h
    refine u_iload_n g 2 dX1_fewestKeepers_5 rfl ?_
    refine u_aload_n g 0 dX1_fewestKeepers_6 rfl ?_
    refine gfX1_1 g h0 wf_X1_15 (v := (M.1 t0 1)) rfl dX1_fewestKeepers_7 ?_
    refine u_icmp_ge g 33 dX1_fewestKeepers_10 (by decide) (fun b1 => ?_) (fun b1 => ?_)
    · have h := ob_pos b1 h
      obtain rfl := Option.some.inj h
      exact u_sub [1] rfl K
    · have h := ob_neg b1 h
      refine u_iload_n g 1 dX1_fewestKeepers_13 rfl ?_
      refine u_aload_n g 0 dX1_fewestKeepers_14 rfl ?_
      refine gfX1_2 g h0 wf_X1_18 dX1_fewestKeepers_15 ?_
      refine u_iload_n g 2 dX1_fewestKeepers_18 rfl ?_
      obtain ⟨e2, h⟩ := ob_if h
      refine aX_ild g (c := (t0 + 1)) 120 (by decide) (kX_s1 h0) (v := (M.1 (t0 + 1) v2.toNatClampNeg)) (inB_in e2) rfl dX1_fewestKeepers_19 ?_
      obtain ⟨q3, hq4, h⟩ := ob_bind h
      refine u_callS (st := [.int v1]) g wv_X1_28 [.int (M.1 (t0 + 1) v2.toNatClampNeg)] (t_J6_bitCount_0f7a4 w x.2.1 hq4) (by decide) (by decide) rfl (Nat.le_of_ble_eq_true rfl) rfl dX1_fewestKeepers_20 ?_
      show U shX w x r M 23 [(0, .ref (w.2.2.1 t0)), (1, .int v1), (2, .int v2)] [.int q3, .int v1]
      refine u_mmin (st := []) g wv_X1_33 (by decide) (Nat.le_of_ble_eq_true rfl) dX1_fewestKeepers_23 ?_
      refine u_istore_n g [(1, .int (imin v1 q3)), (0, .ref (w.2.2.1 t0)), (2, .int v2)] dX1_fewestKeepers_26 (by decide) rfl ?_
      refine u_iinc g 2 [(2, .int (v2 + (1 : Int32))), (1, .int (imin v1 q3)), (0, .ref (w.2.2.1 t0))] dX1_fewestKeepers_27 rfl rfl (by decide) rfl ?_
      refine u_goto g 5 dX1_fewestKeepers_30 (by decide) ?_
      exact u_sub [2, 1, 0] rfl (ih (imin v1 q3) (v2 + (1 : Int32)) _ h K)
set_option maxRecDepth 100000 in
set_option maxHeartbeats 4000000 in
theorem t_X1_fewestKeepers (w : Wp) (l : Launch) {t0 : Nat} {M : Mem} {q : Int32} (h : f_X1_fewestKeepers t0 M = some q) : Ct shX w l yX1_fewestKeepers cX1_fewestKeepers 3 (some .int) 1 [.ref (w.2.2.1 t0)] M (some (.int q), M) := by
  rw [f_X1_fewestKeepers] at h
  obtain ⟨h0, h⟩ := ob_if h
  refine ct_of shX_loc (by decide) (Nat.le_of_ble_eq_true rfl) rfl (fun x hx g => ?_)
  subst hx
  show U shX w x _ M 0 [(0, .ref (w.2.2.1 t0))] []
  generalize hr : ((some (.int q), M) : Option Value × Mem) = r
  have g : Gd shX w x RX1 cX1_fewestKeepers 3 (some .int) 1 := g
  refine u_bipush g (v := (16 : Int32)) dX1_fewestKeepers_0 rfl ?_
  refine u_istore_n g [(1, .int (16 : Int32)), (0, .ref (w.2.2.1 t0))] dX1_fewestKeepers_2 (by decide) rfl ?_
  refine u_iconst g (v := (0 : Int32)) dX1_fewestKeepers_3 rfl ?_
  refine u_istore_n g [(2, .int (0 : Int32)), (1, .int (16 : Int32)), (0, .ref (w.2.2.1 t0))] dX1_fewestKeepers_4 (by decide) rfl ?_
  obtain ⟨q1, hq2, h⟩ := ob_bind h
  refine u_sub [2, 1, 0] rfl (s_X1_fewestKeepers_l1 g t0 h0 M fuelN (16 : Int32) (0 : Int32) _ hq2 ?_)
  show U shX w x r M 33 [(1, .int q1)] []
  refine u_iload_n g 0 dX1_fewestKeepers_33 rfl ?_
  exact u_iret g dX1_fewestKeepers_34 (by rw [← hr]; obtain rfl := Option.some.inj h; rfl)
set_option maxRecDepth 100000 in
set_option maxHeartbeats 4000000 in
theorem s_X1_mostKeepers_l1 {w : Wp} {x : Cx} {r : Option Value × Mem} (g : Gd shX w x RX1 cX1_mostKeepers 3 (some .int) 1) (t0 : Nat) (h0 : kX t0 = 1) (M : Mem) : ∀ (n : Nat) (v1 : Int32) (v2 : Int32) (q : Int32), f_X1_mostKeepers_l1 t0 M n v1 v2 = some q → U shX w x r M 32 [(1, .int q)] [] → U shX w x r M 4 [(0, .ref (w.2.2.1 t0)), (1, .int v1), (2, .int v2)] [] := by
  intro n
  induction n with
  | zero => intro v1 v2 q h K; rw [f_X1_mostKeepers_l1] at h; cases h
  | succ n ih =>
    intro v1 v2 q h K
    rw [f_X1_mostKeepers_l1] at h
    refine u_iload_n g 2 dX1_mostKeepers_4 rfl ?_
    refine u_aload_n g 0 dX1_mostKeepers_5 rfl ?_
    refine gfX1_1 g h0 wf_X1_15 (v := (M.1 t0 1)) rfl dX1_mostKeepers_6 ?_
    refine u_icmp_ge g 32 dX1_mostKeepers_9 (by decide) (fun b1 => ?_) (fun b1 => ?_)
    · have h := ob_pos b1 h
      obtain rfl := Option.some.inj h
      exact u_sub [1] rfl K
    · have h := ob_neg b1 h
      refine u_iload_n g 1 dX1_mostKeepers_12 rfl ?_
      refine u_aload_n g 0 dX1_mostKeepers_13 rfl ?_
      refine gfX1_2 g h0 wf_X1_18 dX1_mostKeepers_14 ?_
      refine u_iload_n g 2 dX1_mostKeepers_17 rfl ?_
      obtain ⟨e2, h⟩ := ob_if h
      refine aX_ild g (c := (t0 + 1)) 120 (by decide) (kX_s1 h0) (v := (M.1 (t0 + 1) v2.toNatClampNeg)) (inB_in e2) rfl dX1_mostKeepers_18 ?_
      obtain ⟨q3, hq4, h⟩ := ob_bind h
      refine u_callS (st := [.int v1]) g wv_X1_28 [.int (M.1 (t0 + 1) v2.toNatClampNeg)] (t_J6_bitCount_0f7a4 w x.2.1 hq4) (by decide) (by decide) rfl (Nat.le_of_ble_eq_true rfl) rfl dX1_mostKeepers_19 ?_
      show U shX w x r M 22 [(0, .ref (w.2.2.1 t0)), (1, .int v1), (2, .int v2)] [.int q3, .int v1]
      refine u_mmax (st := []) g wv_X1_39 (by decide) (Nat.le_of_ble_eq_true rfl) dX1_mostKeepers_22 ?_
      refine u_istore_n g [(1, .int (imax v1 q3)), (0, .ref (w.2.2.1 t0)), (2, .int v2)] dX1_mostKeepers_25 (by decide) rfl ?_
      refine u_iinc g 2 [(2, .int (v2 + (1 : Int32))), (1, .int (imax v1 q3)), (0, .ref (w.2.2.1 t0))] dX1_mostKeepers_26 rfl rfl (by decide) rfl ?_
      refine u_goto g 4 dX1_mostKeepers_29 (by decide) ?_
      exact u_sub [2, 1, 0] rfl (ih (imax v1 q3) (v2 + (1 : Int32)) _ h K)
set_option maxRecDepth 100000 in
set_option maxHeartbeats 4000000 in
theorem t_X1_mostKeepers (w : Wp) (l : Launch) {t0 : Nat} {M : Mem} {q : Int32} (h : f_X1_mostKeepers t0 M = some q) : Ct shX w l yX1_mostKeepers cX1_mostKeepers 3 (some .int) 1 [.ref (w.2.2.1 t0)] M (some (.int q), M) := by
  rw [f_X1_mostKeepers] at h
  obtain ⟨h0, h⟩ := ob_if h
  refine ct_of shX_loc (by decide) (Nat.le_of_ble_eq_true rfl) rfl (fun x hx g => ?_)
  subst hx
  show U shX w x _ M 0 [(0, .ref (w.2.2.1 t0))] []
  generalize hr : ((some (.int q), M) : Option Value × Mem) = r
  have g : Gd shX w x RX1 cX1_mostKeepers 3 (some .int) 1 := g
  refine u_iconst g (v := (0 : Int32)) dX1_mostKeepers_0 rfl ?_
  refine u_istore_n g [(1, .int (0 : Int32)), (0, .ref (w.2.2.1 t0))] dX1_mostKeepers_1 (by decide) rfl ?_
  refine u_iconst g (v := (0 : Int32)) dX1_mostKeepers_2 rfl ?_
  refine u_istore_n g [(2, .int (0 : Int32)), (1, .int (0 : Int32)), (0, .ref (w.2.2.1 t0))] dX1_mostKeepers_3 (by decide) rfl ?_
  obtain ⟨q1, hq2, h⟩ := ob_bind h
  refine u_sub [2, 1, 0] rfl (s_X1_mostKeepers_l1 g t0 h0 M fuelN (0 : Int32) (0 : Int32) _ hq2 ?_)
  show U shX w x r M 32 [(1, .int q1)] []
  refine u_iload_n g 0 dX1_mostKeepers_32 rfl ?_
  exact u_iret g dX1_mostKeepers_33 (by rw [← hr]; obtain rfl := Option.some.inj h; rfl)
set_option maxRecDepth 100000 in
set_option maxHeartbeats 4000000 in
theorem s_X1_fewestShared_l2 {w : Wp} {x : Cx} {r : Option Value × Mem} (g : Gd shX w x RX1 cX1_fewestShared 4 (some .int) 1) (t0 : Nat) (a2 : Int32) (h0 : kX t0 = 1) (M : Mem) : ∀ (n : Nat) (v1 : Int32) (v3 : Int32) (q : Int32), f_X1_fewestShared_l2 t0 a2 M n v1 v3 = some q → U shX w x r M 70 [(0, .ref (w.2.2.1 t0)), (1, .int q), (2, .int a2)] [] → U shX w x r M 35 [(0, .ref (w.2.2.1 t0)), (1, .int v1), (2, .int a2), (3, .int v3)] [] := by
  intro n
  induction n with
  | zero => intro v1 v3 q h K; rw [f_X1_fewestShared_l2] at h; cases h
  | succ n ih =>
    intro v1 v3 q h K
    rw [f_X1_fewestShared_l2] at h
    refine u_iload_n g 3 dX1_fewestShared_35 rfl ?_
    refine u_aload_n g 0 dX1_fewestShared_36 rfl ?_
    refine gfX1_1 g h0 wf_X1_15 (v := (M.1 t0 1)) rfl dX1_fewestShared_37 ?_
    refine u_icmp_ge g 70 dX1_fewestShared_40 (by decide) (fun b3 => ?_) (fun b3 => ?_)
    · have h := ob_pos b3 h
      obtain rfl := Option.some.inj h
      exact u_sub [0, 1, 2] rfl K
    · have h := ob_neg b3 h
      refine u_iload_n g 1 dX1_fewestShared_43 rfl ?_
      refine u_aload_n g 0 dX1_fewestShared_44 rfl ?_
      refine gfX1_2 g h0 wf_X1_18 dX1_fewestShared_45 ?_
      refine u_iload_n g 2 dX1_fewestShared_48 rfl ?_
      obtain ⟨e4, h⟩ := ob_if h
      refine aX_ild g (c := (t0 + 1)) 120 (by decide) (kX_s1 h0) (v := (M.1 (t0 + 1) a2.toNatClampNeg)) (inB_in e4) rfl dX1_fewestShared_49 ?_
      refine u_aload_n g 0 dX1_fewestShared_50 rfl ?_
      refine gfX1_2 g h0 wf_X1_18 dX1_fewestShared_51 ?_
      refine u_iload_n g 3 dX1_fewestShared_54 rfl ?_
      obtain ⟨e5, h⟩ := ob_if h
      refine aX_ild g (c := (t0 + 1)) 120 (by decide) (kX_s1 h0) (v := (M.1 (t0 + 1) v3.toNatClampNeg)) (inB_in e5) rfl dX1_fewestShared_55 ?_
      refine u_iand g dX1_fewestShared_56 ?_
      obtain ⟨q6, hq7, h⟩ := ob_bind h
      refine u_callS (st := [.int v1]) g wv_X1_28 [.int ((M.1 (t0 + 1) a2.toNatClampNeg) &&& (M.1 (t0 + 1) v3.toNatClampNeg))] (t_J6_bitCount_0f7a4 w x.2.1 hq7) (by decide) (by decide) rfl (Nat.le_of_ble_eq_true rfl) rfl dX1_fewestShared_57 ?_
      show U shX w x r M 60 [(0, .ref (w.2.2.1 t0)), (1, .int v1), (2, .int a2), (3, .int v3)] [.int q6, .int v1]
      refine u_mmin (st := []) g wv_X1_33 (by decide) (Nat.le_of_ble_eq_true rfl) dX1_fewestShared_60 ?_
      refine u_istore_n g [(1, .int (imin v1 q6)), (0, .ref (w.2.2.1 t0)), (2, .int a2), (3, .int v3)] dX1_fewestShared_63 (by decide) rfl ?_
      refine u_iinc g 3 [(3, .int (v3 + (1 : Int32))), (1, .int (imin v1 q6)), (0, .ref (w.2.2.1 t0)), (2, .int a2)] dX1_fewestShared_64 rfl rfl (by decide) rfl ?_
      refine u_goto g 35 dX1_fewestShared_67 (by decide) ?_
      exact u_sub [2, 1, 3, 0] rfl (ih (imin v1 q6) (v3 + (1 : Int32)) _ h K)
set_option maxRecDepth 100000 in
set_option maxHeartbeats 4000000 in
theorem s_X1_fewestShared_l1 {w : Wp} {x : Cx} {r : Option Value × Mem} (g : Gd shX w x RX1 cX1_fewestShared 4 (some .int) 1) (t0 : Nat) (h0 : kX t0 = 1) (M : Mem) : ∀ (n : Nat) (v1 : Int32) (v2 : Int32) (q : Int32), f_X1_fewestShared_l1 t0 M n v1 v2 = some q → U shX w x r M 76 [(1, .int q)] [] → U shX w x r M 23 [(0, .ref (w.2.2.1 t0)), (1, .int v1), (2, .int v2)] [] := by
  intro n
  induction n with
  | zero => intro v1 v2 q h K; rw [f_X1_fewestShared_l1] at h; cases h
  | succ n ih =>
    intro v1 v2 q h K
    rw [f_X1_fewestShared_l1] at h
    refine u_iload_n g 2 dX1_fewestShared_23 rfl ?_
    refine u_aload_n g 0 dX1_fewestShared_24 rfl ?_
    refine gfX1_1 g h0 wf_X1_15 (v := (M.1 t0 1)) rfl dX1_fewestShared_25 ?_
    refine u_icmp_ge g 76 dX1_fewestShared_28 (by decide) (fun b2 => ?_) (fun b2 => ?_)
    · have h := ob_pos b2 h
      obtain rfl := Option.some.inj h
      exact u_sub [1] rfl K
    · have h := ob_neg b2 h
      refine u_iload_n g 2 dX1_fewestShared_31 rfl ?_
      refine u_iconst g (v := (1 : Int32)) dX1_fewestShared_32 rfl ?_
      refine u_iadd g dX1_fewestShared_33 ?_
      refine u_istore_n g [(3, .int (v2 + (1 : Int32))), (0, .ref (w.2.2.1 t0)), (1, .int v1), (2, .int v2)] dX1_fewestShared_34 (by decide) rfl ?_
      obtain ⟨q3, hq4, h⟩ := ob_bind h
      refine u_sub [1, 2, 3, 0] rfl (s_X1_fewestShared_l2 g t0 v2 h0 M fuelN v1 (v2 + (1 : Int32)) _ hq4 ?_)
      show U shX w x r M 70 [(0, .ref (w.2.2.1 t0)), (1, .int q3), (2, .int v2)] []
      refine u_iinc g 2 [(2, .int (v2 + (1 : Int32))), (0, .ref (w.2.2.1 t0)), (1, .int q3)] dX1_fewestShared_70 rfl rfl (by decide) rfl ?_
      refine u_goto g 23 dX1_fewestShared_73 (by decide) ?_
      exact u_sub [1, 2, 0] rfl (ih q3 (v2 + (1 : Int32)) _ h K)
set_option maxRecDepth 100000 in
set_option maxHeartbeats 4000000 in
theorem t_X1_fewestShared (w : Wp) (l : Launch) {t0 : Nat} {M : Mem} {q : Int32} (h : f_X1_fewestShared t0 M = some q) : Ct shX w l yX1_fewestShared cX1_fewestShared 4 (some .int) 1 [.ref (w.2.2.1 t0)] M (some (.int q), M) := by
  rw [f_X1_fewestShared] at h
  obtain ⟨h0, h⟩ := ob_if h
  refine ct_of shX_loc (by decide) (Nat.le_of_ble_eq_true rfl) rfl (fun x hx g => ?_)
  subst hx
  show U shX w x _ M 0 [(0, .ref (w.2.2.1 t0))] []
  generalize hr : ((some (.int q), M) : Option Value × Mem) = r
  have g : Gd shX w x RX1 cX1_fewestShared 4 (some .int) 1 := g
  refine u_aload_n g 0 dX1_fewestShared_0 rfl ?_
  refine gfX1_1 g h0 wf_X1_15 (v := (M.1 t0 1)) rfl dX1_fewestShared_1 ?_
  refine u_iconst g (v := (1 : Int32)) dX1_fewestShared_4 rfl ?_
  refine u_icmp_ne g 18 dX1_fewestShared_5 (by decide) (fun b1 => ?_) (fun b1 => ?_)
  · have h := ob_neg b1 h
    refine u_bipush g (v := (16 : Int32)) dX1_fewestShared_18 rfl ?_
    refine u_istore_n g [(1, .int (16 : Int32)), (0, .ref (w.2.2.1 t0))] dX1_fewestShared_20 (by decide) rfl ?_
    refine u_iconst g (v := (0 : Int32)) dX1_fewestShared_21 rfl ?_
    refine u_istore_n g [(2, .int (0 : Int32)), (1, .int (16 : Int32)), (0, .ref (w.2.2.1 t0))] dX1_fewestShared_22 (by decide) rfl ?_
    obtain ⟨q2, hq3, h⟩ := ob_bind h
    refine u_sub [2, 1, 0] rfl (s_X1_fewestShared_l1 g t0 h0 M fuelN (16 : Int32) (0 : Int32) _ hq3 ?_)
    show U shX w x r M 76 [(1, .int q2)] []
    refine u_iload_n g 0 dX1_fewestShared_76 rfl ?_
    exact u_iret g dX1_fewestShared_77 (by rw [← hr]; obtain rfl := Option.some.inj h; rfl)
  · have h := ob_pos b1 h
    refine u_aload_n g 0 dX1_fewestShared_8 rfl ?_
    refine gfX1_2 g h0 wf_X1_18 dX1_fewestShared_9 ?_
    refine u_iconst g (v := (0 : Int32)) dX1_fewestShared_12 rfl ?_
    refine aX_ild g (c := (t0 + 1)) 120 (by decide) (kX_s1 h0) (v := (M.1 (t0 + 1) 0)) (inB_in rfl) rfl dX1_fewestShared_13 ?_
    obtain ⟨q4, hq5, h⟩ := ob_bind h
    refine u_callS (st := []) g wv_X1_28 [.int (M.1 (t0 + 1) 0)] (t_J6_bitCount_0f7a4 w x.2.1 hq5) (by decide) (by decide) rfl (Nat.le_of_ble_eq_true rfl) rfl dX1_fewestShared_14 ?_
    show U shX w x r M 17 [(0, .ref (w.2.2.1 t0))] [.int q4]
    exact u_iret g dX1_fewestShared_17 (by rw [← hr]; obtain rfl := Option.some.inj h; rfl)
set_option maxRecDepth 100000 in
set_option maxHeartbeats 4000000 in
theorem t_X1_countPairs (w : Wp) (l : Launch) {t0 : Nat} {M : Mem} {q : Int32} (h : f_X1_countPairs t0 M = some q) : Ct shX w l yX1_countPairs cX1_countPairs 1 (some .int) 0 [.ref (w.2.2.1 t0)] M (some (.int q), M) := by
  rw [f_X1_countPairs] at h
  obtain ⟨h0, h⟩ := ob_if h
  refine ct_of shX_loc (by decide) (Nat.le_of_ble_eq_true rfl) rfl (fun x hx g => ?_)
  subst hx
  show U shX w x _ M 0 [(0, .ref (w.2.2.1 t0))] []
  generalize hr : ((some (.int q), M) : Option Value × Mem) = r
  have g : Gd shX w x RX1 cX1_countPairs 1 (some .int) 0 := g
  refine u_aload_n g 0 dX1_countPairs_0 rfl ?_
  refine gfX1_1 g h0 wf_X1_15 (v := (M.1 t0 1)) rfl dX1_countPairs_1 ?_
  refine u_aload_n g 0 dX1_countPairs_4 rfl ?_
  refine gfX1_1 g h0 wf_X1_15 (v := (M.1 t0 1)) rfl dX1_countPairs_5 ?_
  refine u_iconst g (v := (1 : Int32)) dX1_countPairs_8 rfl ?_
  refine u_isub g dX1_countPairs_9 ?_
  refine u_imul g dX1_countPairs_10 ?_
  refine u_iconst g (v := (2 : Int32)) dX1_countPairs_11 rfl ?_
  refine u_idiv g dX1_countPairs_12 (by decide) ?_
  exact u_iret g dX1_countPairs_13 (by rw [← hr]; obtain rfl := Option.some.inj h; rfl)
set_option maxRecDepth 100000 in
set_option maxHeartbeats 4000000 in
theorem s_X2_greatestCommon_l1 {w : Wp} {x : Cx} {r : Option Value × Mem} (g : Gd shX w x RX2 cX2_greatestCommon 6 (some .int) 0)   (M : Mem) : ∀ (n : Nat) (v2 : Int32) (v3 : Int32) (v4 : Int32) (q : Int32), f_X2_greatestCommon_l1 n v2 v3 v4 = some q → U shX w x r M 34 [(2, .int q)] [] → U shX w x r M 7 [(2, .int v2), (3, .int v3), (4, .int v4)] [] := by
  intro n
  induction n with
  | zero => intro v2 v3 v4 q h K; rw [f_X2_greatestCommon_l1] at h; cases h
  | succ n ih =>
    intro v2 v3 v4 q h K
    rw [f_X2_greatestCommon_l1] at h
    refine u_iload g 2 dX2_greatestCommon_7 rfl ?_
    refine u_bipush g (v := (64 : Int32)) dX2_greatestCommon_9 rfl ?_
    refine u_icmp_ge g 34 dX2_greatestCommon_11 (by decide) (fun b1 => ?_) (fun b1 => ?_)
    · have h := ob_pos b1 h
      obtain rfl := Option.some.inj h
      exact u_sub [0] rfl K
    · have h := ob_neg b1 h
      refine u_iload_n g 1 dX2_greatestCommon_14 rfl ?_
      refine u_if_eq g 34 dX2_greatestCommon_15 (by decide) (fun b2 => ?_) (fun b2 => ?_)
      · have h := ob_pos b2 h
        obtain rfl := Option.some.inj h
        exact u_sub [0] rfl K
      · have h := ob_neg b2 h
        refine u_iload_n g 0 dX2_greatestCommon_18 rfl ?_
        refine u_iload_n g 1 dX2_greatestCommon_19 rfl ?_
        obtain ⟨e3, h⟩ := ob_if h
        refine u_irem g dX2_greatestCommon_20 e3 ?_
        refine u_istore g [(5, .int (v2 - v2 / v3 * v3)), (2, .int v2), (3, .int v3), (4, .int v4)] dX2_greatestCommon_21 (by decide) rfl ?_
        refine u_iload_n g 2 dX2_greatestCommon_23 rfl ?_
        refine u_istore_n g [(2, .int v3), (5, .int (v2 - v2 / v3 * v3)), (3, .int v3), (4, .int v4)] dX2_greatestCommon_24 (by decide) rfl ?_
        refine u_iload g 1 dX2_greatestCommon_25 rfl ?_
        refine u_istore_n g [(3, .int (v2 - v2 / v3 * v3)), (2, .int v3), (5, .int (v2 - v2 / v3 * v3)), (4, .int v4)] dX2_greatestCommon_27 (by decide) rfl ?_
        refine u_iinc g 3 [(4, .int (v4 + (1 : Int32))), (3, .int (v2 - v2 / v3 * v3)), (2, .int v3), (5, .int (v2 - v2 / v3 * v3))] dX2_greatestCommon_28 rfl rfl (by decide) rfl ?_
        refine u_goto g 7 dX2_greatestCommon_31 (by decide) ?_
        exact u_sub [2, 1, 0] rfl (ih v3 (v2 - v2 / v3 * v3) (v4 + (1 : Int32)) _ h K)
set_option maxRecDepth 100000 in
set_option maxHeartbeats 4000000 in
theorem t_X2_greatestCommon (w : Wp) (l : Launch) {a0 : Int32} {a1 : Int32} {M : Mem} {q : Int32} (h : f_X2_greatestCommon a0 a1 = some q) : Ct shX w l yX2_greatestCommon cX2_greatestCommon 6 (some .int) 0 [.int a0, .int a1] M (some (.int q), M) := by
  rw [f_X2_greatestCommon] at h
  refine ct_of shX_loc (by decide) (Nat.le_of_ble_eq_true rfl) rfl (fun x hx g => ?_)
  subst hx
  show U shX w x _ M 0 [(0, .int a0), (1, .int a1)] []
  generalize hr : ((some (.int q), M) : Option Value × Mem) = r
  have g : Gd shX w x RX2 cX2_greatestCommon 6 (some .int) 0 := g
  refine u_iload_n g 0 dX2_greatestCommon_0 rfl ?_
  refine u_istore_n g [(2, .int a0), (0, .int a0), (1, .int a1)] dX2_greatestCommon_1 (by decide) rfl ?_
  refine u_iload_n g 2 dX2_greatestCommon_2 rfl ?_
  refine u_istore_n g [(3, .int a1), (2, .int a0), (0, .int a0), (1, .int a1)] dX2_greatestCommon_3 (by decide) rfl ?_
  refine u_iconst g (v := (0 : Int32)) dX2_greatestCommon_4 rfl ?_
  refine u_istore g [(4, .int (0 : Int32)), (3, .int a1), (2, .int a0), (0, .int a0), (1, .int a1)] dX2_greatestCommon_5 (by decide) rfl ?_
  obtain ⟨q1, hq2, h⟩ := ob_bind h
  refine u_sub [2, 1, 0] rfl (s_X2_greatestCommon_l1 g M fuelN a0 a1 (0 : Int32) _ hq2 ?_)
  show U shX w x r M 34 [(2, .int q1)] []
  refine u_iload_n g 0 dX2_greatestCommon_34 rfl ?_
  exact u_iret g dX2_greatestCommon_35 (by rw [← hr]; obtain rfl := Option.some.inj h; rfl)
set_option maxRecDepth 100000 in
set_option maxHeartbeats 4000000 in
theorem t_X2_become (w : Wp) (l : Launch) {a1 : Int32} {a2 : Int32} {M : Mem} {q : Mem} (h : f_X2_become a1 a2 M = some q) : Ct shX w l yX2_become cX2_become 4 none 1 [.ref (w.2.2.1 263), .int a1, .int a2] M (none, q) := by
  rw [f_X2_become] at h
  refine ct_of shX_loc (by decide) (Nat.le_of_ble_eq_true rfl) rfl (fun x hx g => ?_)
  subst hx
  show U shX w x _ M 0 [(0, .ref (w.2.2.1 263)), (1, .int a1), (2, .int a2)] []
  generalize hr : ((none, q) : Option Value × Mem) = r
  have g : Gd shX w x RX2 cX2_become 4 none 1 := g
  refine u_iload_n g 1 dX2_become_0 rfl ?_
  refine u_iload_n g 2 dX2_become_1 rfl ?_
  obtain ⟨q1, hq2, h⟩ := ob_bind h
  refine u_callS (st := []) g wv_X2_16 [.int a1, .int a2] (t_X2_greatestCommon w x.2.1 hq2) (by decide) (by decide) rfl (Nat.le_of_ble_eq_true rfl) rfl dX2_become_2 ?_
  show U shX w x r M 5 [(0, .ref (w.2.2.1 263)), (1, .int a1), (2, .int a2)] [.int q1]
  refine u_istore_n g [(3, .int q1), (0, .ref (w.2.2.1 263)), (1, .int a1), (2, .int a2)] dX2_become_5 (by decide) rfl ?_
  refine u_iload_n g 2 dX2_become_6 rfl ?_
  refine u_if_le g 18 dX2_become_7 (by decide) (fun b3 => ?_) (fun b3 => ?_)
  · have h := ob_pos b3 h
    refine u_aload_n g 1 dX2_become_18 rfl ?_
    refine u_iconst g (v := (0 : Int32)) dX2_become_19 rfl ?_
    refine pfX2_0 g (c := 263) rfl wf_X2_7 dX2_become_20 ?_
    refine u_aload_n g 1 dX2_become_23 rfl ?_
    refine u_iconst g (v := (1 : Int32)) dX2_become_24 rfl ?_
    refine pfX2_1 g (c := 263) rfl wf_X2_13 dX2_become_25 ?_
    exact u_vret g dX2_become_28 (by rw [← hr]; obtain rfl := Option.some.inj h; rfl)
  · have h := ob_neg b3 h
    refine u_iload_n g 3 dX2_become_10 rfl ?_
    refine u_if_le g 18 dX2_become_11 (by decide) (fun b4 => ?_) (fun b4 => ?_)
    · have h := ob_pos b4 h
      refine u_aload_n g 1 dX2_become_18 rfl ?_
      refine u_iconst g (v := (0 : Int32)) dX2_become_19 rfl ?_
      refine pfX2_0 g (c := 263) rfl wf_X2_7 dX2_become_20 ?_
      refine u_aload_n g 1 dX2_become_23 rfl ?_
      refine u_iconst g (v := (1 : Int32)) dX2_become_24 rfl ?_
      refine pfX2_1 g (c := 263) rfl wf_X2_13 dX2_become_25 ?_
      exact u_vret g dX2_become_28 (by rw [← hr]; obtain rfl := Option.some.inj h; rfl)
    · have h := ob_neg b4 h
      refine u_iload_n g 0 dX2_become_14 rfl ?_
      refine u_if_gt g 29 dX2_become_15 (by decide) (fun b5 => ?_) (fun b5 => ?_)
      · have h := ob_pos b5 h
        refine u_aload_n g 1 dX2_become_29 rfl ?_
        refine u_iload_n g 2 dX2_become_30 rfl ?_
        refine u_iload_n g 0 dX2_become_31 rfl ?_
        obtain ⟨e6, h⟩ := ob_if h
        refine u_idiv g dX2_become_32 e6 ?_
        refine pfX2_0 g (c := 263) rfl wf_X2_7 dX2_become_33 ?_
        refine u_aload_n g 1 dX2_become_36 rfl ?_
        refine u_iload_n g 3 dX2_become_37 rfl ?_
        refine u_iload_n g 0 dX2_become_38 rfl ?_
        obtain ⟨e7, h⟩ := ob_if h
        refine u_idiv g dX2_become_39 e7 ?_
        refine pfX2_1 g (c := 263) rfl wf_X2_13 dX2_become_40 ?_
        exact u_vret g dX2_become_43 (by rw [← hr]; obtain rfl := Option.some.inj h; rfl)
      · have h := ob_neg b5 h
        refine u_aload_n g 1 dX2_become_18 rfl ?_
        refine u_iconst g (v := (0 : Int32)) dX2_become_19 rfl ?_
        refine pfX2_0 g (c := 263) rfl wf_X2_7 dX2_become_20 ?_
        refine u_aload_n g 1 dX2_become_23 rfl ?_
        refine u_iconst g (v := (1 : Int32)) dX2_become_24 rfl ?_
        refine pfX2_1 g (c := 263) rfl wf_X2_13 dX2_become_25 ?_
        exact u_vret g dX2_become_28 (by rw [← hr]; obtain rfl := Option.some.inj h; rfl)
set_option maxRecDepth 100000 in
set_option maxHeartbeats 4000000 in
theorem t_X2_side (w : Wp) (l : Launch) {a1 : Int32} {M : Mem} {q : Int32} (h : f_X2_side a1 M = some q) : Ct shX w l yX2_side cX2_side 2 (some .int) 0 [.ref (w.2.2.1 263), .int a1] M (some (.int q), M) := by
  rw [f_X2_side] at h
  refine ct_of shX_loc (by decide) (Nat.le_of_ble_eq_true rfl) rfl (fun x hx g => ?_)
  subst hx
  show U shX w x _ M 0 [(0, .ref (w.2.2.1 263)), (1, .int a1)] []
  generalize hr : ((some (.int q), M) : Option Value × Mem) = r
  have g : Gd shX w x RX2 cX2_side 2 (some .int) 0 := g
  refine u_iload_n g 1 dX2_side_0 rfl ?_
  refine u_if_eq g 11 dX2_side_1 (by decide) (fun b1 => ?_) (fun b1 => ?_)
  · have h := ob_pos b1 h
    refine u_aload_n g 0 dX2_side_11 rfl ?_
    refine gfX2_0 g (c := 263) rfl wf_X2_7 (v := (M.1 263 0)) rfl dX2_side_12 ?_
    exact u_iret g dX2_side_15 (by rw [← hr]; obtain rfl := Option.some.inj h; rfl)
  · have h := ob_neg b1 h
    refine u_aload_n g 0 dX2_side_4 rfl ?_
    refine gfX2_1 g (c := 263) rfl wf_X2_13 (v := (M.1 263 1)) rfl dX2_side_5 ?_
    refine u_goto g 15 dX2_side_8 (by decide) ?_
    exact u_iret g dX2_side_15 (by rw [← hr]; obtain rfl := Option.some.inj h; rfl)
set_option maxRecDepth 100000 in
set_option maxHeartbeats 4000000 in
theorem s_X7_clear_l1 {w : Wp} {x : Cx} {r : Option Value × Mem} (g : Gd shX w x RX7 cX7_clear 4 none 1)   : ∀ (n : Nat) (v3 : Int32) (M : Mem) (q : Mem), f_X7_clear_l1 n v3 M = some q → U shX w x r q 45 [] [] → U shX w x r M 24 [(0, .ref (w.2.2.1 255)), (3, .int v3)] [] := by
  intro n
  induction n with
  | zero => intro v3 M q h K; rw [f_X7_clear_l1] at h; cases h
  | succ n ih =>
    intro v3 M q h K
    rw [f_X7_clear_l1] at h
    refine u_iload_n g 1 dX7_clear_24 rfl ?_
    refine u_aload_n g 0 dX7_clear_25 rfl ?_
    refine gfX7_2 g (c := 255) rfl wf_X7_18 (v := (M.1 255 2)) rfl dX7_clear_26 ?_
    refine u_icmp_ge g 45 dX7_clear_29 (by decide) (fun b1 => ?_) (fun b1 => ?_)
    · have h := ob_pos b1 h
      obtain rfl := Option.some.inj h
      exact u_sub [] rfl K
    · have h := ob_neg b1 h
      refine u_aload_n g 0 dX7_clear_32 rfl ?_
      refine gfX7_0 g (c := 255) rfl wf_X7_11 dX7_clear_33 ?_
      refine u_iload_n g 1 dX7_clear_36 rfl ?_
      refine u_lconst g (v := (0 : Int64)) dX7_clear_37 rfl ?_
      obtain ⟨e2, h⟩ := ob_if h
      refine aX_lst g (c := 256) 1024 (by decide) rfl (inB_in e2) (j := v3.toNatClampNeg) rfl dX7_clear_38 ?_
      refine u_iinc g 1 [(3, .int (v3 + (1 : Int32))), (0, .ref (w.2.2.1 255))] dX7_clear_39 rfl rfl (by decide) rfl ?_
      refine u_goto g 24 dX7_clear_42 (by decide) ?_
      exact u_sub [1, 0] rfl (ih (v3 + (1 : Int32)) (sL M 256 v3.toNatClampNeg (0 : Int64)) _ h K)
set_option maxRecDepth 100000 in
set_option maxHeartbeats 4000000 in
theorem t_X7_clear (w : Wp) (l : Launch) {a1 : Int32} {M : Mem} {q : Mem} (h : f_X7_clear a1 M = some q) : Ct shX w l yX7_clear cX7_clear 4 none 1 [.ref (w.2.2.1 255), .int a1] M (none, q) := by
  rw [f_X7_clear] at h
  refine ct_of shX_loc (by decide) (Nat.le_of_ble_eq_true rfl) rfl (fun x hx g => ?_)
  subst hx
  show U shX w x _ M 0 [(0, .ref (w.2.2.1 255)), (1, .int a1)] []
  generalize hr : ((none, q) : Option Value × Mem) = r
  have g : Gd shX w x RX7 cX7_clear 4 none 1 := g
  refine u_iload_n g 1 dX7_clear_0 rfl ?_
  refine u_bipush g (v := (6 : Int32)) dX7_clear_1 rfl ?_
  refine u_mmax (st := []) g wv_X7_22 (by decide) (Nat.le_of_ble_eq_true rfl) dX7_clear_3 ?_
  refine u_bipush g (v := (16 : Int32)) dX7_clear_6 rfl ?_
  refine u_mmin (st := []) g wv_X7_28 (by decide) (Nat.le_of_ble_eq_true rfl) dX7_clear_8 ?_
  refine u_bipush g (v := (6 : Int32)) dX7_clear_11 rfl ?_
  refine u_isub g dX7_clear_13 ?_
  refine u_istore_n g [(2, .int ((imin (imax a1 (6 : Int32)) (16 : Int32)) - (6 : Int32))), (0, .ref (w.2.2.1 255)), (1, .int a1)] dX7_clear_14 (by decide) rfl ?_
  refine u_aload_n g 1 dX7_clear_15 rfl ?_
  refine u_iconst g (v := (1 : Int32)) dX7_clear_16 rfl ?_
  refine u_iload_n g 0 dX7_clear_17 rfl ?_
  refine u_ishl g dX7_clear_18 ?_
  refine pfX7_2 g (c := 255) rfl wf_X7_18 dX7_clear_19 ?_
  refine u_iconst g (v := (0 : Int32)) dX7_clear_22 rfl ?_
  refine u_istore_n g [(3, .int (0 : Int32)), (2, .int ((imin (imax a1 (6 : Int32)) (16 : Int32)) - (6 : Int32))), (0, .ref (w.2.2.1 255)), (1, .int a1)] dX7_clear_23 (by decide) rfl ?_
  obtain ⟨q1, hq2, h⟩ := ob_bind h
  refine u_sub [2, 0] rfl (s_X7_clear_l1 g fuelN (0 : Int32) (sI M 255 2 ((1 : Int32) <<< (((imin (imax a1 (6 : Int32)) (16 : Int32)) - (6 : Int32)) &&& 31))) _ hq2 ?_)
  show U shX w x r q1 45 [] []
  exact u_vret g dX7_clear_45 (by rw [← hr]; obtain rfl := Option.some.inj h; rfl)
set_option maxRecDepth 100000 in
set_option maxHeartbeats 4000000 in
theorem t_X3_begin (w : Wp) (l : Launch) {a1 : Int32} {M : Mem} {q : Mem} (h : f_X3_begin a1 M = some q) : Ct shX w l yX3_begin cX3_begin 2 none 2 [.ref (w.2.2.1 254), .int a1] M (none, q) := by
  rw [f_X3_begin] at h
  refine ct_of shX_loc (by decide) (Nat.le_of_ble_eq_true rfl) rfl (fun x hx g => ?_)
  subst hx
  show U shX w x _ M 0 [(0, .ref (w.2.2.1 254)), (1, .int a1)] []
  generalize hr : ((none, q) : Option Value × Mem) = r
  have g : Gd shX w x RX3 cX3_begin 2 none 2 := g
  refine u_aload_n g 0 dX3_begin_0 rfl ?_
  refine gfX3_0 g (c := 254) rfl wf_X3_12 dX3_begin_1 ?_
  refine u_iload_n g 1 dX3_begin_4 rfl ?_
  obtain ⟨q1, hq2, h⟩ := ob_bind h
  refine u_callV (st := []) g wv_X3_48 [.int a1] (kX_lt (show kX 255 = 7 from rfl) rfl) (ceX_7 (show kX 255 = 7 from rfl)) rfl rfl (t_X7_clear w x.2.1 hq2) (by decide) (by decide) rfl (Nat.le_of_ble_eq_true rfl) rfl dX3_begin_5 ?_
  show U shX w x r q1 8 [(0, .ref (w.2.2.1 254)), (1, .int a1)] []
  exact u_vret g dX3_begin_8 (by rw [← hr]; obtain rfl := Option.some.inj h; rfl)
set_option maxRecDepth 100000 in
set_option maxHeartbeats 4000000 in
theorem s_X3_orderByStrength_l1 {w : Wp} {x : Cx} {r : Option Value × Mem} (g : Gd shX w x RX3 cX3_orderByStrength 4 none 0) (a1 : Int32) (a2 : Int32)  : ∀ (n : Nat) (v3 : Int32) (M : Mem) (q : Int32 × Mem), f_X3_orderByStrength_l1 a1 a2 n v3 M = some q → U shX w x r q.2 72 [(0, .ref (w.2.2.1 254)), (1, .int a1), (2, .int a2), (3, .int q.1)] [] → U shX w x r M 22 [(0, .ref (w.2.2.1 254)), (1, .int a1), (2, .int a2), (3, .int v3)] [] := by
  intro n
  induction n with
  | zero => intro v3 M q h K; rw [f_X3_orderByStrength_l1] at h; cases h
  | succ n ih =>
    intro v3 M q h K
    rw [f_X3_orderByStrength_l1] at h
    refine u_iload_n g 3 dX3_orderByStrength_22 rfl ?_
    refine u_if_le g 72 dX3_orderByStrength_23 (by decide) (fun b3 => ?_) (fun b3 => ?_)
    · have h := ob_pos b3 h
      obtain rfl := Option.some.inj h
      exact u_sub [0, 1, 2, 3] rfl K
    · have h := ob_neg b3 h
      refine u_aload_n g 0 dX3_orderByStrength_26 rfl ?_
      refine gfX3_7 g (c := 254) rfl wf_X3_39 dX3_orderByStrength_27 ?_
      refine u_iload_n g 3 dX3_orderByStrength_30 rfl ?_
      refine u_iconst g (v := (1 : Int32)) dX3_orderByStrength_31 rfl ?_
      refine u_isub g dX3_orderByStrength_32 ?_
      obtain ⟨e4, h⟩ := ob_if h
      refine aX_ild g (c := 262) 16 (by decide) rfl (v := (M.1 262 (v3 - (1 : Int32)).toNatClampNeg)) (inB_in e4) rfl dX3_orderByStrength_33 ?_
      refine u_iload_n g 2 dX3_orderByStrength_34 rfl ?_
      refine u_icmp_ge g 72 dX3_orderByStrength_35 (by decide) (fun b5 => ?_) (fun b5 => ?_)
      · have h := ob_pos b5 h
        obtain rfl := Option.some.inj h
        exact u_sub [0, 1, 2, 3] rfl K
      · have h := ob_neg b5 h
        refine u_aload_n g 0 dX3_orderByStrength_38 rfl ?_
        refine gfX3_6 g (c := 254) rfl wf_X3_36 dX3_orderByStrength_39 ?_
        refine u_iload_n g 3 dX3_orderByStrength_42 rfl ?_
        refine u_aload_n g 0 dX3_orderByStrength_43 rfl ?_
        refine gfX3_6 g (c := 254) rfl wf_X3_36 dX3_orderByStrength_44 ?_
        refine u_iload_n g 3 dX3_orderByStrength_47 rfl ?_
        refine u_iconst g (v := (1 : Int32)) dX3_orderByStrength_48 rfl ?_
        refine u_isub g dX3_orderByStrength_49 ?_
        obtain ⟨e6, h⟩ := ob_if h
        refine aX_ild g (c := 261) 16 (by decide) rfl (v := (M.1 261 (v3 - (1 : Int32)).toNatClampNeg)) (inB_in e6) rfl dX3_orderByStrength_50 ?_
        obtain ⟨e7, h⟩ := ob_if h
        refine aX_ist g (c := 261) 16 (by decide) rfl (inB_in e7) (j := v3.toNatClampNeg) rfl dX3_orderByStrength_51 ?_
        refine u_aload_n g 0 dX3_orderByStrength_52 rfl ?_
        refine gfX3_7 g (c := 254) rfl wf_X3_39 dX3_orderByStrength_53 ?_
        refine u_iload_n g 3 dX3_orderByStrength_56 rfl ?_
        refine u_aload_n g 0 dX3_orderByStrength_57 rfl ?_
        refine gfX3_7 g (c := 254) rfl wf_X3_39 dX3_orderByStrength_58 ?_
        refine u_iload_n g 3 dX3_orderByStrength_61 rfl ?_
        refine u_iconst g (v := (1 : Int32)) dX3_orderByStrength_62 rfl ?_
        refine u_isub g dX3_orderByStrength_63 ?_
        obtain ⟨e8, h⟩ := ob_if h
        refine aX_ild g (c := 262) 16 (by decide) rfl (v := (M.1 262 (v3 - (1 : Int32)).toNatClampNeg)) (inB_in e8) rfl dX3_orderByStrength_64 ?_
        obtain ⟨e9, h⟩ := ob_if h
        refine aX_ist g (c := 262) 16 (by decide) rfl (inB_in e9) (j := v3.toNatClampNeg) rfl dX3_orderByStrength_65 ?_
        refine u_iinc g 3 [(3, .int (v3 + (-1 : Int32))), (0, .ref (w.2.2.1 254)), (1, .int a1), (2, .int a2)] dX3_orderByStrength_66 rfl rfl (by decide) rfl ?_
        refine u_goto g 22 dX3_orderByStrength_69 (by decide) ?_
        exact u_sub [1, 2, 3, 0] rfl (ih (v3 + (-1 : Int32)) (sI (sI M 261 v3.toNatClampNeg (M.1 261 (v3 - (1 : Int32)).toNatClampNeg)) 262 v3.toNatClampNeg (M.1 262 (v3 - (1 : Int32)).toNatClampNeg)) _ h K)
set_option maxRecDepth 100000 in
set_option maxHeartbeats 4000000 in
theorem t_X3_orderByStrength (w : Wp) (l : Launch) {a1 : Int32} {a2 : Int32} {M : Mem} {q : Mem} (h : f_X3_orderByStrength a1 a2 M = some q) : Ct shX w l yX3_orderByStrength cX3_orderByStrength 4 none 0 [.ref (w.2.2.1 254), .int a1, .int a2] M (none, q) := by
  rw [f_X3_orderByStrength] at h
  refine ct_of shX_loc (by decide) (Nat.le_of_ble_eq_true rfl) rfl (fun x hx g => ?_)
  subst hx
  show U shX w x _ M 0 [(0, .ref (w.2.2.1 254)), (1, .int a1), (2, .int a2)] []
  generalize hr : ((none, q) : Option Value × Mem) = r
  have g : Gd shX w x RX3 cX3_orderByStrength 4 none 0 := g
  refine u_aload_n g 0 dX3_orderByStrength_0 rfl ?_
  refine gfX3_8 g (c := 254) rfl wf_X3_42 (v := (M.1 254 8)) rfl dX3_orderByStrength_1 ?_
  refine u_if_lt g 16 dX3_orderByStrength_4 (by decide) (fun b1 => ?_) (fun b1 => ?_)
  · have h := ob_pos b1 h
    exact u_vret g dX3_orderByStrength_16 (by rw [← hr]; obtain rfl := Option.some.inj h; rfl)
  · have h := ob_neg b1 h
    refine u_aload_n g 0 dX3_orderByStrength_7 rfl ?_
    refine gfX3_8 g (c := 254) rfl wf_X3_42 (v := (M.1 254 8)) rfl dX3_orderByStrength_8 ?_
    refine u_bipush g (v := (16 : Int32)) dX3_orderByStrength_11 rfl ?_
    refine u_icmp_lt g 17 dX3_orderByStrength_13 (by decide) (fun b2 => ?_) (fun b2 => ?_)
    · have h := ob_pos b2 h
      refine u_aload_n g 0 dX3_orderByStrength_17 rfl ?_
      refine gfX3_8 g (c := 254) rfl wf_X3_42 (v := (M.1 254 8)) rfl dX3_orderByStrength_18 ?_
      refine u_istore_n g [(3, .int (M.1 254 8)), (0, .ref (w.2.2.1 254)), (1, .int a1), (2, .int a2)] dX3_orderByStrength_21 (by decide) rfl ?_
      obtain ⟨q3, hq4, h⟩ := ob_bind h
      refine u_sub [1, 2, 3, 0] rfl (s_X3_orderByStrength_l1 g a1 a2 fuelN (M.1 254 8) M _ hq4 ?_)
      show U shX w x r q3.2 72 [(0, .ref (w.2.2.1 254)), (1, .int a1), (2, .int a2), (3, .int q3.1)] []
      refine u_aload_n g 0 dX3_orderByStrength_72 rfl ?_
      refine gfX3_6 g (c := 254) rfl wf_X3_36 dX3_orderByStrength_73 ?_
      refine u_iload_n g 3 dX3_orderByStrength_76 rfl ?_
      refine u_iload_n g 1 dX3_orderByStrength_77 rfl ?_
      obtain ⟨e5, h⟩ := ob_if h
      refine aX_ist g (c := 261) 16 (by decide) rfl (inB_in e5) (j := q3.1.toNatClampNeg) rfl dX3_orderByStrength_78 ?_
      refine u_aload_n g 0 dX3_orderByStrength_79 rfl ?_
      refine gfX3_7 g (c := 254) rfl wf_X3_39 dX3_orderByStrength_80 ?_
      refine u_iload_n g 3 dX3_orderByStrength_83 rfl ?_
      refine u_iload_n g 2 dX3_orderByStrength_84 rfl ?_
      obtain ⟨e6, h⟩ := ob_if h
      refine aX_ist g (c := 262) 16 (by decide) rfl (inB_in e6) (j := q3.1.toNatClampNeg) rfl dX3_orderByStrength_85 ?_
      refine u_aload_n g 0 dX3_orderByStrength_86 rfl ?_
      refine u_dup g dX3_orderByStrength_87 rfl ?_
      refine gfX3_8 g (c := 254) rfl wf_X3_42 (v := (q3.2.1 254 8)) rfl dX3_orderByStrength_88 ?_
      refine u_iconst g (v := (1 : Int32)) dX3_orderByStrength_91 rfl ?_
      refine u_iadd g dX3_orderByStrength_92 ?_
      refine pfX3_8 g (c := 254) rfl wf_X3_42 dX3_orderByStrength_93 ?_
      exact u_vret g dX3_orderByStrength_96 (by rw [← hr]; obtain rfl := Option.some.inj h; rfl)
    · have h := ob_neg b2 h
      exact u_vret g dX3_orderByStrength_16 (by rw [← hr]; obtain rfl := Option.some.inj h; rfl)
set_option maxRecDepth 100000 in
set_option maxHeartbeats 4000000 in
theorem s_X5_sumOf_l1 {w : Wp} {x : Cx} {r : Option Value × Mem} (g : Gd shX w x RX5 cX5_sumOf 4 (some .int) 0) (t0 : Nat) (a1 : Int32) (h0 : kX t0 = 1016) (M : Mem) : ∀ (n : Nat) (v2 : Int32) (v3 : Int32) (q : Int32), f_X5_sumOf_l1 t0 a1 M n v2 v3 = some q → U shX w x r M 36 [(2, .int q)] [] → U shX w x r M 4 [(0, .ref (w.2.2.1 t0)), (1, .int a1), (2, .int v2), (3, .int v3)] [] := by
  intro n
  induction n with
  | zero => intro v2 v3 q h K; rw [f_X5_sumOf_l1] at h; cases h
  | succ n ih =>
    intro v2 v3 q h K
    rw [f_X5_sumOf_l1] at h
    refine u_iload_n g 3 dX5_sumOf_4 rfl ?_
    refine u_bipush g (v := (16 : Int32)) dX5_sumOf_5 rfl ?_
    refine u_icmp_ge g 36 dX5_sumOf_7 (by decide) (fun b1 => ?_) (fun b1 => ?_)
    · have h := ob_pos b1 h
      obtain rfl := Option.some.inj h
      exact u_sub [2] rfl K
    · have h := ob_neg b1 h
      refine u_iload_n g 3 dX5_sumOf_10 rfl ?_
      refine u_aload_n g 0 dX5_sumOf_11 rfl ?_
      refine aX_len g (c := t0) 16 (by decide) h0 (v := (16 : Int32)) rfl dX5_sumOf_12 ?_
      refine u_icmp_ge g 36 dX5_sumOf_13 (by decide) (fun b2 => ?_) (fun b2 => ?_)
      · have h := ob_pos b2 h
        obtain rfl := Option.some.inj h
        exact u_sub [2] rfl K
      · have h := ob_neg b2 h
        refine u_iload_n g 1 dX5_sumOf_16 rfl ?_
        refine u_iload_n g 3 dX5_sumOf_17 rfl ?_
        refine u_ishr g dX5_sumOf_18 ?_
        refine u_iconst g (v := (1 : Int32)) dX5_sumOf_19 rfl ?_
        refine u_iand g dX5_sumOf_20 ?_
        obtain ⟨q3, hq4, h⟩ := ob_bind h
        have K5 : U shX w x r M 30 [(0, .ref (w.2.2.1 t0)), (1, .int a1), (2, .int q3), (3, .int v3)] [] := by
          refine u_iinc g 3 [(3, .int (v3 + (1 : Int32))), (0, .ref (w.2.2.1 t0)), (1, .int a1), (2, .int q3)] dX5_sumOf_30 rfl rfl (by decide) rfl ?_
          refine u_goto g 4 dX5_sumOf_33 (by decide) ?_
          exact u_sub [1, 2, 3, 0] rfl (ih q3 (v3 + (1 : Int32)) _ h K)
        have h := hq4
        refine u_if_eq g 30 dX5_sumOf_21 (by decide) (fun b6 => ?_) (fun b6 => ?_)
        · have h := ob_pos b6 h
          obtain rfl := Option.some.inj h
          exact u_sub [0, 1, 2, 3] rfl K5
        · have h := ob_neg b6 h
          refine u_iload_n g 2 dX5_sumOf_24 rfl ?_
          refine u_aload_n g 0 dX5_sumOf_25 rfl ?_
          refine u_iload_n g 3 dX5_sumOf_26 rfl ?_
          obtain ⟨e7, h⟩ := ob_if h
          refine aX_ild g (c := t0) 16 (by decide) h0 (v := (M.1 t0 v3.toNatClampNeg)) (inB_in e7) rfl dX5_sumOf_27 ?_
          refine u_iadd g dX5_sumOf_28 ?_
          refine u_istore_n g [(2, .int (v2 + (M.1 t0 v3.toNatClampNeg))), (0, .ref (w.2.2.1 t0)), (1, .int a1), (3, .int v3)] dX5_sumOf_29 (by decide) rfl ?_
          obtain rfl := Option.some.inj h
          exact u_sub [1, 2, 0, 3] rfl K5
set_option maxRecDepth 100000 in
set_option maxHeartbeats 4000000 in
theorem t_X5_sumOf (w : Wp) (l : Launch) {t0 : Nat} {a1 : Int32} {M : Mem} {q : Int32} (h : f_X5_sumOf t0 a1 M = some q) : Ct shX w l yX5_sumOf cX5_sumOf 4 (some .int) 0 [.ref (w.2.2.1 t0), .int a1] M (some (.int q), M) := by
  rw [f_X5_sumOf] at h
  obtain ⟨h0, h⟩ := ob_if h
  refine ct_of shX_loc (by decide) (Nat.le_of_ble_eq_true rfl) rfl (fun x hx g => ?_)
  subst hx
  show U shX w x _ M 0 [(0, .ref (w.2.2.1 t0)), (1, .int a1)] []
  generalize hr : ((some (.int q), M) : Option Value × Mem) = r
  have g : Gd shX w x RX5 cX5_sumOf 4 (some .int) 0 := g
  refine u_iconst g (v := (0 : Int32)) dX5_sumOf_0 rfl ?_
  refine u_istore_n g [(2, .int (0 : Int32)), (0, .ref (w.2.2.1 t0)), (1, .int a1)] dX5_sumOf_1 (by decide) rfl ?_
  refine u_iconst g (v := (0 : Int32)) dX5_sumOf_2 rfl ?_
  refine u_istore_n g [(3, .int (0 : Int32)), (2, .int (0 : Int32)), (0, .ref (w.2.2.1 t0)), (1, .int a1)] dX5_sumOf_3 (by decide) rfl ?_
  obtain ⟨q1, hq2, h⟩ := ob_bind h
  refine u_sub [2, 3, 1, 0] rfl (s_X5_sumOf_l1 g t0 a1 h0 M fuelN (0 : Int32) (0 : Int32) _ hq2 ?_)
  show U shX w x r M 36 [(2, .int q1)] []
  refine u_iload_n g 0 dX5_sumOf_36 rfl ?_
  exact u_iret g dX5_sumOf_37 (by rw [← hr]; obtain rfl := Option.some.inj h; rfl)
set_option maxRecDepth 100000 in
set_option maxHeartbeats 4000000 in
theorem t_X5_strengthOf (w : Wp) (l : Launch) {a1 : Int32} {M : Mem} {q : Int32} (h : f_X5_strengthOf a1 M = some q) : Ct shX w l yX5_strengthOf cX5_strengthOf 2 (some .int) 1 [.ref (w.2.2.1 1), .int a1] M (some (.int q), M) := by
  rw [f_X5_strengthOf] at h
  refine ct_of shX_loc (by decide) (Nat.le_of_ble_eq_true rfl) rfl (fun x hx g => ?_)
  subst hx
  show U shX w x _ M 0 [(0, .ref (w.2.2.1 1)), (1, .int a1)] []
  generalize hr : ((some (.int q), M) : Option Value × Mem) = r
  have g : Gd shX w x RX5 cX5_strengthOf 2 (some .int) 1 := g
  refine u_aload_n g 0 dX5_strengthOf_0 rfl ?_
  refine gfX5_1 g (c := 1) rfl wf_X5_15 dX5_strengthOf_1 ?_
  refine u_iload_n g 1 dX5_strengthOf_4 rfl ?_
  obtain ⟨q1, hq2, h⟩ := ob_bind h
  refine u_callS (st := []) g wv_X5_25 [.ref (w.2.2.1 2), .int a1] (t_X5_sumOf w x.2.1 hq2) (by decide) (by decide) rfl (Nat.le_of_ble_eq_true rfl) rfl dX5_strengthOf_5 ?_
  show U shX w x r M 8 [(0, .ref (w.2.2.1 1)), (1, .int a1)] [.int q1]
  exact u_iret g dX5_strengthOf_8 (by rw [← hr]; obtain rfl := Option.some.inj h; rfl)
set_option maxRecDepth 100000 in
set_option maxHeartbeats 4000000 in
theorem t_X7_put (w : Wp) (l : Launch) {a1 : Int32} {M : Mem} {q : Mem} (h : f_X7_put a1 M = some q) : Ct shX w l yX7_put cX7_put 3 none 0 [.ref (w.2.2.1 255), .int a1] M (none, q) := by
  rw [f_X7_put] at h
  refine ct_of shX_loc (by decide) (Nat.le_of_ble_eq_true rfl) rfl (fun x hx g => ?_)
  subst hx
  show U shX w x _ M 0 [(0, .ref (w.2.2.1 255)), (1, .int a1)] []
  generalize hr : ((none, q) : Option Value × Mem) = r
  have g : Gd shX w x RX7 cX7_put 3 none 0 := g
  refine u_iload_n g 1 dX7_put_0 rfl ?_
  refine u_bipush g (v := (6 : Int32)) dX7_put_1 rfl ?_
  refine u_iushr g dX7_put_3 ?_
  refine u_istore_n g [(2, .int (iushr a1 (6 : Int32))), (0, .ref (w.2.2.1 255)), (1, .int a1)] dX7_put_4 (by decide) rfl ?_
  refine u_iload_n g 0 dX7_put_5 rfl ?_
  refine u_aload_n g 1 dX7_put_6 rfl ?_
  refine gfX7_2 g (c := 255) rfl wf_X7_18 (v := (M.1 255 2)) rfl dX7_put_7 ?_
  refine u_icmp_ge g 28 dX7_put_10 (by decide) (fun b1 => ?_) (fun b1 => ?_)
  · have h := ob_pos b1 h
    exact u_vret g dX7_put_28 (by rw [← hr]; obtain rfl := Option.some.inj h; rfl)
  · have h := ob_neg b1 h
    refine u_aload_n g 1 dX7_put_13 rfl ?_
    refine gfX7_0 g (c := 255) rfl wf_X7_11 dX7_put_14 ?_
    refine u_iload_n g 0 dX7_put_17 rfl ?_
    refine u_dup2 g dX7_put_18 rfl rfl ?_
    obtain ⟨e2, h⟩ := ob_if h
    refine aX_lld g (c := 256) 1024 (by decide) rfl (v := (M.2 256 (iushr a1 (6 : Int32)).toNatClampNeg)) (inB_in e2) rfl dX7_put_19 ?_
    refine u_lconst g (v := (1 : Int64)) dX7_put_20 rfl ?_
    refine u_iload_n g 2 dX7_put_21 rfl ?_
    refine u_bipush g (v := (63 : Int32)) dX7_put_22 rfl ?_
    refine u_iand g dX7_put_24 ?_
    refine u_lshl g dX7_put_25 ?_
    refine u_lor g dX7_put_26 ?_
    obtain ⟨e3, h⟩ := ob_if h
    refine aX_lst g (c := 256) 1024 (by decide) rfl (inB_in e3) (j := (iushr a1 (6 : Int32)).toNatClampNeg) rfl dX7_put_27 ?_
    exact u_vret g dX7_put_28 (by rw [← hr]; obtain rfl := Option.some.inj h; rfl)
set_option maxRecDepth 100000 in
set_option maxHeartbeats 4000000 in
theorem t_X3_takeStrong_r (w : Wp) (l : Launch) : ∀ (n : Nat) (a1 : Int32) (a2 : Int32) (a3 : Int32) (a4 : Int32) (M : Mem) (q : Mem), f_X3_takeStrong n a1 a2 a3 a4 M = some q → Ct shX w l yX3_takeStrong cX3_takeStrong 8 none (n + 1) [.ref (w.2.2.1 254), .int a1, .int a2, .int a3, .int a4] M (none, q) := by
  intro n
  induction n with
  | zero => intro a1 a2 a3 a4 M q h; rw [f_X3_takeStrong] at h; cases h
  | succ n ih =>
    intro a1 a2 a3 a4 M q h
    rw [f_X3_takeStrong] at h
    refine ct_of shX_loc (by decide) (Nat.le_of_ble_eq_true rfl) rfl (fun x hx g => ?_)
    subst hx
    show U shX w x _ M 0 [(0, .ref (w.2.2.1 254)), (1, .int a1), (2, .int a2), (3, .int a3), (4, .int a4)] []
    generalize hr : ((none, q) : Option Value × Mem) = r
    have g : Gd shX w x RX3 cX3_takeStrong 8 none (n + 1 + 1) := g
    refine u_iconst g (v := (2 : Int32)) dX3_takeStrong_0 rfl ?_
    refine u_iload g 4 dX3_takeStrong_1 rfl ?_
    refine u_imul g dX3_takeStrong_3 ?_
    refine u_iload_n g 3 dX3_takeStrong_4 rfl ?_
    obtain ⟨q1, hq2, h⟩ := ob_bind h
    have K3 : U shX w x r M 13 [(0, .ref (w.2.2.1 254)), (1, .int a1), (2, .int a2), (3, .int a3), (4, .int a4)] [.int q1] := by
      refine u_istore g [(5, .int q1), (0, .ref (w.2.2.1 254)), (1, .int a1), (2, .int a2), (3, .int a3), (4, .int a4)] dX3_takeStrong_13 (by decide) rfl ?_
      refine u_iload_n g 2 dX3_takeStrong_15 rfl ?_
      refine u_if_lt g 47 dX3_takeStrong_16 (by decide) (fun b4 => ?_) (fun b4 => ?_)
      · have h := ob_pos b4 h
        exact u_vret g dX3_takeStrong_47 (by rw [← hr]; obtain rfl := Option.some.inj h; rfl)
      · have h := ob_neg b4 h
        refine u_iload_n g 2 dX3_takeStrong_19 rfl ?_
        refine u_aload_n g 1 dX3_takeStrong_20 rfl ?_
        refine gfX3_8 g (c := 254) rfl wf_X3_42 (v := (M.1 254 8)) rfl dX3_takeStrong_21 ?_
        refine u_icmp_ge g 47 dX3_takeStrong_24 (by decide) (fun b5 => ?_) (fun b5 => ?_)
        · have h := ob_pos b5 h
          exact u_vret g dX3_takeStrong_47 (by rw [← hr]; obtain rfl := Option.some.inj h; rfl)
        · have h := ob_neg b5 h
          refine u_iload_n g 2 dX3_takeStrong_27 rfl ?_
          refine u_bipush g (v := (16 : Int32)) dX3_takeStrong_28 rfl ?_
          refine u_icmp_ge g 47 dX3_takeStrong_30 (by decide) (fun b6 => ?_) (fun b6 => ?_)
          · have h := ob_pos b6 h
            exact u_vret g dX3_takeStrong_47 (by rw [← hr]; obtain rfl := Option.some.inj h; rfl)
          · have h := ob_neg b6 h
            refine u_iload g 0 dX3_takeStrong_33 rfl ?_
            refine u_if_eq g 47 dX3_takeStrong_35 (by decide) (fun b7 => ?_) (fun b7 => ?_)
            · have h := ob_pos b7 h
              exact u_vret g dX3_takeStrong_47 (by rw [← hr]; obtain rfl := Option.some.inj h; rfl)
            · have h := ob_neg b7 h
              refine u_aload_n g 1 dX3_takeStrong_38 rfl ?_
              refine gfX3_9 g (c := 254) rfl wf_X3_45 (v := (M.1 254 9)) rfl dX3_takeStrong_39 ?_
              refine u_bipush g (v := (120 : Int32)) dX3_takeStrong_42 rfl ?_
              refine u_icmp_le g 48 dX3_takeStrong_44 (by decide) (fun b8 => ?_) (fun b8 => ?_)
              · have h := ob_pos b8 h
                refine u_aload_n g 1 dX3_takeStrong_48 rfl ?_
                refine gfX3_7 g (c := 254) rfl wf_X3_39 dX3_takeStrong_49 ?_
                refine u_iload_n g 2 dX3_takeStrong_52 rfl ?_
                obtain ⟨e9, h⟩ := ob_if h
                refine aX_ild g (c := 262) 16 (by decide) rfl (v := (M.1 262 a1.toNatClampNeg)) (inB_in e9) rfl dX3_takeStrong_53 ?_
                refine u_istore g [(6, .int (M.1 262 a1.toNatClampNeg)), (5, .int q1), (0, .ref (w.2.2.1 254)), (1, .int a1), (2, .int a2), (3, .int a3), (4, .int a4)] dX3_takeStrong_54 (by decide) rfl ?_
                refine u_iload_n g 4 dX3_takeStrong_56 rfl ?_
                refine u_aload_n g 2 dX3_takeStrong_57 rfl ?_
                refine gfX3_6 g (c := 254) rfl wf_X3_36 dX3_takeStrong_58 ?_
                refine u_iload_n g 3 dX3_takeStrong_61 rfl ?_
                obtain ⟨e10, h⟩ := ob_if h
                refine aX_ild g (c := 261) 16 (by decide) rfl (v := (M.1 261 a1.toNatClampNeg)) (inB_in e10) rfl dX3_takeStrong_62 ?_
                refine u_ior g dX3_takeStrong_63 ?_
                refine u_istore g [(7, .int (a2 ||| (M.1 261 a1.toNatClampNeg))), (6, .int (M.1 262 a1.toNatClampNeg)), (5, .int q1), (0, .ref (w.2.2.1 254)), (1, .int a1), (2, .int a2), (3, .int a3), (4, .int a4)] dX3_takeStrong_64 (by decide) rfl ?_
                refine u_iconst g (v := (2 : Int32)) dX3_takeStrong_66 rfl ?_
                refine u_iload g 1 dX3_takeStrong_67 rfl ?_
                refine u_imul g dX3_takeStrong_69 ?_
                refine u_iload_n g 6 dX3_takeStrong_70 rfl ?_
                obtain ⟨q11, hq12, h⟩ := ob_bind h
                have K13 : U shX w x r q11 116 [(0, .ref (w.2.2.1 254)), (1, .int a1), (2, .int a2), (3, .int a3), (4, .int a4), (6, .int (M.1 262 a1.toNatClampNeg))] [] := by
                  refine u_aload_n g 0 dX3_takeStrong_116 rfl ?_
                  refine u_iload_n g 1 dX3_takeStrong_117 rfl ?_
                  refine u_iconst g (v := (1 : Int32)) dX3_takeStrong_118 rfl ?_
                  refine u_iadd g dX3_takeStrong_119 ?_
                  refine u_iload_n g 2 dX3_takeStrong_120 rfl ?_
                  refine u_iload_n g 3 dX3_takeStrong_121 rfl ?_
                  refine u_iload g 4 dX3_takeStrong_122 rfl ?_
                  refine u_iload g 5 dX3_takeStrong_124 rfl ?_
                  refine u_isub g dX3_takeStrong_126 ?_
                  obtain ⟨q14, hq15, h⟩ := ob_bind h
                  refine u_callS (st := []) g wv_X3_66 [.ref (w.2.2.1 254), .int (a1 + (1 : Int32)), .int a2, .int a3, .int (a4 - (M.1 262 a1.toNatClampNeg))] (ih _ _ _ _ _ _ hq15) (by omega) (by decide) rfl (Nat.le_of_ble_eq_true rfl) rfl dX3_takeStrong_127 ?_
                  show U shX w x r q14 130 [(0, .ref (w.2.2.1 254)), (1, .int a1), (2, .int a2), (3, .int a3), (4, .int a4), (6, .int (M.1 262 a1.toNatClampNeg))] []
                  exact u_vret g dX3_takeStrong_130 (by rw [← hr]; obtain rfl := Option.some.inj h; rfl)
                have h := hq12
                refine u_icmp_le g 96 dX3_takeStrong_71 (by decide) (fun b16 => ?_) (fun b16 => ?_)
                · have h := ob_pos b16 h
                  refine u_aload_n g 3 dX3_takeStrong_96 rfl ?_
                  refine u_iload_n g 4 dX3_takeStrong_97 rfl ?_
                  refine u_iconst g (v := (1 : Int32)) dX3_takeStrong_98 rfl ?_
                  refine u_iadd g dX3_takeStrong_99 ?_
                  refine u_iload g 0 dX3_takeStrong_100 rfl ?_
                  refine u_iload_n g 6 dX3_takeStrong_102 rfl ?_
                  refine u_iconst g (v := (2 : Int32)) dX3_takeStrong_103 rfl ?_
                  refine u_iload g 1 dX3_takeStrong_104 rfl ?_
                  refine u_imul g dX3_takeStrong_106 ?_
                  refine u_isub g dX3_takeStrong_107 ?_
                  refine u_iload g 7 dX3_takeStrong_108 rfl ?_
                  refine u_iload g 1 dX3_takeStrong_110 rfl ?_
                  refine u_isub g dX3_takeStrong_112 ?_
                  obtain ⟨q17, hq18, h⟩ := ob_bind h
                  refine u_callS (st := []) g wv_X3_66 [.ref (w.2.2.1 254), .int (a1 + (1 : Int32)), .int (a2 ||| (M.1 261 a1.toNatClampNeg)), .int (a3 - ((2 : Int32) * (M.1 262 a1.toNatClampNeg))), .int (a4 - (M.1 262 a1.toNatClampNeg))] (ih _ _ _ _ _ _ hq18) (by omega) (by decide) rfl (Nat.le_of_ble_eq_true rfl) rfl dX3_takeStrong_113 ?_
                  show U shX w x r q17 116 [(7, .int (a2 ||| (M.1 261 a1.toNatClampNeg))), (6, .int (M.1 262 a1.toNatClampNeg)), (5, .int q1), (0, .ref (w.2.2.1 254)), (1, .int a1), (2, .int a2), (3, .int a3), (4, .int a4)] []
                  obtain rfl := Option.some.inj h
                  exact u_sub [3, 4, 5, 6, 7, 1] rfl K13
                · have h := ob_neg b16 h
                  refine u_aload_n g 3 dX3_takeStrong_74 rfl ?_
                  refine gfX3_0 g (c := 254) rfl wf_X3_12 dX3_takeStrong_75 ?_
                  refine u_iload g 0 dX3_takeStrong_78 rfl ?_
                  obtain ⟨q19, hq20, h⟩ := ob_bind h
                  refine u_callV (st := []) g wv_X3_70 [.int (a2 ||| (M.1 261 a1.toNatClampNeg))] (kX_lt (show kX 255 = 7 from rfl) rfl) (ceX_7 (show kX 255 = 7 from rfl)) rfl rfl (t_X7_put w x.2.1 hq20) (by omega) (by decide) rfl (Nat.le_of_ble_eq_true rfl) rfl dX3_takeStrong_80 ?_
                  show U shX w x r q19 83 [(7, .int (a2 ||| (M.1 261 a1.toNatClampNeg))), (6, .int (M.1 262 a1.toNatClampNeg)), (5, .int q1), (0, .ref (w.2.2.1 254)), (1, .int a1), (2, .int a2), (3, .int a3), (4, .int a4)] []
                  refine u_aload_n g 3 dX3_takeStrong_83 rfl ?_
                  refine u_dup g dX3_takeStrong_84 rfl ?_
                  refine gfX3_9 g (c := 254) rfl wf_X3_45 (v := (q19.1 254 9)) rfl dX3_takeStrong_85 ?_
                  refine u_iconst g (v := (1 : Int32)) dX3_takeStrong_88 rfl ?_
                  refine u_iadd g dX3_takeStrong_89 ?_
                  refine pfX3_9 g (c := 254) rfl wf_X3_45 dX3_takeStrong_90 ?_
                  refine u_goto g 116 dX3_takeStrong_93 (by decide) ?_
                  obtain rfl := Option.some.inj h
                  exact u_sub [3, 4, 5, 6, 7, 1] rfl K13
              · have h := ob_neg b8 h
                exact u_vret g dX3_takeStrong_47 (by rw [← hr]; obtain rfl := Option.some.inj h; rfl)
    have h := hq2
    refine u_icmp_le g 12 dX3_takeStrong_5 (by decide) (fun b21 => ?_) (fun b21 => ?_)
    · have h := ob_pos b21 h
      refine u_iconst g (v := (0 : Int32)) dX3_takeStrong_12 rfl ?_
      obtain rfl := Option.some.inj h
      exact u_sub [0, 1, 2, 3, 4] rfl K3
    · have h := ob_neg b21 h
      refine u_iconst g (v := (1 : Int32)) dX3_takeStrong_8 rfl ?_
      refine u_goto g 13 dX3_takeStrong_9 (by decide) ?_
      obtain rfl := Option.some.inj h
      exact u_sub [0, 1, 2, 3, 4] rfl K3
theorem t_X3_takeStrong (w : Wp) (l : Launch) {a1 a2 a3 a4 : Int32} {M : Mem} {q : Mem} (h : f_X3_takeStrong 42 a1 a2 a3 a4 M = some q) : Ct shX w l yX3_takeStrong cX3_takeStrong 8 none 43 [.ref (w.2.2.1 254), .int a1, .int a2, .int a3, .int a4] M (none, q) := t_X3_takeStrong_r w l 42 a1 a2 a3 a4 M q h
set_option maxRecDepth 100000 in
set_option maxHeartbeats 4000000 in
theorem s_X3_gatherMost_l1 {w : Wp} {x : Cx} {r : Option Value × Mem} (g : Gd shX w x RX3 cX3_gatherMost 4 none 44) (a2 : Int32)  : ∀ (n : Nat) (v3 : Int32) (M : Mem) (q : Mem), f_X3_gatherMost_l1 a2 n v3 M = some q → U shX w x r q 48 [(0, .ref (w.2.2.1 254)), (1, .ref (w.2.2.1 1)), (2, .int a2)] [] → U shX w x r M 7 [(0, .ref (w.2.2.1 254)), (1, .ref (w.2.2.1 1)), (2, .int a2), (3, .int v3)] [] := by
  intro n
  induction n with
  | zero => intro v3 M q h K; rw [f_X3_gatherMost_l1] at h; cases h
  | succ n ih =>
    intro v3 M q h K
    rw [f_X3_gatherMost_l1] at h
    refine u_iload_n g 3 dX3_gatherMost_7 rfl ?_
    refine u_aload_n g 1 dX3_gatherMost_8 rfl ?_
    refine gfX5_0 g (c := 1) rfl wf_X3_52 (v := (M.1 1 0)) rfl dX3_gatherMost_9 ?_
    refine u_icmp_ge g 48 dX3_gatherMost_12 (by decide) (fun b1 => ?_) (fun b1 => ?_)
    · have h := ob_pos b1 h
      obtain rfl := Option.some.inj h
      exact u_sub [0, 1, 2] rfl K
    · have h := ob_neg b1 h
      refine u_iload_n g 3 dX3_gatherMost_15 rfl ?_
      refine u_bipush g (v := (16 : Int32)) dX3_gatherMost_16 rfl ?_
      refine u_icmp_ge g 48 dX3_gatherMost_18 (by decide) (fun b2 => ?_) (fun b2 => ?_)
      · have h := ob_pos b2 h
        obtain rfl := Option.some.inj h
        exact u_sub [0, 1, 2] rfl K
      · have h := ob_neg b2 h
        refine u_iload_n g 2 dX3_gatherMost_21 rfl ?_
        refine u_iload_n g 3 dX3_gatherMost_22 rfl ?_
        refine u_ishr g dX3_gatherMost_23 ?_
        refine u_iconst g (v := (1 : Int32)) dX3_gatherMost_24 rfl ?_
        refine u_iand g dX3_gatherMost_25 ?_
        obtain ⟨q3, hq4, h⟩ := ob_bind h
        have K5 : U shX w x r q3 42 [(0, .ref (w.2.2.1 254)), (1, .ref (w.2.2.1 1)), (2, .int a2), (3, .int v3)] [] := by
          refine u_iinc g 3 [(3, .int (v3 + (1 : Int32))), (0, .ref (w.2.2.1 254)), (1, .ref (w.2.2.1 1)), (2, .int a2)] dX3_gatherMost_42 rfl rfl (by decide) rfl ?_
          refine u_goto g 7 dX3_gatherMost_45 (by decide) ?_
          exact u_sub [1, 2, 3, 0] rfl (ih (v3 + (1 : Int32)) q3 _ h K)
        have h := hq4
        refine u_if_eq g 42 dX3_gatherMost_26 (by decide) (fun b6 => ?_) (fun b6 => ?_)
        · have h := ob_pos b6 h
          obtain rfl := Option.some.inj h
          exact u_sub [0, 1, 2, 3] rfl K5
        · have h := ob_neg b6 h
          refine u_aload_n g 0 dX3_gatherMost_29 rfl ?_
          refine u_iconst g (v := (1 : Int32)) dX3_gatherMost_30 rfl ?_
          refine u_iload_n g 3 dX3_gatherMost_31 rfl ?_
          refine u_ishl g dX3_gatherMost_32 ?_
          refine u_aload_n g 1 dX3_gatherMost_33 rfl ?_
          refine gfX5_1 g (c := 1) rfl wf_X3_57 dX3_gatherMost_34 ?_
          refine u_iload_n g 3 dX3_gatherMost_37 rfl ?_
          obtain ⟨e7, h⟩ := ob_if h
          refine aX_ild g (c := 2) 16 (by decide) rfl (v := (M.1 2 v3.toNatClampNeg)) (inB_in e7) rfl dX3_gatherMost_38 ?_
          obtain ⟨q8, hq9, h⟩ := ob_bind h
          refine u_callV (st := []) g wv_X3_58 [.int ((1 : Int32) <<< (v3 &&& 31)), .int (M.1 2 v3.toNatClampNeg)] (kX_lt (show kX 254 = 3 from rfl) rfl) (ceX_3 (show kX 254 = 3 from rfl)) rfl rfl (t_X3_orderByStrength w x.2.1 hq9) (by decide) (by decide) rfl (Nat.le_of_ble_eq_true rfl) rfl dX3_gatherMost_39 ?_
          show U shX w x r q8 42 [(0, .ref (w.2.2.1 254)), (1, .ref (w.2.2.1 1)), (2, .int a2), (3, .int v3)] []
          obtain rfl := Option.some.inj h
          exact u_sub [0, 1, 2, 3] rfl K5
set_option maxRecDepth 100000 in
set_option maxHeartbeats 4000000 in
theorem t_X3_gatherMost (w : Wp) (l : Launch) {a2 : Int32} {M : Mem} {q : Mem} (h : f_X3_gatherMost a2 M = some q) : Ct shX w l yX3_gatherMost cX3_gatherMost 4 none 44 [.ref (w.2.2.1 254), .ref (w.2.2.1 1), .int a2] M (none, q) := by
  rw [f_X3_gatherMost] at h
  refine ct_of shX_loc (by decide) (Nat.le_of_ble_eq_true rfl) rfl (fun x hx g => ?_)
  subst hx
  show U shX w x _ M 0 [(0, .ref (w.2.2.1 254)), (1, .ref (w.2.2.1 1)), (2, .int a2)] []
  generalize hr : ((none, q) : Option Value × Mem) = r
  have g : Gd shX w x RX3 cX3_gatherMost 4 none 44 := g
  refine u_aload_n g 0 dX3_gatherMost_0 rfl ?_
  refine u_iconst g (v := (0 : Int32)) dX3_gatherMost_1 rfl ?_
  refine pfX3_8 g (c := 254) rfl wf_X3_42 dX3_gatherMost_2 ?_
  refine u_iconst g (v := (0 : Int32)) dX3_gatherMost_5 rfl ?_
  refine u_istore_n g [(3, .int (0 : Int32)), (0, .ref (w.2.2.1 254)), (1, .ref (w.2.2.1 1)), (2, .int a2)] dX3_gatherMost_6 (by decide) rfl ?_
  obtain ⟨q1, hq2, h⟩ := ob_bind h
  refine u_sub [1, 2, 3, 0] rfl (s_X3_gatherMost_l1 g a2 fuelN (0 : Int32) (sI M 254 8 (0 : Int32)) _ hq2 ?_)
  show U shX w x r q1 48 [(0, .ref (w.2.2.1 254)), (1, .ref (w.2.2.1 1)), (2, .int a2)] []
  refine u_aload_n g 0 dX3_gatherMost_48 rfl ?_
  refine u_iconst g (v := (0 : Int32)) dX3_gatherMost_49 rfl ?_
  refine pfX3_9 g (c := 254) rfl wf_X3_45 dX3_gatherMost_50 ?_
  refine u_aload_n g 1 dX3_gatherMost_53 rfl ?_
  refine u_iload_n g 2 dX3_gatherMost_54 rfl ?_
  obtain ⟨q3, hq4, h⟩ := ob_bind h
  refine u_callV (st := []) g wv_X3_62 [.int a2] (kX_lt (show kX 1 = 5 from rfl) rfl) (ceX_5 (show kX 1 = 5 from rfl)) rfl rfl (t_X5_strengthOf w x.2.1 hq4) (by decide) (by decide) rfl (Nat.le_of_ble_eq_true rfl) rfl dX3_gatherMost_55 ?_
  show U shX w x r (sI q1 254 9 (0 : Int32)) 58 [(0, .ref (w.2.2.1 254)), (1, .ref (w.2.2.1 1)), (2, .int a2)] [.int q3]
  refine u_istore_n g [(3, .int q3), (0, .ref (w.2.2.1 254)), (1, .ref (w.2.2.1 1)), (2, .int a2)] dX3_gatherMost_58 (by decide) rfl ?_
  refine u_aload_n g 1 dX3_gatherMost_59 rfl ?_
  refine u_iconst g (v := (0 : Int32)) dX3_gatherMost_60 rfl ?_
  refine u_iconst g (v := (0 : Int32)) dX3_gatherMost_61 rfl ?_
  refine u_iload_n g 0 dX3_gatherMost_62 rfl ?_
  refine u_iload_n g 0 dX3_gatherMost_63 rfl ?_
  obtain ⟨q5, hq6, h⟩ := ob_bind h
  refine u_callS (st := []) g wv_X3_66 [.ref (w.2.2.1 254), .int (0 : Int32), .int (0 : Int32), .int q3, .int q3] (t_X3_takeStrong w x.2.1 hq6) (by decide) (by decide) rfl (Nat.le_of_ble_eq_true rfl) rfl dX3_gatherMost_64 ?_
  show U shX w x r q5 67 [(3, .int q3), (0, .ref (w.2.2.1 254)), (1, .ref (w.2.2.1 1)), (2, .int a2)] []
  exact u_vret g dX3_gatherMost_67 (by rw [← hr]; obtain rfl := Option.some.inj h; rfl)
set_option maxRecDepth 100000 in
set_option maxHeartbeats 4000000 in
theorem t_X3_dropRows (w : Wp) (l : Launch)  {M : Mem} {q : Mem} (h : f_X3_dropRows M = some q) : Ct shX w l yX3_dropRows cX3_dropRows 1 none 0 [.ref (w.2.2.1 254)] M (none, q) := by
  rw [f_X3_dropRows] at h
  refine ct_of shX_loc (by decide) (Nat.le_of_ble_eq_true rfl) rfl (fun x hx g => ?_)
  subst hx
  show U shX w x _ M 0 [(0, .ref (w.2.2.1 254))] []
  generalize hr : ((none, q) : Option Value × Mem) = r
  have g : Gd shX w x RX3 cX3_dropRows 1 none 0 := g
  refine u_aload_n g 0 dX3_dropRows_0 rfl ?_
  refine u_iconst g (v := (0 : Int32)) dX3_dropRows_1 rfl ?_
  refine pfX3_4 g (c := 254) rfl wf_X3_28 dX3_dropRows_2 ?_
  refine u_aload_n g 0 dX3_dropRows_5 rfl ?_
  refine u_iconst g (v := (0 : Int32)) dX3_dropRows_6 rfl ?_
  refine pfX3_5 g (c := 254) rfl wf_X3_32 (Or.inl rfl) dX3_dropRows_7 ?_
  exact u_vret g dX3_dropRows_10 (by rw [← hr]; obtain rfl := Option.some.inj h; rfl)
set_option maxRecDepth 100000 in
set_option maxHeartbeats 4000000 in
theorem t_X3_addRow (w : Wp) (l : Launch) {a1 : Int32} {M : Mem} {q : Mem} (h : f_X3_addRow a1 M = some q) : Ct shX w l yX3_addRow cX3_addRow 2 none 0 [.ref (w.2.2.1 254), .int a1] M (none, q) := by
  rw [f_X3_addRow] at h
  refine ct_of shX_loc (by decide) (Nat.le_of_ble_eq_true rfl) rfl (fun x hx g => ?_)
  subst hx
  show U shX w x _ M 0 [(0, .ref (w.2.2.1 254)), (1, .int a1)] []
  generalize hr : ((none, q) : Option Value × Mem) = r
  have g : Gd shX w x RX3 cX3_addRow 2 none 0 := g
  refine u_iload_n g 1 dX3_addRow_0 rfl ?_
  obtain ⟨q1, hq2, h⟩ := ob_bind h
  have K3 : U shX w x r q1 25 [(0, .ref (w.2.2.1 254)), (1, .int a1)] [] := by
    refine u_aload_n g 0 dX3_addRow_25 rfl ?_
    refine gfX3_5 g (c := 254) rfl wf_X3_32 (v := (q1.1 254 5)) rfl dX3_addRow_26 ?_
    refine u_if_ne g 52 dX3_addRow_29 (by decide) (fun b4 => ?_) (fun b4 => ?_)
    · have h := ob_neg b4 h
      exact u_vret g dX3_addRow_52 (by rw [← hr]; obtain rfl := Option.some.inj h; rfl)
    · have h := ob_pos b4 h
      refine u_aload_n g 0 dX3_addRow_32 rfl ?_
      refine gfX3_3 g (c := 254) rfl wf_X3_25 dX3_addRow_33 ?_
      refine u_aload_n g 0 dX3_addRow_36 rfl ?_
      refine gfX3_4 g (c := 254) rfl wf_X3_28 (v := (q1.1 254 4)) rfl dX3_addRow_37 ?_
      refine u_iload_n g 1 dX3_addRow_40 rfl ?_
      obtain ⟨e5, h⟩ := ob_if h
      refine aX_ist g (c := 260) 16 (by decide) rfl (inB_in e5) (j := (q1.1 254 4).toNatClampNeg) rfl dX3_addRow_41 ?_
      refine u_aload_n g 0 dX3_addRow_42 rfl ?_
      refine u_dup g dX3_addRow_43 rfl ?_
      refine gfX3_4 g (c := 254) rfl wf_X3_28 (v := (q1.1 254 4)) rfl dX3_addRow_44 ?_
      refine u_iconst g (v := (1 : Int32)) dX3_addRow_47 rfl ?_
      refine u_iadd g dX3_addRow_48 ?_
      refine pfX3_4 g (c := 254) rfl wf_X3_28 dX3_addRow_49 ?_
      exact u_vret g dX3_addRow_52 (by rw [← hr]; obtain rfl := Option.some.inj h; rfl)
  have h := hq2
  refine u_if_le g 20 dX3_addRow_1 (by decide) (fun b6 => ?_) (fun b6 => ?_)
  · have h := ob_pos b6 h
    refine u_aload_n g 0 dX3_addRow_20 rfl ?_
    refine u_iconst g (v := (1 : Int32)) dX3_addRow_21 rfl ?_
    refine pfX3_5 g (c := 254) rfl wf_X3_32 (Or.inr rfl) dX3_addRow_22 ?_
    obtain rfl := Option.some.inj h
    exact u_sub [0, 1] rfl K3
  · have h := ob_neg b6 h
    refine u_aload_n g 0 dX3_addRow_4 rfl ?_
    refine gfX3_4 g (c := 254) rfl wf_X3_28 (v := (M.1 254 4)) rfl dX3_addRow_5 ?_
    refine u_if_lt g 20 dX3_addRow_8 (by decide) (fun b7 => ?_) (fun b7 => ?_)
    · have h := ob_pos b7 h
      refine u_aload_n g 0 dX3_addRow_20 rfl ?_
      refine u_iconst g (v := (1 : Int32)) dX3_addRow_21 rfl ?_
      refine pfX3_5 g (c := 254) rfl wf_X3_32 (Or.inr rfl) dX3_addRow_22 ?_
      obtain rfl := Option.some.inj h
      exact u_sub [0, 1] rfl K3
    · have h := ob_neg b7 h
      refine u_aload_n g 0 dX3_addRow_11 rfl ?_
      refine gfX3_4 g (c := 254) rfl wf_X3_28 (v := (M.1 254 4)) rfl dX3_addRow_12 ?_
      refine u_bipush g (v := (16 : Int32)) dX3_addRow_15 rfl ?_
      refine u_icmp_lt g 25 dX3_addRow_17 (by decide) (fun b8 => ?_) (fun b8 => ?_)
      · have h := ob_pos b8 h
        obtain rfl := Option.some.inj h
        exact u_sub [0, 1] rfl K3
      · have h := ob_neg b8 h
        refine u_aload_n g 0 dX3_addRow_20 rfl ?_
        refine u_iconst g (v := (1 : Int32)) dX3_addRow_21 rfl ?_
        refine pfX3_5 g (c := 254) rfl wf_X3_32 (Or.inr rfl) dX3_addRow_22 ?_
        obtain rfl := Option.some.inj h
        exact u_sub [0, 1] rfl K3
set_option maxRecDepth 100000 in
set_option maxHeartbeats 4000000 in
theorem s_X3_keepersOfRows_l1 {w : Wp} {x : Cx} {r : Option Value × Mem} (g : Gd shX w x RX3 cX3_keepersOfRows 3 (some .int) 0)   (M : Mem) : ∀ (n : Nat) (v1 : Int32) (v2 : Int32) (q : Int32), f_X3_keepersOfRows_l1 M n v1 v2 = some q → U shX w x r M 27 [(1, .int q)] [] → U shX w x r M 4 [(0, .ref (w.2.2.1 254)), (1, .int v1), (2, .int v2)] [] := by
  intro n
  induction n with
  | zero => intro v1 v2 q h K; rw [f_X3_keepersOfRows_l1] at h; cases h
  | succ n ih =>
    intro v1 v2 q h K
    rw [f_X3_keepersOfRows_l1] at h
    refine u_iload_n g 2 dX3_keepersOfRows_4 rfl ?_
    refine u_aload_n g 0 dX3_keepersOfRows_5 rfl ?_
    refine gfX3_4 g (c := 254) rfl wf_X3_28 (v := (M.1 254 4)) rfl dX3_keepersOfRows_6 ?_
    refine u_icmp_ge g 27 dX3_keepersOfRows_9 (by decide) (fun b1 => ?_) (fun b1 => ?_)
    · have h := ob_pos b1 h
      obtain rfl := Option.some.inj h
      exact u_sub [1] rfl K
    · have h := ob_neg b1 h
      refine u_iload_n g 1 dX3_keepersOfRows_12 rfl ?_
      refine u_aload_n g 0 dX3_keepersOfRows_13 rfl ?_
      refine gfX3_3 g (c := 254) rfl wf_X3_25 dX3_keepersOfRows_14 ?_
      refine u_iload_n g 2 dX3_keepersOfRows_17 rfl ?_
      obtain ⟨e2, h⟩ := ob_if h
      refine aX_ild g (c := 260) 16 (by decide) rfl (v := (M.1 260 v2.toNatClampNeg)) (inB_in e2) rfl dX3_keepersOfRows_18 ?_
      refine u_iadd g dX3_keepersOfRows_19 ?_
      refine u_istore_n g [(1, .int (v1 + (M.1 260 v2.toNatClampNeg))), (0, .ref (w.2.2.1 254)), (2, .int v2)] dX3_keepersOfRows_20 (by decide) rfl ?_
      refine u_iinc g 2 [(2, .int (v2 + (1 : Int32))), (1, .int (v1 + (M.1 260 v2.toNatClampNeg))), (0, .ref (w.2.2.1 254))] dX3_keepersOfRows_21 rfl rfl (by decide) rfl ?_
      refine u_goto g 4 dX3_keepersOfRows_24 (by decide) ?_
      exact u_sub [2, 1, 0] rfl (ih (v1 + (M.1 260 v2.toNatClampNeg)) (v2 + (1 : Int32)) _ h K)
set_option maxRecDepth 100000 in
set_option maxHeartbeats 4000000 in
theorem t_X3_keepersOfRows (w : Wp) (l : Launch)  {M : Mem} {q : Int32} (h : f_X3_keepersOfRows M = some q) : Ct shX w l yX3_keepersOfRows cX3_keepersOfRows 3 (some .int) 0 [.ref (w.2.2.1 254)] M (some (.int q), M) := by
  rw [f_X3_keepersOfRows] at h
  refine ct_of shX_loc (by decide) (Nat.le_of_ble_eq_true rfl) rfl (fun x hx g => ?_)
  subst hx
  show U shX w x _ M 0 [(0, .ref (w.2.2.1 254))] []
  generalize hr : ((some (.int q), M) : Option Value × Mem) = r
  have g : Gd shX w x RX3 cX3_keepersOfRows 3 (some .int) 0 := g
  refine u_iconst g (v := (0 : Int32)) dX3_keepersOfRows_0 rfl ?_
  refine u_istore_n g [(1, .int (0 : Int32)), (0, .ref (w.2.2.1 254))] dX3_keepersOfRows_1 (by decide) rfl ?_
  refine u_iconst g (v := (0 : Int32)) dX3_keepersOfRows_2 rfl ?_
  refine u_istore_n g [(2, .int (0 : Int32)), (1, .int (0 : Int32)), (0, .ref (w.2.2.1 254))] dX3_keepersOfRows_3 (by decide) rfl ?_
  obtain ⟨q1, hq2, h⟩ := ob_bind h
  refine u_sub [2, 1, 0] rfl (s_X3_keepersOfRows_l1 g M fuelN (0 : Int32) (0 : Int32) _ hq2 ?_)
  show U shX w x r M 27 [(1, .int q1)] []
  refine u_iload_n g 0 dX3_keepersOfRows_27 rfl ?_
  exact u_iret g dX3_keepersOfRows_28 (by rw [← hr]; obtain rfl := Option.some.inj h; rfl)
set_option maxRecDepth 100000 in
set_option maxHeartbeats 4000000 in
theorem s_X3_chooseOne_l1 {w : Wp} {x : Cx} {r : Option Value × Mem} (g : Gd shX w x RX3 cX3_chooseOne 6 (some .int) 0) (a2 : Int32) (a3 : Int32) (a4 : Int32)  : ∀ (n : Nat) (v5 : Int32) (M : Mem) (q : Mem), f_X3_chooseOne_l1 a2 a3 a4 n v5 M = some q → U shX w x r q 65 [(4, .int a4)] [] → U shX w x r M 29 [(0, .ref (w.2.2.1 254)), (2, .int a2), (3, .int a3), (4, .int a4), (5, .int v5)] [] := by
  intro n
  induction n with
  | zero => intro v5 M q h K; rw [f_X3_chooseOne_l1] at h; cases h
  | succ n ih =>
    intro v5 M q h K
    rw [f_X3_chooseOne_l1] at h
    refine u_iload g 4 dX3_chooseOne_29 rfl ?_
    refine u_if_lt g 65 dX3_chooseOne_31 (by decide) (fun b4 => ?_) (fun b4 => ?_)
    · have h := ob_pos b4 h
      obtain rfl := Option.some.inj h
      exact u_sub [3] rfl K
    · have h := ob_neg b4 h
      refine u_aload_n g 0 dX3_chooseOne_34 rfl ?_
      refine gfX3_1 g (c := 254) rfl wf_X3_18 dX3_chooseOne_35 ?_
      refine u_iload g 4 dX3_chooseOne_38 rfl ?_
      refine u_aload_n g 0 dX3_chooseOne_40 rfl ?_
      refine gfX3_1 g (c := 254) rfl wf_X3_18 dX3_chooseOne_41 ?_
      refine u_iload g 4 dX3_chooseOne_44 rfl ?_
      refine u_iload_n g 2 dX3_chooseOne_46 rfl ?_
      obtain ⟨e5, h⟩ := ob_if h
      refine u_idiv g dX3_chooseOne_47 e5 ?_
      obtain ⟨e6, h⟩ := ob_if h
      refine aX_ild g (c := 258) 320 (by decide) rfl (v := (M.1 258 (v5 / a3).toNatClampNeg)) (inB_in e6) rfl dX3_chooseOne_48 ?_
      refine u_iconst g (v := (1 : Int32)) dX3_chooseOne_49 rfl ?_
      refine u_iload_n g 1 dX3_chooseOne_50 rfl ?_
      refine u_iload g 4 dX3_chooseOne_51 rfl ?_
      refine u_iload_n g 2 dX3_chooseOne_53 rfl ?_
      obtain ⟨e7, h⟩ := ob_if h
      refine u_irem g dX3_chooseOne_54 e7 ?_
      refine u_iadd g dX3_chooseOne_55 ?_
      refine u_ishl g dX3_chooseOne_56 ?_
      refine u_ior g dX3_chooseOne_57 ?_
      obtain ⟨e8, h⟩ := ob_if h
      refine aX_ist g (c := 258) 320 (by decide) rfl (inB_in e8) (j := v5.toNatClampNeg) rfl dX3_chooseOne_58 ?_
      refine u_iinc g 4 [(5, .int (v5 + (-1 : Int32))), (0, .ref (w.2.2.1 254)), (2, .int a2), (3, .int a3), (4, .int a4)] dX3_chooseOne_59 rfl rfl (by decide) rfl ?_
      refine u_goto g 29 dX3_chooseOne_62 (by decide) ?_
      exact u_sub [1, 2, 3, 4, 0] rfl (ih (v5 + (-1 : Int32)) (sI M 258 v5.toNatClampNeg ((M.1 258 (v5 / a3).toNatClampNeg) ||| ((1 : Int32) <<< ((a2 + (v5 - v5 / a3 * a3)) &&& 31)))) _ h K)
set_option maxRecDepth 100000 in
set_option maxHeartbeats 4000000 in
theorem t_X3_chooseOne (w : Wp) (l : Launch) {a1 : Int32} {a2 : Int32} {a3 : Int32} {M : Mem} {q : Int32 × Mem} (h : f_X3_chooseOne a1 a2 a3 M = some q) : Ct shX w l yX3_chooseOne cX3_chooseOne 6 (some .int) 0 [.ref (w.2.2.1 254), .int a1, .int a2, .int a3] M (some (.int q.1), q.2) := by
  rw [f_X3_chooseOne] at h
  refine ct_of shX_loc (by decide) (Nat.le_of_ble_eq_true rfl) rfl (fun x hx g => ?_)
  subst hx
  show U shX w x _ M 0 [(0, .ref (w.2.2.1 254)), (1, .int a1), (2, .int a2), (3, .int a3)] []
  generalize hr : ((some (.int q.1), q.2) : Option Value × Mem) = r
  have g : Gd shX w x RX3 cX3_chooseOne 6 (some .int) 0 := g
  refine u_iload_n g 1 dX3_chooseOne_0 rfl ?_
  refine u_iload_n g 3 dX3_chooseOne_1 rfl ?_
  refine u_imul g dX3_chooseOne_2 ?_
  refine u_istore g [(4, .int (a1 * a3)), (0, .ref (w.2.2.1 254)), (1, .int a1), (2, .int a2), (3, .int a3)] dX3_chooseOne_3 (by decide) rfl ?_
  refine u_iload_n g 2 dX3_chooseOne_5 rfl ?_
  refine u_if_lt g 21 dX3_chooseOne_6 (by decide) (fun b1 => ?_) (fun b1 => ?_)
  · have h := ob_pos b1 h
    refine u_iload_n g 2 dX3_chooseOne_21 rfl ?_
    exact u_iret g dX3_chooseOne_22 (by rw [← hr]; obtain rfl := Option.some.inj h; rfl)
  · have h := ob_neg b1 h
    refine u_iload_n g 4 dX3_chooseOne_9 rfl ?_
    refine u_if_le g 21 dX3_chooseOne_10 (by decide) (fun b2 => ?_) (fun b2 => ?_)
    · have h := ob_pos b2 h
      refine u_iload_n g 2 dX3_chooseOne_21 rfl ?_
      exact u_iret g dX3_chooseOne_22 (by rw [← hr]; obtain rfl := Option.some.inj h; rfl)
    · have h := ob_neg b2 h
      refine u_iload g 0 dX3_chooseOne_13 rfl ?_
      refine u_sipush g (v := (320 : Int32)) dX3_chooseOne_15 rfl ?_
      refine u_icmp_le g 23 dX3_chooseOne_18 (by decide) (fun b3 => ?_) (fun b3 => ?_)
      · have h := ob_pos b3 h
        refine u_iload g 0 dX3_chooseOne_23 rfl ?_
        refine u_iconst g (v := (1 : Int32)) dX3_chooseOne_25 rfl ?_
        refine u_isub g dX3_chooseOne_26 ?_
        refine u_istore g [(5, .int ((a1 * a3) - (1 : Int32))), (4, .int (a1 * a3)), (0, .ref (w.2.2.1 254)), (1, .int a1), (2, .int a2), (3, .int a3)] dX3_chooseOne_27 (by decide) rfl ?_
        obtain ⟨q4, hq5, h⟩ := ob_bind h
        refine u_sub [2, 4, 5, 1, 0] rfl (s_X3_chooseOne_l1 g a2 a3 (a1 * a3) fuelN ((a1 * a3) - (1 : Int32)) M _ hq5 ?_)
        show U shX w x r q4 65 [(4, .int (a1 * a3))] []
        refine u_iload g 0 dX3_chooseOne_65 rfl ?_
        exact u_iret g dX3_chooseOne_67 (by rw [← hr]; obtain rfl := Option.some.inj h; rfl)
      · have h := ob_neg b3 h
        refine u_iload_n g 2 dX3_chooseOne_21 rfl ?_
        exact u_iret g dX3_chooseOne_22 (by rw [← hr]; obtain rfl := Option.some.inj h; rfl)
