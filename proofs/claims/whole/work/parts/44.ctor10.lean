def fiX10 (ca : Nat → ClassId) (B i j : Nat) : Nat → va_E := fun c =>
  if c = 0 then .inr (10, [.ref (B + 1), .ref (B + 5), .int 0, .ref (B + 6), .int 0, .ref (B + 7), .ref (B + 9), .ref (B + 10), .ref (B + 252), .ref (B + 254), .ref (B + 263), .int 0])
  else if c < 5 then fiX5 ca (B + 1) (c - 1)
  else if c = 5 then .inl (ca 3, 24, .inr (.inr (.inr (.inr (fun q => if q < i then some (B + 264 + 2 * q) else none)))))
  else if c = 6 then .inl (ca 0, 120, .inl (fun _ => 0))
  else if c < 9 then fiX6 ca (B + 7) (c - 7)
  else if c = 9 then .inl (ca 4, 16, .inr (.inr (.inr (.inr (fun q => if q < j then some (B + 312 + 3 * q) else none)))))
  else if c < 252 then fiX4 ca (B + 10) 60 (c - 10)
  else if c < 254 then fiX8 ca (B + 252) (c - 252)
  else if c < 263 then fiX3 ca (B + 254) (c - 254)
  else if c < 264 then fiX2 ca (B + 263) (c - 263)
  else if c < 312 then fiX1 ca (B + 264 + 2 * ((c - 264) / 2)) ((c - 264) % 2)
  else fiX9 ca (B + 312 + 3 * ((c - 312) / 3)) ((c - 312) % 3)
def pre10 (ca : Nat → ClassId) (B : Nat) (fs : List Value) (i j : Nat) : Nat → va_E := fun c => if c = 0 then .inr (10, fs) else fiX10 ca B i j c
theorem pre_put {ca : Nat → ClassId} {B : Nat} {fs fs' : List Value} {i j : Nat} (c : Nat) : cu (pre10 ca B fs i j) 0 (.inr (10, fs')) c = pre10 ca B fs' i j c := by
  unfold cu pre10
  by_cases h : c = 0
  · rw [if_pos h, if_pos h]
  · rw [if_neg h, if_neg h, if_neg h]
theorem pre_arr {ca : Nat → ClassId} {B : Nat} {fs : List Value} {i j N : Nat} {e : va_E} (hN : N ≠ 0) (h : fiX10 ca B i j N = e) (c : Nat) : cu (pre10 ca B fs i j) N e c = pre10 ca B fs i j c := by
  unfold cu
  by_cases hc : c = N
  · subst hc
    rw [if_pos rfl]
    unfold pre10
    rw [if_neg hN, h]
  · rw [if_neg hc]
theorem pre_lo {ca : Nat → ClassId} {B : Nat} {fs : List Value} {i j N : Nat} {e : va_E} : ∀ c, c < N → pre10 ca B fs i j c = cu (pre10 ca B fs i j) N e c := fun c hc => by rw [cu_n _ _ (by omega)]
theorem blk_1 {ca : Nat → ClassId} {B : Nat} {fs : List Value} {i j : Nat} : ∀ c, c < 4 → pre10 ca B fs i j (1 + c) = fiX5 ca (B + 1) c := fun c hc => by
  unfold pre10 fiX10
  rw [if_neg (by omega), if_neg (by omega), if_pos (by omega), show 1 + c - 1 = c by omega]
theorem blk_7 {ca : Nat → ClassId} {B : Nat} {fs : List Value} {i j : Nat} : ∀ c, c < 2 → pre10 ca B fs i j (7 + c) = fiX6 ca (B + 7) c := fun c hc => by
  unfold pre10 fiX10
  rw [if_neg (by omega), if_neg (by omega), if_neg (by omega), if_neg (by omega), if_neg (by omega), if_pos (by omega), show 7 + c - 7 = c by omega]
theorem blk_10 {ca : Nat → ClassId} {B : Nat} {fs : List Value} {i j : Nat} : ∀ c, c < 242 → pre10 ca B fs i j (10 + c) = fiX4 ca (B + 10) 60 c := fun c hc => by
  unfold pre10 fiX10
  rw [if_neg (by omega), if_neg (by omega), if_neg (by omega), if_neg (by omega), if_neg (by omega), if_neg (by omega), if_neg (by omega), if_pos (by omega), show 10 + c - 10 = c by omega]
theorem blk_252 {ca : Nat → ClassId} {B : Nat} {fs : List Value} {i j : Nat} : ∀ c, c < 2 → pre10 ca B fs i j (252 + c) = fiX8 ca (B + 252) c := fun c hc => by
  unfold pre10 fiX10
  rw [if_neg (by omega), if_neg (by omega), if_neg (by omega), if_neg (by omega), if_neg (by omega), if_neg (by omega), if_neg (by omega), if_neg (by omega), if_pos (by omega), show 252 + c - 252 = c by omega]
theorem blk_254 {ca : Nat → ClassId} {B : Nat} {fs : List Value} {i j : Nat} : ∀ c, c < 9 → pre10 ca B fs i j (254 + c) = fiX3 ca (B + 254) c := fun c hc => by
  unfold pre10 fiX10
  rw [if_neg (by omega), if_neg (by omega), if_neg (by omega), if_neg (by omega), if_neg (by omega), if_neg (by omega), if_neg (by omega), if_neg (by omega), if_neg (by omega), if_pos (by omega), show 254 + c - 254 = c by omega]
theorem blk_263 {ca : Nat → ClassId} {B : Nat} {fs : List Value} {i j : Nat} : ∀ c, c < 1 → pre10 ca B fs i j (263 + c) = fiX2 ca (B + 263) c := fun c hc => by
  unfold pre10 fiX10
  rw [if_neg (by omega), if_neg (by omega), if_neg (by omega), if_neg (by omega), if_neg (by omega), if_neg (by omega), if_neg (by omega), if_neg (by omega), if_neg (by omega), if_neg (by omega), if_pos (by omega), show 263 + c - 263 = c by omega]
theorem blk_fam {ca : Nat → ClassId} {B : Nat} {fs : List Value} {i j k : Nat} (hk : k < 24) : ∀ c, c < 2 → pre10 ca B fs i j (264 + 2 * k + c) = fiX1 ca (B + (264 + 2 * k)) c := fun c hc => by
  unfold pre10 fiX10
  rw [if_neg (by omega), if_neg (by omega), if_neg (by omega), if_neg (by omega), if_neg (by omega), if_neg (by omega), if_neg (by omega), if_neg (by omega), if_neg (by omega), if_neg (by omega), if_neg (by omega), if_pos (by omega), show (264 + 2 * k + c - 264) / 2 = k by omega, show (264 + 2 * k + c - 264) % 2 = c by omega, show B + 264 + 2 * k = B + (264 + 2 * k) by omega]
theorem blk_pla {ca : Nat → ClassId} {B : Nat} {fs : List Value} {i j k : Nat} (hk : k < 16) : ∀ c, c < 3 → pre10 ca B fs i j (312 + 3 * k + c) = fiX9 ca (B + (312 + 3 * k)) c := fun c hc => by
  unfold pre10 fiX10
  rw [if_neg (by omega), if_neg (by omega), if_neg (by omega), if_neg (by omega), if_neg (by omega), if_neg (by omega), if_neg (by omega), if_neg (by omega), if_neg (by omega), if_neg (by omega), if_neg (by omega), if_neg (by omega), show (312 + 3 * k + c - 312) / 3 = k by omega, show (312 + 3 * k + c - 312) % 3 = c by omega, show B + 312 + 3 * k = B + (312 + 3 * k) by omega]
theorem pre_at5 {ca : Nat → ClassId} {B : Nat} {fs : List Value} {i j : Nat} : pre10 ca B fs i j 5 = .inl (ca 3, 24, .inr (.inr (.inr (.inr (fun q => if q < i then some (B + 264 + 2 * q) else none))))) := rfl
theorem pre_at9 {ca : Nat → ClassId} {B : Nat} {fs : List Value} {i j : Nat} : pre10 ca B fs i j 9 = .inl (ca 4, 16, .inr (.inr (.inr (.inr (fun q => if q < j then some (B + 312 + 3 * q) else none))))) := rfl
theorem pre_next5 {ca : Nat → ClassId} {B : Nat} {fs : List Value} {i j c : Nat} (hc : c ≠ 5) : pre10 ca B fs i j c = pre10 ca B fs (i + 1) j c := by
  unfold pre10 fiX10
  rw [if_neg hc, if_neg hc]
theorem pre_next9 {ca : Nat → ClassId} {B : Nat} {fs : List Value} {i j c : Nat} (hc : c ≠ 9) : pre10 ca B fs i j c = pre10 ca B fs i (j + 1) c := by
  unfold pre10 fiX10
  rw [if_neg hc, if_neg hc]
set_option maxRecDepth 100000 in
set_option maxHeartbeats 1000000 in
theorem c_X10_l2 (D : va_G) (ca : Nat → ClassId) {x : Cx} (B : Nat) (g : Gn D ca x RX10 cX10_init 2 5 359 21795) : ∀ (k i : Nat), i + k = 16 → V D x B (360, fiX10 ca B 24 16) 359 21795 (312 + 3 * i) (pre10 ca B [.ref (B + 1), .ref (B + 5), .int 0, .ref (B + 6), .int 0, .ref (B + 7), .ref (B + 9), .ref (B + 10), .ref (B + 252), .ref (B + 254), .ref (B + 263), .int 0] 24 i) (311 + 3 * i) (19779 + 126 * i) 140 [(1, .int (nI i)), (0, .ref B)] [] := by
  intro k
  induction k with
  | zero =>
    intro i hi
    have hi : i = 16 := by omega
    subst hi
    refine v_iload_n g 0 dX10_init_140 rfl ?_
    refine v_bipush g (v := 16) dX10_init_141 rfl ?_
    refine v_icmp_ge g 165 dX10_init_143 (by decide) (fun b => ?_) (fun b => ?_)
    · refine v_vret g dX10_init_165 (by decide) (by decide) rfl (fun c hc => ?_)
      unfold pre10
      by_cases h0 : c = 0
      · subst h0
        rfl
      · rw [if_neg h0]
    · exact absurd (show (16 : Int32) ≤ nI 16 by decide) b
  | succ k ih =>
    intro i hi
    refine v_iload_n g 0 dX10_init_140 rfl ?_
    refine v_bipush g (v := 16) dX10_init_141 rfl ?_
    refine v_icmp_ge g 165 dX10_init_143 (by decide) (fun b => ?_) (fun b => ?_)
    · exact absurd b (nI_ge (show i < 16 by omega) (by decide))
    · refine v_aload_n g 1 dX10_init_146 rfl ?_
      refine v_get g (c := 0) (fs := [.ref (B + 1), .ref (B + 5), .int 0, .ref (B + 6), .int 0, .ref (B + 7), .ref (B + 9), .ref (B + 10), .ref (B + 252), .ref (B + 254), .ref (B + 263), .int 0]) (by omega) rfl rfl inX10 6 (by decide) wf_X10_42 rfl rfl dX10_init_147 ?_
      refine v_iload_n g 0 dX10_init_150 rfl ?_
      refine v_new g (ci := 9) (fs := [.int 0, .int 0, .null]) rfl inX9 tyX9 tyX9_ok (tbG_of (List.mem_of_getElem? (i := 128) (by decide +kernel)) (by decide +kernel)) (tbG_of (List.mem_of_getElem? (i := 144) (by decide +kernel)) (by decide +kernel)) (tbG_of (List.mem_of_getElem? (i := 64) (by decide +kernel)) (by decide +kernel)) (fun j hj => by match j, hj with | 0, _ => rfl | 1, _ => rfl | 2, _ => rfl | q + 3, h => exact absurd h (by omega)) (by omega) (by omega) dX10_init_151 ?_
      refine v_dup g dX10_init_154 rfl ?_
      refine v_callN (N := 312 + 3 * i) (st := [.ref (B + (312 + 3 * i)), .int (nI i), .ref (B + 9)]) (ce' := pre10 ca B [.ref (B + 1), .ref (B + 5), .int 0, .ref (B + 6), .int 0, .ref (B + 7), .ref (B + 9), .ref (B + 10), .ref (B + 252), .ref (B + 254), .ref (B + 263), .int 0] 24 i) g (by decide +kernel) (tbG_of (List.mem_of_getElem? (i := 64) (by decide +kernel)) (by decide +kernel)) (tbG_of (List.mem_of_getElem? (i := 147) (by decide +kernel)) (by decide +kernel)) (tbG_of (List.mem_of_getElem? (i := 146) (by decide +kernel)) (by decide +kernel)) (by decide +kernel) rfl (c_X9_init D ca x.2.1 (B + (312 + 3 * i))) (cu_s _ _ _) (by decide) (by decide) (by omega) (by omega) (Nat.le_of_ble_eq_true rfl) dX10_init_155 pre_lo (blk_pla (by omega)) (N1 := 312 + 3 * i + 3) rfl ?_
      refine v_aast g (c := 9) (c2 := 312 + 3 * i) 4 (K := 16) (by omega) pre_at9 rfl (by omega) (vs := [.int 0, .int 0, .ref (B + (312 + 3 * i) + 1)]) (ci := 9) (by rw [show 312 + 3 * i = 312 + 3 * i + 0 from rfl, blk_pla (by omega) 0 (by decide)]; rfl) rfl (vp_in_nI (by omega) (by decide)) rfl rfl dX10_init_158 ?_
      refine v_iinc g 0 [(1, .int (nI i + 1)), (0, .ref B)] dX10_init_159 rfl rfl (by decide) rfl ?_
      refine v_goto g 140 dX10_init_162 (by decide) ?_
      rw [nI_1]
      refine v_eq (by omega) (by omega) (by omega) (fun c hc => ?_) (ih (i + 1) (by omega))
      by_cases h1 : c = 9
      · subst h1
        rw [cu_s, show B + (312 + 3 * i) = B + 312 + 3 * i by omega, up_if (by omega) (fun j => B + 312 + 3 * j)]
        rfl
      · rw [cu_n _ _ h1, pre_next9 h1]
set_option maxRecDepth 100000 in
set_option maxHeartbeats 1000000 in
theorem c_X10_l1 (D : va_G) (ca : Nat → ClassId) {x : Cx} (B : Nat) (g : Gn D ca x RX10 cX10_init 2 5 359 21795) : ∀ (k i : Nat), i + k = 24 → V D x B (360, fiX10 ca B 24 16) 359 21795 (264 + 2 * i) (pre10 ca B [.ref (B + 1), .ref (B + 5), .int 0, .ref (B + 6), .int 0, .ref (B + 7), .ref (B + 9), .ref (B + 10), .ref (B + 252), .ref (B + 254), .ref (B + 263), .int 0] i 0) (263 + 2 * i) (16827 + 123 * i) 113 [(1, .int (nI i)), (0, .ref B)] [] := by
  intro k
  induction k with
  | zero =>
    intro i hi
    have hi : i = 24 := by omega
    subst hi
    refine v_iload_n g 0 dX10_init_113 rfl ?_
    refine v_bipush g (v := 24) dX10_init_114 rfl ?_
    refine v_icmp_ge g 138 dX10_init_116 (by decide) (fun b => ?_) (fun b => ?_)
    · refine v_iconst g (v := 0) dX10_init_138 rfl ?_
      refine v_istore_n g [(1, .int 0), (0, .ref B)] dX10_init_139 (by decide) rfl ?_
      exact v_eq (N' := 312 + 3 * 0) (ck' := 311 + 3 * 0) (cs' := 19779 + 126 * 0) rfl rfl rfl (fun c hc => rfl) (c_X10_l2 D ca B g 16 0 rfl)
    · exact absurd (show (24 : Int32) ≤ nI 24 by decide) b
  | succ k ih =>
    intro i hi
    refine v_iload_n g 0 dX10_init_113 rfl ?_
    refine v_bipush g (v := 24) dX10_init_114 rfl ?_
    refine v_icmp_ge g 138 dX10_init_116 (by decide) (fun b => ?_) (fun b => ?_)
    · exact absurd b (nI_ge (show i < 24 by omega) (by decide))
    · refine v_aload_n g 1 dX10_init_119 rfl ?_
      refine v_get g (c := 0) (fs := [.ref (B + 1), .ref (B + 5), .int 0, .ref (B + 6), .int 0, .ref (B + 7), .ref (B + 9), .ref (B + 10), .ref (B + 252), .ref (B + 254), .ref (B + 263), .int 0]) (by omega) rfl rfl inX10 1 (by decide) wf_X10_18 rfl rfl dX10_init_120 ?_
      refine v_iload_n g 0 dX10_init_123 rfl ?_
      refine v_new g (ci := 1) (fs := [.int 0, .int 0, .null]) rfl inX1 tyX1 tyX1_ok (tbG_of (List.mem_of_getElem? (i := 108) (by decide +kernel)) (by decide +kernel)) (tbG_of (List.mem_of_getElem? (i := 280) (by decide +kernel)) (by decide +kernel)) (tbG_of (List.mem_of_getElem? (i := 69) (by decide +kernel)) (by decide +kernel)) (fun j hj => by match j, hj with | 0, _ => rfl | 1, _ => rfl | 2, _ => rfl | q + 3, h => exact absurd h (by omega)) (by omega) (by omega) dX10_init_124 ?_
      refine v_dup g dX10_init_127 rfl ?_
      refine v_callN (N := 264 + 2 * i) (st := [.ref (B + (264 + 2 * i)), .int (nI i), .ref (B + 5)]) (ce' := pre10 ca B [.ref (B + 1), .ref (B + 5), .int 0, .ref (B + 6), .int 0, .ref (B + 7), .ref (B + 9), .ref (B + 10), .ref (B + 252), .ref (B + 254), .ref (B + 263), .int 0] i 0) g (by decide +kernel) (tbG_of (List.mem_of_getElem? (i := 69) (by decide +kernel)) (by decide +kernel)) (tbG_of (List.mem_of_getElem? (i := 283) (by decide +kernel)) (by decide +kernel)) (tbG_of (List.mem_of_getElem? (i := 282) (by decide +kernel)) (by decide +kernel)) (by decide +kernel) rfl (c_X1_init D ca x.2.1 (B + (264 + 2 * i))) (cu_s _ _ _) (by decide) (by decide) (by omega) (by omega) (Nat.le_of_ble_eq_true rfl) dX10_init_128 pre_lo (blk_fam (by omega)) (N1 := 264 + 2 * i + 2) rfl ?_
      refine v_aast g (c := 5) (c2 := 264 + 2 * i) 3 (K := 24) (by omega) pre_at5 rfl (by omega) (vs := [.int 0, .int 0, .ref (B + (264 + 2 * i) + 1)]) (ci := 1) (by rw [show 264 + 2 * i = 264 + 2 * i + 0 from rfl, blk_fam (by omega) 0 (by decide)]; rfl) rfl (vp_in_nI (by omega) (by decide)) rfl rfl dX10_init_131 ?_
      refine v_iinc g 0 [(1, .int (nI i + 1)), (0, .ref B)] dX10_init_132 rfl rfl (by decide) rfl ?_
      refine v_goto g 113 dX10_init_135 (by decide) ?_
      rw [nI_1]
      refine v_eq (by omega) (by omega) (by omega) (fun c hc => ?_) (ih (i + 1) (by omega))
      by_cases h1 : c = 5
      · subst h1
        rw [cu_s, show B + (264 + 2 * i) = B + 264 + 2 * i by omega, up_if (by omega) (fun j => B + 264 + 2 * j)]
        rfl
      · rw [cu_n _ _ h1, pre_next5 h1]
set_option maxRecDepth 100000 in
set_option maxHeartbeats 1000000 in
theorem c_X10_init (D : va_G) (ca : Nat → ClassId) (l : Launch) (B : Nat) : Cn D ca l yX10_init cX10_init 2 5 359 21795 B (.inr (10, [.null, .null, .int 0, .null, .int 0, .null, .null, .null, .null, .null, .null, .int 0])) (360, fiX10 ca B 24 16) := by
  refine cn_of (by decide) rfl (by decide) (fun x hx g => ?_)
  subst hx
  have g : Gn D ca x RX10 cX10_init 2 5 359 21795 := g
  refine v_eq (N' := 1) (ck' := 0) (cs' := 0) (ce' := pre10 ca B [.null, .null, .int 0, .null, .int 0, .null, .null, .null, .null, .null, .null, .int 0] 0 0) rfl rfl rfl (fun c hc => by match c, hc with | 0, _ => rfl | q + 1, h => exact absurd h (by omega)) ?_
  refine v_aload_n g 0 dX10_init_0 rfl ?_
  refine v_objInit g (tbG_of (List.mem_of_getElem? (i := 79) (by decide +kernel)) (by decide +kernel)) (tbG_of (List.mem_of_getElem? (i := 80) (by decide +kernel)) (by decide +kernel)) (tbG_of (List.mem_of_getElem? (i := 81) (by decide +kernel)) (by decide +kernel)) (by decide) (by decide) dX10_init_1 ?_
  refine v_aload_n g 0 dX10_init_4 rfl ?_
  refine v_new g (ci := 5) (fs := [.int 0, .null, .null, .null]) rfl inX5 tyX5 tyX5_ok (tbG_of (List.mem_of_getElem? (i := 82) (by decide +kernel)) (by decide +kernel)) (tbG_of (List.mem_of_getElem? (i := 83) (by decide +kernel)) (by decide +kernel)) (tbG_of (List.mem_of_getElem? (i := 60) (by decide +kernel)) (by decide +kernel)) (fun j hj => by match j, hj with | 0, _ => rfl | 1, _ => rfl | 2, _ => rfl | 3, _ => rfl | q + 4, h => exact absurd h (by omega)) (by decide) (by decide) dX10_init_5 ?_
  refine v_dup g dX10_init_8 rfl ?_
  refine v_callN (N := 1) (st := [.ref (B + 1), .ref B]) (ce' := pre10 ca B [.null, .null, .int 0, .null, .int 0, .null, .null, .null, .null, .null, .null, .int 0] 0 0) g (by decide +kernel) (tbG_of (List.mem_of_getElem? (i := 60) (by decide +kernel)) (by decide +kernel)) (tbG_of (List.mem_of_getElem? (i := 86) (by decide +kernel)) (by decide +kernel)) (tbG_of (List.mem_of_getElem? (i := 85) (by decide +kernel)) (by decide +kernel)) (by decide +kernel) rfl (c_X5_init D ca x.2.1 (B + 1)) (cu_s _ _ _) (by decide) (by decide) (by decide) (by decide) (Nat.le_of_ble_eq_true rfl) dX10_init_9 pre_lo blk_1 (N1 := 5) rfl ?_
  refine v_putF g (c := 0) (fs := [.null, .null, .int 0, .null, .int 0, .null, .null, .null, .null, .null, .null, .int 0]) (Nat.le_of_ble_eq_true rfl) rfl rfl inX10 tyX10 tyX10_ok nmX10 0 (by decide) wf_X10_10 rfl rfl rfl rfl (Nat.le_of_ble_eq_true rfl) (fs' := [.ref (B + 1), .null, .int 0, .null, .int 0, .null, .null, .null, .null, .null, .null, .int 0]) rfl rfl dX10_init_12 ?_
  refine v_eq (N' := 5) (ce' := pre10 ca B [.ref (B + 1), .null, .int 0, .null, .int 0, .null, .null, .null, .null, .null, .null, .int 0] 0 0) rfl rfl rfl (fun c _ => pre_put c) ?_
  refine v_aload_n g 0 dX10_init_15 rfl ?_
  refine v_bipush g (v := 24) dX10_init_16 rfl ?_
  refine v_newq g 3 (K := 24) rfl (tbG_of (List.mem_of_getElem? (i := 108) (by decide +kernel)) (by decide +kernel)) g.2.2.2.2.2.2.2.2.2.2.2.1 (by decide) (by decide) (by decide) (by decide) (by decide) dX10_init_18 ?_
  refine v_eq (N' := 6) (ce' := pre10 ca B [.ref (B + 1), .null, .int 0, .null, .int 0, .null, .null, .null, .null, .null, .null, .int 0] 0 0) rfl rfl rfl (fun c _ => pre_arr (by decide) (by unfold fiX10; simp) c) ?_
  refine v_putF g (c := 0) (fs := [.ref (B + 1), .null, .int 0, .null, .int 0, .null, .null, .null, .null, .null, .null, .int 0]) (Nat.le_of_ble_eq_true rfl) rfl rfl inX10 tyX10 tyX10_ok nmX10 1 (by decide) wf_X10_18 rfl rfl rfl rfl (Nat.le_of_ble_eq_true rfl) (fs' := [.ref (B + 1), .ref (B + 5), .int 0, .null, .int 0, .null, .null, .null, .null, .null, .null, .int 0]) rfl rfl dX10_init_21 ?_
  refine v_eq (N' := 6) (ce' := pre10 ca B [.ref (B + 1), .ref (B + 5), .int 0, .null, .int 0, .null, .null, .null, .null, .null, .null, .int 0] 0 0) rfl rfl rfl (fun c _ => pre_put c) ?_
  refine v_aload_n g 0 dX10_init_24 rfl ?_
  refine v_iconst g (v := 0) dX10_init_25 rfl ?_
  refine v_put g (c := 0) (fs := [.ref (B + 1), .ref (B + 5), .int 0, .null, .int 0, .null, .null, .null, .null, .null, .null, .int 0]) (Nat.le_of_ble_eq_true rfl) rfl rfl inX10 tyX10 tyX10_ok nmX10 2 (by decide) wf_X10_22 rfl rfl rfl (Nat.le_of_ble_eq_true rfl) (fs' := [.ref (B + 1), .ref (B + 5), .int 0, .null, .int 0, .null, .null, .null, .null, .null, .null, .int 0]) rfl rfl dX10_init_26 ?_
  refine v_eq (N' := 6) (ce' := pre10 ca B [.ref (B + 1), .ref (B + 5), .int 0, .null, .int 0, .null, .null, .null, .null, .null, .null, .int 0] 0 0) rfl rfl rfl (fun c _ => pre_put c) ?_
  refine v_aload_n g 0 dX10_init_29 rfl ?_
  refine v_bipush g (v := 120) dX10_init_30 rfl ?_
  refine v_newa g (atype := .int) (ty := .int) 0 (K := 120) (a0 := (120, .inl (fun _ => 0))) rfl (hra_int _) rfl (tbG_of (List.mem_of_getElem? (i := 107) (by decide +kernel)) (by decide +kernel)) (arr0_int 120) (by decide) (by decide) (by decide) (by decide) (by decide) dX10_init_32 ?_
  refine v_eq (N' := 7) (ce' := pre10 ca B [.ref (B + 1), .ref (B + 5), .int 0, .null, .int 0, .null, .null, .null, .null, .null, .null, .int 0] 0 0) rfl rfl rfl (fun c _ => pre_arr (by decide) rfl c) ?_
  refine v_putF g (c := 0) (fs := [.ref (B + 1), .ref (B + 5), .int 0, .null, .int 0, .null, .null, .null, .null, .null, .null, .int 0]) (Nat.le_of_ble_eq_true rfl) rfl rfl inX10 tyX10 tyX10_ok nmX10 3 (by decide) wf_X10_26 rfl rfl rfl rfl (Nat.le_of_ble_eq_true rfl) (fs' := [.ref (B + 1), .ref (B + 5), .int 0, .ref (B + 6), .int 0, .null, .null, .null, .null, .null, .null, .int 0]) rfl rfl dX10_init_34 ?_
  refine v_eq (N' := 7) (ce' := pre10 ca B [.ref (B + 1), .ref (B + 5), .int 0, .ref (B + 6), .int 0, .null, .null, .null, .null, .null, .null, .int 0] 0 0) rfl rfl rfl (fun c _ => pre_put c) ?_
  refine v_aload_n g 0 dX10_init_37 rfl ?_
  refine v_iconst g (v := 0) dX10_init_38 rfl ?_
  refine v_put g (c := 0) (fs := [.ref (B + 1), .ref (B + 5), .int 0, .ref (B + 6), .int 0, .null, .null, .null, .null, .null, .null, .int 0]) (Nat.le_of_ble_eq_true rfl) rfl rfl inX10 tyX10 tyX10_ok nmX10 4 (by decide) wf_X10_30 rfl rfl rfl (Nat.le_of_ble_eq_true rfl) (fs' := [.ref (B + 1), .ref (B + 5), .int 0, .ref (B + 6), .int 0, .null, .null, .null, .null, .null, .null, .int 0]) rfl rfl dX10_init_39 ?_
  refine v_eq (N' := 7) (ce' := pre10 ca B [.ref (B + 1), .ref (B + 5), .int 0, .ref (B + 6), .int 0, .null, .null, .null, .null, .null, .null, .int 0] 0 0) rfl rfl rfl (fun c _ => pre_put c) ?_
  refine v_aload_n g 0 dX10_init_42 rfl ?_
  refine v_new g (ci := 6) (fs := [.int 0, .int 0, .null]) rfl inX6 tyX6 tyX6_ok (tbG_of (List.mem_of_getElem? (i := 110) (by decide +kernel)) (by decide +kernel)) (tbG_of (List.mem_of_getElem? (i := 111) (by decide +kernel)) (by decide +kernel)) (tbG_of (List.mem_of_getElem? (i := 61) (by decide +kernel)) (by decide +kernel)) (fun j hj => by match j, hj with | 0, _ => rfl | 1, _ => rfl | 2, _ => rfl | q + 3, h => exact absurd h (by omega)) (by decide) (by decide) dX10_init_43 ?_
  refine v_dup g dX10_init_46 rfl ?_
  refine v_callN (N := 7) (st := [.ref (B + 7), .ref B]) (ce' := pre10 ca B [.ref (B + 1), .ref (B + 5), .int 0, .ref (B + 6), .int 0, .null, .null, .null, .null, .null, .null, .int 0] 0 0) g (by decide +kernel) (tbG_of (List.mem_of_getElem? (i := 61) (by decide +kernel)) (by decide +kernel)) (tbG_of (List.mem_of_getElem? (i := 114) (by decide +kernel)) (by decide +kernel)) (tbG_of (List.mem_of_getElem? (i := 113) (by decide +kernel)) (by decide +kernel)) (by decide +kernel) rfl (c_X6_init D ca x.2.1 (B + 7)) (cu_s _ _ _) (by decide) (by decide) (by decide) (by decide) (Nat.le_of_ble_eq_true rfl) dX10_init_47 pre_lo blk_7 (N1 := 9) rfl ?_
  refine v_putF g (c := 0) (fs := [.ref (B + 1), .ref (B + 5), .int 0, .ref (B + 6), .int 0, .null, .null, .null, .null, .null, .null, .int 0]) (Nat.le_of_ble_eq_true rfl) rfl rfl inX10 tyX10 tyX10_ok nmX10 5 (by decide) wf_X10_36 rfl rfl rfl rfl (Nat.le_of_ble_eq_true rfl) (fs' := [.ref (B + 1), .ref (B + 5), .int 0, .ref (B + 6), .int 0, .ref (B + 7), .null, .null, .null, .null, .null, .int 0]) rfl rfl dX10_init_50 ?_
  refine v_eq (N' := 9) (ce' := pre10 ca B [.ref (B + 1), .ref (B + 5), .int 0, .ref (B + 6), .int 0, .ref (B + 7), .null, .null, .null, .null, .null, .int 0] 0 0) rfl rfl rfl (fun c _ => pre_put c) ?_
  refine v_aload_n g 0 dX10_init_53 rfl ?_
  refine v_bipush g (v := 16) dX10_init_54 rfl ?_
  refine v_newq g 4 (K := 16) rfl (tbG_of (List.mem_of_getElem? (i := 128) (by decide +kernel)) (by decide +kernel)) g.2.2.2.2.2.2.2.2.2.2.2.2.1 (by decide) (by decide) (by decide) (by decide) (by decide) dX10_init_56 ?_
  refine v_eq (N' := 10) (ce' := pre10 ca B [.ref (B + 1), .ref (B + 5), .int 0, .ref (B + 6), .int 0, .ref (B + 7), .null, .null, .null, .null, .null, .int 0] 0 0) rfl rfl rfl (fun c _ => pre_arr (by decide) (by unfold fiX10; simp) c) ?_
  refine v_putF g (c := 0) (fs := [.ref (B + 1), .ref (B + 5), .int 0, .ref (B + 6), .int 0, .ref (B + 7), .null, .null, .null, .null, .null, .int 0]) (Nat.le_of_ble_eq_true rfl) rfl rfl inX10 tyX10 tyX10_ok nmX10 6 (by decide) wf_X10_42 rfl rfl rfl rfl (Nat.le_of_ble_eq_true rfl) (fs' := [.ref (B + 1), .ref (B + 5), .int 0, .ref (B + 6), .int 0, .ref (B + 7), .ref (B + 9), .null, .null, .null, .null, .int 0]) rfl rfl dX10_init_59 ?_
  refine v_eq (N' := 10) (ce' := pre10 ca B [.ref (B + 1), .ref (B + 5), .int 0, .ref (B + 6), .int 0, .ref (B + 7), .ref (B + 9), .null, .null, .null, .null, .int 0] 0 0) rfl rfl rfl (fun c _ => pre_put c) ?_
  refine v_aload_n g 0 dX10_init_62 rfl ?_
  refine v_new g (ci := 4) (fs := [.null, .int 0, .int 0]) rfl inX4 tyX4 tyX4_ok (tbG_of (List.mem_of_getElem? (i := 130) (by decide +kernel)) (by decide +kernel)) (tbG_of (List.mem_of_getElem? (i := 131) (by decide +kernel)) (by decide +kernel)) (tbG_of (List.mem_of_getElem? (i := 62) (by decide +kernel)) (by decide +kernel)) (fun j hj => by match j, hj with | 0, _ => rfl | 1, _ => rfl | 2, _ => rfl | q + 3, h => exact absurd h (by omega)) (by decide) (by decide) dX10_init_63 ?_
  refine v_dup g dX10_init_66 rfl ?_
  refine v_callI (N := 10) (st := [.ref (B + 10), .ref B]) (ce' := pre10 ca B [.ref (B + 1), .ref (B + 5), .int 0, .ref (B + 6), .int 0, .ref (B + 7), .ref (B + 9), .null, .null, .null, .null, .int 0] 0 0) g (tbG_of (List.mem_of_getElem? (i := 132) (by decide +kernel)) (by decide +kernel)) (tbG_of (List.mem_of_getElem? (i := 62) (by decide +kernel)) (by decide +kernel)) (tbG_of (List.mem_of_getElem? (i := 134) (by decide +kernel)) (by decide +kernel)) (tbG_of (List.mem_of_getElem? (i := 133) (by decide +kernel)) (by decide +kernel)) (by decide +kernel) rfl (c_X4_init D ca x.2.1 (B + 10)) (cu_s _ _ _) (by decide) (by decide) (by decide) (by decide) (Nat.le_of_ble_eq_true rfl) dX10_init_67 pre_lo blk_10 (N1 := 252) rfl ?_
  refine v_putF g (c := 0) (fs := [.ref (B + 1), .ref (B + 5), .int 0, .ref (B + 6), .int 0, .ref (B + 7), .ref (B + 9), .null, .null, .null, .null, .int 0]) (Nat.le_of_ble_eq_true rfl) rfl rfl inX10 tyX10 tyX10_ok nmX10 7 (by decide) wf_X10_49 rfl rfl rfl rfl (Nat.le_of_ble_eq_true rfl) (fs' := [.ref (B + 1), .ref (B + 5), .int 0, .ref (B + 6), .int 0, .ref (B + 7), .ref (B + 9), .ref (B + 10), .null, .null, .null, .int 0]) rfl rfl dX10_init_70 ?_
  refine v_eq (N' := 252) (ce' := pre10 ca B [.ref (B + 1), .ref (B + 5), .int 0, .ref (B + 6), .int 0, .ref (B + 7), .ref (B + 9), .ref (B + 10), .null, .null, .null, .int 0] 0 0) rfl rfl rfl (fun c _ => pre_put c) ?_
  refine v_aload_n g 0 dX10_init_73 rfl ?_
  refine v_new g (ci := 8) (fs := [.int 0, .null]) rfl inX8 tyX8 tyX8_ok (tbG_of (List.mem_of_getElem? (i := 195) (by decide +kernel)) (by decide +kernel)) (tbG_of (List.mem_of_getElem? (i := 196) (by decide +kernel)) (by decide +kernel)) (tbG_of (List.mem_of_getElem? (i := 65) (by decide +kernel)) (by decide +kernel)) (fun j hj => by match j, hj with | 0, _ => rfl | 1, _ => rfl | q + 2, h => exact absurd h (by omega)) (by decide) (by decide) dX10_init_74 ?_
  refine v_dup g dX10_init_77 rfl ?_
  refine v_callN (N := 252) (st := [.ref (B + 252), .ref B]) (ce' := pre10 ca B [.ref (B + 1), .ref (B + 5), .int 0, .ref (B + 6), .int 0, .ref (B + 7), .ref (B + 9), .ref (B + 10), .null, .null, .null, .int 0] 0 0) g (by decide +kernel) (tbG_of (List.mem_of_getElem? (i := 65) (by decide +kernel)) (by decide +kernel)) (tbG_of (List.mem_of_getElem? (i := 199) (by decide +kernel)) (by decide +kernel)) (tbG_of (List.mem_of_getElem? (i := 198) (by decide +kernel)) (by decide +kernel)) (by decide +kernel) rfl (c_X8_init D ca x.2.1 (B + 252)) (cu_s _ _ _) (by decide) (by decide) (by decide) (by decide) (Nat.le_of_ble_eq_true rfl) dX10_init_78 pre_lo blk_252 (N1 := 254) rfl ?_
  refine v_putF g (c := 0) (fs := [.ref (B + 1), .ref (B + 5), .int 0, .ref (B + 6), .int 0, .ref (B + 7), .ref (B + 9), .ref (B + 10), .null, .null, .null, .int 0]) (Nat.le_of_ble_eq_true rfl) rfl rfl inX10 tyX10 tyX10_ok nmX10 8 (by decide) wf_X10_56 rfl rfl rfl rfl (Nat.le_of_ble_eq_true rfl) (fs' := [.ref (B + 1), .ref (B + 5), .int 0, .ref (B + 6), .int 0, .ref (B + 7), .ref (B + 9), .ref (B + 10), .ref (B + 252), .null, .null, .int 0]) rfl rfl dX10_init_81 ?_
  refine v_eq (N' := 254) (ce' := pre10 ca B [.ref (B + 1), .ref (B + 5), .int 0, .ref (B + 6), .int 0, .ref (B + 7), .ref (B + 9), .ref (B + 10), .ref (B + 252), .null, .null, .int 0] 0 0) rfl rfl rfl (fun c _ => pre_put c) ?_
  refine v_aload_n g 0 dX10_init_84 rfl ?_
  refine v_new g (ci := 3) (fs := [.null, .null, .null, .null, .int 0, .int 0, .null, .null, .int 0, .int 0]) rfl inX3 tyX3 tyX3_ok (tbG_of (List.mem_of_getElem? (i := 210) (by decide +kernel)) (by decide +kernel)) (tbG_of (List.mem_of_getElem? (i := 211) (by decide +kernel)) (by decide +kernel)) (tbG_of (List.mem_of_getElem? (i := 66) (by decide +kernel)) (by decide +kernel)) (fun j hj => by match j, hj with | 0, _ => rfl | 1, _ => rfl | 2, _ => rfl | 3, _ => rfl | 4, _ => rfl | 5, _ => rfl | 6, _ => rfl | 7, _ => rfl | 8, _ => rfl | 9, _ => rfl | q + 10, h => exact absurd h (by omega)) (by decide) (by decide) dX10_init_85 ?_
  refine v_dup g dX10_init_88 rfl ?_
  refine v_callN (N := 254) (st := [.ref (B + 254), .ref B]) (ce' := pre10 ca B [.ref (B + 1), .ref (B + 5), .int 0, .ref (B + 6), .int 0, .ref (B + 7), .ref (B + 9), .ref (B + 10), .ref (B + 252), .null, .null, .int 0] 0 0) g (by decide +kernel) (tbG_of (List.mem_of_getElem? (i := 66) (by decide +kernel)) (by decide +kernel)) (tbG_of (List.mem_of_getElem? (i := 214) (by decide +kernel)) (by decide +kernel)) (tbG_of (List.mem_of_getElem? (i := 213) (by decide +kernel)) (by decide +kernel)) (by decide +kernel) rfl (c_X3_init D ca x.2.1 (B + 254)) (cu_s _ _ _) (by decide) (by decide) (by decide) (by decide) (Nat.le_of_ble_eq_true rfl) dX10_init_89 pre_lo blk_254 (N1 := 263) rfl ?_
  refine v_putF g (c := 0) (fs := [.ref (B + 1), .ref (B + 5), .int 0, .ref (B + 6), .int 0, .ref (B + 7), .ref (B + 9), .ref (B + 10), .ref (B + 252), .null, .null, .int 0]) (Nat.le_of_ble_eq_true rfl) rfl rfl inX10 tyX10 tyX10_ok nmX10 9 (by decide) wf_X10_63 rfl rfl rfl rfl (Nat.le_of_ble_eq_true rfl) (fs' := [.ref (B + 1), .ref (B + 5), .int 0, .ref (B + 6), .int 0, .ref (B + 7), .ref (B + 9), .ref (B + 10), .ref (B + 252), .ref (B + 254), .null, .int 0]) rfl rfl dX10_init_92 ?_
  refine v_eq (N' := 263) (ce' := pre10 ca B [.ref (B + 1), .ref (B + 5), .int 0, .ref (B + 6), .int 0, .ref (B + 7), .ref (B + 9), .ref (B + 10), .ref (B + 252), .ref (B + 254), .null, .int 0] 0 0) rfl rfl rfl (fun c _ => pre_put c) ?_
  refine v_aload_n g 0 dX10_init_95 rfl ?_
  refine v_new g (ci := 2) (fs := [.int 0, .int 0]) rfl inX2 tyX2 tyX2_ok (tbG_of (List.mem_of_getElem? (i := 265) (by decide +kernel)) (by decide +kernel)) (tbG_of (List.mem_of_getElem? (i := 266) (by decide +kernel)) (by decide +kernel)) (tbG_of (List.mem_of_getElem? (i := 68) (by decide +kernel)) (by decide +kernel)) (fun j hj => by match j, hj with | 0, _ => rfl | 1, _ => rfl | q + 2, h => exact absurd h (by omega)) (by decide) (by decide) dX10_init_96 ?_
  refine v_dup g dX10_init_99 rfl ?_
  refine v_callN (N := 263) (st := [.ref (B + 263), .ref B]) (ce' := pre10 ca B [.ref (B + 1), .ref (B + 5), .int 0, .ref (B + 6), .int 0, .ref (B + 7), .ref (B + 9), .ref (B + 10), .ref (B + 252), .ref (B + 254), .null, .int 0] 0 0) g (by decide +kernel) (tbG_of (List.mem_of_getElem? (i := 68) (by decide +kernel)) (by decide +kernel)) (tbG_of (List.mem_of_getElem? (i := 269) (by decide +kernel)) (by decide +kernel)) (tbG_of (List.mem_of_getElem? (i := 268) (by decide +kernel)) (by decide +kernel)) (by decide +kernel) rfl (c_X2_init D ca x.2.1 (B + 263)) (cu_s _ _ _) (by decide) (by decide) (by decide) (by decide) (Nat.le_of_ble_eq_true rfl) dX10_init_100 pre_lo blk_263 (N1 := 264) rfl ?_
  refine v_putF g (c := 0) (fs := [.ref (B + 1), .ref (B + 5), .int 0, .ref (B + 6), .int 0, .ref (B + 7), .ref (B + 9), .ref (B + 10), .ref (B + 252), .ref (B + 254), .null, .int 0]) (Nat.le_of_ble_eq_true rfl) rfl rfl inX10 tyX10 tyX10_ok nmX10 10 (by decide) wf_X10_70 rfl rfl rfl rfl (Nat.le_of_ble_eq_true rfl) (fs' := [.ref (B + 1), .ref (B + 5), .int 0, .ref (B + 6), .int 0, .ref (B + 7), .ref (B + 9), .ref (B + 10), .ref (B + 252), .ref (B + 254), .ref (B + 263), .int 0]) rfl rfl dX10_init_103 ?_
  refine v_eq (N' := 264) (ce' := pre10 ca B [.ref (B + 1), .ref (B + 5), .int 0, .ref (B + 6), .int 0, .ref (B + 7), .ref (B + 9), .ref (B + 10), .ref (B + 252), .ref (B + 254), .ref (B + 263), .int 0] 0 0) rfl rfl rfl (fun c _ => pre_put c) ?_
  refine v_aload_n g 0 dX10_init_106 rfl ?_
  refine v_iconst g (v := 0) dX10_init_107 rfl ?_
  refine v_put g (c := 0) (fs := [.ref (B + 1), .ref (B + 5), .int 0, .ref (B + 6), .int 0, .ref (B + 7), .ref (B + 9), .ref (B + 10), .ref (B + 252), .ref (B + 254), .ref (B + 263), .int 0]) (Nat.le_of_ble_eq_true rfl) rfl rfl inX10 tyX10 tyX10_ok nmX10 11 (by decide) wf_X10_74 rfl rfl rfl (Nat.le_of_ble_eq_true rfl) (fs' := [.ref (B + 1), .ref (B + 5), .int 0, .ref (B + 6), .int 0, .ref (B + 7), .ref (B + 9), .ref (B + 10), .ref (B + 252), .ref (B + 254), .ref (B + 263), .int 0]) rfl rfl dX10_init_108 ?_
  refine v_eq (N' := 264) (ce' := pre10 ca B [.ref (B + 1), .ref (B + 5), .int 0, .ref (B + 6), .int 0, .ref (B + 7), .ref (B + 9), .ref (B + 10), .ref (B + 252), .ref (B + 254), .ref (B + 263), .int 0] 0 0) rfl rfl rfl (fun c _ => pre_put c) ?_
  refine v_iconst g (v := 0) dX10_init_111 rfl ?_
  refine v_istore_n g [(1, .int 0), (0, .ref B)] dX10_init_112 (by decide) rfl ?_
  exact v_eq (N' := 264 + 2 * 0) (ck' := 263 + 2 * 0) (cs' := 16827 + 123 * 0) rfl rfl rfl (fun c hc => rfl) (c_X10_l1 D ca B g 24 0 rfl)
