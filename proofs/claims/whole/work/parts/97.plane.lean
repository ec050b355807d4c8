/-! plane -/
theorem there_ {M1 M2 : Mem} {kn w : Nat} (hk : kn ≤ 16) (hw : w < 2 ^ 20) (h1 : M1.1 1 0 = nI kn) (h2 : M2.1 0 3 = nI kn) (a : Int32) : (f_X5_areThere a (nI w) M1 = some 0 ∧ f_X11_areKeepers a (nI w) M2 = some 0) ∨ (f_X5_areThere a (nI w) M1 = some 1 ∧ f_X11_areKeepers a (nI w) M2 = some 1 ∧ ∃ j, a = nI j ∧ j + w ≤ kn ∧ j < kn) := by
  unfold f_X5_areThere f_X11_areKeepers
  rw [h1, h2]
  rcases pk_ix a (n := kn) (by omega) with ha | ha | ⟨j, hj, rfl⟩
  · left; rw [if_pos ha, if_pos ha]; exact ⟨rfl, rfl⟩
  · left
    by_cases h0 : a < 0
    · rw [if_pos h0, if_pos h0]; exact ⟨rfl, rfl⟩
    · rw [if_neg h0, if_neg h0, if_pos ha, if_pos ha]; exact ⟨rfl, rfl⟩
  · rw [if_neg (nI_pos (show j < 2 ^ 31 by omega)), if_neg (nI_pos (show j < 2 ^ 31 by omega)), if_neg (ifle_no hj (by omega)), if_neg (ifle_no hj (by omega)), if_neg (nI_pos (show w < 2 ^ 31 by omega)), pk_sub (by omega)]
    by_cases hlt : kn - j < w
    · left; rw [if_pos (nI_lt hlt (by omega))]; exact ⟨rfl, rfl⟩
    · right
      rw [if_neg (nI_nlt (show w ≤ kn - j by omega) (by omega))]
      exact ⟨rfl, rfl, j, rfl, by omega, hj⟩
def ln7 (i : Nat) : Nat := (2 ^ i ||| 2 ^ ((i + 1) % 7)) ||| 2 ^ ((i + 3) % 7)
def ln13 (i : Nat) : Nat := ((2 ^ i ||| 2 ^ ((i + 1) % 13)) ||| 2 ^ ((i + 3) % 13)) ||| 2 ^ ((i + 9) % 13)
theorem ln7_b : ∀ i, i < 7 → 1 ≤ ln7 i ∧ ln7 i < 2 ^ 7 := by decide +kernel
theorem ln13_b : ∀ i, i < 13 → 1 ≤ ln13 i ∧ ln13 i < 2 ^ 13 := by decide +kernel
theorem pt7 : ∀ i, i < 7 → f_X3_point (nI i) 7 = some (nI (2 ^ i)) ∧ f_X3_point (nI i + (1 : Int32)) 7 = some (nI (2 ^ ((i + 1) % 7))) ∧ f_X3_point (nI i + (3 : Int32)) 7 = some (nI (2 ^ ((i + 3) % 7))) := by decide +kernel
theorem pt13 : ∀ i, i < 13 → f_X3_point (nI i) 13 = some (nI (2 ^ i)) ∧ f_X3_point (nI i + (1 : Int32)) 13 = some (nI (2 ^ ((i + 1) % 13))) ∧ f_X3_point (nI i + (3 : Int32)) 13 = some (nI (2 ^ ((i + 3) % 13))) ∧ f_X3_point (nI i + (9 : Int32)) 13 = some (nI (2 ^ ((i + 9) % 13))) := by decide +kernel
theorem py7 : ∀ i, i < 7 → ((((1 : Int32) <<< (nI i &&& 31)) ||| ((1 : Int32) <<< (((nI i + (1 : Int32)) - (nI i + (1 : Int32)) / (7 : Int32) * (7 : Int32)) &&& 31))) ||| ((1 : Int32) <<< (((nI i + (3 : Int32)) - (nI i + (3 : Int32)) / (7 : Int32) * (7 : Int32)) &&& 31))) = nI (ln7 i) := by decide +kernel
theorem py13 : ∀ i, i < 13 → (((((1 : Int32) <<< (nI i &&& 31)) ||| ((1 : Int32) <<< (((nI i + (1 : Int32)) - (nI i + (1 : Int32)) / (13 : Int32) * (13 : Int32)) &&& 31))) ||| ((1 : Int32) <<< (((nI i + (3 : Int32)) - (nI i + (3 : Int32)) / (13 : Int32) * (13 : Int32)) &&& 31))) ||| ((1 : Int32) <<< (((nI i + (9 : Int32)) - (nI i + (9 : Int32)) / (13 : Int32) * (13 : Int32)) &&& 31))) = nI (ln13 i) := by decide +kernel
theorem shl_ {x a : Nat} (ha : a < 32) (h : x * 2 ^ a < 2 ^ 32) : nI x <<< (nI a &&& 31) = nI (x * 2 ^ a) := pk_shlN (nI a &&& 31) a (s_l a ha) h
theorem planeX7 {M : Mem} {m a : Nat} (hp : PS M m) (h : a + 7 ≤ m) : ∃ N, f_X3_gatherPlane 7 (nI a) M = some N ∧ GX M N (fun s => ∃ i, i < 7 ∧ s = ln7 i * 2 ^ a) := by
  have hm := hp.2.1
  obtain ⟨N, e, g⟩ := loopGX (fun n v N => f_X3_gatherPlane_l1 7 (nI a) n v N) 7 (by omega) (fun i s => s = ln7 i * 2 ^ a) M (fun k N hN => by
      show f_X3_gatherPlane_l1 7 (nI a) (k + 1) (nI 7) N = _
      rw [f_X3_gatherPlane_l1, if_pos (by decide)]) (fun k i N hi hN => by
      have hb := (ln7_b i hi).2
      have hlt : ln7 i * 2 ^ a < 2 ^ m := Nat.lt_of_lt_of_le (Nat.mul_lt_mul_of_pos_right hb (Nat.two_pow_pos a)) (by rw [← Nat.pow_add]; exact Nat.pow_le_pow_right (by decide) (by omega))
      have hm2 : 2 ^ m ≤ 65536 := p16 hm
      obtain ⟨N', e, g⟩ := putG (PS.keep hp hN) hlt
      refine ⟨N', g, ?_⟩
      obtain ⟨q1, q2, q3⟩ := pt7 i hi
      show f_X3_gatherPlane_l1 7 (nI a) (k + 1) (nI i) N = f_X3_gatherPlane_l1 7 (nI a) k (nI (i + 1)) N'
      rw [f_X3_gatherPlane_l1, if_neg (show ¬ (7 : Int32) ≤ nI i from ifle_no (c := 7) hi (by decide)), q1, q2, q3, Option.bind_some, Option.bind_some, Option.bind_some, if_neg (by decide), Option.bind_some, nx_or, nx_or]
      show Option.bind (f_X7_put (nI (ln7 i) <<< (nI a &&& 31)) N) _ = _
      rw [shl_ (by omega) (by omega), e, Option.bind_some, nI_1])
  refine ⟨N, ?_, g⟩
  have e : f_X3_gatherPlane_l1 7 (nI a) fuelN 0 M = some N := e
  unfold f_X3_gatherPlane
  rw [e, Option.bind_some]
theorem planeX13 {M : Mem} {m a : Nat} (hp : PS M m) (h : a + 13 ≤ m) : ∃ N, f_X3_gatherPlane 13 (nI a) M = some N ∧ GX M N (fun s => ∃ i, i < 13 ∧ s = ln13 i * 2 ^ a) := by
  have hm := hp.2.1
  obtain ⟨N, e, g⟩ := loopGX (fun n v N => f_X3_gatherPlane_l1 13 (nI a) n v N) 13 (by omega) (fun i s => s = ln13 i * 2 ^ a) M (fun k N hN => by
      show f_X3_gatherPlane_l1 13 (nI a) (k + 1) (nI 13) N = _
      rw [f_X3_gatherPlane_l1, if_pos (by decide)]) (fun k i N hi hN => by
      have hb := (ln13_b i hi).2
      have hlt : ln13 i * 2 ^ a < 2 ^ m := Nat.lt_of_lt_of_le (Nat.mul_lt_mul_of_pos_right hb (Nat.two_pow_pos a)) (by rw [← Nat.pow_add]; exact Nat.pow_le_pow_right (by decide) (by omega))
      have hm2 : 2 ^ m ≤ 65536 := p16 hm
      obtain ⟨N', e, g⟩ := putG (PS.keep hp hN) hlt
      refine ⟨N', g, ?_⟩
      obtain ⟨q1, q2, q3, q4⟩ := pt13 i hi
      show f_X3_gatherPlane_l1 13 (nI a) (k + 1) (nI i) N = f_X3_gatherPlane_l1 13 (nI a) k (nI (i + 1)) N'
      rw [f_X3_gatherPlane_l1, if_neg (show ¬ (13 : Int32) ≤ nI i from ifle_no (c := 13) hi (by decide)), q1, q2, q3, q4, Option.bind_some, Option.bind_some, Option.bind_some, if_pos rfl, Option.bind_some, Option.bind_some, nx_or, nx_or, nx_or]
      show Option.bind (f_X7_put (nI (ln13 i) <<< (nI a &&& 31)) N) _ = _
      rw [shl_ (by omega) (by omega), e, Option.bind_some, nI_1])
  refine ⟨N, ?_, g⟩
  have e : f_X3_gatherPlane_l1 13 (nI a) fuelN 0 M = some N := e
  unfold f_X3_gatherPlane
  rw [e, Option.bind_some]
theorem planeY7 {M : Mem} {a : Nat} (h : a + 7 ≤ 16) : ∃ N, f_X11_plane_l1 2 (nI a) 7 fuelN 0 M = some N ∧ GY M N (fun s => ∃ i, i < 7 ∧ s = ln7 i * 2 ^ a) := by
  exact loopGY (fun n v N => f_X11_plane_l1 2 (nI a) 7 n v N) 7 (by omega) (fun i s => s = ln7 i * 2 ^ a) M (fun k N hN => by
      show f_X11_plane_l1 2 (nI a) 7 (k + 1) (nI 7) N = _
      rw [f_X11_plane_l1, if_pos (by decide)]) (fun k i N hi hN => by
      have hb := (ln7_b i hi).2
      have hlt : ln7 i * 2 ^ a < 2 ^ 16 := Nat.lt_of_lt_of_le (Nat.mul_lt_mul_of_pos_right hb (Nat.two_pow_pos a)) (by rw [← Nat.pow_add]; exact Nat.pow_le_pow_right (by decide) (by omega))
      refine ⟨_, markG N (ln7 i * 2 ^ a), ?_⟩
      show f_X11_plane_l1 2 (nI a) 7 (k + 1) (nI i) N = f_X11_plane_l1 2 (nI a) 7 k (nI (i + 1)) _
      rw [f_X11_plane_l1, if_neg (show ¬ (7 : Int32) ≤ nI i from ifle_no (c := 7) hi (by decide)), if_pos (show ¬ (7 : Int32) = 0 by decide), if_pos (show ¬ (7 : Int32) = 0 by decide), if_neg (show ¬ (2 : Int32) = 3 by decide), Option.bind_some, py7 i hi, shl_ (by omega) (by omega), if_pos (inB_nI hlt (by decide)), nI_clamp (by omega), nI_1])
theorem planeY13 {M : Mem} {a : Nat} (h : a + 13 ≤ 16) : ∃ N, f_X11_plane_l1 3 (nI a) 13 fuelN 0 M = some N ∧ GY M N (fun s => ∃ i, i < 13 ∧ s = ln13 i * 2 ^ a) := by
  exact loopGY (fun n v N => f_X11_plane_l1 3 (nI a) 13 n v N) 13 (by omega) (fun i s => s = ln13 i * 2 ^ a) M (fun k N hN => by
      show f_X11_plane_l1 3 (nI a) 13 (k + 1) (nI 13) N = _
      rw [f_X11_plane_l1, if_pos (by decide)]) (fun k i N hi hN => by
      have hb := (ln13_b i hi).2
      have hlt : ln13 i * 2 ^ a < 2 ^ 16 := Nat.lt_of_lt_of_le (Nat.mul_lt_mul_of_pos_right hb (Nat.two_pow_pos a)) (by rw [← Nat.pow_add]; exact Nat.pow_le_pow_right (by decide) (by omega))
      refine ⟨_, markG N (ln13 i * 2 ^ a), ?_⟩
      show f_X11_plane_l1 3 (nI a) 13 (k + 1) (nI i) N = f_X11_plane_l1 3 (nI a) 13 k (nI (i + 1)) _
      rw [f_X11_plane_l1, if_neg (show ¬ (13 : Int32) ≤ nI i from ifle_no (c := 13) hi (by decide)), if_pos (show ¬ (13 : Int32) = 0 by decide), if_pos (show ¬ (13 : Int32) = 0 by decide), if_pos (show (3 : Int32) = 3 from rfl), if_pos (show ¬ (13 : Int32) = 0 by decide), Option.bind_some, py13 i hi, shl_ (by omega) (by omega), if_pos (inB_nI hlt (by decide)), nI_clamp (by omega), nI_1])
theorem in23 (x : Int32) : (f_X11_in x 2 3 = some 0 ∧ ¬ x = 2 ∧ ¬ x = 3) ∨ (f_X11_in x 2 3 = some 1 ∧ (x = 2 ∨ x = 3)) := by
  unfold f_X11_in
  by_cases h1 : x < 2
  · left
    rw [if_pos h1]
    exact ⟨rfl, fun q => by rw [q] at h1; exact absurd h1 (by decide), fun q => by rw [q] at h1; exact absurd h1 (by decide)⟩
  · by_cases h2 : (3 : Int32) < x
    · left
      rw [if_neg h1, if_pos h2]
      exact ⟨rfl, fun q => by rw [q] at h2; exact absurd h2 (by decide), fun q => by rw [q] at h2; exact absurd h2 (by decide)⟩
    · right
      rw [if_neg h1, if_neg h2]
      refine ⟨rfl, ?_⟩
      rw [Int32.lt_iff_toInt_lt] at h1 h2
      have e2 : (2 : Int32).toInt = 2 := rfl
      have e3 : (3 : Int32).toInt = 3 := rfl
      rw [← Int32.toInt_inj, ← Int32.toInt_inj]
      omega
set_option maxRecDepth 10000 in
theorem step_plane : St_plane Rel := by
  intro a b M1 M2 H
  have Hn1 := Rel_no H 1
  have Hn2 := Rel_no H 2
  obtain ⟨z, h, hC, hL, hS, hs⟩ := id H
  obtain ⟨h1, h2, h3, h4, -⟩ := id hC
  have hI := h4.inv
  have hk := hI.1.1
  have h23 : (sI M2 0 5 0).1 0 3 = nI (zKn z) := by rw [sI_1, if_neg (by decide)]; exact h2.1.1
  unfold f_X10_plane f_X11_plane
  rcases in23 a with ⟨e, n2, n3⟩ | ⟨e, ha⟩
  · rw [if_neg n2, if_neg n3, e]; exact ⟨_, _, rfl, rfl, rfl, Hn2⟩
  obtain ⟨B0, b1, b2, b3⟩ := noSetsY (sI M2 0 5 0)
  have kB0 : KeepY M2 B0 := (k5 M2).trans (keepY_14 b2)
  rcases ha with rfl | rfl
  · rw [if_pos rfl, if_pos rfl, Option.bind_some, e, Option.bind_some, if_neg one_ne, Option.bind_some]
    rcases there_ (w := 7) hk (by decide) h1.1.1 h23 b with ⟨t1, t2⟩ | ⟨t1, t2, j, rfl, hj, hj2⟩
    · have t1 : f_X5_areThere b 7 M1 = some 0 := t1
      have t2 : f_X11_areKeepers b 7 (sI M2 0 5 0) = some 0 := t2
      rw [t1, t2]; exact ⟨_, _, rfl, rfl, rfl, Hn1⟩
    have t1 : f_X5_areThere (nI j) 7 M1 = some 1 := t1
    have t2 : f_X11_areKeepers (nI j) 7 (sI M2 0 5 0) = some 1 := t2
    obtain ⟨B, b4, b5⟩ := planeY7 (M := B0) (a := j) (by omega)
    have kB : KeepY M2 B := kB0.trans (keepY_14 b5.1)
    rw [t1, t2, Option.bind_some, if_neg one_ne, Option.bind_some, if_neg one_ne, b1, Option.bind_some, b4, Option.bind_some]
    by_cases hfn : zFn z < 24
    · obtain ⟨A0, a1, a2, a3, a4, a5⟩ := begun hI.1.1 h1.1.1
      obtain ⟨A, a6, a7⟩ := planeX7 (a := j) a2 (by omega)
      obtain ⟨r, N1, N2, e1, e2, hR⟩ := fin (kd := 5) hC hL hS hfn (by omega) (a4.trans a7.keep) (PS.keep a2 a7.1) (gotX a5 a7) kB (gotY b3 b5) (fun s ⟨i, hi, e⟩ => by
        rw [e]
        have hb := ln7_b i hi
        refine ⟨Nat.le_trans hb.1 (Nat.le_mul_of_pos_right _ (Nat.two_pow_pos j)), Nat.lt_of_lt_of_le (Nat.mul_lt_mul_of_pos_right hb.2 (Nat.two_pow_pos j)) (by rw [← Nat.pow_add]; exact Nat.pow_le_pow_right (by decide) (by omega))⟩) ⟨_, 0, by omega, rfl⟩
      rw [room_yes h1.2.1.1 hfn, Option.bind_some, if_neg one_ne, a1, Option.bind_some, a6, Option.bind_some, show (5 : Int32) = nI 5 from rfl, e1, e2]
      exact ⟨_, _, rfl, rfl, rfl, hR⟩
    · have h24 : zFn z = 24 := by have := hI.2.1.1; omega
      obtain ⟨e2, hR⟩ := full H kB (by rw [h2.2.1.1, h24]) 5
      rw [room_no (by rw [h1.2.1.1, h24]), e2]
      exact ⟨_, _, rfl, rfl, rfl, hR⟩
  · rw [if_neg (show ¬ (3 : Int32) = 2 by decide), if_pos rfl, if_neg (show ¬ (3 : Int32) = 2 by decide), Option.bind_some, e, Option.bind_some, if_neg one_ne, Option.bind_some]
    rcases there_ (w := 13) hk (by decide) h1.1.1 h23 b with ⟨t1, t2⟩ | ⟨t1, t2, j, rfl, hj, hj2⟩
    · have t1 : f_X5_areThere b 13 M1 = some 0 := t1
      have t2 : f_X11_areKeepers b 13 (sI M2 0 5 0) = some 0 := t2
      rw [t1, t2]; exact ⟨_, _, rfl, rfl, rfl, Hn1⟩
    have t1 : f_X5_areThere (nI j) 13 M1 = some 1 := t1
    have t2 : f_X11_areKeepers (nI j) 13 (sI M2 0 5 0) = some 1 := t2
    obtain ⟨B, b4, b5⟩ := planeY13 (M := B0) (a := j) (by omega)
    have kB : KeepY M2 B := kB0.trans (keepY_14 b5.1)
    rw [t1, t2, Option.bind_some, if_neg one_ne, Option.bind_some, if_neg one_ne, b1, Option.bind_some, b4, Option.bind_some]
    by_cases hfn : zFn z < 24
    · obtain ⟨A0, a1, a2, a3, a4, a5⟩ := begun hI.1.1 h1.1.1
      obtain ⟨A, a6, a7⟩ := planeX13 (a := j) a2 (by omega)
      obtain ⟨r, N1, N2, e1, e2, hR⟩ := fin (kd := 5) hC hL hS hfn (by omega) (a4.trans a7.keep) (PS.keep a2 a7.1) (gotX a5 a7) kB (gotY b3 b5) (fun s ⟨i, hi, e⟩ => by
        rw [e]
        have hb := ln13_b i hi
        refine ⟨Nat.le_trans hb.1 (Nat.le_mul_of_pos_right _ (Nat.two_pow_pos j)), Nat.lt_of_lt_of_le (Nat.mul_lt_mul_of_pos_right hb.2 (Nat.two_pow_pos j)) (by rw [← Nat.pow_add]; exact Nat.pow_le_pow_right (by decide) (by omega))⟩) ⟨_, 0, by omega, rfl⟩
      rw [room_yes h1.2.1.1 hfn, Option.bind_some, if_neg one_ne, a1, Option.bind_some, a6, Option.bind_some, show (5 : Int32) = nI 5 from rfl, e1, e2]
      exact ⟨_, _, rfl, rfl, rfl, hR⟩
    · have h24 : zFn z = 24 := by have := hI.2.1.1; omega
      obtain ⟨e2, hR⟩ := full H kB (by rw [h2.2.1.1, h24]) 5
      rw [room_no (by rw [h1.2.1.1, h24]), e2]
      exact ⟨_, _, rfl, rfl, rfl, hR⟩
