/-! grid, wall -/
theorem keepX_258 {M N : Mem} (h : ∀ d, d ≠ 258 → N.1 d = M.1 d) : KeepX M N := by
  refine ⟨⟨by rw [h 0 (by decide)], fun c hc => h c (by omega)⟩, by rw [h 0 (by decide)], h 6 (by decide), by rw [h 252 (by decide)], h 253 (by decide)⟩
theorem keepY_rows {M N : Mem} (h : ∀ d, d ≠ 14 → d ≠ 19 → N.1 d = M.1 d) : KeepY M N := by
  refine ⟨⟨⟨?_, ?_, ?_, ?_⟩, fun c hc => h c (by omega) (by omega)⟩, ?_, h 4 (by decide) (by decide), ?_, h 12 (by decide) (by decide)⟩ <;> rw [h 0 (by decide) (by decide)]
/-- the rows of the class while they are added -/
def RwX (M A : Mem) (l : Nat → Nat) (R i : Nat) : Prop := KeepX M A ∧ R ≤ i ∧ A.1 254 4 = nI R ∧ (R = i → A.1 254 5 = 0) ∧ (R < i → A.1 254 5 = 1 ∧ l R = 0) ∧ ∀ j, j < R → A.1 260 j = nI (l j) ∧ 1 ≤ l j
theorem addRow_ {M A : Mem} {l : Nat → Nat} {R i : Nat} (h : RwX M A l R i) (hi : i < 16) (hl : l i ≤ 16) : ∃ N R', f_X3_addRow (nI (l i)) A = some N ∧ RwX M N l R' (i + 1) := by
  obtain ⟨h1, h2, h3, h4, h5, h6⟩ := h
  have hA : ∀ v, KeepX M (sI A 254 5 v) := fun v => h1.trans (keepX_scr _ _ _ (by omega))
  have c0 : ¬ (A.1 254 4) < 0 := by rw [h3]; exact nI_pos (by omega)
  have c16 : (A.1 254 4) < (16 : Int32) := by rw [h3]; exact nI_lt (b := 16) (by omega) (by decide)
  unfold f_X3_addRow
  by_cases e : R = i
  · have h50 := h4 e
    by_cases l0 : l i = 0
    · refine ⟨sI A 254 5 1, R, ?_, hA 1, by omega, by rw [sI_1, if_neg (by decide)]; exact h3, fun q => by omega, fun _ => ⟨by rw [sI_1, if_pos ⟨rfl, rfl⟩], by rw [e]; exact l0⟩, fun j hj => by rw [sI_off _ _ _ _ (by decide)]; exact h6 j hj⟩
      rw [l0, if_pos (by decide), Option.bind_some, if_neg (by rw [sI_1, if_pos ⟨rfl, rfl⟩]; decide)]
    · refine ⟨sI (sI A 260 R (nI (l i))) 254 4 (nI (R + 1)), R + 1, ?_, (h1.trans (keepX_scr _ _ _ (by omega))).trans (keepX_scr _ _ _ (by omega)), by omega, by rw [sI_1, if_pos ⟨rfl, rfl⟩], fun _ => by rw [sI_1, if_neg (by decide), sI_off _ _ _ _ (by decide)]; exact h50, fun q => by omega, fun j hj => ?_⟩
      · rw [if_neg (nI_nle (by omega) (by omega)), if_neg c0, if_pos c16, Option.bind_some, if_pos h50, h3, if_pos (inB_nI (show R < 16 by omega) (by decide)), nI_clamp (by omega), nI_1]
      · rw [sI_off _ _ _ _ (by decide), sI_1]
        by_cases ej : j = R
        · rw [if_pos ⟨rfl, ej⟩, ej, e]; exact ⟨rfl, by omega⟩
        · rw [if_neg (by omega)]; exact h6 j (by omega)
  · have h51 := h5 (by omega)
    by_cases l0 : l i = 0
    · refine ⟨sI A 254 5 1, R, ?_, hA 1, by omega, by rw [sI_1, if_neg (by decide)]; exact h3, fun q => by omega, fun _ => ⟨by rw [sI_1, if_pos ⟨rfl, rfl⟩], h51.2⟩, fun j hj => by rw [sI_off _ _ _ _ (by decide)]; exact h6 j hj⟩
      rw [l0, if_pos (by decide), Option.bind_some, if_neg (by rw [sI_1, if_pos ⟨rfl, rfl⟩]; decide)]
    · refine ⟨A, R, ?_, h1, by omega, h3, fun q => by omega, fun _ => h51, h6⟩
      rw [if_neg (nI_nle (by omega) (by omega)), if_neg c0, if_pos c16, Option.bind_some, if_neg (by rw [h51.1]; decide)]
theorem dropX (M : Mem) (l : Nat → Nat) : ∃ N, f_X3_dropRows M = some N ∧ RwX M N l 0 0 := by
  refine ⟨_, rfl, (keepX_scr M 4 0 (by omega)).trans (keepX_scr _ _ _ (by omega)), Nat.le_refl _, by rw [sI_1, if_neg (by decide), sI_1, if_pos ⟨rfl, rfl⟩]; rfl, fun _ => by rw [sI_1, if_pos ⟨rfl, rfl⟩], fun q => by omega, fun j hj => by omega⟩
/-- the rows stand on both sides: they settle alike -/
theorem rowsFin {M1 M2 A B : Mem} {z : Sg} {h : List Ac} {kd R base : Nat} {len : Nat → Nat} (hR : Rel M1 M2) (H : Core M1 M2 z h) (hL : ListR M1 M2 (zKn z)) (hS : SheetR M1 M2) (hkd : kd ≤ 10) (ok : RowOk len base R (zKn z)) (kA : KeepX M1 A) (a4 : A.1 254 4 = nI R) (a260 : ∀ j, j < R → A.1 260 j = nI (len j)) (hb : base < zKn z) (kB : KeepY M2 B) (hy : RowY B len base R) :
    ∃ r N1 N2 C, f_X10_settleRows (nI base) (nI kd) A = some (r, N1) ∧ f_X11_comeRows B = some C ∧ f_X11_made (nI kd) C = some (r, N2) ∧ Rel N1 N2 := by
  obtain ⟨h1, h2, h3, h4, -⟩ := id H
  have hI := h4.inv
  obtain ⟨o1, o2, o3, o4, o5⟩ := id ok
  obtain ⟨C, c1, c2, c3⟩ := rowsY ok hy
  have kC : KeepY M2 C := kB.trans (keepY_rows c2)
  have A10 : A.1 1 0 = nI (zKn z) := by rw [kA.1.2 1 (by omega)]; exact h1.1.1
  have A02 : A.1 0 2 = nI (zFn z) := by rw [kA.1.1]; exact h1.2.1.1
  have ht : f_X5_areThere (nI base) (nI (psum len R)) A = some 1 := by
    unfold f_X5_areThere
    rw [A10, if_neg (nI_pos (by omega)), if_neg (ifle_no hb (by omega)), if_neg (nI_pos (by omega)), pk_sub (by omega), if_neg (nI_nlt (show psum len R ≤ zKn z - base by omega) (by omega))]
  unfold f_X10_settleRows
  rw [rowsX_sum o2 a4 a260, Option.bind_some, ht, Option.bind_some, if_neg one_ne]
  by_cases hfn : zFn z < 24
  · obtain ⟨D, d1, d2, d3, d4, d5⟩ := begun hI.1.1 A10
    obtain ⟨E, e1, e2, e3⟩ := rowsX (kn := zKn z) d2 (by omega) ok (by rw [d3 254 (by decide)]; exact a4) (fun j hj => by rw [d3 260 (by decide)]; exact a260 j hj)
    obtain ⟨r, N1, N2, f1, f2, hRel⟩ := fin (G := Gr len base R) (kd := kd) H hL hS hfn hkd (kA.trans (d4.trans (keepX_258 e2))) (PS.keep2 d2 (e2 255 (by decide))) (fun s hs => by
      rw [e3 s, d5 s hs]
      constructor
      · rintro (q | q)
        · cases q
        · exact q
      · intro q; exact Or.inr q) kC c3 (fun s hs => Gr_b ok hs) (Gr_ex ok)
    refine ⟨r, N1, N2, C, ?_, c1, f2, hRel⟩
    rw [room_yes A02 hfn, Option.bind_some, if_neg one_ne, d1, Option.bind_some, e1, Option.bind_some, f1, Option.bind_some]
  · have h24 : zFn z = 24 := by have := hI.2.1.1; omega
    obtain ⟨e2, -⟩ := full hR kC (by rw [h2.2.1.1, h24]) (nI kd)
    refine ⟨-1, sI A 0 11 4, sI C 0 4 4, C, ?_, c1, e2, Rel_keep hR (kA.trans (keepX_st _ _)) (kC.trans (keepY_f _ _ (by omega))) (by rw [st_X, st_Y])⟩
    rw [room_no (by rw [A02, h24])]
    rfl
theorem gridY {M : Mem} {R w base : Nat} (hR : R ≤ 16) (h : M.1 0 27 = nI R) : ∃ N, f_X11_grid_l1 (nI w) (nI base) fuelN 0 M = some N ∧ (∀ d, d ≠ 17 → d ≠ 18 → N.1 d = M.1 d) ∧ ∀ j, j < R → N.1 17 j = nI (base + j * w) ∧ N.1 18 j = nI w := by
  refine loop_go (F := fun n v N => f_X11_grid_l1 (nI w) (nI base) n v N) R (by omega) (fun i N => (∀ d, d ≠ 17 → d ≠ 18 → N.1 d = M.1 d) ∧ ∀ j, j < i → N.1 17 j = nI (base + j * w) ∧ N.1 18 j = nI w) _ (fun n N hN => ⟨N, ?_, hN⟩) (fun n i N hi hN => Or.inl ⟨sI (sI N 17 i (nI (base + i * w))) 18 i (nI w), ⟨fun d q1 q2 => ?_, fun j hj => ?_⟩, ?_⟩) 0 M (by omega) ⟨fun _ _ _ => rfl, fun j hj => by omega⟩
  · show f_X11_grid_l1 (nI w) (nI base) (n + 1) (nI R) N = _
    rw [f_X11_grid_l1, hN.1 0 (by decide) (by decide), h, if_pos (Int32.le_refl _)]
  · rw [sI_off _ _ _ _ q2, sI_off _ _ _ _ q1]; exact hN.1 d q1 q2
  · rw [sI_off _ _ _ _ (show 17 ≠ 18 by decide), sI_1, sI_1]
    by_cases e : j = i
    · rw [if_pos ⟨rfl, e⟩, if_pos ⟨rfl, e⟩, e]; exact ⟨rfl, rfl⟩
    · rw [if_neg (by omega), if_neg (by omega), sI_off _ _ _ _ (show 18 ≠ 17 by decide)]; exact hN.2 j (by omega)
  · show f_X11_grid_l1 (nI w) (nI base) (n + 1) (nI i) N = f_X11_grid_l1 (nI w) (nI base) n (nI (i + 1)) _
    rw [f_X11_grid_l1, hN.1 0 (by decide) (by decide), h, if_neg (ifle_no hi (by omega)), if_pos (inB_nI (show i < 17 by omega) (by decide)), if_pos (inB_nI (show i < 17 by omega) (by decide)), nI_clamp (by omega), pk_mul, nI_add, nI_1]
theorem psum_const (w : Nat) : ∀ n, psum (fun _ => w) n = n * w := by
  intro n
  induction n with
  | zero => rw [Nat.zero_mul]; rfl
  | succ n ih => show psum (fun _ => w) n + w = _; rw [ih, Nat.add_mul, Nat.one_mul]
theorem gridX {M : Mem} {R w : Nat} (hR : R ≤ 16) (hw1 : 1 ≤ w) (hw : w ≤ 16) (c : Int32) : ∃ D N, f_X3_dropRows M = some D ∧ f_X10_grid_l1 (nI R) (nI w) c fuelN 0 D = some N ∧ KeepX M N ∧ N.1 254 4 = nI R ∧ ∀ j, j < R → N.1 260 j = nI w := by
  obtain ⟨D, d1, d2⟩ := dropX M (fun _ => w)
  obtain ⟨N, e, hN⟩ := loop_go (F := fun n v N => f_X10_grid_l1 (nI R) (nI w) c n v N) R (by omega) (fun i N => RwX M N (fun _ => w) i i) (fun N => RwX M N (fun _ => w) R R)
    (fun n N h => ⟨N, by show f_X10_grid_l1 _ _ c (n + 1) (nI R) N = _; rw [f_X10_grid_l1, if_pos (Int32.le_refl _)], h⟩)
    (fun n i N hi h => by
      left
      obtain ⟨N', R', e, h'⟩ := addRow_ h (by omega) hw
      have hR' : R' = i + 1 := by
        apply Classical.byContradiction
        intro q
        have h2 := h'.2.1
        have : w = 0 := (h'.2.2.2.2.1 (by omega)).2
        omega
      subst hR'
      refine ⟨N', h', ?_⟩
      show f_X10_grid_l1 _ _ c (n + 1) (nI i) N = f_X10_grid_l1 _ _ c n (nI (i + 1)) N'
      have e : f_X3_addRow (nI w) N = some N' := e
      rw [f_X10_grid_l1, if_neg (ifle_no hi (by omega)), if_neg (show ¬ (16 : Int32) ≤ nI i from ifle_no (c := 16) (by omega) (by decide)), e, Option.bind_some, nI_1]) 0 D (by omega) d2
  exact ⟨D, N, d1, e, hN.1, hN.2.2.1, fun j hj => (hN.2.2.2.2.2 j hj).1⟩
set_option maxRecDepth 10000 in
theorem step_grid : St_grid Rel := by
  intro a b c M1 M2 H
  have Hn1 := Rel_no H 1
  have Hn2 := Rel_no H 2
  obtain ⟨z, h, hC, hL, hS, hs⟩ := id H
  obtain ⟨h1, h2, h3, h4, -⟩ := id hC
  have hI := h4.inv
  have hk := hI.1.1
  have h23 : (sI M2 0 5 0).1 0 3 = nI (zKn z) := by rw [sI_1, if_neg (by decide)]; exact h2.1.1
  unfold f_X10_grid f_X11_grid
  rcases in1n_cases a 16 (by decide) with ⟨e1, ha⟩ | ⟨e1, R, hR1, hR, rfl⟩
  · have e1 : f_X11_in a 1 16 = some 0 := e1
    rw [e1]
    by_cases ha1 : a < 1
    · rw [if_pos ha1]; exact ⟨_, _, rfl, rfl, rfl, Hn2⟩
    · have ha2 : (16 : Int32) < a := by
        rcases ha with ha | ha
        · exact absurd ha ha1
        · exact ha
      rw [if_neg ha1, if_pos ha2]; exact ⟨_, _, rfl, rfl, rfl, Hn2⟩
  have e1 : f_X11_in (nI R) 1 16 = some 1 := e1
  rw [e1, if_neg (show ¬ nI R < (1 : Int32) from nI_nlt (a := R) (b := 1) hR1 (by omega)), if_neg (show ¬ (16 : Int32) < nI R from nI_nlt (a := 16) (b := R) hR (by omega)), Option.bind_some, if_neg one_ne]
  rcases in1n_cases b 16 (by decide) with ⟨e2, hb⟩ | ⟨e2, w, hw1, hw, rfl⟩
  · have e2 : f_X11_in b 1 16 = some 0 := e2
    rw [e2]
    by_cases hb1 : b < 1
    · rw [if_pos hb1]; exact ⟨_, _, rfl, rfl, rfl, Hn2⟩
    · rw [if_neg hb1, if_neg (show ¬ b ≤ (16 : Int32) from fun q => by
        rcases hb with hb | hb
        · exact hb1 hb
        · have q : b ≤ nI 16 := q
          rw [Int32.lt_iff_toInt_lt] at hb
          rw [Int32.le_iff_toInt_le] at q
          omega)]
      exact ⟨_, _, rfl, rfl, rfl, Hn2⟩
  have e2 : f_X11_in (nI w) 1 16 = some 1 := e2
  obtain ⟨D, A, d1, d2, kA, a4, a260⟩ := gridX (M := M1) hR hw1 hw c
  have hRw : R * w ≤ 256 := Nat.mul_le_mul hR hw
  rw [e2, if_neg (show ¬ nI w < (1 : Int32) from nI_nlt (a := w) (b := 1) hw1 (by omega)), if_pos (show nI w ≤ (16 : Int32) from nI_le (b := 16) hw (by decide)), Option.bind_some, if_neg one_ne, d1, Option.bind_some, d2, Option.bind_some, pk_mul]
  have A10 : A.1 1 0 = nI (zKn z) := by rw [kA.1.2 1 (by omega)]; exact h1.1.1
  have hsum := rowsX_sum (len := fun _ => w) hR a4 a260
  rw [psum_const] at hsum
  rcases there_ (M1 := A) (w := R * w) hk (by omega) A10 h23 c with ⟨t1, t2⟩ | ⟨t1, t2, j, rfl, hj, hj2⟩
  · unfold f_X10_settleRows
    rw [hsum, Option.bind_some, t1, t2]
    refine ⟨_, _, rfl, rfl, rfl, ?_⟩
    exact Rel_keep H (kA.trans (keepX_st _ _)) (k54 M2 1) (by rw [st_X, st_Y])
  · obtain ⟨B, b1, b2, b3⟩ := gridY (M := sI (sI M2 0 5 0) 0 27 (nI R)) (w := w) (base := j) hR (by rw [sI_1, if_pos ⟨rfl, rfl⟩])
    have kB : KeepY M2 B := ((k5 M2).trans (keepY_f _ _ (by omega))).trans ⟨⟨⟨by rw [b2 0 (by decide) (by decide)], by rw [b2 0 (by decide) (by decide)], by rw [b2 0 (by decide) (by decide)], by rw [b2 0 (by decide) (by decide)]⟩, fun c hc => b2 c (by omega) (by omega)⟩, by rw [b2 0 (by decide) (by decide)], b2 4 (by decide) (by decide), by rw [b2 0 (by decide) (by decide)], b2 12 (by decide) (by decide)⟩
    have ok : RowOk (fun _ => w) j R (zKn z) := ⟨hR1, hR, fun _ _ => hw1, by rw [psum_const]; exact hj, hk⟩
    obtain ⟨r, N1, N2, C, f1, f2, f3, hRel⟩ := rowsFin (kd := 2) (len := fun _ => w) H hC hL hS (by omega) ok kA a4 a260 hj2 kB ⟨by rw [b2 0 (by decide) (by decide), sI_1, if_pos ⟨rfl, rfl⟩], fun i hi => by rw [psum_const]; exact b3 i hi⟩
    have f1 : f_X10_settleRows (nI j) 2 A = some (r, N1) := f1
    have f3 : f_X11_made 2 C = some (r, N2) := f3
    rw [f1, t2, Option.bind_some, Option.bind_some, if_neg one_ne, b1, Option.bind_some, f2, Option.bind_some, f3]
    exact ⟨_, _, rfl, rfl, rfl, hRel⟩
