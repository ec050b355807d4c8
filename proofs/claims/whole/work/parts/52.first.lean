/-! THE START: what the memories hold behind the constructors -/
def M0X : Mem := ((fun c i => if kX c = 6 ∧ i = 0 then -1 else if c = 255 ∧ i = 2 then 1 else if c = 263 ∧ i = 1 then 1 else 0), fun _ _ => 0)
def M0Y : Mem := ((fun _ _ => 0), fun _ _ => 0)
theorem arrV_congr {cA : ClassId} {n : Nat} {f g : Nat → Value} (h : ∀ j, j < n → f j = g j) : arrV cA n f = arrV cA n g := by
  unfold arrV
  have e : (fun j : Fin n => f j.val) = fun j : Fin n => g j.val := funext fun j => h j.val j.isLt
  rw [e]
theorem at_q_congr {D : va_G} {a : Nat} {cA : ClassId} {n : Nat} {f g : Nat → Option Nat} {H : Heap} (h : ∀ j, j < n → f j = g j) (hP : va_at D vwCl (a, .inl (cA, n, .inr (.inr (.inr (.inr f))))) H) : va_at D vwCl (a, .inl (cA, n, .inr (.inr (.inr (.inr g))))) H := by
  have hP : H[a]? = some (vp_cell cA (n, .inr (.inr (.inr (.inr f))))) := hP
  show H[a]? = some (vp_cell cA (n, .inr (.inr (.inr (.inr g)))))
  rw [vp_cell_q] at hP ⊢
  rw [hP, arrV_congr (fun j hj => by rw [h j hj])]
theorem M0X_row {c : Nat} (h1 : kX c ≠ 6) (h2 : c ≠ 255) (h3 : c ≠ 263) : M0X.1 c = fun _ => 0 := by
  funext i
  simp [M0X, h1, h2, h3]
theorem M0X_plan {c : Nat} (h1 : kX c = 6) (h2 : c ≠ 255) (h3 : c ≠ 263) : M0X.1 c = fun i => if i = 0 then -1 else 0 := by
  funext i
  simp [M0X, h1, h2, h3]
section First
variable {D : va_G} {ca : Nat → ClassId} {B tW : Nat} {w : Wp}
theorem f0_act {c : Nat} (hk : kX c = 0) (h2 : c ≠ 255) (h3 : c ≠ 263) : ceX w M0X c = .inr (0, [.int 0, .int 0, .int 0, .ref (w.2.2.1 (c + 1))]) := by
  have e := ceX_0 (w := w) (M := M0X) hk
  rw [M0X_row (by rw [hk]; decide) h2 h3] at e
  exact e
theorem f0_thing {c : Nat} (hk : kX c = 9) (h2 : c ≠ 255) (h3 : c ≠ 263) : ceX w M0X c = .inr (9, [.int 0, .int 0, .ref (w.2.2.1 (c + 1))]) := by
  have e := ceX_9 (w := w) (M := M0X) hk
  rw [M0X_row (by rw [hk]; decide) h2 h3] at e
  exact e
theorem f0_fam {c : Nat} (hk : kX c = 1) (h2 : c ≠ 255) (h3 : c ≠ 263) : ceX w M0X c = .inr (1, [.int 0, .int 0, .ref (w.2.2.1 (c + 1))]) := by
  have e := ceX_1 (w := w) (M := M0X) hk
  rw [M0X_row (by rw [hk]; decide) h2 h3] at e
  exact e
theorem f0_plan {c : Nat} (hk : kX c = 6) (h2 : c ≠ 255) (h3 : c ≠ 263) : ceX w M0X c = .inr (6, [.int (-1), .int 0, .ref (w.2.2.1 (c + 1))]) := by
  have e := ceX_6 (w := w) (M := M0X) hk
  rw [M0X_plan hk h2 h3] at e
  exact e
theorem f0_parts {c : Nat} (hk : kX c = 1120) (h2 : c ≠ 255) (h3 : c ≠ 263) : ceX w M0X c = .inl (w.2.1 0, 120, .inl (fun _ => 0)) := by
  have e := ceX_i (w := w) (M := M0X) 120 (by decide) hk
  rw [M0X_row (by rw [hk]; decide) h2 h3] at e
  exact e
/-- the cells of a thing -/
theorem fb_thing {c e : Nat} (hk : kX c = 9) (hc : c + 3 ≤ 252 ∨ 312 ≤ c) (he : e < 3) : fiX9 ca (B + c) e = ceX (D, ca, (fun c => B + c), tW) M0X (c + e) := by
  match e, he with
  | 0, _ => exact (f0_thing (w := (D, ca, (fun c => B + c), tW)) hk (by omega) (by omega)).symm
  | 1, _ => exact (f0_plan (w := (D, ca, (fun c => B + c), tW)) (kX_s9 hk) (by omega) (by omega)).symm
  | 2, _ => exact (f0_parts (w := (D, ca, (fun c => B + c), tW)) (kX_s6 (kX_s9 hk)) (by omega) (by omega)).symm
theorem fb_act {c e : Nat} (hk : kX c = 0) (hc : c + 4 ≤ 252) (he : e < 4) : fiX0 ca (B + c) e = ceX (D, ca, (fun c => B + c), tW) M0X (c + e) := by
  match e, he with
  | 0, _ => exact (f0_act (w := (D, ca, (fun c => B + c), tW)) hk (by omega) (by omega)).symm
  | e + 1, he =>
    have h := fb_thing (D := D) (ca := ca) (B := B) (tW := tW) (c := c + 1) (e := e) (kX_s0 hk) (by omega) (by omega)
    rw [show c + (e + 1) = c + 1 + e by omega, ← h]
    rfl
theorem fb_fam {c e : Nat} (hk : kX c = 1) (hc : 264 ≤ c) (he : e < 2) : fiX1 ca (B + c) e = ceX (D, ca, (fun c => B + c), tW) M0X (c + e) := by
  match e, he with
  | 0, _ => exact (f0_fam (w := (D, ca, (fun c => B + c), tW)) hk (by omega) (by omega)).symm
  | 1, _ => exact (f0_parts (w := (D, ca, (fun c => B + c), tW)) (kX_s1 hk) (by omega) (by omega)).symm
set_option maxRecDepth 100000 in
theorem conv_X {H : Heap} (hP : va_P D vwCl (gw B 360 (fiX10 ca B 24 16)) H) : va_P D vwCl (wd shX (D, ca, (fun c => B + c), tW) M0X) H := by
  intro c q hq
  have hlt : c < 360 := wd_lt hq
  rw [wd_at hlt] at hq
  cases hq
  have h := hP c _ (gw_at hlt)
  show va_at D vwCl (B + c, ceX (D, ca, (fun c => B + c), tW) M0X c) H
  by_cases h5 : c = 5
  · subst h5
    exact at_q_congr (fun j hj => by rw [if_pos hj]; rw [show B + 264 + 2 * j = B + (264 + 2 * j) by omega]) h
  by_cases h9 : c = 9
  · subst h9
    exact at_q_congr (fun j hj => by rw [if_pos hj]; rw [show B + 312 + 3 * j = B + (312 + 3 * j) by omega]) h
  by_cases h11 : c = 11
  · subst h11
    exact at_q_congr (f := fun j => if j < 60 then some (B + 10 + 2 + 4 * j) else none) (fun j hj => by rw [if_pos hj]; rw [show B + 10 + 2 + 4 * j = B + (12 + 4 * j) by omega]) h
  suffices e : fiX10 ca B 24 16 c = ceX (D, ca, (fun c => B + c), tW) M0X c by rw [← e]; exact h
  by_cases hA : c < 12
  · match c, hA, h5, h9, h11 with
    | 0, _, _, _, _ => rfl
    | 1, _, _, _, _ => rfl
    | 2, _, _, _, _ => rfl
    | 3, _, _, _, _ => rfl
    | 4, _, _, _, _ => rfl
    | 5, _, h, _, _ => exact absurd rfl h
    | 6, _, _, _, _ => rfl
    | 7, _, _, _, _ => rfl
    | 8, _, _, _, _ => rfl
    | 9, _, _, h, _ => exact absurd rfl h
    | 10, _, _, _, _ => rfl
    | 11, _, _, _, h => exact absurd rfl h
    | c + 12, h, _, _, _ => exact absurd h (by omega)
  by_cases hB : c < 252
  · obtain ⟨a, e, he, rfl⟩ : ∃ a e, e < 4 ∧ c = 12 + 4 * a + e := ⟨(c - 12) / 4, (c - 12) % 4, by omega, by omega⟩
    have e1 := fb_act (D := D) (ca := ca) (B := B) (tW := tW) (kX_act (show a < 60 by omega)) (by omega) he
    rw [← e1]
    unfold fiX10
    rw [if_neg (by omega), if_neg (by omega), if_neg (by omega), if_neg (by omega), if_neg (by omega), if_neg (by omega), if_pos (by omega), show 12 + 4 * a + e - 10 = (4 * a + e) + 2 by omega]
    show fiX0 ca (B + 10 + 2 + 4 * ((4 * a + e) / 4)) ((4 * a + e) % 4) = _
    rw [show (4 * a + e) / 4 = a by omega, show (4 * a + e) % 4 = e by omega, show B + 10 + 2 + 4 * a = B + (12 + 4 * a) by omega]
  by_cases hC : c < 264
  · obtain ⟨e, rfl⟩ : ∃ e, c = 252 + e := ⟨c - 252, by omega⟩
    match e, hC with
    | 0, _ => rfl
    | 1, _ => rfl
    | 2, _ => rfl
    | 3, _ => rfl
    | 4, _ => rfl
    | 5, _ => rfl
    | 6, _ => rfl
    | 7, _ => rfl
    | 8, _ => rfl
    | 9, _ => rfl
    | 10, _ => rfl
    | 11, _ => rfl
    | e + 12, h => exact absurd h (by omega)
  by_cases hE : c < 312
  · obtain ⟨a, e, he, rfl⟩ : ∃ a e, e < 2 ∧ c = 264 + 2 * a + e := ⟨(c - 264) / 2, (c - 264) % 2, by omega, by omega⟩
    rw [← fb_fam (D := D) (ca := ca) (B := B) (tW := tW) (kX_fam (show a < 24 by omega)) (by omega) he]
    have h := blk_fam (ca := ca) (B := B) (fs := []) (i := 24) (j := 16) (show a < 24 by omega) e he
    unfold pre10 at h
    rw [if_neg (by omega)] at h
    exact h
  · obtain ⟨a, e, he, rfl⟩ : ∃ a e, e < 3 ∧ c = 312 + 3 * a + e := ⟨(c - 312) / 3, (c - 312) % 3, by omega, by omega⟩
    rw [← fb_thing (D := D) (ca := ca) (B := B) (tW := tW) (kX_place (show a < 16 by omega)) (by omega) he]
    have h := blk_pla (ca := ca) (B := B) (fs := []) (i := 24) (j := 16) (show a < 16 by omega) e he
    unfold pre10 at h
    rw [if_neg (by omega)] at h
    exact h
set_option maxRecDepth 100000 in
theorem conv_Y {H : Heap} (hP : va_P D vwCl (gw B 25 (fiX11 ca B)) H) : va_P D vwCl (wd shY (D, ca, (fun c => B + c), tW) M0Y) H := by
  intro c q hq
  have hlt : c < 25 := wd_lt hq
  rw [wd_at hlt] at hq
  cases hq
  have h := hP c _ (gw_at hlt)
  show va_at D vwCl (B + c, ceY (D, ca, (fun c => B + c), tW) M0Y c) H
  suffices e : fiX11 ca B c = ceY (D, ca, (fun c => B + c), tW) M0Y c by rw [← e]; exact h
  match c, hlt with
  | 0, _ => rfl
  | 1, _ => rfl
  | 2, _ => rfl
  | 3, _ => rfl
  | 4, _ => rfl
  | 5, _ => rfl
  | 6, _ => rfl
  | 7, _ => rfl
  | 8, _ => rfl
  | 9, _ => rfl
  | 10, _ => rfl
  | 11, _ => rfl
  | 12, _ => rfl
  | 13, _ => rfl
  | 14, _ => rfl
  | 15, _ => rfl
  | 16, _ => rfl
  | 17, _ => rfl
  | 18, _ => rfl
  | 19, _ => rfl
  | 20, _ => rfl
  | 21, _ => rfl
  | 22, _ => rfl
  | 23, _ => rfl
  | 24, _ => rfl
  | e + 25, h => exact absurd h (by omega)
end First
