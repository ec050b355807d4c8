/-! what meets all -/
theorem xor_j : ∀ i, i < 6 → ∀ j, j < 64 → j ^^^ 2 ^ i = if j.testBit i then j - 2 ^ i else 2 ^ i + j := by decide +kernel
theorem flip_bit (v : Int64) {i j : Nat} (hi : i < 6) (hj : j < 64) : lb ((lshl (v &&& WL i) ((1 : Int32) <<< (nI i &&& 31))) ||| ((lushr v ((1 : Int32) <<< (nI i &&& 31))) &&& WL i)) j = lb v (j ^^^ 2 ^ i) := by
  rw [lb_or, grow_bit v hi hj, lb_and, one_shl i (by omega), lb_ushr _ (pw6 i hi), lb_WL i hi j hj, xor_j i hi j hj]
  cases h : j.testBit i with
  | true => simp
  | false => simp
theorem xor_lt64 : ∀ j, j < 64 → ∀ k, k < 64 → j ^^^ k < 64 := by decide +kernel
theorem mod_xor (low i j : Nat) (h : low.testBit i = true) : (j ^^^ 2 ^ i) ^^^ (low % 2 ^ i) = j ^^^ (low % 2 ^ (i + 1)) := by
  apply Nat.eq_of_testBit_eq
  intro k
  rw [Nat.testBit_xor, Nat.testBit_xor, Nat.testBit_xor, Nat.testBit_two_pow, Nat.testBit_mod_two_pow, Nat.testBit_mod_two_pow]
  rcases Nat.lt_trichotomy k i with q | q | q
  · simp [show ¬ i = k by omega, q, show k < i + 1 by omega]
  · subst q; simp [h]
  · simp [show ¬ i = k by omega, show ¬ k < i by omega, show ¬ k < i + 1 by omega]
theorem mod_no (low i : Nat) (h : low.testBit i = false) : low % 2 ^ (i + 1) = low % 2 ^ i := by
  apply Nat.eq_of_testBit_eq
  intro k
  rw [Nat.testBit_mod_two_pow, Nat.testBit_mod_two_pow]
  rcases Nat.lt_trichotomy k i with q | q | q
  · simp [q, show k < i + 1 by omega]
  · subst q; simp [h]
  · simp [show ¬ k < i by omega, show ¬ k < i + 1 by omega]
theorem flipW (w : Int64) : ∃ r, f_X7_turnedWord w = some r ∧ ∀ j, j < 64 → lb r j = lb w (j ^^^ 63) := by
  have HH := loop_go (F := fun n v s => f_X7_turnedWord_l1 n s v) 6 (by decide) (fun i s => ∀ j, j < 64 → lb s j = lb w (j ^^^ (63 % 2 ^ i))) (fun s => ∀ j, j < 64 → lb s j = lb w (j ^^^ 63))
    (fun n s h => ⟨s, by show f_X7_turnedWord_l1 (n + 1) s (nI 6) = _; rw [f_X7_turnedWord_l1, if_pos (by decide)], fun j hj => by rw [h j hj, Nat.mod_eq_of_lt (show 63 < 2 ^ 6 by decide)]⟩)
    (fun n i s hi h => by
      left
      show ∃ s', _ ∧ f_X7_turnedWord_l1 (n + 1) s (nI i) = f_X7_turnedWord_l1 n s' (nI (i + 1))
      rw [f_X7_turnedWord_l1, if_neg (show ¬ (6 : Int32) ≤ nI i from ifle_no (c := 6) hi (by decide)), if_pos (inB_nI hi (by decide)), if_pos (inB_nI hi (by decide)), nI_clamp (show i < 2 ^ 31 by omega), nI_1]
      refine ⟨_, fun j hj => ?_, rfl⟩
      rw [flip_bit s hi hj, h _ (xor_lt64 j hj _ (pw6 i hi)), mod_xor 63 i j ((show ∀ i, i < 6 → (63 : Nat).testBit i = true by decide) i hi)]) 0 w (by omega) (fun j hj => by rw [Nat.pow_zero, Nat.mod_one, Nat.xor_zero])
  obtain ⟨r, e, hr⟩ := HH
  refine ⟨r, ?_, hr⟩
  unfold f_X7_turnedWord
  have e : f_X7_turnedWord_l1 fuelN w 0 = some r := e
  rw [e, Option.bind_some]
theorem xor63_ : ∀ j, j < 64 → j ^^^ 63 = 63 - j := by decide +kernel
theorem turnP {M : Mem} {m : Nat} (hp : PS M m) : ∃ N, f_X7_turnIntoMeeting M = some N ∧ N.1 = M.1 ∧ ∀ s, s < 2 ^ m → pb N s = !(pb M (2 ^ m - 1 - s)) := by
  obtain ⟨h1, h2, h3⟩ := hp
  obtain ⟨u1, u2, u3⟩ := ps_u m h1 h2
  have HH := loop_d (F := fun n (s : Int32 × Int32 × Mem) => f_X7_turnIntoMeeting_l1 n s.1 s.2.1 s.2.2)
    (fun s => ∃ a b, a + b = 2 ^ (m - 6) ∧ s.1 = nI a ∧ s.2.1 = nI b - 1 ∧ s.2.2.1 = M.1 ∧ (∀ x, a ≤ x → x < b → s.2.2.2 256 x = M.2 256 x) ∧ ∀ x, x < 2 ^ (m - 6) → (x < a ∨ b ≤ x) → ∀ j, j < 64 → wb s.2.2 x j = !(wb M (2 ^ (m - 6) - 1 - x) (63 - j)))
    (fun s => (s.2.1 + 1).toNatClampNeg)
    (fun N => N.1 = M.1 ∧ ∀ x, x < 2 ^ (m - 6) → ∀ j, j < 64 → wb N x j = !(wb M (2 ^ (m - 6) - 1 - x) (63 - j)))
    ?_ (0, nI (2 ^ (m - 6)) - 1, M) ⟨0, 2 ^ (m - 6), by omega, rfl, rfl, rfl, fun _ _ _ => rfl, fun x hx q => by omega⟩ (by
      show (nI (2 ^ (m - 6)) - 1 + 1).toNatClampNeg < 70000
      rw [show nI (2 ^ (m - 6)) - 1 + 1 = nI (2 ^ (m - 6)) from Int32.sub_add_cancel _ _, nI_clamp (by omega)]
      omega)
  · obtain ⟨N, e, n1, n2⟩ := HH
    refine ⟨N, ?_, n1, fun s hs => ?_⟩
    · unfold f_X7_turnIntoMeeting
      have e : f_X7_turnIntoMeeting_l1 fuelN 0 (nI (2 ^ (m - 6)) - 1) M = some N := e
      rw [h3, e, Option.bind_some]
    · have hj : s % 64 < 64 := by omega
      rw [pb_of, n2 _ (by omega) _ hj]
      have e1 : 2 ^ m - 1 - s = 64 * (2 ^ (m - 6) - 1 - s / 64) + (63 - s % 64) := by omega
      rw [e1, pb_ij M (by omega)]
  · rintro n ⟨v1, v2, N⟩ ⟨a, b, hab, e1, e2, g1, g2, g3⟩
    dsimp only at e1 e2 g1 g2 g3
    subst e1 e2
    by_cases hlt : a < b
    · left
      obtain ⟨y, rfl⟩ : ∃ y, b = y + 1 := ⟨b - 1, by omega⟩
      have hy : 2 ^ (m - 6) - 1 - a = y := by omega
      have hy2 : 2 ^ (m - 6) - 1 - y = a := by omega
      obtain ⟨ra, ea, ha⟩ := flipW (N.2 256 a)
      obtain ⟨ry, ey, hry⟩ := flipW (N.2 256 y)
      refine ⟨(nI (a + 1), nI y - 1, sL (sL N 256 a (ry ^^^ (-1 : Int64))) 256 y (ra ^^^ (-1 : Int64))), ⟨a + 1, y, by omega, rfl, rfl, g1, fun x q1 q2 => ?_, fun x hx q j hj => ?_⟩, ?_, ?_⟩
      · show (sL (sL N 256 a _) 256 y _).2 256 x = _
        rw [sL_2, if_neg (by omega), sL_2, if_neg (by omega)]
        exact g2 x (by omega) (by omega)
      · show wb (sL (sL N 256 a (ry ^^^ (-1 : Int64))) 256 y (ra ^^^ (-1 : Int64))) x j = _
        unfold wb
        rw [sL_2]
        by_cases ex : x = y
        · rw [if_pos ⟨rfl, ex⟩, lb_not _ hj, ha j hj, g2 a (Nat.le_refl _) (by omega), xor63_ j hj, ex, hy2]
        · rw [if_neg (fun q => ex q.2), sL_2]
          by_cases ex2 : x = a
          · rw [if_pos ⟨rfl, ex2⟩, lb_not _ hj, hry j hj, g2 y (by omega) (by omega), xor63_ j hj, ex2, hy]
          · rw [if_neg (fun q => ex2 q.2)]
            exact g3 x hx (by omega) j hj
      · show (nI y - 1 + 1).toNatClampNeg < (nI (y + 1) - 1 + 1).toNatClampNeg
        rw [show nI y - 1 + 1 = nI y from Int32.sub_add_cancel _ _, show nI (y + 1) - 1 + 1 = nI (y + 1) from Int32.sub_add_cancel _ _, nI_clamp (by omega), nI_clamp (by omega)]
        omega
      · show f_X7_turnIntoMeeting_l1 (n + 1) (nI a) (nI (y + 1) - 1) N = f_X7_turnIntoMeeting_l1 n (nI (a + 1)) (nI y - 1) _
        have ea : f_X7_turnedWord (N.2 256 a) = some ra := ea
        have ey : f_X7_turnedWord (N.2 256 y) = some ry := ey
        rw [nI_pred, f_X7_turnIntoMeeting_l1, if_neg (nI_nlt (show a ≤ y by omega) (by omega)), if_pos (inB_nI (show a < 1024 by omega) (by decide)), nI_clamp (show a < 2 ^ 31 by omega), ea, Option.bind_some, if_pos (inB_nI (show y < 1024 by omega) (by decide)), nI_clamp (show y < 2 ^ 31 by omega), ey, Option.bind_some, if_pos (inB_nI (show a < 1024 by omega) (by decide)), if_pos (inB_nI (show y < 1024 by omega) (by decide)), nI_1, show nI y + (-1 : Int32) = nI y - 1 from (Int32.sub_eq_add_neg _ _).symm]
    · right
      refine ⟨N, ?_, g1, fun x hx j hj => g3 x hx (by omega) j hj⟩
      show f_X7_turnIntoMeeting_l1 (n + 1) (nI a) (nI b - 1) N = _
      rw [f_X7_turnIntoMeeting_l1, if_pos]
      cases b with
      | zero =>
        have : nI 0 - 1 = (-1 : Int32) := rfl
        rw [this, Int32.lt_iff_toInt_lt, nI_toInt (by omega)]
        have : (-1 : Int32).toInt = -1 := rfl
        omega
      | succ b => rw [nI_pred]; exact nI_lt (by omega) (by omega)
/-- it has one of each -/
def Mt (c : Nat) (q : Nat → Nat) (s : Nat) : Prop := ∀ i, i < c → s &&& q i ≠ 0
theorem Mt_mono {c : Nat} {q : Nat → Nat} {s t : Nat} (h : Mt c q s) (g : Sb s t) : Mt c q t := fun i hi e => by
  apply h i hi
  apply Nat.eq_of_testBit_eq
  intro k
  have := congrArg (fun x => x.testBit k) e
  simp only [Nat.testBit_and, Nat.zero_testBit] at this ⊢
  cases hs : s.testBit k with
  | false => rfl
  | true => rw [g k hs] at this; exact this
theorem and_zero_iff {a b : Nat} : a &&& b = 0 ↔ ∀ k, a.testBit k = true → b.testBit k = false := by
  constructor
  · intro h k hk
    have := congrArg (fun x => x.testBit k) h
    simp only [Nat.testBit_and, Nat.zero_testBit, hk, Bool.true_and] at this
    exact this
  · intro h
    apply Nat.eq_of_testBit_eq
    intro k
    rw [Nat.testBit_and, Nat.zero_testBit]
    cases ha : a.testBit k with
    | false => rfl
    | true => rw [h k ha]; rfl
theorem compl_bit {m s k : Nat} (hs : s < 2 ^ m) : (2 ^ m - 1 - s).testBit k = (decide (k < m) && !(s.testBit k)) := by
  have := Nat.testBit_two_pow_sub_succ (x := s) (n := m) hs k
  rwa [show 2 ^ m - (s + 1) = 2 ^ m - 1 - s by omega] at this
/-- a set holds none of them without the others' keepers: the rest of the keepers meets all -/
theorem meet_compl {m c : Nat} {q : Nat → Nat} {s : Nat} (hs : s < 2 ^ m) (hq : ∀ i, i < c → q i < 2 ^ m) : Mt c q s ↔ ¬ Up (fun t => ∃ i, i < c ∧ t = q i) (2 ^ m - 1 - s) := by
  constructor
  · rintro h ⟨t, t1, i, hi, rfl⟩
    apply h i hi
    rw [and_zero_iff]
    intro k hk
    cases hqk : (q i).testBit k with
    | false => rfl
    | true =>
      have := t1 k hqk
      rw [compl_bit hs, hk] at this
      simp at this
  · intro h i hi e
    apply h
    refine ⟨q i, fun k hk => ?_, i, hi, rfl⟩
    rw [compl_bit hs]
    have hkm : k < m := by
      apply Classical.byContradiction
      intro q'
      rw [tb_hi (hq i hi) (by omega)] at hk
      cases hk
    cases hsk : s.testBit k with
    | true => rw [and_zero_iff] at e; rw [e k hsk] at hk; cases hk
    | false => simp [hkm]
theorem xor_m1 : ((-1 : Int32) ^^^ (-1 : Int32)) = 0 := by decide
theorem and_0 (x : Int32) : x &&& (0 : Int32) = 0 := by simp
theorem holdX {M : Mem} {m f c : Nat} {q : Nat → Nat} (hp : PS M m) (h0 : ∀ s, s < 2 ^ m → pb M s = false) (hx : QX M f c q) (hq : ∀ i, i < c → q i < 2 ^ m) : ∃ N, f_X3_gatherHolding (264 + 2 * f) M = some N ∧ N.1 = M.1 ∧ ∀ s, s < 2 ^ m → (pb N s = true ↔ Up (fun t => ∃ i, i < c ∧ t = q i) s) := by
  obtain ⟨A, a1, a2⟩ := withinX hp hx hq (-1)
  obtain ⟨N, e, n1, n2⟩ := closeU (PS.keep hp a2.1)
  refine ⟨N, ?_, n1.trans a2.1, fun s hs => ?_⟩
  · unfold f_X3_gatherHolding
    rw [if_pos (kX_fam hx.1), a1, Option.bind_some, e, Option.bind_some]
  · rw [n2 s hs]
    refine Up_congr (b := 2 ^ m) (fun t ht => ?_) hs
    rw [gotX h0 a2 t ht]
    constructor
    · rintro ⟨i, hi, -, e⟩; exact ⟨i, hi, e⟩
    · rintro ⟨i, hi, e⟩; exact ⟨i, hi, by rw [xor_m1, and_0], e⟩
theorem meetX {M : Mem} {m f c : Nat} {q : Nat → Nat} (hp : PS M m) (h0 : ∀ s, s < 2 ^ m → pb M s = false) (hx : QX M f c q) (hq : ∀ i, i < c → q i < 2 ^ m) : ∃ N, f_X3_gatherMeeting (264 + 2 * f) M = some N ∧ N.1 = M.1 ∧ ∀ s, s < 2 ^ m → (pb N s = true ↔ Mt c q s) := by
  obtain ⟨A, a1, a2, a3⟩ := holdX hp h0 hx hq
  obtain ⟨N, e, n1, n2⟩ := turnP (PS.keep hp a2)
  refine ⟨N, ?_, n1.trans a2, fun s hs => ?_⟩
  · unfold f_X3_gatherMeeting
    rw [if_pos (kX_fam hx.1), a1, Option.bind_some, e, Option.bind_some]
  · rw [n2 s hs, Bool.not_eq_true', ← Bool.not_eq_true, a3 _ (by have := Nat.two_pow_pos m; omega), meet_compl hs hq]
theorem meetsY {M : Mem} {f c v : Nat} {q : Nat → Nat} (hy : QY M f c q) (hv : v < 65536) : ∃ r, f_X11_meetsAll (nI v) (nI f) M = some r ∧ ((r = 1 ∧ Mt c q v) ∨ (r = 0 ∧ ¬ Mt c q v)) := by
  have hc := hy.2.1
  have hf := hy.1
  have HH := loop_go (F := fun n w (_ : Unit) => f_X11_meetsAll_l1 (nI v) (nI f) M n w) c (by omega) (fun i _ => ∀ j, j < i → v &&& q j ≠ 0) (fun r => (r = .inl () ∧ Mt c q v) ∨ (r = .inr 0 ∧ ¬ Mt c q v)) ?_ ?_ 0 () (by omega) (fun j hj => by omega)
  · obtain ⟨r, e, hr⟩ := HH
    have e : f_X11_meetsAll_l1 (nI v) (nI f) M fuelN 0 = some r := e
    unfold f_X11_meetsAll
    rw [e, Option.bind_some]
    rcases hr with ⟨rfl, h⟩ | ⟨rfl, h⟩
    · exact ⟨1, rfl, Or.inl ⟨rfl, h⟩⟩
    · exact ⟨0, rfl, Or.inr ⟨rfl, h⟩⟩
  · intro n _ h
    refine ⟨.inl (), ?_, Or.inl ⟨rfl, h⟩⟩
    show f_X11_meetsAll_l1 (nI v) (nI f) M (n + 1) (nI c) = _
    rw [f_X11_meetsAll_l1, if_pos (inB_nI hf (by decide)), nI_clamp (by omega), hy.2.2.1, if_pos (Int32.le_refl _)]
  · intro n i _ hi h
    show (∃ s', _ ∧ f_X11_meetsAll_l1 (nI v) (nI f) M (n + 1) (nI i) = f_X11_meetsAll_l1 (nI v) (nI f) M n (nI (i + 1))) ∨ ∃ r, f_X11_meetsAll_l1 (nI v) (nI f) M (n + 1) (nI i) = some r ∧ _
    rw [f_X11_meetsAll_l1, if_pos (inB_nI hf (by decide)), nI_clamp (by omega), hy.2.2.1, if_neg (ifle_no hi (by omega)), hy.at hi, Option.bind_some, nx_and, nI_1]
    have hlt : v &&& q i < 65536 := Nat.lt_of_le_of_lt Nat.and_le_left hv
    by_cases h0 : v &&& q i = 0
    · right
      rw [if_pos (by rw [h0]; rfl)]
      exact ⟨_, rfl, Or.inr ⟨rfl, fun q => q i hi h0⟩⟩
    · left
      rw [if_neg (nI_ne0 (by omega) (by omega))]
      refine ⟨(), fun j hj => ?_, rfl⟩
      by_cases e : j = i
      · rw [e]; exact h0
      · exact h j (by omega)
theorem orF_Sb {q : Nat → Nat} : ∀ c i, i < c → Sb (q i) (orF q c) := by
  intro c
  induction c with
  | zero => intro i h; omega
  | succ c ih =>
    intro i h k hk
    show (orF q c ||| q c).testBit k = true
    rw [Nat.testBit_or]
    by_cases e : i = c
    · rw [← e, hk, Bool.or_true]
    · rw [ih i (by omega) k hk, Bool.true_or]
theorem Mt_and {c : Nat} {q : Nat → Nat} {s : Nat} : Mt c q (s &&& orF q c) ↔ Mt c q s := by
  constructor
  · intro h
    exact Mt_mono h (fun k hk => by rw [Nat.testBit_and] at hk; exact (Bool.and_eq_true_iff.mp hk).1)
  · intro h i hi e
    apply h i hi
    have hs : q i &&& orF q c = q i := Sb_and.mp (orF_Sb c i hi)
    rw [← hs, Nat.and_comm (q i), ← Nat.and_assoc]
    exact e
/-- the subsets of a, from the greatest down -/
theorem dualY_l {M : Mem} {f c a : Nat} {q : Nat → Nat} (hy : QY M f c q) (ha : a < 65536) (h0 : ∀ s, s < 65536 → M.1 14 s = 0) : ∃ N, f_X11_dual_l1 (nI f) (nI a) fuelN (nI a) M = some N ∧ (∀ d, d ≠ 14 → N.1 d = M.1 d) ∧ ∀ s, s < 65536 → (N.1 14 s = 0 ↔ ¬ (1 ≤ s ∧ Sb s a ∧ Mt c q s)) := by
  refine loop_d (F := fun n (s : Int32 × Mem) => f_X11_dual_l1 (nI f) (nI a) n s.1 s.2)
    (fun s => ∃ v, s.1 = nI v ∧ Sb v a ∧ (∀ d, d ≠ 14 → s.2.1 d = M.1 d) ∧ ∀ t, t < 65536 → (s.2.1 14 t = 0 ↔ ¬ (v < t ∧ Sb t a ∧ Mt c q t)))
    (fun s => s.1.toNatClampNeg) _ ?_ (nI a, M) ⟨a, rfl, Sb.refl a, fun _ _ => rfl, fun t ht => ⟨fun _ q => by have := Sb_le q.2.1; omega, fun _ => h0 t ht⟩⟩ (by show (nI a).toNatClampNeg < 70000; rw [nI_clamp (by omega)]; omega)
  rintro n ⟨w, N⟩ ⟨v, e, hv, g1, g2⟩
  dsimp only at e g1 g2
  subst e
  have hva := Sb_le hv
  by_cases v0 : v = 0
  · subst v0
    right
    refine ⟨N, ?_, g1, fun s hs => ?_⟩
    · show f_X11_dual_l1 _ _ (n + 1) (nI 0) N = _
      rw [f_X11_dual_l1, if_pos (by decide)]
    · rw [g2 s hs]
      exact Iff.rfl
  · left
    obtain ⟨r, e, hr⟩ := meetsY (v := v) (QY_14 hy g1) (by omega)
    have hlt : (v - 1) &&& a < v := by have : (v - 1) &&& a ≤ v - 1 := Nat.and_le_left; omega
    refine ⟨(nI ((v - 1) &&& a), sI N 14 v r), ⟨(v - 1) &&& a, rfl, and_Sb _ _, fun d hd => ?_, fun t ht => ?_⟩, ?_, ?_⟩
    · show (sI N 14 v r).1 d = _
      rw [sI_off _ _ _ _ hd]; exact g1 d hd
    · show (sI N 14 v r).1 14 t = 0 ↔ _
      rw [sI_1]
      by_cases et : t = v
      · subst et
        rw [if_pos ⟨rfl, rfl⟩]
        rcases hr with ⟨rfl, hm⟩ | ⟨rfl, hm⟩
        · exact ⟨fun q => absurd q (by decide), fun q => absurd ⟨hlt, hv, hm⟩ q⟩
        · exact ⟨fun _ q => hm q.2.2, fun _ => rfl⟩
      · rw [if_neg (by omega), g2 t ht]
        constructor
        · intro q ⟨q1, q2, q3⟩
          refine q ⟨?_, q2, q3⟩
          apply Classical.byContradiction
          intro q4
          have := sub_pred 16 a v t ha hv q2 (by omega)
          omega
        · intro q ⟨q1, q2, q3⟩
          exact q ⟨by omega, q2, q3⟩
    · show (nI ((v - 1) &&& a)).toNatClampNeg < (nI v).toNatClampNeg
      rw [nI_clamp (by omega), nI_clamp (by omega)]; exact hlt
    · show f_X11_dual_l1 (nI f) (nI a) (n + 1) (nI v) N = f_X11_dual_l1 (nI f) (nI a) n (nI ((v - 1) &&& a)) _
      rw [f_X11_dual_l1, if_neg (nI_nle (by omega) (by omega)), e, Option.bind_some, if_pos (inB_nI (show v < 65536 by omega) (by decide)), if_pos (by rcases hr with ⟨rfl, -⟩ | ⟨rfl, -⟩ <;> simp), nI_clamp (by omega), show (1 : Int32) = nI 1 from rfl, pk_sub (by omega), nx_and]
theorem fin2 {M1 M2 A B : Mem} {z : Sg} {h : List Ac} {G : Nat → Prop} {kd : Nat} (H : Core M1 M2 z h) (hL : ListR M1 M2 (zKn z)) (hS : SheetR M1 M2) (hf : zFn z < 24) (hkd : kd ≤ 10) (kA : KeepX M1 A) (pA : PS A (max (zKn z) 6)) (hA : ∀ s, s < 2 ^ (max (zKn z) 6) → (pb A s = true ↔ Up G s))
    (kB : KeepY M2 B) (hG : ∀ s, s < 65536 → (B.1 14 s = 0 ↔ ¬ G s)) (hG2 : ∀ s, G s → 1 ≤ s ∧ s < 2 ^ zKn z) (hne : ∃ s, G s) :
    ∃ r N1 N2, f_X10_settle (nI kd) A = some (r, N1) ∧ f_X11_made (nI kd) B = some (r, N2) ∧ Rel N1 N2 :=
  settle_rel (G := G) (kd := kd) (Core_ag H kA.1 kB.1) (ListR_ag hL kA.2.1 kA.2.2.1 kB.2.1 kB.2.2.1) (SheetR_ag hS kA.2.2.2.1 kA.2.2.2.2 kB.2.2.2.1 kB.2.2.2.2) hf hkd pA hA hG hG2 hne
theorem keepX_1 {M N : Mem} (h : N.1 = M.1) : KeepX M N := by
  unfold KeepX AgX
  rw [h]
  exact KeepX.refl M
set_option maxRecDepth 10000 in
theorem step_dual : St_dual Rel := by
  intro a M1 M2 H
  have Hn1 := Rel_no H 1
  obtain ⟨z, h, hC, hL, hS, hs⟩ := id H
  obtain ⟨h1, h2, h3, h4, -⟩ := id hC
  have hI := h4.inv
  have hf := hI.2.1
  unfold f_X10_dual f_X11_dual
  rcases pk_ix a (n := zFn z) (by omega) with ha | ha | ⟨f, hfz, rfl⟩
  · rw [famAt_no h1.2.1.1 (Or.inl ha), isFam_no (by rw [fn5]; exact h2.2.1.1) hf.1 (Or.inl ha)]; exact ⟨_, _, rfl, rfl, rfl, Hn1⟩
  · rw [famAt_no h1.2.1.1 (Or.inr ha), isFam_no (by rw [fn5]; exact h2.2.1.1) hf.1 (Or.inr ha)]; exact ⟨_, _, rfl, rfl, rfl, Hn1⟩
  rw [famAt_yes h1.2.1.1 hf.1 hfz, isFam_yes (by rw [fn5]; exact h2.2.1.1) hf.1 hfz]
  obtain ⟨-, c1, c2, c3⟩ := hf.2 f hfz
  have hpk := p16 hI.1.1
  have qx := QX_of hI h1.2.1 hfz
  have qy := QY_of hI h2.2.1 hfz
  have hA : orF (zSet (zFm z) f) (zCnt (zFm z) f) < 2 ^ zKn z := orF_lt _ (fun i hi => (c3 i hi).2)
  obtain ⟨B0, b1, b2, b3⟩ := noSetsY (sI M2 0 5 0)
  have kB0 : KeepY M2 B0 := (k5 M2).trans (keepY_14 b2)
  have qyB := QY_k qy kB0
  obtain ⟨B, b4, b5, b6⟩ := dualY_l (a := orF (zSet (zFm z) f) (zCnt (zFm z) f)) qyB (by omega) b3
  have kB : KeepY M2 B := kB0.trans (keepY_14 b5)
  rw [Option.bind_some, oel_some, if_pos (kX_fam qx.1), Option.bind_some, if_neg one_ne, b1, Option.bind_some, allOfY qyB, Option.bind_some, b4, Option.bind_some]
  by_cases hfn : zFn z < 24
  · obtain ⟨A0, a1, a2, a3, a4, a5⟩ := begun hI.1.1 h1.1.1
    obtain ⟨A, a6, a7, a8⟩ := meetX a2 a5 (QX_k qx a4) (fun i hi => k2m (c3 i hi).2)
    have hne : Mt (zCnt (zFm z) f) (zSet (zFm z) f) (orF (zSet (zFm z) f) (zCnt (zFm z) f)) := fun i hi e => by
      have hs := Sb_and.mp (orF_Sb (q := zSet (zFm z) f) _ i hi)
      rw [Nat.and_comm, hs] at e
      have := (c3 i hi).1
      omega
    have hpos : ∀ s, Mt (zCnt (zFm z) f) (zSet (zFm z) f) s → 1 ≤ s := fun s hm => by
      apply Classical.byContradiction
      intro q
      have : s = 0 := by omega
      exact hm 0 c1 (by rw [this, Nat.zero_and])
    obtain ⟨r, N1, N2, e1, e2, hR⟩ := fin2 (G := fun s => 1 ≤ s ∧ Sb s (orF (zSet (zFm z) f) (zCnt (zFm z) f)) ∧ Mt (zCnt (zFm z) f) (zSet (zFm z) f) s) (kd := 7) hC hL hS hfn (by omega) (a4.trans (keepX_1 a7)) (PS.keep a2 a7) (fun s hs => by
      rw [a8 s hs]
      constructor
      · intro hm
        have hm2 := Mt_and.mpr hm
        exact ⟨s &&& orF (zSet (zFm z) f) (zCnt (zFm z) f), fun k hk => by rw [Nat.testBit_and] at hk; exact (Bool.and_eq_true_iff.mp hk).1, hpos _ hm2, and_Sb _ _, hm2⟩
      · rintro ⟨t, t1, -, -, t2⟩
        exact Mt_mono t2 t1) kB b6 (fun s hs => ⟨hs.1, Nat.lt_of_le_of_lt (Sb_le hs.2.1) hA⟩) ⟨_, hpos _ hne, Sb.refl _, hne⟩
    rw [room_yes h1.2.1.1 hfn, Option.bind_some, if_neg one_ne, a1, Option.bind_some, a6, Option.bind_some, show (7 : Int32) = nI 7 from rfl, e1, e2]
    exact ⟨_, _, rfl, rfl, rfl, hR⟩
  · have h24 : zFn z = 24 := by omega
    obtain ⟨e2, hR⟩ := full H kB (by rw [h2.2.1.1, h24]) 7
    rw [room_no (by rw [h1.2.1.1, h24]), e2]
    exact ⟨_, _, rfl, rfl, rfl, hR⟩
