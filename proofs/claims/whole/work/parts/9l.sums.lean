/-! chance: sums over sets -/
/-- the product of what each place gives, from place o on -/
def prd (F : Nat → Bool → Nat) (o : Nat) : Nat → Nat → Nat
  | 0, _ => 1
  | d + 1, y => prd F o d y * F (o + d) (y.testBit d)
theorem prd_congr {F G : Nat → Bool → Nat} {o : Nat} : ∀ d y z, (∀ k, k < d → F (o + k) (y.testBit k) = G (o + k) (z.testBit k)) → prd F o d y = prd G o d z := by
  intro d
  induction d with
  | zero => intro y z _; rfl
  | succ d ih =>
    intro y z h
    show prd F o d y * F (o + d) (y.testBit d) = prd G o d z * G (o + d) (z.testBit d)
    rw [ih y z (fun k hk => h k (by omega)), h d (by omega)]
theorem prd_low {F : Nat → Bool → Nat} {o : Nat} : ∀ d y, prd F o (d + 1) y = F o (y.testBit 0) * prd F (o + 1) d (y / 2) := by
  intro d
  induction d with
  | zero =>
    intro y
    show 1 * F (o + 0) (y.testBit 0) = F o (y.testBit 0) * 1
    rw [Nat.one_mul, Nat.mul_one, Nat.add_zero]
  | succ d ih =>
    intro y
    show prd F o (d + 1) y * F (o + (d + 1)) (y.testBit (d + 1)) = F o (y.testBit 0) * (prd F (o + 1) d (y / 2) * F (o + 1 + d) ((y / 2).testBit d))
    rw [ih y, Nat.mul_assoc, Nat.testBit_succ, show o + (d + 1) = o + 1 + d by omega]
theorem prd_ij {F : Nat → Bool → Nat} {i j : Nat} (hj : j < 64) : ∀ d, prd F 0 (6 + d) (64 * i + j) = prd F 0 6 j * prd F 6 d i := by
  intro d
  induction d with
  | zero =>
    show prd F 0 6 (64 * i + j) = prd F 0 6 j * 1
    rw [Nat.mul_one]
    exact prd_congr 6 _ _ (fun k hk => by rw [tb_ij hj hk])
  | succ d ih =>
    show prd F 0 (6 + d) (64 * i + j) * F (0 + (6 + d)) ((64 * i + j).testBit (6 + d)) = prd F 0 6 j * (prd F 6 d i * F (6 + d) (i.testBit d))
    rw [ih, Nat.add_comm 6 d, tb_ij2 hj, Nat.zero_add, Nat.mul_assoc]
theorem psum_add (p q : Nat → Nat) : ∀ n, psum (fun i => p i + q i) n = psum p n + psum q n := by
  intro n
  induction n with
  | zero => rfl
  | succ n ih => show psum (fun i => p i + q i) n + (p n + q n) = psum p n + p n + (psum q n + q n); omega
theorem psum_mul (a : Nat) (p : Nat → Nat) : ∀ n, psum (fun i => a * p i) n = a * psum p n := by
  intro n
  induction n with
  | zero => rfl
  | succ n ih => show psum (fun i => a * p i) n + a * p n = a * (psum p n + p n); rw [ih, Nat.mul_add]
theorem psum_two (p : Nat → Nat) : ∀ n, psum p (2 * n) = psum (fun i => p (2 * i) + p (2 * i + 1)) n := by
  intro n
  induction n with
  | zero => rfl
  | succ n ih =>
    rw [show 2 * (n + 1) = 2 * n + 1 + 1 by omega]
    show psum p (2 * n) + p (2 * n) + p (2 * n + 1) = psum (fun i => p (2 * i) + p (2 * i + 1)) n + (p (2 * n) + p (2 * n + 1))
    omega
theorem psum_blk (p : Nat → Nat) : ∀ n, psum p (64 * n) = psum (fun y => psum (fun j => p (64 * y + j)) 64) n := by
  intro n
  induction n with
  | zero => rfl
  | succ n ih =>
    rw [show 64 * (n + 1) = 64 * n + 64 by omega, psum_split, ih]
    rfl
/-- the sum over the sets of n places -/
def SZ (F : Nat → Bool → Nat) (n : Nat) (P : Nat → Bool) : Nat := psum (fun s => if P s then prd F 0 n s else 0) (2 ^ n)
theorem SZ_top (F : Nat → Bool → Nat) (n : Nat) (P : Nat → Bool) : SZ F (n + 1) P = F n false * SZ F n P + F n true * SZ F n (fun s => P (2 ^ n + s)) := by
  unfold SZ
  rw [show 2 ^ (n + 1) = 2 ^ n + 2 ^ n by rw [Nat.pow_succ]; omega, psum_split, ← psum_mul, ← psum_mul]
  congr 1
  · refine psum_congr _ (fun s hs => ?_)
    rw [show prd F 0 (n + 1) s = prd F 0 n s * F n false by
      show prd F 0 n s * F (0 + n) (s.testBit n) = _
      rw [Nat.zero_add, tb_hi hs (Nat.le_refl _)]]
    split
    · rw [Nat.mul_comm]
    · rw [Nat.mul_zero]
  · refine psum_congr _ (fun s hs => ?_)
    rw [show prd F 0 (n + 1) (2 ^ n + s) = prd F 0 n s * F n true by
      show prd F 0 n (2 ^ n + s) * F (0 + n) ((2 ^ n + s).testBit n) = _
      rw [Nat.zero_add, Nat.testBit_two_pow_add_eq, tb_hi hs (Nat.le_refl _)]
      congr 1
      exact prd_congr n _ _ (fun k hk => by rw [Nat.testBit_two_pow_add_gt hk])]
    split
    · rw [Nat.mul_comm]
    · rw [Nat.mul_zero]
theorem SZ_congr {F : Nat → Bool → Nat} {n : Nat} {P Q : Nat → Bool} (h : ∀ s, s < 2 ^ n → P s = Q s) : SZ F n P = SZ F n Q := psum_congr _ (fun s hs => by rw [h s hs])
/-- it looks at the places of A alone -/
def Ins (A n : Nat) (P : Nat → Bool) : Prop := ∀ s t, s < 2 ^ n → t < 2 ^ n → (∀ k, A.testBit k = true → s.testBit k = t.testBit k) → P s = P t
theorem Ins.low {A n : Nat} {P : Nat → Bool} (h : Ins A (n + 1) P) : Ins A n P := fun s t hs ht e => by
  have : 2 ^ (n + 1) = 2 ^ n + 2 ^ n := by rw [Nat.pow_succ]; omega
  exact h s t (by omega) (by omega) e
theorem add_tb {n s k : Nat} (hs : s < 2 ^ n) : (2 ^ n + s).testBit k = if k = n then true else s.testBit k := by
  rcases Nat.lt_trichotomy k n with q | q | q
  · rw [Nat.testBit_two_pow_add_gt q, if_neg (by omega)]
  · subst q
    rw [Nat.testBit_two_pow_add_eq, tb_hi hs (Nat.le_refl _), if_pos rfl]; rfl
  · rw [if_neg (by omega), tb_hi hs (by omega)]
    refine tb_hi (n := n + 1) ?_ q
    rw [Nat.pow_succ]; omega
theorem Ins.high {A n : Nat} {P : Nat → Bool} (h : Ins A (n + 1) P) : Ins A n (fun s => P (2 ^ n + s)) := fun s t hs ht e => by
  have : 2 ^ (n + 1) = 2 ^ n + 2 ^ n := by rw [Nat.pow_succ]; omega
  refine h _ _ (by omega) (by omega) (fun k hk => ?_)
  rw [add_tb hs, add_tb ht, e k hk]
theorem Ins.none {A n : Nat} {P : Nat → Bool} (h : Ins A (n + 1) P) (hA : A.testBit n = false) {s : Nat} (hs : s < 2 ^ n) : P (2 ^ n + s) = P s := by
  have : 2 ^ (n + 1) = 2 ^ n + 2 ^ n := by rw [Nat.pow_succ]; omega
  refine h _ _ (by omega) (by omega) (fun k hk => ?_)
  rw [add_tb hs, if_neg]
  intro e
  rw [e, hA] at hk; cases hk
/-- places outside A give ten alone -/
def cut (A : Nat) (F : Nat → Bool → Nat) : Nat → Bool → Nat := fun k b => if A.testBit k then F k b else if b then 0 else 10
theorem SZ_cut {A : Nat} {F : Nat → Bool → Nat} (hF : ∀ k, F k false + F k true = 10) : ∀ n P, Ins A n P → SZ F n P = SZ (cut A F) n P := by
  intro n
  induction n with
  | zero => intro P _; rfl
  | succ n ih =>
    intro P h
    rw [SZ_top, SZ_top, ih P h.low, ih _ h.high]
    cases hA : A.testBit n with
    | true =>
      unfold cut
      simp only [hA, if_true]
    | false =>
      have e : SZ (cut A F) n (fun s => P (2 ^ n + s)) = SZ (cut A F) n P := SZ_congr (fun s hs => h.none hA hs)
      rw [e]
      unfold cut
      simp only [hA]
      rw [← Nat.add_mul, hF n]
      simp
theorem SZ_ten {A : Nat} {F : Nat → Bool → Nat} (hF : ∀ k, F k false + F k true = 10) {m : Nat} (hA : A < 2 ^ m) : ∀ d P, Ins A (m + d) P → SZ F (m + d) P = 10 ^ d * SZ F m P := by
  intro d
  induction d with
  | zero => intro P _; rw [Nat.pow_zero, Nat.one_mul]; rfl
  | succ d ih =>
    intro P h
    have hAd : A.testBit (m + d) = false := tb_hi hA (by omega)
    have e : SZ F (m + d) (fun s => P (2 ^ (m + d) + s)) = SZ F (m + d) P := SZ_congr (fun s hs => h.none hAd hs)
    show SZ F (m + d + 1) P = _
    rw [SZ_top, e, ← Nat.add_mul, hF, ih P h.low, Nat.pow_succ, ← Nat.mul_assoc, Nat.mul_comm 10]
/-- the class's folding: d places folded, the rest of a word's number is x -/
def Vf (F : Nat → Bool → Nat) (m : Nat) (B : Nat → Nat) : Nat → Nat → Nat
  | 0, x => B x
  | d + 1, x => F (m - 1 - d) false * Vf F m B d x + F (m - 1 - d) true * Vf F m B d (x + 2 ^ (m - 6 - (d + 1)))
theorem Vf_sum {F : Nat → Bool → Nat} {m : Nat} {B : Nat → Nat} : ∀ d x, d + 6 ≤ m → Vf F m B d x = psum (fun y => prd F (m - d) d y * B (x + 2 ^ (m - 6 - d) * y)) (2 ^ d) := by
  intro d
  induction d with
  | zero =>
    intro x _
    show B x = 0 + 1 * B (x + 2 ^ (m - 6 - 0) * 0)
    rw [Nat.mul_zero, Nat.add_zero, Nat.zero_add, Nat.one_mul]
  | succ d ih =>
    intro x hd
    show F (m - 1 - d) false * Vf F m B d x + F (m - 1 - d) true * Vf F m B d (x + 2 ^ (m - 6 - (d + 1))) = _
    rw [ih x (by omega), ih _ (by omega), ← psum_mul, ← psum_mul, ← psum_add, show 2 ^ (d + 1) = 2 * 2 ^ d by rw [Nat.pow_succ]; omega, psum_two]
    refine psum_congr _ (fun y hy => ?_)
    have e1 : 2 ^ (m - 6 - d) = 2 ^ (m - 6 - (d + 1)) * 2 := by rw [← Nat.pow_succ]; congr 1; omega
    have e2 : m - (d + 1) + 1 = m - d := by omega
    have e3 : m - (d + 1) = m - 1 - d := by omega
    rw [prd_low, prd_low, e2, e3, show (2 * y).testBit 0 = false by rw [Nat.testBit_zero]; simp, show (2 * y + 1).testBit 0 = true by rw [Nat.testBit_zero]; simp, show 2 * y / 2 = y by omega, show (2 * y + 1) / 2 = y by omega, e1]
    have e4 : x + 2 ^ (m - 6 - (d + 1)) * 2 * y = x + 2 ^ (m - 6 - (d + 1)) * (2 * y) := by rw [Nat.mul_assoc]
    have e5 : x + 2 ^ (m - 6 - (d + 1)) + 2 ^ (m - 6 - (d + 1)) * 2 * y = x + 2 ^ (m - 6 - (d + 1)) * (2 * y + 1) := by rw [Nat.mul_add, Nat.mul_one, Nat.mul_assoc]; omega
    rw [e4, e5, Nat.mul_assoc, Nat.mul_assoc]
theorem Vf_SZ {F : Nat → Bool → Nat} {m : Nat} (h6 : 6 ≤ m) (P : Nat → Bool) : Vf F m (fun x => psum (fun j => if P (64 * x + j) then prd F 0 6 j else 0) 64) (m - 6) 0 = SZ F m P := by
  rw [Vf_sum (m - 6) 0 (by omega), show m - (m - 6) = 6 by omega, Nat.sub_self, Nat.pow_zero]
  unfold SZ
  have e : 2 ^ m = 64 * 2 ^ (m - 6) := by
    rw [show (64 : Nat) = 2 ^ 6 from rfl, ← Nat.pow_add]; congr 1; omega
  rw [e, psum_blk]
  refine psum_congr _ (fun y hy => ?_)
  rw [Nat.one_mul, Nat.zero_add, ← psum_mul]
  refine psum_congr _ (fun j hj => ?_)
  have e2 := prd_ij (F := F) (i := y) hj (m - 6)
  rw [show 6 + (m - 6) = m by omega] at e2
  rw [e2]
  split
  · rw [Nat.mul_comm]
  · rw [Nat.mul_zero]
