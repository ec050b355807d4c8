def bi (x k : Nat) : Nat := if x.testBit k then 1 else 0
theorem psum_split (p : Nat → Nat) (a : Nat) : ∀ b, psum p (a + b) = psum p a + psum (fun k => p (a + k)) b := by
  intro b
  induction b with
  | zero => rfl
  | succ b ih =>
    show psum p (a + b) + p (a + b) = psum p a + (psum (fun k => p (a + k)) b + p (a + b))
    rw [ih]; omega
theorem psum_congr {p q : Nat → Nat} : ∀ n, (∀ k, k < n → p k = q k) → psum p n = psum q n := by
  intro n
  induction n with
  | zero => intro _; rfl
  | succ n ih =>
    intro h
    show psum p n + p n = psum q n + q n
    rw [ih (fun k hk => h k (by omega)), h n (by omega)]
def pcn (x n : Nat) : Nat := psum (bi x) n
theorem bi_lo {b y k : Nat} (hb : b < 256) (hk : k < 8) : bi (b + 256 * y) k = bi b k := by
  unfold bi
  rw [Nat.add_comm, show 256 * y + b = 2 ^ 8 * y + b from rfl, Nat.testBit_two_pow_mul_add y hb, if_pos hk]
theorem bi_hi {b y k : Nat} (hb : b < 256) : bi (b + 256 * y) (8 + k) = bi y k := by
  unfold bi
  rw [Nat.add_comm, show 256 * y + b = 2 ^ 8 * y + b from rfl, Nat.testBit_two_pow_mul_add y hb]
  rw [if_neg (c := 8 + k < 8) (by omega), show 8 + k - 8 = k by omega]
theorem pcn_byte {b y n : Nat} (hb : b < 256) : pcn (b + 256 * y) (8 + n) = pcn b 8 + pcn y n := by
  unfold pcn
  rw [psum_split]
  congr 1
  · exact psum_congr 8 (fun k hk => bi_lo hb hk)
  · exact psum_congr n (fun k hk => bi_hi hb)
theorem and_split {a b c d : Nat} (ha : a < 256) (hb : b < 256) : (a + 256 * c) &&& (b + 256 * d) = (a &&& b) + 256 * (c &&& d) := by
  refine Nat.eq_of_testBit_eq fun j => ?_
  have hab : a &&& b < 2 ^ 8 := Nat.and_lt_two_pow a hb
  rw [Nat.testBit_and, Nat.add_comm a, Nat.add_comm b, Nat.add_comm (a &&& b), show 256 * c + a = 2 ^ 8 * c + a from rfl, show 256 * d + b = 2 ^ 8 * d + b from rfl, show 256 * (c &&& d) + (a &&& b) = 2 ^ 8 * (c &&& d) + (a &&& b) from rfl, Nat.testBit_two_pow_mul_add c ha, Nat.testBit_two_pow_mul_add d hb, Nat.testBit_two_pow_mul_add (c &&& d) hab]
  by_cases h : j < 8
  · rw [if_pos h, if_pos h, if_pos h, Nat.testBit_and]
  · rw [if_neg h, if_neg h, if_neg h, Nat.testBit_and]
def mk (v : Nat) : Nat → Nat
  | 0 => 0
  | n + 1 => v + 256 * mk v n
def s1 (n x : Nat) : Nat := x - ((x / 2) &&& mk 85 n)
def s2 (n x : Nat) : Nat := (x &&& mk 51 n) + ((x / 4) &&& mk 51 n)
def s3 (n x : Nat) : Nat := (x + x / 16) &&& mk 15 n
set_option maxRecDepth 100000 in
theorem d1 : ∀ b, b < 256 → ∀ e, e < 2 → (b / 2 + 128 * e) &&& 85 = (b / 2) &&& 85 := by decide +kernel
set_option maxRecDepth 100000 in
theorem d2 : ∀ b, b < 256 → ∀ e, e < 4 → (b / 4 + 64 * e) &&& 51 = (b / 4) &&& 51 := by decide +kernel
theorem d3 : ∀ b, b < 256 → s1 1 b < 256 ∧ s2 1 (s1 1 b) % 16 ≤ 4 ∧ s2 1 (s1 1 b) ≤ 68 ∧ (s2 1 (s1 1 b) + s2 1 (s1 1 b) / 16) % 16 = pcn b 8 := by decide +kernel
theorem s1_step {n b y : Nat} (hb : b < 256) : s1 (n + 1) (b + 256 * y) = s1 1 b + 256 * s1 n y := by
  unfold s1
  have e : (b + 256 * y) / 2 = (b / 2 + 128 * (y % 2)) + 256 * (y / 2) := by omega
  rw [e, show mk 85 (n + 1) = 85 + 256 * mk 85 n from rfl, and_split (by omega) (by omega), d1 b hb (y % 2) (by omega), show mk 85 1 = 85 from rfl]
  have h1 : (b / 2) &&& 85 ≤ b / 2 := Nat.and_le_left
  have h2 : (y / 2) &&& mk 85 n ≤ y / 2 := Nat.and_le_left
  omega
theorem s2_step {n b y : Nat} (hb : b < 256) : s2 (n + 1) (b + 256 * y) = s2 1 b + 256 * s2 n y := by
  unfold s2
  have e : (b + 256 * y) / 4 = (b / 4 + 64 * (y % 4)) + 256 * (y / 4) := by omega
  rw [e, show mk 51 (n + 1) = 51 + 256 * mk 51 n from rfl, and_split (by omega) (by omega), and_split (by omega) (by omega), d2 b hb (y % 4) (by omega), show mk 51 1 = 51 from rfl]
  omega
theorem s3_step {n c d : Nat} (hc : c ≤ 68) (hd : d % 16 ≤ 4) : s3 (n + 1) (c + 256 * d) = (c + c / 16) % 16 + 256 * s3 n d := by
  unfold s3
  have e : c + 256 * d + (c + 256 * d) / 16 = (c + c / 16 + 16 * (d % 16)) + 256 * (d + d / 16) := by omega
  rw [e, show mk 15 (n + 1) = 15 + 256 * mk 15 n from rfl, and_split (by omega) (by omega)]
  congr 1
  rw [show (15 : Nat) = 2 ^ 4 - 1 from rfl, Nat.and_two_pow_sub_one_eq_mod]
  omega
theorem T_step {n b y : Nat} (hb : b < 256) (hy : s2 n (s1 n y) % 16 ≤ 4) : s3 (n + 1) (s2 (n + 1) (s1 (n + 1) (b + 256 * y))) = pcn b 8 + 256 * s3 n (s2 n (s1 n y)) ∧ s2 (n + 1) (s1 (n + 1) (b + 256 * y)) % 16 ≤ 4 := by
  obtain ⟨e1, e2, e3, e4⟩ := d3 b hb
  rw [s1_step hb, s2_step e1, s3_step e3 hy, e4]
  refine ⟨rfl, ?_⟩
  omega
theorem pc_byte_le : ∀ b, b < 256 → pcn b 8 ≤ 8 := by decide +kernel
/-- four bytes, eight bytes -/
theorem T_bytes : ∀ n x, x < 256 ^ n → ∃ e : Nat → Nat, (∀ j, e j ≤ 8) ∧ s3 n (s2 n (s1 n x)) = psum (fun j => e j * 256 ^ j) n ∧ pcn x (8 * n) = psum e n ∧ s2 n (s1 n x) % 16 ≤ 4 := by
  intro n
  induction n with
  | zero =>
    intro x hx
    have : x = 0 := by simpa using hx
    subst this
    exact ⟨fun _ => 0, fun _ => Nat.zero_le _, rfl, rfl, by decide⟩
  | succ n ih =>
    intro x hx
    have hxe : x = x % 256 + 256 * (x / 256) := by omega
    have hy : x / 256 < 256 ^ n := by
      rw [Nat.pow_succ] at hx
      exact Nat.div_lt_of_lt_mul (by rw [Nat.mul_comm]; exact hx)
    obtain ⟨e, h1, h2, h3, h4⟩ := ih (x / 256) hy
    have hb : x % 256 < 256 := by omega
    obtain ⟨t1, t2⟩ := T_step (n := n) (b := x % 256) (y := x / 256) hb h4
    rw [← hxe] at t1 t2
    refine ⟨fun j => if j = 0 then pcn (x % 256) 8 else e (j - 1), fun j => ?_, ?_, ?_, t2⟩
    · show (if j = 0 then pcn (x % 256) 8 else e (j - 1)) ≤ 8
      split
      · exact pc_byte_le _ hb
      · exact h1 _
    · rw [t1, h2, Nat.add_comm n 1, psum_split]
      congr 1
      · show _ = 0 + pcn (x % 256) 8 * 256 ^ 0
        omega
      · have : ∀ m, 256 * psum (fun j => e j * 256 ^ j) m = psum (fun k => (if 1 + k = 0 then pcn (x % 256) 8 else e (1 + k - 1)) * 256 ^ (1 + k)) m := by
          intro m
          induction m with
          | zero => rfl
          | succ m ihm =>
            show 256 * (psum _ m + e m * 256 ^ m) = psum _ m + (if 1 + m = 0 then pcn (x % 256) 8 else e (1 + m - 1)) * 256 ^ (1 + m)
            rw [← ihm, if_neg (by omega), show 1 + m - 1 = m by omega, Nat.mul_add, Nat.add_comm 1 m, Nat.pow_succ, Nat.mul_left_comm, Nat.mul_comm 256 (256 ^ m)]
        exact this n
    · have e8 : 8 * (n + 1) = 8 + 8 * n := by omega
      rw [e8, hxe, pcn_byte hb, ← hxe, h3, Nat.add_comm n 1, psum_split]
      congr 1
      · show _ = 0 + pcn (x % 256) 8
        omega
      · refine psum_congr n (fun k hk => ?_)
        show e k = if 1 + k = 0 then _ else e (1 + k - 1)
        rw [if_neg (by omega), show 1 + k - 1 = k by omega]
theorem dv {S r k q : Nat} (hS : S = r + k * q) (hr : r < k) : S / k = q := by
  rw [hS, Nat.add_mul_div_left _ _ (by omega), Nat.div_eq_of_lt hr, Nat.zero_add]
theorem fin4 (S e0 e1 e2 e3 : Nat) (h0 : e0 ≤ 8) (h1 : e1 ≤ 8) (h2 : e2 ≤ 8) (h3 : e3 ≤ 8) (hS : S = e0 + e1 * 256 + e2 * 65536 + e3 * 16777216) : ((S + S / 256) + (S + S / 256) / 65536) % 64 = e0 + e1 + e2 + e3 ∧ S + S / 256 < 4294967296 ∧ (S + S / 256) + (S + S / 256) / 65536 < 4294967296 := by
  have d1 : S / 256 = e1 + 256 * e2 + 65536 * e3 := dv (r := e0) (by omega) (by omega)
  generalize S / 256 = a at d1 ⊢
  have d2 : (S + a) / 65536 = (e2 + e3) + 256 * e3 := dv (r := (e0 + e1) + 256 * (e1 + e2)) (by omega) (by omega)
  generalize (S + a) / 65536 = b at d2 ⊢
  have e : S + a + b = (e0 + e1 + e2 + e3) + 64 * (4 * (e1 + e2 + e3) + 1024 * (e2 + e3) + 262144 * e3) := by omega
  refine ⟨?_, by omega, by omega⟩
  rw [e, Nat.add_mul_mod_self_left, Nat.mod_eq_of_lt (by omega)]
theorem fin8 {S A B C e0 e1 e2 e3 e4 e5 e6 e7 : Nat} (h0 : e0 ≤ 8) (h1 : e1 ≤ 8) (h2 : e2 ≤ 8) (h3 : e3 ≤ 8) (h4 : e4 ≤ 8) (h5 : e5 ≤ 8) (h6 : e6 ≤ 8) (h7 : e7 ≤ 8) (hS : S = e0 + e1 * 256 + e2 * 65536 + e3 * 16777216 + e4 * 4294967296 + e5 * 1099511627776 + e6 * 281474976710656 + e7 * 72057594037927936)
    (eA : A = S + S / 256) (eB : B = A + A / 65536) (eC : C = B + B / 4294967296) : C % 128 = e0 + e1 + e2 + e3 + e4 + e5 + e6 + e7 ∧ A < 18446744073709551616 ∧ B < 18446744073709551616 ∧ C < 18446744073709551616 := by
  have d1 : S / 256 = e1 + e2 * 256 + e3 * 65536 + e4 * 16777216 + e5 * 4294967296 + e6 * 1099511627776 + e7 * 281474976710656 := dv (r := e0) (by clear eA eB eC; omega) (by clear eA eB eC hS; omega)
  rw [d1] at eA
  have hA : A = (e0 + e1) + (e1 + e2) * 256 + (e2 + e3) * 65536 + (e3 + e4) * 16777216 + (e4 + e5) * 4294967296 + (e5 + e6) * 1099511627776 + (e6 + e7) * 281474976710656 + e7 * 72057594037927936 := by
    clear d1 eB eC; omega
  clear hS d1 eA
  have d2 : A / 65536 = (e2 + e3) + (e3 + e4) * 256 + (e4 + e5) * 65536 + (e5 + e6) * 16777216 + (e6 + e7) * 4294967296 + e7 * 1099511627776 := dv (r := (e0 + e1) + (e1 + e2) * 256) (by clear eB eC; omega) (by clear eB eC hA; omega)
  rw [d2] at eB
  have hB : B = (e0 + e1 + e2 + e3) + (e1 + e2 + e3 + e4) * 256 + (e2 + e3 + e4 + e5) * 65536 + (e3 + e4 + e5 + e6) * 16777216 + (e4 + e5 + e6 + e7) * 4294967296 + (e5 + e6 + e7) * 1099511627776 + (e6 + e7) * 281474976710656 + e7 * 72057594037927936 := by
    clear d2 eC; omega
  have hAl : A < 18446744073709551616 := by clear d2 hB eB eC; omega
  clear d2 eB hA
  have d3 : B / 4294967296 = (e4 + e5 + e6 + e7) + (e5 + e6 + e7) * 256 + (e6 + e7) * 65536 + e7 * 16777216 := dv (r := (e0 + e1 + e2 + e3) + (e1 + e2 + e3 + e4) * 256 + (e2 + e3 + e4 + e5) * 65536 + (e3 + e4 + e5 + e6) * 16777216) (by clear eC hAl; omega) (by clear eC hB hAl; omega)
  rw [d3] at eC
  have hBl : B < 18446744073709551616 := by clear d3 eC hAl; omega
  clear d3
  have hC : C = (e0 + e1 + e2 + e3 + e4 + e5 + e6 + e7) + 128 * ((e1 + e2 + e3 + e4 + e5 + e6 + e7) * 2 + (e2 + e3 + e4 + e5 + e6 + e7) * 512 + (e3 + e4 + e5 + e6 + e7) * 131072 + (e4 + e5 + e6 + e7) * 33554432 + (e5 + e6 + e7) * 8589934592 + (e6 + e7) * 2199023255552 + e7 * 562949953421312) := by
    clear hAl hBl; omega
  clear eC hB
  refine ⟨?_, hAl, hBl, by clear hAl hBl; omega⟩
  rw [hC, Nat.add_mul_mod_self_left, Nat.mod_eq_of_lt (by clear hC; omega)]
/-- the low bit of a word, and the word without it -/
theorem bv_low {w : Nat} (x : BitVec w) (k : Nat) (hk : k < w) (hlow : ∀ j, j < k → x.getLsbD j = false) (hset : x.getLsbD k = true) : x &&& -x = BitVec.twoPow w k := by
  refine BitVec.eq_of_getLsbD_eq fun i hi => ?_
  rw [BitVec.getLsbD_and, BitVec.getLsbD_neg, BitVec.getLsbD_twoPow]
  by_cases h1 : i < k
  · rw [hlow i h1]
    have : ¬ k = i := by omega
    simp [this]
  · by_cases h2 : i = k
    · subst h2
      have : ¬ ∃ j, j < i ∧ x.getLsbD j = true := fun ⟨j, a, b⟩ => by rw [hlow j a] at b; cases b
      rw [hset, decide_eq_true hi, decide_eq_false this]
      simp
    · have : ∃ j, j < i ∧ x.getLsbD j = true := ⟨k, by omega, hset⟩
      rw [decide_eq_true hi, decide_eq_true this]
      have h3 : ¬ k = i := by omega
      simp [h3]
theorem bv_drop {w : Nat} (x : BitVec w) (i : Nat) (hi : i < w) : (x &&& (x - 1#w)).getLsbD i = (x.getLsbD i && decide (∃ j, j < i ∧ x.getLsbD j = true)) := by
  have e : x - 1#w = ~~~ (-x) := by
    rw [BitVec.neg_eq_not_add, ← BitVec.not_sub_one_eq_not_add_one, BitVec.not_not]
  rw [BitVec.getLsbD_and, e, BitVec.getLsbD_not, BitVec.getLsbD_neg, decide_eq_true hi]
  cases x.getLsbD i <;> simp
theorem mk32 : (1431655765 : Int32) = nI (mk 85 4) ∧ (858993459 : Int32) = nI (mk 51 4) ∧ (252645135 : Int32) = nI (mk 15 4) := by decide +kernel
theorem mk64 : (6148914691236517205 : Int64) = lN (mk 85 8) ∧ (3689348814741910323 : Int64) = lN (mk 51 8) ∧ (1085102592571150095 : Int64) = lN (mk 15 8) := by decide +kernel
theorem mkb : mk 85 4 < 2147483648 ∧ mk 51 4 < 2147483648 ∧ mk 15 4 < 2147483648 ∧ mk 85 8 < 9223372036854775808 ∧ mk 51 8 < 9223372036854775808 ∧ mk 15 8 < 9223372036854775808 := by decide +kernel
theorem ius {n k : Nat} (hn : n < 2 ^ 32) (hk : k < 32) : iushr (nI n) (nI k) = nI (n / 2 ^ k) := pk_ushrN hn (nI k) k (s_u k hk)
theorem lus {n k : Nat} (hn : n < 2 ^ 64) (hk : k < 64) : lushr (lN n) (nI k) = lN (n / 2 ^ k) := wb_shr hn hk
theorem bitCount32 {n : Nat} (hn : n < 2 ^ 32) : f_J6_bitCount_0f7a4 (nI n) = some (nI (pcn n 32)) := by
  obtain ⟨m1, m2, m3⟩ := mk32
  obtain ⟨b1, b2, b3, -⟩ := mkb
  obtain ⟨e, he, hT, hP, -⟩ := T_bytes 4 n (by exact hn)
  have l1 : s1 4 n < 2 ^ 32 := Nat.lt_of_le_of_lt (Nat.sub_le _ _) hn
  have l2 : s2 4 (s1 4 n) < 2 ^ 32 := by
    unfold s2
    have : s1 4 n &&& mk 51 4 ≤ mk 51 4 := Nat.and_le_right
    have : s1 4 n / 4 &&& mk 51 4 ≤ mk 51 4 := Nat.and_le_right
    omega
  have l3 : s3 4 (s2 4 (s1 4 n)) < 2 ^ 32 := by
    unfold s3
    have : s2 4 (s1 4 n) + s2 4 (s1 4 n) / 16 &&& mk 15 4 ≤ mk 15 4 := Nat.and_le_right
    omega
  have h1 : nI n - ((iushr (nI n) (1 : Int32)) &&& (1431655765 : Int32)) = nI (s1 4 n) := by
    rw [show (1 : Int32) = nI 1 from rfl, ius hn (by decide), m1, nx_and]
    exact pk_sub (Nat.le_trans Nat.and_le_left (Nat.div_le_self _ _))
  have h2 : (nI (s1 4 n) &&& (858993459 : Int32)) + ((iushr (nI (s1 4 n)) (2 : Int32)) &&& (858993459 : Int32)) = nI (s2 4 (s1 4 n)) := by
    rw [show (2 : Int32) = nI 2 from rfl, ius l1 (by decide), m2, nx_and, nx_and, nI_add]; rfl
  have h3 : (nI (s2 4 (s1 4 n)) + (iushr (nI (s2 4 (s1 4 n))) (4 : Int32))) &&& (252645135 : Int32) = nI (s3 4 (s2 4 (s1 4 n))) := by
    rw [show (4 : Int32) = nI 4 from rfl, ius l2 (by decide), m3, nI_add, nx_and]; rfl
  obtain ⟨g1, g2, g3⟩ := fin4 (s3 4 (s2 4 (s1 4 n))) (e 0) (e 1) (e 2) (e 3) (he 0) (he 1) (he 2) (he 3) (by
    rw [hT]
    show 0 + e 0 * 256 ^ 0 + e 1 * 256 ^ 1 + e 2 * 256 ^ 2 + e 3 * 256 ^ 3 = _
    omega)
  have h4 : nI (s3 4 (s2 4 (s1 4 n))) + iushr (nI (s3 4 (s2 4 (s1 4 n)))) (8 : Int32) = nI (s3 4 (s2 4 (s1 4 n)) + s3 4 (s2 4 (s1 4 n)) / 256) := by
    rw [show (8 : Int32) = nI 8 from rfl, ius l3 (by decide), nI_add]
  have h5 : nI (s3 4 (s2 4 (s1 4 n)) + s3 4 (s2 4 (s1 4 n)) / 256) + iushr (nI (s3 4 (s2 4 (s1 4 n)) + s3 4 (s2 4 (s1 4 n)) / 256)) (16 : Int32) = nI ((s3 4 (s2 4 (s1 4 n)) + s3 4 (s2 4 (s1 4 n)) / 256) + (s3 4 (s2 4 (s1 4 n)) + s3 4 (s2 4 (s1 4 n)) / 256) / 65536) := by
    rw [show (16 : Int32) = nI 16 from rfl, ius (by omega) (by decide), nI_add]
  unfold f_J6_bitCount_0f7a4
  rw [h1, h2, h3, h4, h5, show (63 : Int32) = nI 63 from rfl, nx_and, show (63 : Nat) = 2 ^ 6 - 1 from rfl, Nat.and_two_pow_sub_one_eq_mod, show (2 : Nat) ^ 6 = 64 from rfl, g1, show (32 : Nat) = 8 * 4 from rfl, hP]
  show some (nI _) = some (nI (0 + e 0 + e 1 + e 2 + e 3))
  rw [Nat.zero_add]
theorem bitCount64 {n : Nat} (hn : n < 2 ^ 64) : f_J13_bitCount_95d88 (lN n) = some (nI (pcn n 64)) := by
  obtain ⟨m1, m2, m3⟩ := mk64
  obtain ⟨-, -, -, b1, b2, b3⟩ := mkb
  obtain ⟨e, he, hT, hP, -⟩ := T_bytes 8 n (by exact hn)
  have l1 : s1 8 n < 2 ^ 64 := Nat.lt_of_le_of_lt (Nat.sub_le _ _) hn
  have l2 : s2 8 (s1 8 n) < 2 ^ 64 := by
    unfold s2
    have : s1 8 n &&& mk 51 8 ≤ mk 51 8 := Nat.and_le_right
    have : s1 8 n / 4 &&& mk 51 8 ≤ mk 51 8 := Nat.and_le_right
    omega
  have l3 : s3 8 (s2 8 (s1 8 n)) < 2 ^ 64 := by
    unfold s3
    have : s2 8 (s1 8 n) + s2 8 (s1 8 n) / 16 &&& mk 15 8 ≤ mk 15 8 := Nat.and_le_right
    omega
  have sh : ∀ {a k : Nat}, k < 64 → a < 2 ^ 64 → a / 2 ^ k < 2 ^ 64 := fun _ h => Nat.lt_of_le_of_lt (Nat.div_le_self _ _) h
  have h1 : lN n - ((lushr (lN n) (1 : Int32)) &&& (6148914691236517205 : Int64)) = lN (s1 8 n) := by
    rw [show (1 : Int32) = nI 1 from rfl, lus hn (by decide), m1, wb_and (sh (by decide) hn) (by omega)]
    exact lN_sub (Nat.le_trans Nat.and_le_left (Nat.div_le_self _ _))
  have h2 : (lN (s1 8 n) &&& (3689348814741910323 : Int64)) + ((lushr (lN (s1 8 n)) (2 : Int32)) &&& (3689348814741910323 : Int64)) = lN (s2 8 (s1 8 n)) := by
    rw [show (2 : Int32) = nI 2 from rfl, lus l1 (by decide), m2, wb_and l1 (by omega), wb_and (sh (by decide) l1) (by omega), lN_add]; rfl
  have h3 : (lN (s2 8 (s1 8 n)) + (lushr (lN (s2 8 (s1 8 n))) (4 : Int32))) &&& (1085102592571150095 : Int64) = lN (s3 8 (s2 8 (s1 8 n))) := by
    have hb : s2 8 (s1 8 n) + s2 8 (s1 8 n) / 2 ^ 4 < 2 ^ 64 := by
      have : s2 8 (s1 8 n) ≤ 2 * mk 51 8 := by
        unfold s2
        have : s1 8 n &&& mk 51 8 ≤ mk 51 8 := Nat.and_le_right
        have : s1 8 n / 4 &&& mk 51 8 ≤ mk 51 8 := Nat.and_le_right
        omega
      have c : 2 * mk 51 8 = 7378697629483820646 := by decide +kernel
      omega
    rw [show (4 : Int32) = nI 4 from rfl, lus l2 (by decide), m3, lN_add, wb_and hb (by omega)]; rfl
  obtain ⟨g1, g2, g3, g4⟩ := fin8 (S := s3 8 (s2 8 (s1 8 n))) (he 0) (he 1) (he 2) (he 3) (he 4) (he 5) (he 6) (he 7) (by
    rw [hT]
    show 0 + e 0 * 256 ^ 0 + e 1 * 256 ^ 1 + e 2 * 256 ^ 2 + e 3 * 256 ^ 3 + e 4 * 256 ^ 4 + e 5 * 256 ^ 5 + e 6 * 256 ^ 6 + e 7 * 256 ^ 7 = _
    omega) rfl rfl rfl
  generalize hS : s3 8 (s2 8 (s1 8 n)) = S at l3 g1 g2 g3 g4 h3
  have h4 : lN S + lushr (lN S) (8 : Int32) = lN (S + S / 256) := by
    rw [show (8 : Int32) = nI 8 from rfl, lus l3 (by decide), lN_add]
  generalize S + S / 256 = A at g1 g2 g3 g4 h4
  have h5 : lN A + lushr (lN A) (16 : Int32) = lN (A + A / 65536) := by
    rw [show (16 : Int32) = nI 16 from rfl, lus (by omega) (by decide), lN_add]
  generalize A + A / 65536 = B at g1 g3 g4 h5
  have h6 : lN B + lushr (lN B) (32 : Int32) = lN (B + B / 4294967296) := by
    rw [show (32 : Int32) = nI 32 from rfl, lus (by omega) (by decide), lN_add]
  unfold f_J13_bitCount_95d88
  rw [h1, h2, h3, h4, h5, h6, lN_i, show (127 : Int32) = nI 127 from rfl, nx_and, show (127 : Nat) = 2 ^ 7 - 1 from rfl, Nat.and_two_pow_sub_one_eq_mod, show (2 : Nat) ^ 7 = 128 from rfl, g1, show (64 : Nat) = 8 * 8 from rfl, hP]
  show some (nI _) = some (nI (0 + e 0 + e 1 + e 2 + e 3 + e 4 + e 5 + e 6 + e 7))
  rw [Nat.zero_add]
