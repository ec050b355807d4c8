/-! hit, falls -/
theorem pcn_sb {t s : Nat} (h : Sb t s) : ∀ n, pcn t n ≤ pcn s n := by
  intro n
  induction n with
  | zero => exact Nat.le_refl _
  | succ n ih =>
    show psum (bi t) n + bi t n ≤ psum (bi s) n + bi s n
    have ih : psum (bi t) n ≤ psum (bi s) n := ih
    have : bi t n ≤ bi s n := by
      unfold bi
      cases ht : t.testBit n with
      | false => simp
      | true => rw [h n ht]; exact Nat.le_refl _
    omega
theorem pcn_lt {t s : Nat} (h : Sb t s) (k : Nat) (h1 : s.testBit k = true) (h2 : t.testBit k = false) : ∀ n, k < n → pcn t n < pcn s n := by
  intro n
  induction n with
  | zero => intro q; omega
  | succ n ih =>
    intro hk
    show psum (bi t) n + bi t n < psum (bi s) n + bi s n
    by_cases e : k = n
    · subst e
      have : psum (bi t) k ≤ psum (bi s) k := pcn_sb h k
      unfold bi
      rw [h1, h2]
      simp
      unfold bi at this
      omega
    · have ih : psum (bi t) n < psum (bi s) n := ih (by omega)
      have : bi t n ≤ bi s n := by
        unfold bi
        cases ht : t.testBit n with
        | false => simp
        | true => rw [h n ht]; exact Nat.le_refl _
      omega
theorem pcn_eq {t s : Nat} (h : Sb t s) (hs : s < 65536) (e : pcn s 16 ≤ pcn t 16) : t = s := by
  apply Classical.byContradiction
  intro q
  obtain ⟨k, k1, k2⟩ := Sb_ne h q
  have hk : k < 16 := by
    apply Classical.byContradiction
    intro q'
    rw [tb_hi (show s < 2 ^ 16 from hs) (by omega)] at k1
    cases k1
  have := pcn_lt h k k1 k2 16 hk
  omega
/-- before in the order of hit -/
def Bf (b s : Nat) : Prop := pcn b 16 < pcn s 16 ∨ (pcn b 16 = pcn s 16 ∧ b ≤ s)
theorem smallX {M : Mem} {m : Nat} (hp : PS M m) (hex : ∃ s, s < 2 ^ m ∧ pb M s = true) : ∃ b, f_X7_smallestSet M = some (nI b) ∧ b < 2 ^ m ∧ pb M b = true ∧ ∀ s, s < 2 ^ m → pb M s = true → Bf b s := by
  have hm : 2 ^ m ≤ 65536 := p16 hp.2.1
  obtain ⟨r0, e0, hr0⟩ := nextP hp (a := 0) (Nat.zero_le _)
  rcases id hr0 with ⟨b0, -, c2, c3, c4, rfl⟩ | ⟨c1, -⟩
  · have HH := loop_d (F := fun n (s : Int32 × Int32 × Int32) => f_X7_smallestSet_l1 M n s.1 s.2.1 s.2.2)
      (fun s => ∃ a t b, a ≤ 2 ^ m ∧ t ≤ a ∧ s.2.2 = nI t ∧ Nx (pb M) (2 ^ m) a s.2.1 ∧ s.1 = nI b ∧ b < 2 ^ m ∧ pb M b = true ∧ (b < a ∨ s.2.1 = nI b) ∧ ∀ x, x < a → pb M x = true → Bf b x)
      (fun s => 65537 - s.2.2.toNatClampNeg)
      (fun r => ∃ b, r = nI b ∧ b < 2 ^ m ∧ pb M b = true ∧ ∀ s, s < 2 ^ m → pb M s = true → Bf b s)
      ?_ (nI b0, nI b0, 0) ⟨0, 0, b0, Nat.zero_le _, Nat.le_refl _, rfl, hr0, rfl, c2, c3, Or.inr rfl, fun x hx => absurd hx (Nat.not_lt_zero x)⟩ (by show 65537 - _ < 70000; omega)
    · obtain ⟨r, e, b, rfl, hb⟩ := HH
      refine ⟨b, ?_, hb⟩
      have e : f_X7_smallestSet_l1 M fuelN (nI b0) (nI b0) 0 = _ := e
      have e0 : f_X7_next 0 M = _ := e0
      unfold f_X7_smallestSet
      rw [e0, Option.bind_some, e, Option.bind_some]
    · rintro n ⟨v1, v2, v3⟩ ⟨a, t, b, ha, hta, h3, hnx, h1, hb2, hb3, hb4, hb5⟩
      dsimp only at h3 hnx h1 hb4
      subst h3 h1
      rcases id hnx with ⟨s, s1, s2, s3, s4, rfl⟩ | ⟨s1, rfl⟩
      · left
        obtain ⟨r, e, hr⟩ := nextP hp (a := s + 1) s2
        have hbs : b ≤ s := by
          rcases hb4 with q | q
          · omega
          · have := (nI_eq (show s < 2 ^ 31 by omega) (show b < 2 ^ 31 by omega)).mp q
            omega
        have hps := pcn_le s 16
        have hpb := pcn_le b 16
        have hmu : 65537 - (nI (t + 1)).toNatClampNeg < 65537 - (nI t).toNatClampNeg := by
          rw [nI_clamp (show t + 1 < 2 ^ 31 by omega), nI_clamp (show t < 2 ^ 31 by omega)]
          omega
        have hun : f_X7_smallestSet_l1 M (n + 1) (nI b) (nI s) (nI t) = Option.bind (if nI (pcn b 16) ≤ nI (pcn s 16) then some (nI b) else some (nI s)) (fun q9 => f_X7_smallestSet_l1 M n q9 r (nI (t + 1))) := by
          rw [f_X7_smallestSet_l1, if_neg (show ¬ (65536 : Int32) ≤ nI t from ifle_no (c := 65536) (by omega) (by decide)), if_neg (nI_pos (show s < 2 ^ 31 by omega)), bitCount16 (show s < 65536 by omega), Option.bind_some, bitCount16 (show b < 65536 by omega), Option.bind_some, nI_1, nI_1, e]
          rfl
        by_cases hle : pcn b 16 ≤ pcn s 16
        · refine ⟨(nI b, r, nI (t + 1)), ⟨s + 1, t + 1, b, s2, by omega, rfl, hr, rfl, hb2, hb3, Or.inl (by omega), fun x hx hk => ?_⟩, hmu, ?_⟩
          · by_cases et : x = s
            · rw [et]
              by_cases e2 : pcn b 16 = pcn s 16
              · exact Or.inr ⟨e2, hbs⟩
              · exact Or.inl (by omega)
            · by_cases h3 : x < a
              · exact hb5 x h3 hk
              · rw [s4 x (by omega) (by omega)] at hk; cases hk
          · show f_X7_smallestSet_l1 M (n + 1) (nI b) (nI s) (nI t) = f_X7_smallestSet_l1 M n (nI b) r (nI (t + 1))
            rw [hun, if_pos (nI_le hle (by omega)), Option.bind_some]
        · refine ⟨(nI s, r, nI (t + 1)), ⟨s + 1, t + 1, s, s2, by omega, rfl, hr, rfl, s2, s3, Or.inl (by omega), fun x hx hk => ?_⟩, hmu, ?_⟩
          · by_cases et : x = s
            · rw [et]; exact Or.inr ⟨rfl, Nat.le_refl _⟩
            · by_cases h3 : x < a
              · rcases hb5 x h3 hk with q | ⟨q, -⟩
                · exact Or.inl (by omega)
                · exact Or.inl (by omega)
              · rw [s4 x (by omega) (by omega)] at hk; cases hk
          · show f_X7_smallestSet_l1 M (n + 1) (nI b) (nI s) (nI t) = f_X7_smallestSet_l1 M n (nI s) r (nI (t + 1))
            rw [hun, if_neg (ifle_no (by omega) (by omega)), Option.bind_some]
      · right
        refine ⟨nI b, ?_, b, rfl, hb2, hb3, fun s hs hk => ?_⟩
        · show f_X7_smallestSet_l1 M (n + 1) (nI b) (-1) (nI t) = _
          rw [f_X7_smallestSet_l1]
          by_cases q : (65536 : Int32) ≤ nI t
          · rw [if_pos q]
          · rw [if_neg q, if_pos (by decide)]
        · by_cases h3 : s < a
          · exact hb5 s h3 hk
          · rw [s1 s (by omega) hs] at hk; cases hk
  · exfalso
    obtain ⟨s, q1, q2⟩ := hex
    rw [c1 s (Nat.zero_le _) q1] at q2; cases q2
theorem nI_wrap (n : Nat) : nI (n + 4294967296) = nI n := by
  apply Int32.toBitVec_inj.mp
  show BitVec.ofNat 32 (n + 4294967296) = BitVec.ofNat 32 n
  apply BitVec.eq_of_toNat_eq
  rw [BitVec.toNat_ofNat, BitVec.toNat_ofNat]
  omega
theorem and_low {x y a : Nat} (ha : a < 65536) (h : x % 65536 = y % 65536) : x &&& a = y &&& a := by
  apply Nat.eq_of_testBit_eq
  intro k
  rw [Nat.testBit_and, Nat.testBit_and]
  by_cases hk : k < 16
  · have e1 := Nat.testBit_mod_two_pow x 16 k
    have e2 := Nat.testBit_mod_two_pow y 16 k
    rw [show (2 : Nat) ^ 16 = 65536 from rfl, h, show (65536 : Nat) = 2 ^ 16 from rfl, e2] at e1
    simp only [hk, decide_true, Bool.true_and] at e1
    rw [e1]
  · rw [tb_hi (show a < 2 ^ 16 from ha) (by omega), Bool.and_false, Bool.and_false]
theorem succI {v a : Nat} (ha : a < 65536) : (nI v - nI a) &&& nI a = nI ((v + (65536 - a)) &&& a) := by
  have e1 : nI (v + (4294967296 - a)) + nI a = nI v := by
    rw [nI_add, show v + (4294967296 - a) + a = v + 4294967296 by omega, nI_wrap]
  have e2 : nI v - nI a = nI (v + (4294967296 - a)) := by rw [← e1, Int32.add_sub_cancel]
  rw [e2, nx_and, and_low (y := v + (65536 - a)) ha (by omega)]
theorem hitY {M : Mem} {f c : Nat} {q : Nat → Nat} (hy : QY M f c q) (hA : orF q c < 65536) (h1 : 1 ≤ orF q c) (hm : Mt c q (orF q c)) : ∃ b, f_X11_hitOf (nI f) M = some (nI b) ∧ Sb b (orF q c) ∧ Mt c q b ∧ ∀ t, Sb t (orF q c) → 1 ≤ t → Mt c q t → Bf b t := by
  generalize hAe : orF q c = A at *
  have hsucc : ∀ v, Sb v A → v ≠ A → v < ((v + (65536 - A)) &&& A) ∧ ∀ z, Sb z A → v < z → (v + (65536 - A)) &&& A ≤ z := fun v hv hne => sub_succ 16 A v hA hv hne
  have HH := loop_d (F := fun n (s : Int32 × Int32) => f_X11_hitOf_l1 (nI f) (nI A) M n s.1 s.2)
    (fun s => ∃ b, s.1 = nI b ∧ Sb b A ∧ Mt c q b ∧ ((s.2 = 0 ∧ ∀ t, Sb t A → 1 ≤ t → Mt c q t → Bf b t) ∨ ∃ v, s.2 = nI v ∧ 1 ≤ v ∧ Sb v A ∧ (b = A ∨ b < v) ∧ ∀ t, Sb t A → 1 ≤ t → t < v → Mt c q t → Bf b t))
    (fun s => if s.2 = 0 then 0 else 65537 - s.2.toNatClampNeg)
    (fun r => ∃ b, r = nI b ∧ Sb b A ∧ Mt c q b ∧ ∀ t, Sb t A → 1 ≤ t → Mt c q t → Bf b t)
    ?_ (nI A, nI ((0 + (65536 - A)) &&& A)) ⟨A, rfl, Sb.refl A, hm, Or.inr ⟨_, rfl, ?_, and_Sb _ _, Or.inl rfl, fun t t1 t2 t3 => ?_⟩⟩ ?_
  · obtain ⟨r, e, b, rfl, hb⟩ := HH
    refine ⟨b, ?_, hb⟩
    have e : f_X11_hitOf_l1 (nI f) (nI A) M fuelN (nI A) (nI ((0 + (65536 - A)) &&& A)) = _ := e
    unfold f_X11_hitOf
    rw [allOfY hy, Option.bind_some, hAe, show (0 : Int32) = nI 0 from rfl, succI hA, e, Option.bind_some]
  · rintro n ⟨w, x⟩ ⟨b, e, hb1, hb2, hs⟩
    dsimp only at e hs
    subst e
    have hbA := Sb_le hb1
    rcases hs with ⟨rfl, hall⟩ | ⟨v, rfl, v1, v2, v3, v4⟩
    · right
      refine ⟨nI b, ?_, b, rfl, hb1, hb2, hall⟩
      show f_X11_hitOf_l1 _ _ M (n + 1) (nI b) 0 = _
      rw [f_X11_hitOf_l1, if_pos rfl]
    · left
      have hvA := Sb_le v2
      obtain ⟨r, er, hr⟩ := meetsY (v := v) hy (by omega)
      have hpv := pcn_le v 16
      have hpb := pcn_le b 16
      let b' : Nat := if pcn b 16 ≤ pcn v 16 then b else if r = 0 then b else v
      have hsel : (if nI (pcn b 16) ≤ nI (pcn v 16) then some (nI b) else (Option.bind (f_X11_meetsAll (nI v) (nI f) M) (fun q12 => (if q12 = 0 then some (nI b) else some (nI v))))) = some (nI b') := by
        show _ = some (nI (if pcn b 16 ≤ pcn v 16 then b else if r = 0 then b else v))
        rw [er, Option.bind_some]
        by_cases hle : pcn b 16 ≤ pcn v 16
        · rw [if_pos (nI_le hle (by omega)), if_pos hle]
        · rw [if_neg (ifle_no (by omega) (by omega)), if_neg hle]
          by_cases r0 : r = 0
          · rw [if_pos r0, if_pos r0]
          · rw [if_neg r0, if_neg r0]
      have hun : f_X11_hitOf_l1 (nI f) (nI A) M (n + 1) (nI b) (nI v) = f_X11_hitOf_l1 (nI f) (nI A) M n (nI b') (nI ((v + (65536 - A)) &&& A)) := by
        rw [f_X11_hitOf_l1, if_neg (nI_ne0 (by omega) (by omega)), bitsOf_ (by omega), Option.bind_some, bitsOf_ (by omega), Option.bind_some, hsel, Option.bind_some, succI hA]
      have hb' : Sb b' A ∧ Mt c q b' ∧ (b' = A ∨ b' ≤ v) ∧ ∀ t, Sb t A → 1 ≤ t → t ≤ v → Mt c q t → Bf b' t := by
        show Sb (if pcn b 16 ≤ pcn v 16 then b else if r = 0 then b else v) A ∧ Mt c q (if pcn b 16 ≤ pcn v 16 then b else if r = 0 then b else v) ∧ ((if pcn b 16 ≤ pcn v 16 then b else if r = 0 then b else v) = A ∨ (if pcn b 16 ≤ pcn v 16 then b else if r = 0 then b else v) ≤ v) ∧ ∀ t, Sb t A → 1 ≤ t → t ≤ v → Mt c q t → Bf (if pcn b 16 ≤ pcn v 16 then b else if r = 0 then b else v) t
        by_cases hle : pcn b 16 ≤ pcn v 16
        · rw [if_pos hle]
          refine ⟨hb1, hb2, by omega, fun t t1 t2 t3 t4 => ?_⟩
          by_cases et : t = v
          · rw [et]
            by_cases e2 : pcn b 16 = pcn v 16
            · refine Or.inr ⟨e2, ?_⟩
              rcases v3 with rfl | q
              · exact Nat.le_of_eq (pcn_eq v2 hA (by omega)).symm
              · omega
            · exact Or.inl (by omega)
          · exact v4 t t1 t2 (by omega) t4
        · rw [if_neg hle]
          rcases hr with ⟨rfl, hmv⟩ | ⟨rfl, hmv⟩
          · rw [if_neg one_ne]
            refine ⟨v2, hmv, Or.inr (Nat.le_refl _), fun t t1 t2 t3 t4 => ?_⟩
            by_cases et : t = v
            · rw [et]; exact Or.inr ⟨rfl, Nat.le_refl _⟩
            · rcases v4 t t1 t2 (by omega) t4 with q | ⟨q, -⟩
              · exact Or.inl (by omega)
              · exact Or.inl (by omega)
          · rw [if_pos rfl]
            refine ⟨hb1, hb2, by omega, fun t t1 t2 t3 t4 => ?_⟩
            by_cases et : t = v
            · rw [et] at t4; exact absurd t4 hmv
            · exact v4 t t1 t2 (by omega) t4
      obtain ⟨p1, p2, p3, p4⟩ := hb'
      by_cases evA : v = A
      · have ez : (v + (65536 - A)) &&& A = 0 := by
          rw [evA, show A + (65536 - A) = 65536 by omega, Nat.and_comm]
          have := and_p2n A 16
          rw [tb_hi (show A < 2 ^ 16 from hA) (Nat.le_refl _)] at this
          exact this
        refine ⟨(nI b', 0), ⟨b', rfl, p1, p2, Or.inl ⟨rfl, fun t t1 t2 t4 => p4 t t1 t2 (by have := Sb_le t1; omega) t4⟩⟩, ?_, ?_⟩
        · show (if (0 : Int32) = 0 then 0 else _) < (if nI v = 0 then 0 else 65537 - (nI v).toNatClampNeg)
          rw [if_pos rfl, if_neg (nI_ne0 (by omega) (by omega)), nI_clamp (by omega)]
          omega
        · show f_X11_hitOf_l1 (nI f) (nI A) M (n + 1) (nI b) (nI v) = f_X11_hitOf_l1 (nI f) (nI A) M n (nI b') 0
          rw [hun, ez]
          rfl
      · obtain ⟨s1, s2⟩ := hsucc v v2 evA
        have hsA : (v + (65536 - A)) &&& A ≤ A := Nat.and_le_right
        refine ⟨(nI b', nI ((v + (65536 - A)) &&& A)), ⟨b', rfl, p1, p2, Or.inr ⟨_, rfl, by omega, and_Sb _ _, by omega, fun t t1 t2 t3 t4 => p4 t t1 t2 ?_ t4⟩⟩, ?_, hun⟩
        · apply Classical.byContradiction
          intro q
          have := s2 t t1 (by omega)
          omega
        · show (if nI ((v + (65536 - A)) &&& A) = 0 then 0 else 65537 - (nI ((v + (65536 - A)) &&& A)).toNatClampNeg) < (if nI v = 0 then 0 else 65537 - (nI v).toNatClampNeg)
          rw [if_neg (nI_ne0 (by omega) (by omega)), if_neg (nI_ne0 (by omega) (by omega)), nI_clamp (by omega), nI_clamp (by omega)]
          omega
  · exact (hsucc 0 (fun k hk => by simp at hk) (by omega)).1
  · intro t4
    have := (hsucc 0 (fun k hk => by simp at hk) (by omega)).2 t t1 (by omega)
    omega
  · show (if nI ((0 + (65536 - A)) &&& A) = 0 then 0 else 65537 - (nI ((0 + (65536 - A)) &&& A)).toNatClampNeg) < 70000
    split <;> omega
theorem hit_both {M1 M2 : Mem} {z : Sg} {f : Nat} (h1 : RX M1 z) (h2 : RY M2 z) (hI : Inv z) (hf : f < zFn z) : ∃ b N, b < 65536 ∧ f_X10_smallestMeeting (264 + 2 * f) M1 = some (nI b, N) ∧ KeepX M1 N ∧ f_X11_hitOf (nI f) (sI (sI M2 0 5 0) 0 4 0) = some (nI b) := by
  obtain ⟨-, c1, c2, c3⟩ := hI.2.1.2 f hf
  have hpk := p16 hI.1.1
  have qx := QX_of hI h1.2.1 hf
  have qy := QY_k (QY_of hI h2.2.1 hf) (k54 M2 0)
  have hA : orF (zSet (zFm z) f) (zCnt (zFm z) f) < 2 ^ zKn z := orF_lt _ (fun i hi => (c3 i hi).2)
  have hne : Mt (zCnt (zFm z) f) (zSet (zFm z) f) (orF (zSet (zFm z) f) (zCnt (zFm z) f)) := fun i hi e => by
    have hs := Sb_and.mp (orF_Sb (q := zSet (zFm z) f) _ i hi)
    rw [Nat.and_comm, hs] at e
    have := (c3 i hi).1
    omega
  have hpos : ∀ s, Mt (zCnt (zFm z) f) (zSet (zFm z) f) s → 1 ≤ s := fun s hm => by
    apply Classical.byContradiction
    intro q
    have : s = 0 := by omega
    exact hm 0 c1 (by rw [this, Nat.zero_and])
  obtain ⟨A0, a1, a2, a3, a4, a5⟩ := begun hI.1.1 h1.1.1
  obtain ⟨A, a6, a7, a8⟩ := meetX a2 a5 (QX_k qx a4) (fun i hi => k2m (c3 i hi).2)
  have pA := PS.keep a2 a7
  obtain ⟨K, k1, k2, k3⟩ := keepL pA
  have hm16 : 2 ^ max (zKn z) 6 ≤ 65536 := p16 a2.2.1
  have hK : ∀ s, s < 2 ^ max (zKn z) 6 → (pb K s = true ↔ Ls (Mt (zCnt (zFm z) f) (zSet (zFm z) f)) s) := fun s hs => by
    have hUp : ∀ t, Up (Mt (zCnt (zFm z) f) (zSet (zFm z) f)) t ↔ Mt (zCnt (zFm z) f) (zSet (zFm z) f) t := fun t => ⟨fun ⟨u, u1, u2⟩ => Mt_mono u2 u1, fun q => ⟨t, Sb.refl t, q⟩⟩
    rw [k3 s hs, ← Ls_up, hUp s, a8 s hs]
    constructor
    · rintro ⟨q1, q2⟩
      refine ⟨q1, fun k hk q => q2 k hk ((a8 _ (sub_lt' hs)).mpr ((hUp _).mp q))⟩
    · rintro ⟨q1, q2⟩
      refine ⟨q1, fun k hk q => q2 k hk ((hUp _).mpr ((a8 _ (sub_lt' hs)).mp q))⟩
  have hsub : ∀ s, Ls (Mt (zCnt (zFm z) f) (zSet (zFm z) f)) s → Sb s (orF (zSet (zFm z) f) (zCnt (zFm z) f)) := fun s hs => by
    have := Ls_min hs (Mt_and.mpr hs.1) (fun k hk => by rw [Nat.testBit_and] at hk; exact (Bool.and_eq_true_iff.mp hk).1)
    rw [← this]
    exact and_Sb _ _
  obtain ⟨t0, t1, t2⟩ := Ls_ex _ _ (Nat.lt_succ_self _) hne
  have ht0 : t0 < 2 ^ max (zKn z) 6 := k2m (Nat.lt_of_le_of_lt (Sb_le t1) hA)
  obtain ⟨b, b1, b2, b3, b4⟩ := smallX (PS.keep pA k2) ⟨t0, ht0, (hK t0 ht0).mpr t2⟩
  obtain ⟨d, d1, d2, d3, d4⟩ := hitY qy (by omega) (hpos _ hne) hne
  have hbL := (hK b b2).mp b3
  have hbd : b = d := by
    obtain ⟨e, e1, e2⟩ := Ls_ex _ _ (Nat.lt_succ_self _) d3
    have hd16 : d < 65536 := by have := Sb_le d2; omega
    have he : e < 2 ^ max (zKn z) 6 := k2m (Nat.lt_of_le_of_lt (Sb_le (e1.trans d2)) hA)
    have q1 := b4 e he ((hK e he).mpr e2)
    have q2 := d4 b (hsub b hbL) (hpos b hbL.1) hbL.1
    have q3 := pcn_sb e1 16
    have hpe : pcn b 16 ≤ pcn e 16 := by
      rcases q1 with q | ⟨q, -⟩
      · omega
      · omega
    have hpd : pcn d 16 ≤ pcn b 16 := by
      rcases q2 with q | ⟨q, -⟩
      · omega
      · omega
    have hed : e = d := pcn_eq e1 hd16 (by omega)
    subst hed
    rcases q1 with q | ⟨-, q1⟩
    · omega
    · rcases q2 with q | ⟨-, q2⟩
      · omega
      · omega
  subst hbd
  refine ⟨b, K, by omega, ?_, (a4.trans (keepX_1 a7)).trans (keepX_1 k2), d1⟩
  unfold f_X10_smallestMeeting
  rw [if_pos (kX_fam qx.1), a1, Option.bind_some, a6, Option.bind_some, k1, Option.bind_some, b1, Option.bind_some]
theorem step_hit : St_hit Rel := by
  intro a M1 M2 H
  have Hn1 := Rel_no H 1
  obtain ⟨z, h, hC, hL, hS, hs⟩ := id H
  obtain ⟨h1, h2, h3, h4, -⟩ := id hC
  have hI := h4.inv
  have hf := hI.2.1
  unfold f_X10_hit f_X11_hit
  rcases pk_ix a (n := zFn z) (by omega) with ha | ha | ⟨f, hfz, rfl⟩
  · rw [famAt_no h1.2.1.1 (Or.inl ha), isFam_no (by rw [fn5]; exact h2.2.1.1) hf.1 (Or.inl ha)]; exact ⟨_, _, rfl, rfl, rfl, Hn1⟩
  · rw [famAt_no h1.2.1.1 (Or.inr ha), isFam_no (by rw [fn5]; exact h2.2.1.1) hf.1 (Or.inr ha)]; exact ⟨_, _, rfl, rfl, rfl, Hn1⟩
  rw [famAt_yes h1.2.1.1 hf.1 hfz, isFam_yes (by rw [fn5]; exact h2.2.1.1) hf.1 hfz]
  obtain ⟨b, N, hb, e1, k1, e2⟩ := hit_both h1 h2 hI hfz
  rw [Option.bind_some, oel_some, if_pos (kX_fam (show f < 24 by omega)), e1, Option.bind_some, Option.bind_some, if_neg one_ne, e2]
  exact ⟨_, _, rfl, rfl, rfl, Rel_keep H (k1.trans (keepX_st _ _)) (k54 M2 0) (by rw [st_X, st_Y])⟩
theorem step_falls : St_falls Rel := by
  intro a M1 M2 H
  have Hn1 := Rel_no H 1
  obtain ⟨z, h, hC, hL, hS, hs⟩ := id H
  obtain ⟨h1, h2, h3, h4, -⟩ := id hC
  have hI := h4.inv
  have hf := hI.2.1
  unfold f_X10_falls f_X11_falls
  rcases pk_ix a (n := zFn z) (by omega) with ha | ha | ⟨f, hfz, rfl⟩
  · rw [famAt_no h1.2.1.1 (Or.inl ha), isFam_no (by rw [fn5]; exact h2.2.1.1) hf.1 (Or.inl ha)]; exact ⟨_, _, rfl, rfl, rfl, Hn1⟩
  · rw [famAt_no h1.2.1.1 (Or.inr ha), isFam_no (by rw [fn5]; exact h2.2.1.1) hf.1 (Or.inr ha)]; exact ⟨_, _, rfl, rfl, rfl, Hn1⟩
  rw [famAt_yes h1.2.1.1 hf.1 hfz, isFam_yes (by rw [fn5]; exact h2.2.1.1) hf.1 hfz]
  obtain ⟨b, N, hb, e1, k1, e2⟩ := hit_both h1 h2 hI hfz
  rw [Option.bind_some, oel_some, if_pos (kX_fam (show f < 24 by omega)), e1, Option.bind_some, Option.bind_some, if_neg one_ne, e2, Option.bind_some, bitsOf_ hb, bitCount16 hb]
  exact ⟨_, _, rfl, rfl, rfl, Rel_keep H (k1.trans (keepX_st _ _)) (k54 M2 0) (by rw [st_X, st_Y])⟩
