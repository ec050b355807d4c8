/-! a family more: the act, and both sides' settling -/
theorem fUp_s (f : Nat → Fm) (k : Nat) (v : Fm) : fUp f k v k = v := by simp [fUp]
theorem fUp_n (f : Nat → Fm) {k j : Nat} (v : Fm) (h : j ≠ k) : fUp f k v j = f j := by simp [fUp, h]
theorem fUp_back (f : Nat → Fm) (k : Nat) (v : Fm) (h : f k = fam0) : fUp (fUp f k v) k fam0 = f := by
  funext j
  unfold fUp
  by_cases e : j = k
  · rw [if_pos e, e, h]
  · rw [if_neg e, if_neg e]
def famZ (z : Sg) (F : Fm) : Sg := (zKn z, zSt z, zTe z, zWe z, zFn z + 1, fUp (zFm z) (zFn z) F, zPl z, zPc z)
theorem famZ_undo {z : Sg} (hI : Inv z) (F : Fm) : undoA (2, 0, 0, none, th0) (famZ z F) = z := by
  show (zKn z, zSt z, zTe z, zWe z, zFn z + 1 - 1, fUp (fUp (zFm z) (zFn z) F) (zFn z + 1 - 1) fam0, zPl z, zPc z) = z
  rw [show zFn z + 1 - 1 = zFn z by omega, fUp_back _ _ _ (hI.2.2.2.2.2 (zFn z) (Nat.le_refl _))]
theorem famZ_cnt {z : Sg} {F : Fm} {f : Nat} (h : f < zFn z) : zCnt (zFm (famZ z F)) f = zCnt (zFm z) f := by
  show (fUp (zFm z) (zFn z) F f).2.1 = _
  rw [fUp_n _ _ (by omega)]
theorem famZ_plok {z : Sg} {F : Fm} {p : Pl} (h : PlOk z p) : PlOk (famZ z F) p := by
  refine ⟨?_, fun i hi => h.2 i ?_⟩
  · show p.1 < zFn z + 1
    have := h.1; omega
  · rw [famZ_cnt h.1] at hi; exact hi
theorem famZ_inv {z : Sg} (hI : Inv z) {kd c : Nat} {q : Nat → Nat} (hf : zFn z < 24) (hkd : kd ≤ 10) (hc1 : 1 ≤ c) (hc2 : c ≤ 120) (hq : ∀ i, i < c → 1 ≤ q i ∧ q i < 2 ^ zKn z) : Inv (famZ z (kd, c, q)) := by
  obtain ⟨i1, i2, i3, i4, i5, i6⟩ := hI
  refine ⟨i1, ⟨hf, fun f hff => ?_⟩, fun p hp => ?_, fun k hk => ⟨(i4 k hk).1, fun h3 => famZ_plok ((i4 k hk).2 h3)⟩, i5, fun f hff => ?_⟩
  · show (fUp (zFm z) (zFn z) (kd, c, q) f).1 ≤ 10 ∧ 1 ≤ (fUp (zFm z) (zFn z) (kd, c, q) f).2.1 ∧ (fUp (zFm z) (zFn z) (kd, c, q) f).2.1 ≤ 120 ∧ ∀ i, i < (fUp (zFm z) (zFn z) (kd, c, q) f).2.1 → 1 ≤ (fUp (zFm z) (zFn z) (kd, c, q) f).2.2 i ∧ (fUp (zFm z) (zFn z) (kd, c, q) f).2.2 i < 2 ^ zKn z
    by_cases e : f = zFn z
    · subst e
      rw [fUp_s]
      exact ⟨hkd, hc1, hc2, hq⟩
    · rw [fUp_n _ _ e]
      have hff : f < zFn z + 1 := hff
      exact i2.2 f (by omega)
  · have hp : zPl z = some p := hp
    obtain ⟨p1, i, p2, p3⟩ := i3 p hp
    refine ⟨famZ_plok p1, i, ?_, p3⟩
    rw [famZ_cnt p1.1]; exact p2
  · have hff : zFn z + 1 ≤ f := hff
    show fUp (zFm z) (zFn z) (kd, c, q) f = fam0
    rw [fUp_n _ _ (by omega)]
    exact i6 f (by omega)
theorem fam_push {M1 M2 N1 N2 : Mem} {z : Sg} {h : List Ac} {t u kd c : Nat} {q : Nat → Nat} (H : Core M1 M2 z h) (hf : zFn z < 24) (hkd : kd ≤ 10) (hc1 : 1 ≤ c) (hc2 : c ≤ 120) (hq : ∀ i, i < c → 1 ≤ q i ∧ q i < 2 ^ zKn z) (ht : 12 ≤ t ∧ t + 3 < 252)
    (x2 : N1.1 0 2 = nI (zFn z + 1)) (xo : ∀ d, d ≠ 0 → d ≠ 10 → d ≠ t → d ≠ 264 + 2 * zFn z → d ≠ 264 + 2 * zFn z + 1 → N1.1 d = M1.1 d)
    (xf0 : N1.1 (264 + 2 * zFn z) 0 = nI kd) (xf1 : N1.1 (264 + 2 * zFn z) 1 = nI c) (xf2 : ∀ i, i < c → N1.1 (264 + 2 * zFn z + 1) i = nI (q i)) (xt : N1.1 t 0 = 2) (xt1 : N1.1 t 1 = nI (zFn z))
    (xh : ∀ (e : Ac) (z' : Sg), undoA e z' = z → AcX N1 t e z' → ∃ fr', fr' < 60 ∧ N1.1 10 1 = nI fr' ∧ N1.1 10 2 = nI (e :: hp h).length ∧ HX N1 fr' (e :: hp h) z')
    (y11 : N2.1 0 11 = nI (zFn z + 1)) (y3 : N2.1 0 3 = M2.1 0 3) (y13 : N2.1 0 13 = M2.1 0 13) (yo : ∀ d, d ≠ 0 → d ≠ 5 → d ≠ 6 → d ≠ 7 → d ≠ 13 → d < 14 → N2.1 d = M2.1 d)
    (y5 : N2.1 5 (zFn z) = nI kd) (y6 : N2.1 6 (zFn z) = nI c) (y7 : ∀ i, i < c → N2.1 7 (120 * zFn z + i) = nI (q i)) (y5o : ∀ f, f ≠ zFn z → N2.1 5 f = M2.1 5 f ∧ N2.1 6 f = M2.1 6 f) (y7o : ∀ j, j < 120 * zFn z → N2.1 7 j = M2.1 7 j)
    (y20 : N2.1 0 20 = nI (min h.length 59 + 1)) (yt : N2.1 13 u = 2) (yh : ∀ (e : Ac) (z' : Sg), undoA e z' = z → AcY N2 u e z' → HY N2 (e :: hp h) z') : Core N1 N2 (famZ z (kd, c, q)) ((2, 0, 0, none, th0) :: hp h) := by
  obtain ⟨h1, h2, h3, h4, -⟩ := H
  have hI := h4.inv
  have hun := famZ_undo hI (kd, c, q)
  refine Core_push h4 h3 hun (famZ_inv hI hf hkd hc1 hc2 hq) ⟨?_, ⟨x2, fun f hff => ?_⟩, ?_, fun k hk => ?_⟩ ⟨?_, ⟨y11, fun f hff => ?_⟩, ?_, fun k hk => ?_⟩ (xh _ _ hun ⟨xt, ?_, ?_⟩) y20 (yh _ _ hun yt)
  · have := h1.1
    unfold KeX at this ⊢
    rw [xo 1 (by omega) (by omega) (by omega) (by omega) (by omega), xo 2 (by omega) (by omega) (by omega) (by omega) (by omega), xo 3 (by omega) (by omega) (by omega) (by omega) (by omega), xo 4 (by omega) (by omega) (by omega) (by omega) (by omega)]
    exact this
  · show N1.1 (264 + 2 * f) 0 = nI (fUp (zFm z) (zFn z) (kd, c, q) f).1 ∧ N1.1 (264 + 2 * f) 1 = nI (fUp (zFm z) (zFn z) (kd, c, q) f).2.1 ∧ ∀ i, i < (fUp (zFm z) (zFn z) (kd, c, q) f).2.1 → N1.1 (264 + 2 * f + 1) i = nI ((fUp (zFm z) (zFn z) (kd, c, q) f).2.2 i)
    by_cases e : f = zFn z
    · subst e
      rw [fUp_s]
      exact ⟨xf0, xf1, xf2⟩
    · have hff : f < zFn z + 1 := hff
      rw [fUp_n _ _ e, xo (264 + 2 * f) (by omega) (by omega) (by omega) (by omega) (by omega), xo (264 + 2 * f + 1) (by omega) (by omega) (by omega) (by omega) (by omega)]
      exact h1.2.1.2 f (by omega)
  · show PoX (zFm (famZ z (kd, c, q))) N1 7 (zPl z)
    have hp := PoX_ag h1.2.2.1 (xo 7 (by omega) (by omega) (by omega) (by omega) (by omega)) (xo 8 (by omega) (by omega) (by omega) (by omega) (by omega))
    cases e : zPl z with
    | none => rw [e] at hp; exact hp
    | some p =>
      rw [e] at hp
      exact PlX_fm (fm := zFm z) hp (famZ_cnt (hI.2.2.1 p e).1.1)
  · have hp := ThX_ag (h1.2.2.2 k hk) (xo (312 + 3 * k) (by omega) (by omega) (by omega) (by omega) (by omega)) (xo (312 + 3 * k + 1) (by omega) (by omega) (by omega) (by omega) (by omega)) (xo (312 + 3 * k + 2) (by omega) (by omega) (by omega) (by omega) (by omega))
    refine ⟨hp.1, hp.2.1, fun h3 => PlX_fm (hp.2.2 h3) (famZ_cnt ((hI.2.2.2.1 k hk).2 h3).1)⟩
  · have := h2.1
    unfold KeY at this ⊢
    rw [y3, yo 1 (by omega) (by omega) (by omega) (by omega) (by omega) (by omega), yo 2 (by omega) (by omega) (by omega) (by omega) (by omega) (by omega), yo 3 (by omega) (by omega) (by omega) (by omega) (by omega) (by omega)]
    exact this
  · show N2.1 5 f = nI (fUp (zFm z) (zFn z) (kd, c, q) f).1 ∧ N2.1 6 f = nI (fUp (zFm z) (zFn z) (kd, c, q) f).2.1 ∧ ∀ i, i < (fUp (zFm z) (zFn z) (kd, c, q) f).2.1 → N2.1 7 (120 * f + i) = nI ((fUp (zFm z) (zFn z) (kd, c, q) f).2.2 i)
    by_cases e : f = zFn z
    · subst e
      rw [fUp_s]
      exact ⟨y5, y6, y7⟩
    · have hff : f < zFn z + 1 := hff
      have hfz : f < zFn z := by omega
      have hF := h2.2.1.2 f hfz
      have hc := (hI.2.1.2 f hfz).2.2.1
      rw [fUp_n _ _ e, (y5o f e).1, (y5o f e).2]
      refine ⟨hF.1, hF.2.1, fun i hi => ?_⟩
      have hi : i < zCnt (zFm z) f := hi
      rw [y7o _ (by omega)]
      exact hF.2.2 i hi
  · show PoY (zFm (famZ z (kd, c, q))) N2 (zPl z)
    have hp := PoY_ag h2.2.2.1 y13 (yo 8 (by omega) (by omega) (by omega) (by omega) (by omega) (by omega))
    cases e : zPl z with
    | none => rw [e] at hp; exact hp
    | some p =>
      rw [e] at hp
      exact ⟨hp.1, PlY_fm (fm := zFm z) hp.2 (famZ_cnt (hI.2.2.1 p e).1.1)⟩
  · have hp := h2.2.2.2 k hk
    refine ⟨?_, fun q => ?_, fun h3 => PlY_fm (fm := zFm z) (PlY_ag (hp.2.2 h3) (yo 11 (by omega) (by omega) (by omega) (by omega) (by omega) (by omega))) (famZ_cnt ((hI.2.2.2.1 k hk).2 h3).1)⟩
    · rw [yo 9 (by omega) (by omega) (by omega) (by omega) (by omega) (by omega)]; exact hp.1
    · rw [yo 10 (by omega) (by omega) (by omega) (by omega) (by omega) (by omega)]; exact hp.2.1 q
  · show N1.1 t 1 = nI (zFn z + 1 - 1)
    rw [show zFn z + 1 - 1 = zFn z by omega]; exact xt1
  · show 0 < zFn z + 1
    omega
theorem settle_many {A : Mem} {m : Nat} {G : Nat → Prop} (hp : PS A m) (hU : ∀ s, s < 2 ^ m → (pb A s = true ↔ Up G s)) (hc : 120 < cnt (kb (Ls G)) (2 ^ m)) (kd : Int32) : ∃ N, f_X10_settle kd A = some (-1, sI N 0 11 3) ∧ N.1 = A.1 := by
  obtain ⟨N, e, n1, n2⟩ := keepL hp
  have hK : ∀ s, s < 2 ^ m → pb N s = kb (Ls G) s := fun s hs => by
    rw [Bool.eq_iff_iff, n2 s hs, kb_t, ← Ls_up, hU s hs]
    constructor
    · rintro ⟨a, b⟩
      exact ⟨a, fun k hk q => b k hk ((hU _ (sub_lt' hs)).mpr q)⟩
    · rintro ⟨a, b⟩
      exact ⟨a, fun k hk q => b k hk ((hU _ (sub_lt' hs)).mp q)⟩
  refine ⟨N, ?_, n1⟩
  unfold f_X10_settle f_X10_refuse
  have h1 := cnt_le (kb (Ls G)) (2 ^ m)
  have h2 : 2 ^ m ≤ 65536 := p16 hp.2.1
  rw [e, Option.bind_some, countP (PS.keep hp n1), Option.bind_some, cnt_congr _ hK, if_neg (show ¬ nI (cnt (kb (Ls G)) (2 ^ m)) ≤ (120 : Int32) from nI_ge (a := 120) hc (by omega)), Option.bind_some]
set_option maxRecDepth 10000 in
theorem settle {A B : Mem} {z : Sg} {h : List Ac} {G : Nat → Prop} {kd : Nat} (H : Core A B z h) (hf : zFn z < 24) (hkd : kd ≤ 10) (hp : PS A (max (zKn z) 6)) (hU : ∀ s, s < 2 ^ (max (zKn z) 6) → (pb A s = true ↔ Up G s)) (hG : ∀ s, s < 65536 → (B.1 14 s = 0 ↔ ¬ G s)) (hG2 : ∀ s, G s → 1 ≤ s ∧ s < 2 ^ zKn z) (hne : ∃ s, G s) :
    ∃ r N1 N2, f_X10_settle (nI kd) A = some (r, N1) ∧ f_X11_made (nI kd) B = some (r, N2) ∧ N1.1 0 11 = N2.1 0 4 ∧
      ((r = -1 ∧ 120 < cnt (kb (Ls G)) 65536 ∧ KeepX A N1 ∧ KeepY B N2) ∨ (r ≠ -1 ∧ (∃ z' h', Core N1 N2 z' h' ∧ zKn z' = zKn z) ∧ (N1.1 0 4 = A.1 0 4 ∧ N1.1 6 = A.1 6 ∧ N1.1 252 0 = A.1 252 0 ∧ N1.1 253 = A.1 253) ∧ N2.1 0 7 = B.1 0 7 ∧ N2.1 4 = B.1 4 ∧ N2.1 0 18 = B.1 0 18 ∧ N2.1 12 = B.1 12)) := by
  obtain ⟨h1, h2, h3, h4, ⟨fr, f1, f2, f3, f4⟩, h6, h7⟩ := id H
  have hI := h4.inv
  have hk16 : max (zKn z) 6 ≤ 16 := hp.2.1
  have hm : 2 ^ max (zKn z) 6 ≤ 65536 := p16 hk16
  have hkm : 2 ^ zKn z ≤ 2 ^ max (zKn z) 6 := Nat.pow_le_pow_right (by decide) (by omega)
  have hcK : cnt (kb (Ls G)) 65536 = cnt (kb (Ls G)) (2 ^ max (zKn z) 6) := cnt_stop hm (fun k q1 q2 => kb_f.mpr (fun hl => by have := (hG2 k hl.1).2; omega))
  by_cases hc : 120 < cnt (kb (Ls G)) 65536
  · obtain ⟨N, e, n1⟩ := settle_many hp hU (by omega) (nI kd)
    obtain ⟨P, e', p1⟩ := made_many h2.2.1.1 hf (nI kd) hG hc
    refine ⟨_, _, _, e, e', by rw [st_X, st_Y], Or.inl ⟨rfl, hc, KeepX.trans ?_ (keepX_st _ _), p1.trans (keepY_f _ _ (by omega))⟩⟩
    unfold KeepX AgX
    rw [n1]
    exact KeepX.refl A
  · obtain ⟨N, e, n1, n2⟩ := keepL hp
    have hpN := PS.keep hp n1
    have hK : ∀ s, s < 2 ^ max (zKn z) 6 → pb N s = kb (Ls G) s := fun s hs => by
      rw [Bool.eq_iff_iff, n2 s hs, kb_t, ← Ls_up, hU s hs]
      constructor
      · rintro ⟨a, b⟩
        exact ⟨a, fun k hk q => b k hk ((hU _ (sub_lt' hs)).mpr q)⟩
      · rintro ⟨a, b⟩
        exact ⟨a, fun k hk q => b k hk ((hU _ (sub_lt' hs)).mp q)⟩
    have hcN : cnt (pb N) (2 ^ max (zKn z) 6) = cnt (kb (Ls G)) 65536 := by rw [hcK]; exact cnt_congr _ hK
    obtain ⟨T, t1, t2, t3, t4, t5⟩ := takeP hpN hf (by omega) (nI kd)
    have T10 : (sI T 0 2 (nI (zFn z + 1))).1 10 = A.1 10 := by rw [sI_off _ _ _ _ (by decide), t2 10 (by omega) (by omega), n1]
    obtain ⟨t, O, o1, o2, o3, o4, o5, o6, o7, o8, o9⟩ := open_spec (M := sI T 0 2 (nI (zFn z + 1))) (by rw [T10]; exact f2) f1 (by rw [T10]; exact f3) h3 2 (nI (zFn z)) 0
    obtain ⟨u, P, p1, p2, p3, p4, p5, p6, p7, p8, p9, p10, p11, p12, p13, p14⟩ := made_ok h2.2.1.1 hf (nI kd) hG (by omega) h6 h3
    have NX : N.1 0 2 = nI (zFn z) := by rw [n1]; exact h1.2.1.1
    have e1 : f_X10_settle (nI kd) A = some (nI (zFn z), sI O 0 11 0) := by
      unfold f_X10_settle f_X10_accept
      rw [e, Option.bind_some, countP hpN, Option.bind_some, hcN, if_pos (show nI (cnt (kb (Ls G)) 65536) ≤ (120 : Int32) from nI_le (b := 120) (by omega) (by decide)), NX, if_neg (nI_pos (by omega)), if_pos (show nI (zFn z) < (24 : Int32) from nI_lt (b := 24) hf (by decide)), if_pos (inB_nI hf (by decide)), nI_clamp (by omega), t1, Option.bind_some, nI_1, o1]
      rfl
    have XO : ∀ d, d ≠ 0 → d ≠ 10 → d ≠ t → d ≠ 264 + 2 * zFn z → d ≠ 264 + 2 * zFn z + 1 → (sI O 0 11 0).1 d = A.1 d := fun d q0 q1 q2 q3 q4 => by
      rw [sI_off _ _ _ _ q0, o8 d q1 q2, sI_off _ _ _ _ q0, t2 d q3 q4, n1]
    have X0 : ∀ x, x ≠ 2 → x ≠ 11 → (sI O 0 11 0).1 0 x = A.1 0 x := fun x q1 q2 => by
      rw [sI_1, if_neg (by omega), o8 0 (by omega) (by omega), sI_1, if_neg (by omega), t2 0 (by omega) (by omega), n1]
    have XF : ∀ d, 264 ≤ d → (sI O 0 11 0).1 d = T.1 d := fun d q => by
      rw [sI_off _ _ _ _ (by omega), o8 d (by omega) (by omega), sI_off _ _ _ _ (by omega)]
    refine ⟨nI (zFn z), sI O 0 11 0, P, e1, p1, by rw [st_X, p11], Or.inr ⟨fun q => ?_, ⟨_, _, fam_push (t := t) (u := u) (kd := kd) (c := cnt (kb (Ls G)) 65536) (q := fun i => (P.1 7 (120 * zFn z + i)).toNatClampNeg) H hf hkd ?_ (by omega) (fun i hi => ?_) ⟨o3, o4⟩ ?_ XO ?_ ?_ (fun i hi => ?_) ?_ ?_ (fun e' z' hu hA => ?_) p3 (p10 3 (by decide) (by decide) (by decide) (by decide)) (p10 13 (by decide) (by decide) (by decide) (by decide)) p9 p4 p5 (fun i hi => ?_) p7 p8 p12 p13 (fun e' z' hu hA => p14 h z z' e' rfl h4 h7 hu hA), rfl⟩, ⟨X0 4 (by decide) (by decide), XO 6 (by omega) (by omega) (by omega) (by omega) (by omega), by rw [XO 252 (by omega) (by omega) (by omega) (by omega) (by omega)], XO 253 (by omega) (by omega) (by omega) (by omega) (by omega)⟩, p10 7 (by decide) (by decide) (by decide) (by decide), p9 4 (by decide) (by decide) (by decide) (by decide) (by decide) (by decide), p10 18 (by decide) (by decide) (by decide) (by decide), p9 12 (by decide) (by decide) (by decide) (by decide) (by decide) (by decide)⟩⟩
    · have := nI_pos (n := zFn z) (by omega)
      rw [q] at this
      exact this (by decide)
    · obtain ⟨s, hs⟩ := hne
      obtain ⟨v, v1, v2⟩ := Ls_ex (s + 1) s (by omega) hs
      have := cnt_lt (K := kb (Ls G)) (s := v) (n := 65536) (by have := (hG2 v v2.1).2; omega) (kb_t.mpr v2)
      omega
    · obtain ⟨s, s1, s2, s3⟩ := cnt_surj _ i hi
      have hl := kb_t.mp s2
      have := p6 s s1 hl
      show 1 ≤ (P.1 7 (120 * zFn z + i)).toNatClampNeg ∧ (P.1 7 (120 * zFn z + i)).toNatClampNeg < 2 ^ zKn z
      rw [← s3, this, nI_clamp (by omega)]
      exact hG2 s hl.1
    · rw [sI_1, if_neg (by decide), o8 0 (by omega) (by omega), sI_1, if_pos ⟨rfl, rfl⟩]
    · rw [XF _ (by omega)]; exact t3
    · rw [XF _ (by omega), t4, hcN]
    · obtain ⟨s, s1, s2, s3⟩ := cnt_surj _ i hi
      have hl := kb_t.mp s2
      have hsm : s < 2 ^ max (zKn z) 6 := by have := (hG2 s hl.1).2; omega
      have hc3 : cnt (pb N) s = i := by rw [← s3]; exact cnt_congr _ (fun x hx => hK x (by omega))
      have := t5 s hsm (by rw [hK s hsm]; exact s2)
      rw [hc3] at this
      show (sI O 0 11 0).1 (264 + 2 * zFn z + 1) i = nI (P.1 7 (120 * zFn z + i)).toNatClampNeg
      rw [XF _ (by omega), this, ← s3, p6 s s1 hl, nI_clamp (by omega)]
    · rw [sI_off _ _ _ _ (by omega)]; exact o5
    · rw [sI_off _ _ _ _ (by omega)]; exact o6
    · refine o9 _ ?_ ?_ h z z' e' rfl ?_ hu hA
      · rw [sI_off _ _ _ _ (by decide)]
      · intro d q1 q2 q3
        rw [sI_off _ _ _ _ (by omega)]
      · refine HX_ag (fun c q1 q2 => ?_) f4
        rw [sI_off _ _ _ _ (by omega), t2 c (by omega) (by omega), n1]
    · obtain ⟨s, s1, s2, s3⟩ := cnt_surj _ i hi
      have := p6 s s1 (kb_t.mp s2)
      show P.1 7 (120 * zFn z + i) = nI (P.1 7 (120 * zFn z + i)).toNatClampNeg
      rw [← s3, this, nI_clamp (by omega)]
/-- settled, and both show the same again -/
theorem settle_rel {A B : Mem} {z : Sg} {h : List Ac} {G : Nat → Prop} {kd : Nat} (H : Core A B z h) (hL : ListR A B (zKn z)) (hS : SheetR A B) (hf : zFn z < 24) (hkd : kd ≤ 10) (hp : PS A (max (zKn z) 6)) (hU : ∀ s, s < 2 ^ (max (zKn z) 6) → (pb A s = true ↔ Up G s)) (hG : ∀ s, s < 65536 → (B.1 14 s = 0 ↔ ¬ G s)) (hG2 : ∀ s, G s → 1 ≤ s ∧ s < 2 ^ zKn z) (hne : ∃ s, G s) :
    ∃ r N1 N2, f_X10_settle (nI kd) A = some (r, N1) ∧ f_X11_made (nI kd) B = some (r, N2) ∧ Rel N1 N2 := by
  obtain ⟨r, N1, N2, e1, e2, hst, hr⟩ := settle H hf hkd hp hU hG hG2 hne
  refine ⟨r, N1, N2, e1, e2, ?_⟩
  rcases hr with ⟨-, -, k1, k2⟩ | ⟨-, ⟨z', h', hC, hk⟩, ⟨a1, a2, a3, a4⟩, b1, b2, b3, b4⟩
  · refine ⟨z, h, Core_ag H k1.1 k2.1, ListR_ag hL k1.2.1 k1.2.2.1 k2.2.1 k2.2.2.1, SheetR_ag hS k1.2.2.2.1 k1.2.2.2.2 k2.2.2.2.1 k2.2.2.2.2, hst⟩
  · refine ⟨z', h', hC, ?_, SheetR_ag hS a3 a4 b3 b4, hst⟩
    rw [hk]
    exact ListR_ag hL a1 a2 b1 b2
