/-! THE ABSTRACT STATE, and how the two memories show it -/
abbrev Pl : Type := Nat × (Nat → Nat)
abbrev Th : Type := Nat × Int32 × Pl
abbrev Fm : Type := Nat × Nat × (Nat → Nat)
/-- keepers, strengths, tenths, weights, families, each family (kind, count, sets), the plan, the places -/
abbrev Sg : Type := Nat × (Nat → Nat) × (Nat → Nat) × (Nat → Nat) × Nat × (Nat → Fm) × Option Pl × (Nat → Th)
abbrev zKn (z : Sg) : Nat := z.1
abbrev zSt (z : Sg) : Nat → Nat := z.2.1
abbrev zTe (z : Sg) : Nat → Nat := z.2.2.1
abbrev zWe (z : Sg) : Nat → Nat := z.2.2.2.1
abbrev zFn (z : Sg) : Nat := z.2.2.2.2.1
abbrev zFm (z : Sg) : Nat → Fm := z.2.2.2.2.2.1
abbrev zPl (z : Sg) : Option Pl := z.2.2.2.2.2.2.1
abbrev zPc (z : Sg) : Nat → Th := z.2.2.2.2.2.2.2
abbrev zCnt (fm : Nat → Fm) (f : Nat) : Nat := (fm f).2.1
abbrev zSet (fm : Nat → Fm) (f i : Nat) : Nat := (fm f).2.2 i
def nUp (f : Nat → Nat) (k v : Nat) : Nat → Nat := fun j => if j = k then v else f j
def PlX (fm : Nat → Fm) (M : Mem) (c : Nat) (p : Pl) : Prop := M.1 c 0 = nI p.1 ∧ M.1 c 1 = nI (zCnt fm p.1) ∧ ∀ i, i < zCnt fm p.1 → M.1 (c + 1) i = nI (p.2 i)
def PoX (fm : Nat → Fm) (M : Mem) (c : Nat) (o : Option Pl) : Prop := match o with
  | none => M.1 c 0 = -1 ∧ M.1 c 1 = 0
  | some p => PlX fm M c p
def ThX (fm : Nat → Fm) (M : Mem) (c : Nat) (t : Th) : Prop := M.1 c 0 = nI t.1 ∧ (t.1 = 1 ∨ t.1 = 2 → M.1 c 1 = t.2.1) ∧ (t.1 = 3 → PlX fm M (c + 1) t.2.2)
def KeX (M : Mem) (z : Sg) : Prop := M.1 1 0 = nI (zKn z) ∧ ∀ k, k < zKn z → M.1 2 k = nI (zSt z k) ∧ M.1 3 k = nI (zTe z k) ∧ M.1 4 k = nI (zWe z k)
def FaX (M : Mem) (z : Sg) : Prop := M.1 0 2 = nI (zFn z) ∧ ∀ f, f < zFn z → M.1 (264 + 2 * f) 0 = nI (zFm z f).1 ∧ M.1 (264 + 2 * f) 1 = nI (zCnt (zFm z) f) ∧ ∀ i, i < zCnt (zFm z) f → M.1 (264 + 2 * f + 1) i = nI (zSet (zFm z) f i)
def RX (M : Mem) (z : Sg) : Prop := KeX M z ∧ FaX M z ∧ PoX (zFm z) M 7 (zPl z) ∧ ∀ k, k < 16 → ThX (zFm z) M (312 + 3 * k) (zPc z k)
def PlY (fm : Nat → Fm) (M : Mem) (a o : Nat) (p : Pl) : Prop := M.1 a o = nI p.1 ∧ ∀ i, i < zCnt fm p.1 → M.1 a (o + 1 + i) = nI (p.2 i)
def KeY (M : Mem) (z : Sg) : Prop := M.1 0 3 = nI (zKn z) ∧ ∀ k, k < zKn z → M.1 1 k = nI (zSt z k) ∧ M.1 2 k = nI (zTe z k) ∧ M.1 3 k = nI (zWe z k)
def FaY (M : Mem) (z : Sg) : Prop := M.1 0 11 = nI (zFn z) ∧ ∀ f, f < zFn z → M.1 5 f = nI (zFm z f).1 ∧ M.1 6 f = nI (zCnt (zFm z) f) ∧ ∀ i, i < zCnt (zFm z) f → M.1 7 (120 * f + i) = nI (zSet (zFm z) f i)
def PoY (fm : Nat → Fm) (M : Mem) (o : Option Pl) : Prop := match o with
  | none => M.1 0 13 = 0
  | some p => M.1 0 13 = 1 ∧ PlY fm M 8 0 p
def ThY (fm : Nat → Fm) (M : Mem) (k : Nat) (t : Th) : Prop := M.1 9 k = nI t.1 ∧ (t.1 = 1 ∨ t.1 = 2 → M.1 10 k = t.2.1) ∧ (t.1 = 3 → PlY fm M 11 (121 * k) t.2.2)
def RY (M : Mem) (z : Sg) : Prop := KeY M z ∧ FaY M z ∧ PoY (zFm z) M (zPl z) ∧ ∀ k, k < 16 → ThY (zFm z) M k (zPc z k)
/-- an act that can be taken back: its kind (0 keeper, 1 tenths, 2 family, 3 weight, 4 plan, 5 place), which, what was, the plan that was, the thing that was -/
abbrev Ac : Type := Nat × Nat × Nat × Option Pl × Th
def fam0 : Fm := (0, 0, fun _ => 0)
def fUp (f : Nat → Fm) (k : Nat) (v : Fm) : Nat → Fm := fun j => if j = k then v else f j
def undoA (a : Ac) (z : Sg) : Sg := match a.1 with
  | 0 => (zKn z - 1, nUp (zSt z) (zKn z - 1) 0, nUp (zTe z) (zKn z - 1) 0, nUp (zWe z) (zKn z - 1) 0, zFn z, zFm z, zPl z, zPc z)
  | 1 => (zKn z, zSt z, nUp (zTe z) a.2.1 a.2.2.1, zWe z, zFn z, zFm z, zPl z, zPc z)
  | 2 => (zKn z, zSt z, zTe z, zWe z, zFn z - 1, fUp (zFm z) (zFn z - 1) fam0, zPl z, zPc z)
  | 3 => (zKn z, zSt z, zTe z, nUp (zWe z) a.2.1 a.2.2.1, zFn z, zFm z, zPl z, zPc z)
  | 4 => (zKn z, zSt z, zTe z, zWe z, zFn z, zFm z, a.2.2.2.1, zPc z)
  | _ => (zKn z, zSt z, zTe z, zWe z, zFn z, zFm z, zPl z, fun k => if k = a.2.1 then a.2.2.2.2 else zPc z k)
def AcX (M : Mem) (t : Nat) (a : Ac) (z : Sg) : Prop := match a.1 with
  | 0 => M.1 t 0 = 0 ∧ M.1 t 1 = nI (zKn z - 1) ∧ 0 < zKn z
  | 1 => M.1 t 0 = 1 ∧ M.1 t 1 = nI a.2.1 ∧ M.1 t 2 = nI a.2.2.1 ∧ a.2.1 < zKn z
  | 2 => M.1 t 0 = 2 ∧ M.1 t 1 = nI (zFn z - 1) ∧ 0 < zFn z
  | 3 => M.1 t 0 = 3 ∧ M.1 t 1 = nI a.2.1 ∧ M.1 t 2 = nI a.2.2.1 ∧ a.2.1 < zKn z
  | 4 => (M.1 t 0 = 5 ∧ PoX (zFm z) M (t + 2) a.2.2.2.1) ∨ (M.1 t 0 = 4 ∧ ∃ (p : Pl) (i v : Nat), zPl z = some p ∧ a.2.2.2.1 = some (p.1, nUp p.2 i v) ∧ i < zCnt (zFm z) p.1 ∧ M.1 t 1 = nI i ∧ M.1 t 2 = nI v)
  | _ => M.1 t 0 = 6 ∧ M.1 t 1 = nI a.2.1 ∧ a.2.1 < 16 ∧ ThX (zFm z) M (t + 1) a.2.2.2.2
def AcY (M : Mem) (o : Nat) (a : Ac) (z : Sg) : Prop := match a.1 with
  | 0 => M.1 13 o = 0
  | 1 => M.1 13 o = 1 ∧ M.1 13 (o + 1) = nI a.2.1 ∧ M.1 13 (o + 2) = nI a.2.2.1 ∧ a.2.1 < zKn z
  | 2 => M.1 13 o = 2
  | 3 => M.1 13 o = 3 ∧ M.1 13 (o + 1) = nI a.2.1 ∧ M.1 13 (o + 2) = nI a.2.2.1 ∧ a.2.1 < zKn z
  | 4 => M.1 13 o = 4 ∧ (match a.2.2.2.1 with
    | none => M.1 13 (o + 2) = 0
    | some p => M.1 13 (o + 2) = 1 ∧ PlY (zFm z) M 13 (o + 3) p)
  | _ => M.1 13 o = 5 ∧ M.1 13 (o + 1) = nI a.2.1 ∧ a.2.1 < 16 ∧ M.1 13 (o + 2) = nI a.2.2.2.2.1 ∧ (a.2.2.2.2.1 = 1 ∨ a.2.2.2.2.1 = 2 → M.1 13 (o + 3) = a.2.2.2.2.2.1) ∧ (a.2.2.2.2.1 = 3 → PlY (zFm z) M 13 (o + 4) a.2.2.2.2.2.2)
/-- the acts, latest first -/
def HX (M : Mem) (fr : Nat) : List Ac → Sg → Prop
  | [], _ => True
  | a :: r, z => AcX M (12 + 4 * ((fr + r.length) % 60)) a z ∧ HX M fr r (undoA a z)
def HY (M : Mem) : List Ac → Sg → Prop
  | [], _ => True
  | a :: r, z => AcY M (126 * r.length) a z ∧ HY M r (undoA a z)
def PlOk (z : Sg) (p : Pl) : Prop := p.1 < zFn z ∧ ∀ i, i < zCnt (zFm z) p.1 → p.2 i ≤ 1000
def Inv (z : Sg) : Prop :=
  (zKn z ≤ 16 ∧ ∀ k, k < zKn z → 1 ≤ zSt z k ∧ zSt z k ≤ 100 ∧ zTe z k ≤ 10 ∧ zWe z k ≤ 1000) ∧
  (zFn z ≤ 24 ∧ ∀ f, f < zFn z → (zFm z f).1 ≤ 10 ∧ 1 ≤ zCnt (zFm z) f ∧ zCnt (zFm z) f ≤ 120 ∧ ∀ i, i < zCnt (zFm z) f → 1 ≤ zSet (zFm z) f i ∧ zSet (zFm z) f i < 2 ^ zKn z) ∧
  (∀ p, zPl z = some p → PlOk z p ∧ ∃ i, i < zCnt (zFm z) p.1 ∧ p.2 i ≠ 0) ∧
  (∀ k, k < 16 → (zPc z k).1 ≤ 3 ∧ ((zPc z k).1 = 3 → PlOk z (zPc z k).2.2)) ∧
  (∀ k, zKn z ≤ k → zSt z k = 0 ∧ zTe z k = 0 ∧ zWe z k = 0) ∧ ∀ f, zFn z ≤ f → zFm z f = fam0
def InvH : List Ac → Sg → Prop
  | [], z => Inv z
  | a :: r, z => Inv z ∧ InvH r (undoA a z)
theorem InvH.inv {h : List Ac} {z : Sg} (H : InvH h z) : Inv z := by
  cases h with
  | nil => exact H
  | cons a r => exact H.1
/-- the two memories show one and the same -/
def Core (M1 M2 : Mem) (z : Sg) (h : List Ac) : Prop := RX M1 z ∧ RY M2 z ∧ h.length ≤ 60 ∧ InvH h z ∧ (∃ fr, fr < 60 ∧ M1.1 10 1 = nI fr ∧ M1.1 10 2 = nI h.length ∧ HX M1 fr h z) ∧ M2.1 0 20 = nI h.length ∧ HY M2 h z
def ListR (M1 M2 : Mem) (kn : Nat) : Prop := ∃ (n : Nat) (ts : Nat → Nat), n ≤ 120 ∧ M1.1 0 4 = nI n ∧ M2.1 0 7 = nI n ∧ ∀ i, i < n → 1 ≤ ts i ∧ ts i < 2 ^ kn ∧ M1.1 6 i = nI (ts i) ∧ M2.1 4 i = nI (ts i)
def SheetR (M1 M2 : Mem) : Prop := ∃ n : Nat, n ≤ 7140 ∧ M1.1 252 0 = nI n ∧ M2.1 0 18 = nI n ∧ ∀ i, i < n → M1.1 253 i = M2.1 12 i
def Rel (M1 M2 : Mem) : Prop := ∃ (z : Sg) (h : List Ac), Core M1 M2 z h ∧ ListR M1 M2 (zKn z) ∧ SheetR M1 M2 ∧ M1.1 0 11 = M2.1 0 4
/-- what of the memories the core reads -/
def AgX (M M' : Mem) : Prop := M'.1 0 2 = M.1 0 2 ∧ ∀ c, (1 ≤ c ∧ c ≤ 4) ∨ c = 7 ∨ c = 8 ∨ (10 ≤ c ∧ c < 252) ∨ 264 ≤ c → M'.1 c = M.1 c
def AgY (M M' : Mem) : Prop := (M'.1 0 3 = M.1 0 3 ∧ M'.1 0 11 = M.1 0 11 ∧ M'.1 0 13 = M.1 0 13 ∧ M'.1 0 20 = M.1 0 20) ∧ ∀ c, (1 ≤ c ∧ c ≤ 3) ∨ (5 ≤ c ∧ c ≤ 11) ∨ c = 13 → M'.1 c = M.1 c
theorem PlX_ag {fm : Nat → Fm} {M M' : Mem} {c : Nat} {p : Pl} (h : PlX fm M c p) (e1 : M'.1 c = M.1 c) (e2 : M'.1 (c + 1) = M.1 (c + 1)) : PlX fm M' c p := by
  unfold PlX at *
  rw [e1, e2]
  exact h
theorem PoX_ag {fm : Nat → Fm} {M M' : Mem} {c : Nat} {o : Option Pl} (h : PoX fm M c o) (e1 : M'.1 c = M.1 c) (e2 : M'.1 (c + 1) = M.1 (c + 1)) : PoX fm M' c o := by
  cases o with
  | none => unfold PoX at *; rw [e1]; exact h
  | some p => exact PlX_ag h e1 e2
theorem ThX_ag {fm : Nat → Fm} {M M' : Mem} {c : Nat} {t : Th} (h : ThX fm M c t) (e0 : M'.1 c = M.1 c) (e1 : M'.1 (c + 1) = M.1 (c + 1)) (e2 : M'.1 (c + 2) = M.1 (c + 2)) : ThX fm M' c t := by
  unfold ThX at *
  rw [e0]
  exact ⟨h.1, h.2.1, fun q => PlX_ag (h.2.2 q) e1 e2⟩
theorem AcX_ag {M M' : Mem} {t : Nat} {a : Ac} {z : Sg} (h : AcX M t a z) (e : ∀ k, k < 4 → M'.1 (t + k) = M.1 (t + k)) : AcX M' t a z := by
  have e0 : M'.1 t = M.1 t := e 0 (by decide)
  unfold AcX at *
  rw [e0]
  split at h
  · exact h
  · exact h
  · exact h
  · exact h
  · rcases h with h | h
    · exact Or.inl ⟨h.1, PoX_ag h.2 (e 2 (by decide)) (e 3 (by decide))⟩
    · exact Or.inr h
  · exact ⟨h.1, h.2.1, h.2.2.1, ThX_ag h.2.2.2 (e 1 (by decide)) (e 2 (by decide)) (e 3 (by decide))⟩
theorem HX_ag {M M' : Mem} {fr : Nat} (e : ∀ c, 12 ≤ c → c < 252 → M'.1 c = M.1 c) : ∀ {h : List Ac} {z : Sg}, HX M fr h z → HX M' fr h z := by
  intro h
  induction h with
  | nil => intro z _; trivial
  | cons a r ih =>
    intro z H
    have hb : (fr + r.length) % 60 < 60 := Nat.mod_lt _ (by decide)
    exact ⟨AcX_ag H.1 (fun k hk => e _ (by omega) (by omega)), ih H.2⟩
theorem RX_ag {M M' : Mem} {z : Sg} (hf : zFn z ≤ 24) (h : RX M z) (e : AgX M M') : RX M' z := by
  obtain ⟨h1, h2, h3, h4⟩ := h
  obtain ⟨e0, e1⟩ := e
  refine ⟨?_, ?_, PoX_ag h3 (e1 7 (by omega)) (e1 8 (by omega)), fun k hk => ThX_ag (h4 k hk) (e1 _ (by omega)) (e1 _ (by omega)) (e1 _ (by omega))⟩
  · unfold KeX at *
    rw [e1 1 (by omega), e1 2 (by omega), e1 3 (by omega), e1 4 (by omega)]
    exact h1
  · unfold FaX at *
    rw [e0]
    refine ⟨h2.1, fun f hf => ?_⟩
    rw [e1 (264 + 2 * f) (by omega), e1 (264 + 2 * f + 1) (by omega)]
    exact h2.2 f hf
theorem PlY_ag {fm : Nat → Fm} {M M' : Mem} {a o : Nat} {p : Pl} (h : PlY fm M a o p) (e : M'.1 a = M.1 a) : PlY fm M' a o p := by
  unfold PlY at *
  rw [e]
  exact h
theorem AcY_ag {M M' : Mem} {o : Nat} {a : Ac} {z : Sg} (h : AcY M o a z) (e : M'.1 13 = M.1 13) : AcY M' o a z := by
  unfold AcY PlY at *
  rw [e]
  exact h
theorem HY_ag {M M' : Mem} (e : M'.1 13 = M.1 13) : ∀ {h : List Ac} {z : Sg}, HY M h z → HY M' h z := by
  intro h
  induction h with
  | nil => intro z _; trivial
  | cons a r ih => intro z H; exact ⟨AcY_ag H.1 e, ih H.2⟩
theorem RY_ag {M M' : Mem} {z : Sg} (h : RY M z) (e : AgY M M') : RY M' z := by
  obtain ⟨h1, h2, h3, h4⟩ := h
  obtain ⟨⟨e3, e11, e13, e20⟩, e1⟩ := e
  refine ⟨?_, ?_, ?_, fun k hk => ?_⟩
  · unfold KeY at *
    rw [e3, e1 1 (by omega), e1 2 (by omega), e1 3 (by omega)]
    exact h1
  · unfold FaY at *
    rw [e11, e1 5 (by omega), e1 6 (by omega), e1 7 (by omega)]
    exact h2
  · unfold PoY PlY at *
    rw [e13, e1 8 (by omega)]
    exact h3
  · have := h4 k hk
    unfold ThY PlY at *
    rw [e1 9 (by omega), e1 10 (by omega), e1 11 (by omega)]
    exact this
theorem Core_ag {M1 M2 N1 N2 : Mem} {z : Sg} {h : List Ac} (H : Core M1 M2 z h) (a1 : AgX M1 N1) (a2 : AgY M2 N2) : Core N1 N2 z h := by
  obtain ⟨h1, h2, h3, h4, ⟨fr, f1, f2, f3, f4⟩, h6, h7⟩ := H
  refine ⟨RX_ag h4.inv.2.1.1 h1 a1, RY_ag h2 a2, h3, h4, ⟨fr, f1, ?_, ?_, HX_ag (fun c hc hc2 => a1.2 c (by omega)) f4⟩, ?_, HY_ag (a2.2 13 (by omega)) h7⟩
  · rw [a1.2 10 (by omega)]; exact f2
  · rw [a1.2 10 (by omega)]; exact f3
  · rw [a2.1.2.2.2]; exact h6
theorem AgX.refl (M : Mem) : AgX M M := ⟨rfl, fun _ _ => rfl⟩
theorem AgY.refl (M : Mem) : AgY M M := ⟨⟨rfl, rfl, rfl, rfl⟩, fun _ _ => rfl⟩
theorem AgX.trans {A B C : Mem} (h : AgX A B) (k : AgX B C) : AgX A C := ⟨k.1.trans h.1, fun c hc => (k.2 c hc).trans (h.2 c hc)⟩
theorem AgY.trans {A B C : Mem} (h : AgY A B) (k : AgY B C) : AgY A C := ⟨⟨k.1.1.trans h.1.1, k.1.2.1.trans h.1.2.1, k.1.2.2.1.trans h.1.2.2.1, k.1.2.2.2.trans h.1.2.2.2⟩, fun c hc => (k.2 c hc).trans (h.2 c hc)⟩
