section URows2
variable {h : Sh} {w : Wp} {x : Cx} {r : Option Value × Mem} {M : Mem} {pc : Nat} {L : List (Nat × Value)} {st : List Value} {own : String} {cc : ByteArray} {n : Nat} {rt : Option FieldType} {d : Nat}
theorem rv_cat (w : Wp) (o : Option Nat) : (rv w o).category = 1 := by cases o <;> rfl
theorem u_aload_nO (g : Gd h w x own cc n rt d) (q : Nat) {k : Fin 4} {o : Option Nat} (hd : decode cc pc = .ok (.aload_n k, 1)) (hL : L[q]? = some ((k : Nat), rv w o)) (kk : U h w x r M (pc + 1) L (rv w o :: st)) : U h w x r M pc L st := by
  cases o with
  | none => exact u_aload_nN g q hd hL kk
  | some c => exact u_aload_n g q hd hL kk
theorem u_aloadO (g : Gd h w x own cc n rt d) (q : Nat) {k : Nat} {o : Option Nat} (hd : decode cc pc = .ok (.aload k, 2)) (hL : L[q]? = some (k, rv w o)) (kk : U h w x r M (pc + 2) L (rv w o :: st)) : U h w x r M pc L st := by
  cases o with
  | none => exact u_aloadN g q hd hL kk
  | some c => exact u_aload g q hd hL kk
theorem u_astore_nO (g : Gd h w x own cc n rt d) {k : Fin 4} {o : Option Nat} (L' : List (Nat × Value)) (hd : decode cc pc = .ok (.astore_n k, 1)) (hn : (k : Nat) < n) (hL : ((k : Nat), rv w o) :: L.filter (fun q => !(q.1 == (k : Nat)) && !(q.1 + 1 == (k : Nat) && q.2.category == 2)) = L') (kk : U h w x r M (pc + 1) L' st) : U h w x r M pc L (rv w o :: st) := by
  cases o with
  | none => exact u_astore_nN g L' hd hn hL kk
  | some c => exact u_astore_n g L' hd hn hL kk
theorem u_astoreO (g : Gd h w x own cc n rt d) {k : Nat} {o : Option Nat} (L' : List (Nat × Value)) (hd : decode cc pc = .ok (.astore k, 2)) (hn : k < n) (hL : (k, rv w o) :: L.filter (fun q => !(q.1 == k) && !(q.1 + 1 == k && q.2.category == 2)) = L') (kk : U h w x r M (pc + 2) L' st) : U h w x r M pc L (rv w o :: st) := by
  cases o with
  | none => exact u_astoreN g L' hd hn hL kk
  | some c => exact u_astore g L' hd hn hL kk
end URows2
def oel {γ : Type} (o : Option Nat) (a : γ) (f : Nat → γ) : γ := match o with
  | none => a
  | some c => f c
theorem ob_none {γ : Type} {a r : γ} {f : Nat → γ} (h : oel none a f = r) : a = r := h
theorem ob_some {γ : Type} {a r : γ} {f : Nat → γ} {c : Nat} (h : oel (some c) a f = r) : f c = r := h
def sel {α β γ : Type} (o : α ⊕ β) (f : α → γ) (k : β → γ) : γ := match o with
  | .inl a => f a
  | .inr b => k b
theorem ob_inl {α β γ : Type} {a : α} {r : γ} {f : α → γ} {k : β → γ} (h : sel (.inl a) f k = r) : f a = r := h
theorem ob_inr {α β γ : Type} {b : β} {r : γ} {f : α → γ} {k : β → γ} (h : sel (.inr b) f k = r) : k b = r := h
theorem ob_pos {α : Type} {c : Prop} [Decidable c] {a b r : α} (hc : c) (h : (if c then a else b) = r) : a = r := by rw [if_pos hc] at h; exact h
theorem ob_neg {α : Type} {c : Prop} [Decidable c] {a b r : α} (hc : ¬ c) (h : (if c then a else b) = r) : b = r := by rw [if_neg hc] at h; exact h
theorem sw_out {a : Int32} (k : Nat) (hk : k < 1000) (hi : Int) (he : hi = k) (h : ∀ j, j < k + 1 → ¬ a = nI j) : a.toInt < 0 ∨ hi < a.toInt := by
  subst he
  by_cases h0 : a < 0
  · left
    exact Int32.lt_iff_toInt_lt.mp h0
  · obtain ⟨j, hj, rfl⟩ := nI_of h0
    right
    rw [nI_toInt hj]
    by_cases hjk : j < k + 1
    · exact absurd rfl (h j hjk)
    · omega
def imin (a b : Int32) : Int32 := if b < a then b else a
def imax (a b : Int32) : Int32 := if a < b then b else a
theorem cMin_eq : cJ9_min_7cf53 = Lib.Math.min.code := by decide +kernel
theorem cMax_eq : cJ9_max_7cf53 = Lib.Math.max.code := by decide +kernel
section URows3
variable {h : Sh} {w : Wp} {x : Cx} {r : Option Value × Mem} {M : Mem} {pc : Nat} {L : List (Nat × Value)} {st : List Value} {own : String} {cc : ByteArray} {n : Nat} {rt : Option FieldType} {d : Nat}
theorem u_mmin (g : Gd h w x own cc n rt d) {index k : Nat} (cw : CWs own index yJ9_min_7cf53 cJ9_min_7cf53 2 (some .int) k) {a b : Int32} (h1 : 1 ≤ d) (hst : (st.map fun v => v.category).sum ≤ 8) (hd : decode cc pc = .ok (.invokestatic index, 3)) (kk : U h w x r M (pc + 3) L (.int (imin a b) :: st)) : U h w x r M pc L (.int b :: .int a :: st) := by
  intro H locs ls hP hS hl
  obtain ⟨⟨w1, w2, w3, w4⟩, -⟩ := cw
  rw [cMin_eq] at w4
  have hR : x.2.2.2.1 = rmd d := g.2.2.2.2.2.2.2.2.1
  refine va_mmin g.1 g.2.1 hl.1.symm g.2.2.2.1 (g.2.2.2.2.1 _ w1) (g.2.2.2.2.1 _ w2) (g.2.2.2.2.1 _ w3) (g.2.2.2.2.1 _ w4) ?_ ?_ (Nat.zero_le _) (Nat.zero_le _) hd (kk H locs ls hP hS hl)
  · rw [hR]; exact h1
  · rw [hR]; show _ + 13 ≤ 64 * d; omega
theorem u_mmax (g : Gd h w x own cc n rt d) {index k : Nat} (cw : CWs own index yJ9_max_7cf53 cJ9_max_7cf53 2 (some .int) k) {a b : Int32} (h1 : 1 ≤ d) (hst : (st.map fun v => v.category).sum ≤ 8) (hd : decode cc pc = .ok (.invokestatic index, 3)) (kk : U h w x r M (pc + 3) L (.int (imax a b) :: st)) : U h w x r M pc L (.int b :: .int a :: st) := by
  intro H locs ls hP hS hl
  obtain ⟨⟨w1, w2, w3, w4⟩, -⟩ := cw
  rw [cMax_eq] at w4
  have hR : x.2.2.2.1 = rmd d := g.2.2.2.2.2.2.2.2.1
  refine va_mmax g.1 g.2.1 hl.1.symm g.2.2.2.1 (g.2.2.2.2.1 _ w1) (g.2.2.2.2.1 _ w2) (g.2.2.2.2.1 _ w3) (g.2.2.2.2.1 _ w4) ?_ ?_ (Nat.zero_le _) (Nat.zero_le _) hd (kk H locs ls hP hS hl)
  · rw [hR]; exact h1
  · rw [hR]; show _ + 13 ≤ 64 * d; omega
end URows3
