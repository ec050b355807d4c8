/-! the reference's tree -/
def FrU (u : Nat) (M N : Mem) : Prop := (∀ d, d ≠ 20 → d ≠ 21 → N.1 d = M.1 d) ∧ (∀ x, x ≠ u → N.1 21 x = M.1 21 x) ∧ ∀ j, ¬ (256 * u ≤ j ∧ j < 256 * u + 256) → N.1 20 j = M.1 20 j
theorem FrU.refl (u : Nat) (M : Mem) : FrU u M M := ⟨fun _ _ _ => rfl, fun _ _ => rfl, fun _ _ => rfl⟩
theorem FrU.trans {u : Nat} {A B C : Mem} (h : FrU u A B) (g : FrU u B C) : FrU u A C := ⟨fun d a b => (g.1 d a b).trans (h.1 d a b), fun x hx => (g.2.1 x hx).trans (h.2.1 x hx), fun j hj => (g.2.2 j hj).trans (h.2.2 j hj)⟩
/-- what node u has: its ways, by number -/
def NdY (M : Mem) (u n : Nat) (wv : Nat → Nat) : Prop := M.1 21 u = nI n ∧ ∀ i, i < n → M.1 20 (256 * u + i) = nI (wv i)
theorem NdY.keep {M N : Mem} {u v n : Nat} {wv : Nat → Nat} (h : NdY M u n wv) (hn : n ≤ 256) (e : FrU v M N) (hne : u ≠ v) : NdY N u n wv := by
  refine ⟨by rw [e.2.1 u hne]; exact h.1, fun i hi => ?_⟩
  rw [e.2.2 (256 * u + i) (by
    rcases Nat.lt_or_gt_of_ne hne with q | q
    · omega
    · omega)]
  exact h.2 i hi
def AppU (M N : Mem) (u n n' : Nat) (wv wv' : Nat → Nat) (S : Nat → Prop) : Prop := FrU u M N ∧ n ≤ n' ∧ (∀ i, i < n → wv' i = wv i) ∧ NdY N u n' wv' ∧ ∀ s, S s ↔ ∃ i, n ≤ i ∧ i < n' ∧ s = wv' i
theorem AppU.none {M : Mem} {u n : Nat} {wv : Nat → Nat} (h : NdY M u n wv) : AppU M M u n n wv wv (fun _ => False) := ⟨FrU.refl u M, Nat.le_refl _, fun _ _ => rfl, h, fun s => ⟨fun q => q.elim, fun ⟨i, h1, h2, _⟩ => by omega⟩⟩
theorem AppU.congr {M N : Mem} {u n n' : Nat} {wv wv' : Nat → Nat} {S T : Nat → Prop} (h : AppU M N u n n' wv wv' S) (e : ∀ s, S s ↔ T s) : AppU M N u n n' wv wv' T := ⟨h.1, h.2.1, h.2.2.1, h.2.2.2.1, fun s => by rw [← e s]; exact h.2.2.2.2 s⟩
theorem AppU.trans {A B C : Mem} {u n n1 n2 : Nat} {wv w1 w2 : Nat → Nat} {S T : Nat → Prop} (h : AppU A B u n n1 wv w1 S) (g : AppU B C u n1 n2 w1 w2 T) : AppU A C u n n2 wv w2 (fun s => S s ∨ T s) := by
  obtain ⟨h1, h2, h3, h4, h5⟩ := h
  obtain ⟨g1, g2, g3, g4, g5⟩ := g
  refine ⟨h1.trans g1, by omega, fun i hi => (g3 i (by omega)).trans (h3 i hi), g4, fun s => ?_⟩
  show (S s ∨ T s) ↔ _
  rw [h5 s, g5 s]
  constructor
  · rintro (⟨i, i1, i2, i3⟩ | ⟨i, i1, i2, i3⟩)
    · exact ⟨i, i1, by omega, by rw [g3 i (by omega)]; exact i3⟩
    · exact ⟨i, by omega, i2, i3⟩
  · rintro ⟨i, i1, i2, i3⟩
    by_cases q : i < n1
    · exact Or.inl ⟨i, i1, q, by rw [← g3 i q]; exact i3⟩
    · exact Or.inr ⟨i, by omega, i2, i3⟩
theorem enoughsY {M : Mem} {u n w : Nat} {wv : Nat → Nat} (hu : u < 16) (hn : n < 256) (h : NdY M u n wv) : ∃ N, f_X11_enoughs (nI u) (nI w) M = some N ∧ ∃ wv', AppU M N u n (n + 1) wv wv' (fun s => s = w) := by
  refine ⟨sI (sI M 20 (256 * u + n) (nI w)) 21 u (nI (n + 1)), ?_, nUp wv n w, ⟨fun d a b => by rw [sI_off _ _ _ _ b, sI_off _ _ _ _ a], fun x hx => by rw [sI_1, if_neg (fun q => hx q.2), sI_off _ _ _ _ (by decide)], fun j hj => by rw [sI_off _ _ _ _ (by decide), sI_1, if_neg (by omega)]⟩, by omega, fun i hi => nup_n _ _ (by omega), ⟨by rw [sI_1, if_pos ⟨rfl, rfl⟩], fun i hi => ?_⟩, fun s => ?_⟩
  · unfold f_X11_enoughs
    rw [if_pos (inB_nI hu (by decide)), nI_clamp (show u < 2 ^ 31 by omega), h.1, show (256 : Int32) * nI u = nI (256 * u) from pk_mul 256 u, nI_add, if_pos (inB_nI (show 256 * u + n < 4096 by omega) (by decide)), if_pos (inB_nI hu (by decide)), if_pos (inB_nI hu (by decide)), nI_clamp (show 256 * u + n < 2 ^ 31 by omega), nI_1]
  · rw [sI_off _ _ _ _ (by decide), sI_1]
    by_cases e : i = n
    · rw [if_pos ⟨rfl, by rw [e]⟩, e, nup_s]
    · rw [if_neg (by omega), nup_n _ _ e]; exact h.2 i (by omega)
  · constructor
    · intro q; exact ⟨n, Nat.le_refl _, by omega, by rw [nup_s]; exact q⟩
    · rintro ⟨i, i1, i2, i3⟩
      rw [show i = n by omega, nup_s] at i3; exact i3
theorem appLoop (F : Nat → Int32 → Mem → Option Mem) {e u n : Nat} (g : Nat → Nat) {M : Mem} {wv : Nat → Nat} (hu : u < 16) (hn : n + e ≤ 256) (h : NdY M u n wv)
    (hx : ∀ k N, FrU u M N → F (k + 1) (nI e) N = some N) (hs : ∀ k i N, i < e → FrU u M N → F (k + 1) (nI i) N = Option.bind (f_X11_enoughs (nI u) (nI (g i)) N) (fun q => F k (nI (i + 1)) q)) :
    ∃ N, F fuelN 0 M = some N ∧ ∃ wv', AppU M N u n (n + e) wv wv' (fun s => ∃ i, i < e ∧ s = g i) := by
  refine loop_go (F := F) e (by omega) (fun i N => ∃ wv', AppU M N u n (n + i) wv wv' (fun s => ∃ j, j < i ∧ s = g j)) _ (fun k N ⟨wv', hN⟩ => ⟨N, hx k N hN.1, wv', hN⟩) (fun k i N hi ⟨wv', hN⟩ => ?_) 0 M (by omega) ⟨wv, (AppU.none h).congr (fun s => ⟨fun q => q.elim, fun ⟨j, hj, _⟩ => by omega⟩)⟩
  obtain ⟨P, p1, w2, p2⟩ := enoughsY (w := g i) hu (show n + i < 256 by omega) hN.2.2.2.1
  refine Or.inl ⟨P, ⟨w2, (hN.trans p2).congr (fun s => ?_)⟩, by rw [hs k i N hi hN.1, p1, Option.bind_some]⟩
  constructor
  · rintro (⟨j, j1, j2⟩ | q)
    · exact ⟨j, by omega, j2⟩
    · exact ⟨i, by omega, q⟩
  · rintro ⟨j, j1, j2⟩
    by_cases e : j = i
    · rw [e] at j2; exact Or.inr j2
    · exact Or.inl ⟨j, by omega, j2⟩
theorem treeY2 {M : Mem} {v y n c bit : Nat} {wv x : Nat → Nat} (hv : v < 16) (hy : y < 16) (hne : y ≠ v) (hn : n + c ≤ 256) (h : NdY M v n wv) (hx : NdY M y c x) (a b d : Int32) :
    ∃ N, f_X11_tree_l2 a b (nI v) (nI bit) (nI y) d fuelN 0 M = some N ∧ ∃ wv', AppU M N v n (n + c) wv wv' (fun s => ∃ i, i < c ∧ s = bit ||| x i) := by
  refine appLoop (fun k w N => f_X11_tree_l2 a b (nI v) (nI bit) (nI y) d k w N) (fun i => bit ||| x i) hv hn h (fun k N hN => ?_) (fun k i N hi hN => ?_)
  · show f_X11_tree_l2 _ _ _ _ _ _ (k + 1) (nI c) N = _
    rw [f_X11_tree_l2, if_pos (inB_nI hy (by decide)), nI_clamp (by omega), (hx.keep (by omega) hN hne).1, if_pos (Int32.le_refl _)]
  · show f_X11_tree_l2 _ _ _ _ _ _ (k + 1) (nI i) N = _
    rw [f_X11_tree_l2, if_pos (inB_nI hy (by decide)), nI_clamp (by omega), (hx.keep (by omega) hN hne).1, if_neg (ifle_no hi (by omega)), show (256 : Int32) * nI y = nI (256 * y) from pk_mul 256 y, nI_add, if_pos (inB_nI (show 256 * y + i < 4096 by omega) (by decide)), nI_clamp (show 256 * y + i < 2 ^ 31 by omega), (hx.keep (by omega) hN hne).2 i hi, nx_or, nI_1]
theorem treeY3 {M : Mem} {v y n c bit : Nat} {wv x : Nat → Nat} (hv : v < 16) (hy : y < 16) (hne : y ≠ v) (hn : n + c ≤ 256) (h : NdY M v n wv) (hx : NdY M y c x) (a b d : Int32) :
    ∃ N, f_X11_tree_l3 a b (nI v) (nI bit) d (nI y) fuelN 0 M = some N ∧ ∃ wv', AppU M N v n (n + c) wv wv' (fun s => ∃ i, i < c ∧ s = bit ||| x i) := by
  refine appLoop (fun k w N => f_X11_tree_l3 a b (nI v) (nI bit) d (nI y) k w N) (fun i => bit ||| x i) hv hn h (fun k N hN => ?_) (fun k i N hi hN => ?_)
  · show f_X11_tree_l3 _ _ _ _ _ _ (k + 1) (nI c) N = _
    rw [f_X11_tree_l3, if_pos (inB_nI hy (by decide)), nI_clamp (by omega), (hx.keep (by omega) hN hne).1, if_pos (Int32.le_refl _)]
  · show f_X11_tree_l3 _ _ _ _ _ _ (k + 1) (nI i) N = _
    rw [f_X11_tree_l3, if_pos (inB_nI hy (by decide)), nI_clamp (by omega), (hx.keep (by omega) hN hne).1, if_neg (ifle_no hi (by omega)), show (256 : Int32) * nI y = nI (256 * y) from pk_mul 256 y, nI_add, if_pos (inB_nI (show 256 * y + i < 4096 by omega) (by decide)), nI_clamp (show 256 * y + i < 2 ^ 31 by omega), (hx.keep (by omega) hN hne).2 i hi, nx_or, nI_1]
theorem treeY5 {M : Mem} {v y y2 n c c2 j : Nat} {wv x x2 : Nat → Nat} (hv : v < 16) (hy : y < 16) (hy2 : y2 < 16) (hne : y ≠ v) (hne2 : y2 ≠ v) (hc : c ≤ 256) (hn : n + c2 ≤ 256) (h : NdY M v n wv) (hx : NdY M y c x) (hx2 : NdY M y2 c2 x2) (hj : j < c) (a b : Int32) :
    ∃ N, f_X11_tree_l5 a b (nI v) (nI y) (nI y2) (nI j) fuelN 0 M = some N ∧ ∃ wv', AppU M N v n (n + c2) wv wv' (fun s => ∃ i, i < c2 ∧ s = x j ||| x2 i) := by
  refine appLoop (fun k w N => f_X11_tree_l5 a b (nI v) (nI y) (nI y2) (nI j) k w N) (fun i => x j ||| x2 i) hv hn h (fun k N hN => ?_) (fun k i N hi hN => ?_)
  · show f_X11_tree_l5 _ _ _ _ _ _ (k + 1) (nI c2) N = _
    rw [f_X11_tree_l5, if_pos (inB_nI hy2 (by decide)), nI_clamp (by omega), (hx2.keep (by omega) hN hne2).1, if_pos (Int32.le_refl _)]
  · show f_X11_tree_l5 _ _ _ _ _ _ (k + 1) (nI i) N = _
    rw [f_X11_tree_l5, if_pos (inB_nI hy2 (by decide)), nI_clamp (show y2 < 2 ^ 31 by omega), (hx2.keep (by omega) hN hne2).1, if_neg (ifle_no hi (by omega)), show (256 : Int32) * nI y = nI (256 * y) from pk_mul 256 y, show (256 : Int32) * nI y2 = nI (256 * y2) from pk_mul 256 y2, nI_add, nI_add, if_pos (inB_nI (show 256 * y + j < 4096 by omega) (by decide)), if_pos (inB_nI (show 256 * y2 + i < 4096 by omega) (by decide)), nI_clamp (show 256 * y + j < 2 ^ 31 by omega), nI_clamp (show 256 * y2 + i < 2 ^ 31 by omega), (hx.keep hc hN hne).2 j hj, (hx2.keep (by omega) hN hne2).2 i hi, nx_or, nI_1]
theorem treeY4 {M : Mem} {v y y2 n c c2 : Nat} {wv x x2 : Nat → Nat} (hv : v < 16) (hy : y < 16) (hy2 : y2 < 16) (hne : y ≠ v) (hne2 : y2 ≠ v) (hc : c ≤ 256) (hc2 : c2 ≤ 256) (hn : n + c * c2 ≤ 256) (h : NdY M v n wv) (hx : NdY M y c x) (hx2 : NdY M y2 c2 x2) (a b : Int32) :
    ∃ N, f_X11_tree_l4 a b (nI v) (nI y) (nI y2) fuelN 0 M = some N ∧ ∃ wv', AppU M N v n (n + c * c2) wv wv' (fun s => ∃ j i, j < c ∧ i < c2 ∧ s = x j ||| x2 i) := by
  refine loop_go (F := fun k w N => f_X11_tree_l4 a b (nI v) (nI y) (nI y2) k w N) c (by omega) (fun j N => ∃ wv', AppU M N v n (n + j * c2) wv wv' (fun s => ∃ j' i, j' < j ∧ i < c2 ∧ s = x j' ||| x2 i)) _ (fun k N ⟨wv', hN⟩ => ⟨N, ?_, wv', hN⟩) (fun k j N hj ⟨wv', hN⟩ => ?_) 0 M (by omega) ⟨wv, by rw [Nat.zero_mul, Nat.add_zero]; exact (AppU.none h).congr (fun s => ⟨fun q => q.elim, fun ⟨j, i, hj, _⟩ => by omega⟩)⟩
  · show f_X11_tree_l4 _ _ _ _ _ (k + 1) (nI c) N = _
    rw [f_X11_tree_l4, if_pos (inB_nI hy (by decide)), nI_clamp (by omega), (hx.keep hc hN.1 hne).1, if_pos (Int32.le_refl _)]
  · have hm : j * c2 + c2 = (j + 1) * c2 := by rw [Nat.add_mul, Nat.one_mul]
    have hle : (j + 1) * c2 ≤ c * c2 := Nat.mul_le_mul_right _ hj
    obtain ⟨P, p1, w2, p2⟩ := treeY5 (M := N) (n := n + j * c2) hv hy hy2 hne hne2 hc (by omega) hN.2.2.2.1 (hx.keep hc hN.1 hne) (hx2.keep hc2 hN.1 hne2) hj a b
    rw [show n + j * c2 + c2 = n + (j + 1) * c2 by omega] at p2
    refine Or.inl ⟨P, ⟨w2, (hN.trans p2).congr (fun s => ?_)⟩, ?_⟩
    · constructor
      · rintro (⟨j', i, j1, i1, e⟩ | ⟨i, i1, e⟩)
        · exact ⟨j', i, by omega, i1, e⟩
        · exact ⟨j, i, by omega, i1, e⟩
      · rintro ⟨j', i, j1, i1, e⟩
        by_cases q : j' = j
        · rw [q] at e; exact Or.inr ⟨i, i1, e⟩
        · exact Or.inl ⟨j', i, by omega, i1, e⟩
    · show f_X11_tree_l4 _ _ _ _ _ (k + 1) (nI j) N = f_X11_tree_l4 _ _ _ _ _ k (nI (j + 1)) P
      rw [f_X11_tree_l4, if_pos (inB_nI hy (by decide)), nI_clamp (by omega), (hx.keep hc hN.1 hne).1, if_neg (ifle_no hj (by omega)), p1, Option.bind_some, nI_1]
def TrY (M : Mem) (base h v : Nat) (N : Mem) : Prop := (∀ d, d ≠ 20 → d ≠ 21 → N.1 d = M.1 d) ∧ ∀ u, v < u → u < 2 ^ h → ∃ wv : Nat → Nat, NdY N u (tc (hg h u)) wv ∧ ∀ t, Tt base (hg h u) u t ↔ ∃ i, i < tc (hg h u) ∧ t = wv i
theorem treeY_l1 {M : Mem} {base h : Nat} (h1 : 1 ≤ h) (h4 : h < 5) (hb : base + (2 ^ h - 1) ≤ 16) : ∃ N, f_X11_tree_l1 (nI base) (nI (2 ^ h - 1)) fuelN (nI (2 ^ h - 1)) M = some N ∧ TrY M base h 0 N := by
  obtain ⟨z1, z2, z3⟩ := tr2 h h4 h1
  have hp := Nat.two_pow_pos h
  refine loop_d (F := fun n (s : Int32 × Mem) => f_X11_tree_l1 (nI base) (nI (2 ^ h - 1)) n s.1 s.2) (fun s => ∃ v, v < 2 ^ h ∧ s.1 = nI v ∧ TrY M base h v s.2) (fun s => s.1.toNatClampNeg) _ ?_ (nI (2 ^ h - 1), M) ⟨2 ^ h - 1, by omega, rfl, fun _ _ _ => rfl, fun u q1 q2 => by omega⟩ (by show (nI (2 ^ h - 1)).toNatClampNeg < 70000; rw [nI_clamp (by omega)]; omega)
  rintro n ⟨v4, N⟩ ⟨v, hv, e, t1, t2⟩
  dsimp only at e t1 t2
  subst e
  by_cases v0 : v = 0
  · subst v0
    right
    refine ⟨N, ?_, t1, t2⟩
    show f_X11_tree_l1 _ _ (n + 1) (nI 0) N = _
    rw [f_X11_tree_l1, if_pos (by decide)]
  · left
    have ha := tr1a h h4 v (by omega) h1 (by omega) hv
    have hc := tr1c h h4 v (by omega) h1 (by omega) hv
    let N0 := sI N 21 v 0
    have f0 : FrU v N N0 := ⟨fun d _ b => sI_off _ _ _ _ b, fun x hx => by show (sI N 21 v 0).1 21 x = _; rw [sI_1, if_neg (fun q => hx q.2)], fun j _ => by show (sI N 21 v 0).1 20 j = _; rw [sI_off _ _ _ _ (by decide)]⟩
    have n0 : NdY N0 v 0 (fun _ => 0) := ⟨by show (sI N 21 v 0).1 21 v = _; rw [sI_1, if_pos ⟨rfl, rfl⟩]; rfl, fun i hi => by omega⟩
    have ebit : (1 : Int32) <<< (((nI base + nI v) - (1 : Int32)) &&& 31) = nI (2 ^ (base + v - 1)) := by
      rw [nI_add, show (1 : Int32) = nI 1 from rfl, pk_sub (by omega), show nI 1 = (1 : Int32) from rfl, one_shl _ (by omega)]
    have body : ∃ Q, (if ((2 : Int32) * nI v) ≤ nI (2 ^ h - 1) then (Option.bind (f_X11_tree_l2 (nI base) (nI (2 ^ h - 1)) (nI v) (nI (2 ^ (base + v - 1))) ((2 : Int32) * nI v) (((2 : Int32) * nI v) + (1 : Int32)) fuelN (0 : Int32) N0) (fun q13 => (Option.bind (f_X11_tree_l3 (nI base) (nI (2 ^ h - 1)) (nI v) (nI (2 ^ (base + v - 1))) ((2 : Int32) * nI v) (((2 : Int32) * nI v) + (1 : Int32)) fuelN (0 : Int32) q13) (fun q15 => (Option.bind (f_X11_tree_l4 (nI base) (nI (2 ^ h - 1)) (nI v) ((2 : Int32) * nI v) (((2 : Int32) * nI v) + (1 : Int32)) fuelN (0 : Int32) q15) (fun q17 => some q17)))))) else (Option.bind (f_X11_enoughs (nI v) (nI (2 ^ (base + v - 1))) N0) (fun q19 => some q19))) = some Q ∧ ∃ wv', AppU N0 Q v 0 (tc (hg h v)) (fun _ => 0) wv' (Tt base (hg h v) v) := by
      rw [show (2 : Int32) * nI v = nI (2 * v) from pk_mul 2 v, nI_1]
      by_cases h2 : 2 ≤ hg h v
      · have hb' := tr1b h h4 v (by omega) h1 (by omega) hv h2
        have h2v := ha.2.mpr h2
        obtain ⟨d, hd⟩ : ∃ d, hg h v = d + 1 := ⟨hg h v - 1, by omega⟩
        have hd1 : 1 ≤ d := by omega
        have g1 : hg h (2 * v) = d := by omega
        have g2 : hg h (2 * v + 1) = d := by omega
        rw [hd, tc_node hd1] at hc
        obtain ⟨x, x1, x2⟩ := t2 (2 * v) (by omega) (by omega)
        obtain ⟨y, y1, y2⟩ := t2 (2 * v + 1) (by omega) (by omega)
        rw [g1] at x1 x2
        rw [g2] at y1 y2
        have x1' := x1.keep (by omega) f0 (by omega)
        have y1' := y1.keep (by omega) f0 (by omega)
        obtain ⟨P, p1, w1, p2⟩ := treeY2 (M := N0) (v := v) (y := 2 * v) (n := 0) (bit := 2 ^ (base + v - 1)) (by omega) (by omega) (by omega) (by omega) n0 x1' (nI base) (nI (2 ^ h - 1)) (nI (2 * v + 1))
        obtain ⟨Q, q1, w2, q2⟩ := treeY3 (M := P) (v := v) (y := 2 * v + 1) (n := 0 + tc d) (bit := 2 ^ (base + v - 1)) (by omega) (by omega) (by omega) (by omega) p2.2.2.2.1 (y1'.keep (by omega) p2.1 (by omega)) (nI base) (nI (2 ^ h - 1)) (nI (2 * v))
        have fQ := p2.1.trans q2.1
        obtain ⟨R, r1, w3, r2⟩ := treeY4 (M := Q) (v := v) (y := 2 * v) (y2 := 2 * v + 1) (n := 0 + tc d + tc d) (by omega) (by omega) (by omega) (by omega) (by omega) (by omega) (by omega) (by omega) q2.2.2.2.1 (x1'.keep (by omega) fQ (by omega)) (y1'.keep (by omega) fQ (by omega)) (nI base) (nI (2 ^ h - 1))
        rw [show 0 + tc d + tc d + tc d * tc d = tc (d + 1) by rw [tc_node hd1]; omega] at r2
        refine ⟨R, ?_, w3, ?_⟩
        · rw [if_pos (nI_le h2v (by omega)), p1, Option.bind_some, q1, Option.bind_some, r1, Option.bind_some]
        · rw [hd]
          refine ((p2.trans q2).trans r2).congr (fun t => ?_)
          rw [Tt_node hd1]
          constructor
          · rintro ((⟨i, i1, e⟩ | ⟨i, i1, e⟩) | ⟨j, i, j1, i1, e⟩)
            · exact Or.inl ⟨x i, Or.inl ((x2 _).mpr ⟨i, i1, rfl⟩), e⟩
            · exact Or.inl ⟨y i, Or.inr ((y2 _).mpr ⟨i, i1, rfl⟩), e⟩
            · exact Or.inr ⟨x j, y i, (x2 _).mpr ⟨j, j1, rfl⟩, (y2 _).mpr ⟨i, i1, rfl⟩, e⟩
          · rintro (⟨w, hw, e⟩ | ⟨w, w', hw, hw', e⟩)
            · rcases hw with hw | hw
              · obtain ⟨i, i1, i2⟩ := (x2 w).mp hw
                exact Or.inl (Or.inl ⟨i, i1, by rw [e, i2]⟩)
              · obtain ⟨i, i1, i2⟩ := (y2 w).mp hw
                exact Or.inl (Or.inr ⟨i, i1, by rw [e, i2]⟩)
            · obtain ⟨j, j1, j2⟩ := (x2 w).mp hw
              obtain ⟨i, i1, i2⟩ := (y2 w').mp hw'
              exact Or.inr ⟨j, i, j1, i1, by rw [e, j2, i2]⟩
      · have hh1 : hg h v = 1 := by omega
        obtain ⟨Q, q1, w2, q2⟩ := enoughsY (M := N0) (u := v) (n := 0) (w := 2 ^ (base + v - 1)) (by omega) (by omega) n0
        refine ⟨Q, ?_, w2, ?_⟩
        · have h2v : 2 ^ h - 1 < 2 * v := by
            apply Classical.byContradiction
            intro q
            exact h2 (ha.2.mp (by omega))
          rw [if_neg (ifle_no h2v (by omega)), q1, Option.bind_some]
        · rw [hh1]
          exact q2.congr (fun t => by rw [Tt_leaf])
    obtain ⟨Q, q1, wv', q2⟩ := body
    have fQ := f0.trans q2.1
    refine ⟨(nI (v - 1), Q), ⟨v - 1, by omega, rfl, fun d a b => by show Q.1 d = _; rw [fQ.1 d a b]; exact t1 d a b, fun u a b => ?_⟩, ?_, ?_⟩
    · by_cases e : u = v
      · subst e
        refine ⟨wv', q2.2.2.2.1, fun t => ?_⟩
        rw [q2.2.2.2.2 t]
        constructor
        · rintro ⟨i, -, i2, i3⟩; exact ⟨i, i2, i3⟩
        · rintro ⟨i, i2, i3⟩; exact ⟨i, Nat.zero_le _, i2, i3⟩
      · obtain ⟨x, x1, x2⟩ := t2 u (by omega) b
        have := (tr1c h h4 u (by omega) h1 (by omega) b).2.2
        exact ⟨x, x1.keep (by omega) fQ e, x2⟩
    · show (nI (v - 1)).toNatClampNeg < (nI v).toNatClampNeg
      rw [nI_clamp (by omega), nI_clamp (by omega)]; omega
    · show f_X11_tree_l1 (nI base) (nI (2 ^ h - 1)) (n + 1) (nI v) N = f_X11_tree_l1 (nI base) (nI (2 ^ h - 1)) n (nI (v - 1)) Q
      rw [f_X11_tree_l1, if_neg (nI_nle (by omega) (by omega)), if_pos (inB_nI (show v < 16 by omega) (by decide)), nI_clamp (show v < 2 ^ 31 by omega), ebit]
      have q1' := q1
      show Option.bind (if ((2 : Int32) * nI v) ≤ nI (2 ^ h - 1) then (Option.bind (f_X11_tree_l2 (nI base) (nI (2 ^ h - 1)) (nI v) (nI (2 ^ (base + v - 1))) ((2 : Int32) * nI v) (((2 : Int32) * nI v) + (1 : Int32)) fuelN (0 : Int32) N0) (fun q13 => (Option.bind (f_X11_tree_l3 (nI base) (nI (2 ^ h - 1)) (nI v) (nI (2 ^ (base + v - 1))) ((2 : Int32) * nI v) (((2 : Int32) * nI v) + (1 : Int32)) fuelN (0 : Int32) q13) (fun q15 => (Option.bind (f_X11_tree_l4 (nI base) (nI (2 ^ h - 1)) (nI v) ((2 : Int32) * nI v) (((2 : Int32) * nI v) + (1 : Int32)) fuelN (0 : Int32) q15) (fun q17 => some q17)))))) else (Option.bind (f_X11_enoughs (nI v) (nI (2 ^ (base + v - 1))) N0) (fun q19 => some q19))) _ = _
      rw [q1', Option.bind_some, show nI v + (-1 : Int32) = nI (v - 1) by rw [show v = v - 1 + 1 by omega, pk_m1]; rfl]
theorem p2h {t : Nat} (h : 1 ≤ t) : (1 + 1) * 2 ^ (t - 1) ≤ 2 ^ t := by
  obtain ⟨d, rfl⟩ : ∃ d, t = d + 1 := ⟨t - 1, by omega⟩
  rw [Nat.pow_succ, Nat.add_sub_cancel]
  omega
theorem sh_m1 : ∀ h, h < 5 → ((1 : Int32) <<< (nI h &&& 31)) - (1 : Int32) = nI (2 ^ h - 1) := by decide +kernel
set_option maxRecDepth 10000 in
theorem step_tree : St_tree Rel := by
  intro a b M1 M2 H
  have Hn1 := Rel_no H 1
  have Hn2 := Rel_no H 2
  obtain ⟨z, h, hC, hL, hS, hs⟩ := id H
  obtain ⟨h1, h2, h3, h4, -⟩ := id hC
  have hI := h4.inv
  have hk := hI.1.1
  have h23 : (sI M2 0 5 0).1 0 3 = nI (zKn z) := by rw [sI_1, if_neg (by decide)]; exact h2.1.1
  unfold f_X10_tree f_X11_tree
  rcases in1n_cases a 4 (by decide) with ⟨e1, ha⟩ | ⟨e1, t, ht1, ht, rfl⟩
  · have e1 : f_X11_in a 1 4 = some 0 := e1
    rw [e1]
    by_cases ha1 : a < 1
    · rw [if_pos ha1]; exact ⟨_, _, rfl, rfl, rfl, Hn2⟩
    · rw [if_neg ha1, if_neg (show ¬ a ≤ (4 : Int32) from fun q => by
        rcases ha with ha | ha
        · exact ha1 ha
        · have q : a ≤ nI 4 := q
          rw [Int32.lt_iff_toInt_lt] at ha
          rw [Int32.le_iff_toInt_le] at q
          omega)]
      exact ⟨_, _, rfl, rfl, rfl, Hn2⟩
  have e1 : f_X11_in (nI t) 1 4 = some 1 := e1
  obtain ⟨z1, z2, z3⟩ := tr2 t (by omega) ht1
  rw [e1, if_neg (show ¬ nI t < (1 : Int32) from nI_nlt (a := t) (b := 1) ht1 (by omega)), if_pos (show nI t ≤ (4 : Int32) from nI_le (b := 4) ht (by decide)), Option.bind_some, if_neg one_ne, sh_m1 t (by omega)]
  rcases there_ (w := 2 ^ t - 1) hk (by omega) h1.1.1 h23 b with ⟨t1, t2⟩ | ⟨t1, t2, j, rfl, hj, hj2⟩
  · rw [t1, t2]; exact ⟨_, _, rfl, rfl, rfl, Hn1⟩
  obtain ⟨B1, b1, b2, b3⟩ := treeY_l1 (M := sI M2 0 5 0) (base := j) ht1 (by omega) (by omega)
  have kB1 : KeepY M2 B1 := (k5 M2).trans ⟨⟨⟨by rw [b2 0 (by decide) (by decide)], by rw [b2 0 (by decide) (by decide)], by rw [b2 0 (by decide) (by decide)], by rw [b2 0 (by decide) (by decide)]⟩, fun c hc => b2 c (by omega) (by omega)⟩, by rw [b2 0 (by decide) (by decide)], b2 4 (by decide) (by decide), by rw [b2 0 (by decide) (by decide)], b2 12 (by decide) (by decide)⟩
  obtain ⟨B2, b4, b5, b6⟩ := noSetsY B1
  have h2t : 2 ≤ 2 ^ t := Nat.le_trans (Nat.le_refl (2 ^ 1)) (Nat.pow_le_pow_right (by decide) ht1)
  obtain ⟨wv, y1, y2⟩ := b3 1 (by omega) (by omega)
  rw [show hg t 1 = t from rfl] at y1 y2
  have htc := (tr1c t (by omega) 1 (by omega) ht1 (by omega) (by omega)).2.2
  rw [show hg t 1 = t from rfl] at htc
  have hTb : ∀ s, Tt j t 1 s → 1 ≤ s ∧ s < 2 ^ zKn z := fun s hs => by
    have := Tt_b t 1 s (Nat.le_refl _) hs t (p2h ht1)
    exact ⟨this.1, Nat.lt_of_lt_of_le this.2 (Nat.pow_le_pow_right (by decide) hj)⟩
  have hpk := p16 hk
  have hwb : ∀ i, i < tc t → wv i < 65536 := fun i hi => by
    have := (hTb (wv i) ((y2 _).mpr ⟨i, hi, rfl⟩)).2
    omega
  obtain ⟨B, b7, b8⟩ := loopGY (fun n v N => f_X11_tree_l6 n v N) (tc t) (by omega) (fun i s => s = wv i) B2 (fun k N hN => by
      show f_X11_tree_l6 (k + 1) (nI (tc t)) N = _
      rw [f_X11_tree_l6, hN 21 (by decide), b5 21 (by decide), y1.1, if_pos (Int32.le_refl _)]) (fun k i N hi hN => by
      refine ⟨_, markG N (wv i), ?_⟩
      show f_X11_tree_l6 (k + 1) (nI i) N = f_X11_tree_l6 k (nI (i + 1)) _
      have e : N.1 20 (256 + i) = nI (wv i) := by rw [hN 20 (by decide), b5 20 (by decide)]; exact y1.2 i hi
      rw [f_X11_tree_l6, hN 21 (by decide), b5 21 (by decide), y1.1, if_neg (ifle_no hi (by omega)), show (256 : Int32) + nI i = nI (256 + i) from nI_add 256 i, if_pos (inB_nI (show 256 + i < 4096 by omega) (by decide)), nI_clamp (show 256 + i < 2 ^ 31 by omega), e, if_pos (inB_nI (hwb i hi) (by decide)), nI_clamp (by have := hwb i hi; omega), nI_1])
  have b7 : f_X11_tree_l6 fuelN 0 B2 = some B := b7
  have kB : KeepY M2 B := (kB1.trans (keepY_14 b5)).trans (keepY_14 b8.1)
  have hGY := gotY b6 (b8.congr (T := Tt j t 1) (fun s => by rw [y2 s]))
  rw [t1, t2, Option.bind_some, if_neg one_ne, Option.bind_some, if_neg one_ne, b1, Option.bind_some, b4, Option.bind_some, b7, Option.bind_some]
  by_cases hfn : zFn z < 24
  · obtain ⟨A0, a1, a2, a3, a4, a5⟩ := begun hI.1.1 h1.1.1
    obtain ⟨A, a6, a7, a8⟩ := treeX (base := j) a2 ht1 (by omega) (by omega)
    have kA : KeepX A0 A := ⟨⟨by rw [a7 0 (by decide) (by decide)], fun c hc => a7 c (by omega) (by omega)⟩, by rw [a7 0 (by decide) (by decide)], a7 6 (by decide) (by decide), by rw [a7 252 (by decide) (by decide)], a7 253 (by decide) (by decide)⟩
    obtain ⟨r, N1, N2, f1, f2, hR⟩ := fin (G := Tt j t 1) (kd := 4) hC hL hS hfn (by omega) (a4.trans kA) (PS.keep2 a2 (a7 255 (by decide) (by decide))) (fun s hs => by
      rw [a8 s, a5 s hs]
      constructor
      · rintro (q | q)
        · cases q
        · exact q
      · intro q; exact Or.inr q) kB hGY hTb ⟨wv 0, (y2 _).mpr ⟨0, tc_pos t ht1, rfl⟩⟩
    rw [room_yes h1.2.1.1 hfn, Option.bind_some, if_neg one_ne, a1, Option.bind_some, a6, Option.bind_some, show (4 : Int32) = nI 4 from rfl, f1, f2]
    exact ⟨_, _, rfl, rfl, rfl, hR⟩
  · have h24 : zFn z = 24 := by have := hI.2.1.1; omega
    obtain ⟨e2, hR⟩ := full H kB (by rw [h2.2.1.1, h24]) 4
    rw [room_no (by rw [h1.2.1.1, h24]), e2]
    exact ⟨_, _, rfl, rfl, rfl, hR⟩
