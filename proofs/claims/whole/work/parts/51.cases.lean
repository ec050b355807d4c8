def St_keeper (Rel : Mem → Mem → Prop) : Prop := ∀ (a1 a2 : Int32) (M1 M2 : Mem), Rel M1 M2 → ∃ (q1 : Int32 × Mem) (q2 : Int32 × Mem), f_X10_keeper a1 a2 M1 = some q1 ∧ f_X11_keeper a1 a2 M2 = some q2 ∧ q1.1 = q2.1 ∧ Rel q1.2 q2.2
def St_tenths (Rel : Mem → Mem → Prop) : Prop := ∀ (a1 a2 : Int32) (M1 M2 : Mem), Rel M1 M2 → ∃ (q1 : Int32 × Mem) (q2 : Int32 × Mem), f_X10_tenths a1 a2 M1 = some q1 ∧ f_X11_tenths a1 a2 M2 = some q2 ∧ q1.1 = q2.1 ∧ Rel q1.2 q2.2
def St_keeperOf (Rel : Mem → Mem → Prop) : Prop := ∀ (a1 a2 : Int32) (M1 M2 : Mem), Rel M1 M2 → ∃ (q1 : Int32) (q2 : Int32 × Mem), f_X10_keeperOf a1 a2 M1 = some q1 ∧ f_X11_keeperOf a1 a2 M2 = some q2 ∧ q1 = q2.1 ∧ Rel M1 q2.2
def St_list (Rel : Mem → Mem → Prop) : Prop := ∀ (a1 : Int32) (M1 M2 : Mem), Rel M1 M2 → ∃ (q1 : Int32 × Mem) (q2 : Int32 × Mem), f_X10_list a1 M1 = some q1 ∧ f_X11_list a1 M2 = some q2 ∧ q1.1 = q2.1 ∧ Rel q1.2 q2.2
def St_told (Rel : Mem → Mem → Prop) : Prop := ∀ (M1 M2 : Mem), Rel M1 M2 → ∃ (q1 : Int32 × Mem) (q2 : Int32 × Mem), f_X10_told M1 = some q1 ∧ f_X11_told M2 = some q2 ∧ q1.1 = q2.1 ∧ Rel q1.2 q2.2
def St_most (Rel : Mem → Mem → Prop) : Prop := ∀ (a1 : Int32) (M1 M2 : Mem), Rel M1 M2 → ∃ (q1 : Int32 × Mem) (q2 : Int32 × Mem), f_X10_most a1 M1 = some q1 ∧ f_X11_most a1 M2 = some q2 ∧ q1.1 = q2.1 ∧ Rel q1.2 q2.2
def St_grid (Rel : Mem → Mem → Prop) : Prop := ∀ (a1 a2 a3 : Int32) (M1 M2 : Mem), Rel M1 M2 → ∃ (q1 : Int32 × Mem) (q2 : Int32 × Mem), f_X10_grid a1 a2 a3 M1 = some q1 ∧ f_X11_grid a1 a2 a3 M2 = some q2 ∧ q1.1 = q2.1 ∧ Rel q1.2 q2.2
def St_wall (Rel : Mem → Mem → Prop) : Prop := ∀ (a1 a2 a3 a4 a5 a6 : Int32) (M1 M2 : Mem), Rel M1 M2 → ∃ (q1 : Int32 × Mem) (q2 : Int32 × Mem), f_X10_wall a1 a2 a3 a4 a5 a6 M1 = some q1 ∧ f_X11_wall a1 a2 a3 a4 a5 a6 M2 = some q2 ∧ q1.1 = q2.1 ∧ Rel q1.2 q2.2
def St_tree (Rel : Mem → Mem → Prop) : Prop := ∀ (a1 a2 : Int32) (M1 M2 : Mem), Rel M1 M2 → ∃ (q1 : Int32 × Mem) (q2 : Int32 × Mem), f_X10_tree a1 a2 M1 = some q1 ∧ f_X11_tree a1 a2 M2 = some q2 ∧ q1.1 = q2.1 ∧ Rel q1.2 q2.2
def St_plane (Rel : Mem → Mem → Prop) : Prop := ∀ (a1 a2 : Int32) (M1 M2 : Mem), Rel M1 M2 → ∃ (q1 : Int32 × Mem) (q2 : Int32 × Mem), f_X10_plane a1 a2 M1 = some q1 ∧ f_X11_plane a1 a2 M2 = some q2 ∧ q1.1 = q2.1 ∧ Rel q1.2 q2.2
def St_join (Rel : Mem → Mem → Prop) : Prop := ∀ (a1 a2 a3 : Int32) (M1 M2 : Mem), Rel M1 M2 → ∃ (q1 : Int32 × Mem) (q2 : Int32 × Mem), f_X10_join a1 a2 a3 M1 = some q1 ∧ f_X11_join a1 a2 a3 M2 = some q2 ∧ q1.1 = q2.1 ∧ Rel q1.2 q2.2
def St_dual (Rel : Mem → Mem → Prop) : Prop := ∀ (a1 : Int32) (M1 M2 : Mem), Rel M1 M2 → ∃ (q1 : Int32 × Mem) (q2 : Int32 × Mem), f_X10_dual a1 M1 = some q1 ∧ f_X11_dual a1 M2 = some q2 ∧ q1.1 = q2.1 ∧ Rel q1.2 q2.2
def St_thin (Rel : Mem → Mem → Prop) : Prop := ∀ (a1 a2 : Int32) (M1 M2 : Mem), Rel M1 M2 → ∃ (q1 : Int32 × Mem) (q2 : Int32 × Mem), f_X10_thin a1 a2 M1 = some q1 ∧ f_X11_thin a1 a2 M2 = some q2 ∧ q1.1 = q2.1 ∧ Rel q1.2 q2.2
def St_both (Rel : Mem → Mem → Prop) : Prop := ∀ (a1 a2 : Int32) (M1 M2 : Mem), Rel M1 M2 → ∃ (q1 : Int32 × Mem) (q2 : Int32 × Mem), f_X10_both a1 a2 M1 = some q1 ∧ f_X11_both a1 a2 M2 = some q2 ∧ q1.1 = q2.1 ∧ Rel q1.2 q2.2
def St_better (Rel : Mem → Mem → Prop) : Prop := ∀ (a1 : Int32) (M1 M2 : Mem), Rel M1 M2 → ∃ (q1 : Int32 × Mem) (q2 : Int32 × Mem), f_X10_better a1 M1 = some q1 ∧ f_X11_better a1 M2 = some q2 ∧ q1.1 = q2.1 ∧ Rel q1.2 q2.2
def St_family (Rel : Mem → Mem → Prop) : Prop := ∀ (a1 a2 : Int32) (M1 M2 : Mem), Rel M1 M2 → ∃ (q1 : Int32) (q2 : Int32 × Mem), f_X10_family a1 a2 M1 = some q1 ∧ f_X11_family a1 a2 M2 = some q2 ∧ q1 = q2.1 ∧ Rel M1 q2.2
def St_quorum (Rel : Mem → Mem → Prop) : Prop := ∀ (a1 a2 : Int32) (M1 M2 : Mem), Rel M1 M2 → ∃ (q1 : Int32) (q2 : Int32 × Mem), f_X10_quorum a1 a2 M1 = some q1 ∧ f_X11_quorum a1 a2 M2 = some q2 ∧ q1 = q2.1 ∧ Rel M1 q2.2
def St_has (Rel : Mem → Mem → Prop) : Prop := ∀ (a1 a2 : Int32) (M1 M2 : Mem), Rel M1 M2 → ∃ (q1 : Int32 × Mem) (q2 : Int32 × Mem), f_X10_has a1 a2 M1 = some q1 ∧ f_X11_has a1 a2 M2 = some q2 ∧ q1.1 = q2.1 ∧ Rel q1.2 q2.2
def St_apart (Rel : Mem → Mem → Prop) : Prop := ∀ (a1 a2 : Int32) (M1 M2 : Mem), Rel M1 M2 → ∃ (q1 : Int32 × Mem) (q2 : Int32 × Mem), f_X10_apart a1 a2 M1 = some q1 ∧ f_X11_apart a1 a2 M2 = some q2 ∧ q1.1 = q2.1 ∧ Rel q1.2 q2.2
def St_hit (Rel : Mem → Mem → Prop) : Prop := ∀ (a1 : Int32) (M1 M2 : Mem), Rel M1 M2 → ∃ (q1 : Int32 × Mem) (q2 : Int32 × Mem), f_X10_hit a1 M1 = some q1 ∧ f_X11_hit a1 M2 = some q2 ∧ q1.1 = q2.1 ∧ Rel q1.2 q2.2
def St_falls (Rel : Mem → Mem → Prop) : Prop := ∀ (a1 : Int32) (M1 M2 : Mem), Rel M1 M2 → ∃ (q1 : Int32 × Mem) (q2 : Int32 × Mem), f_X10_falls a1 M1 = some q1 ∧ f_X11_falls a1 M2 = some q2 ∧ q1.1 = q2.1 ∧ Rel q1.2 q2.2
def St_liars (Rel : Mem → Mem → Prop) : Prop := ∀ (a1 a2 : Int32) (M1 M2 : Mem), (a2 = 0 ∨ a2 = 1) → Rel M1 M2 → ∃ (q1 : Int32 × Mem) (q2 : Int32 × Mem), f_X10_liars a1 a2 M1 = some q1 ∧ f_X11_liars a1 a2 M2 = some q2 ∧ q1.1 = q2.1 ∧ Rel q1.2 q2.2
def St_chance (Rel : Mem → Mem → Prop) : Prop := ∀ (a1 : Int32) (M1 M2 : Mem), Rel M1 M2 → ∃ (q1 : Int64 × Mem) (q2 : Int64 × Mem), f_X10_chance a1 M1 = some q1 ∧ f_X11_chance a1 M2 = some q2 ∧ q1.1 = q2.1 ∧ Rel q1.2 q2.2
def St_even (Rel : Mem → Mem → Prop) : Prop := ∀ (a1 : Int32) (M1 M2 : Mem), Rel M1 M2 → ∃ (q1 : Int32 × Mem) (q2 : Int32 × Mem), f_X10_even a1 M1 = some q1 ∧ f_X11_even a1 M2 = some q2 ∧ q1.1 = q2.1 ∧ Rel q1.2 q2.2
def St_part (Rel : Mem → Mem → Prop) : Prop := ∀ (a1 a2 : Int32) (M1 M2 : Mem), Rel M1 M2 → ∃ (q1 : Int32 × Mem) (q2 : Int32 × Mem), f_X10_part a1 a2 M1 = some q1 ∧ f_X11_part a1 a2 M2 = some q2 ∧ q1.1 = q2.1 ∧ Rel q1.2 q2.2
def St_partOf (Rel : Mem → Mem → Prop) : Prop := ∀ (a1 : Int32) (M1 M2 : Mem), Rel M1 M2 → ∃ (q1 : Int32) (q2 : Int32 × Mem), f_X10_partOf a1 M1 = some q1 ∧ f_X11_partOf a1 M2 = some q2 ∧ q1 = q2.1 ∧ Rel M1 q2.2
def St_load (Rel : Mem → Mem → Prop) : Prop := ∀ (a1 : Int32) (M1 M2 : Mem), Rel M1 M2 → ∃ (q1 : Int32 × Mem) (q2 : Int32 × Mem), f_X10_load a1 M1 = some q1 ∧ f_X11_load a1 M2 = some q2 ∧ q1.1 = q2.1 ∧ Rel q1.2 q2.2
def St_loadOf (Rel : Mem → Mem → Prop) : Prop := ∀ (a1 a2 : Int32) (M1 M2 : Mem), (a2 = 0 ∨ a2 = 1) → Rel M1 M2 → ∃ (q1 : Int32 × Mem) (q2 : Int32 × Mem), f_X10_loadOf a1 a2 M1 = some q1 ∧ f_X11_loadOf a1 a2 M2 = some q2 ∧ q1.1 = q2.1 ∧ Rel q1.2 q2.2
def St_weight (Rel : Mem → Mem → Prop) : Prop := ∀ (a1 a2 : Int32) (M1 M2 : Mem), Rel M1 M2 → ∃ (q1 : Int32 × Mem) (q2 : Int32 × Mem), f_X10_weight a1 a2 M1 = some q1 ∧ f_X11_weight a1 a2 M2 = some q2 ∧ q1.1 = q2.1 ∧ Rel q1.2 q2.2
def St_bound (Rel : Mem → Mem → Prop) : Prop := ∀ (a1 a2 : Int32) (M1 M2 : Mem), (a2 = 0 ∨ a2 = 1) → Rel M1 M2 → ∃ (q1 : Int32 × Mem) (q2 : Int32 × Mem), f_X10_bound a1 a2 M1 = some q1 ∧ f_X11_bound a1 a2 M2 = some q2 ∧ q1.1 = q2.1 ∧ Rel q1.2 q2.2
def St_proved (Rel : Mem → Mem → Prop) : Prop := ∀ (M1 M2 : Mem), Rel M1 M2 → ∃ (q1 : Int32 × Mem) (q2 : Int32 × Mem), f_X10_proved M1 = some q1 ∧ f_X11_proved M2 = some q2 ∧ q1.1 = q2.1 ∧ Rel q1.2 q2.2
def St_witness (Rel : Mem → Mem → Prop) : Prop := ∀ (a1 : Int32) (M1 M2 : Mem), Rel M1 M2 → ∃ (q1 : Int32 × Mem) (q2 : Int32 × Mem), f_X10_witness a1 M1 = some q1 ∧ f_X11_witness a1 M2 = some q2 ∧ q1.1 = q2.1 ∧ Rel q1.2 q2.2
def St_names (Rel : Mem → Mem → Prop) : Prop := ∀ (a1 : Int32) (M1 M2 : Mem), Rel M1 M2 → ∃ (q1 : Int32) (q2 : Int32 × Mem), f_X10_names a1 M1 = some q1 ∧ f_X11_names a1 M2 = some q2 ∧ q1 = q2.1 ∧ Rel M1 q2.2
def St_forge (Rel : Mem → Mem → Prop) : Prop := ∀ (a1 a2 : Int32) (M1 M2 : Mem), Rel M1 M2 → ∃ (q1 : Int32 × Mem) (q2 : Int32 × Mem), f_X10_forge a1 a2 M1 = some q1 ∧ f_X11_forge a1 a2 M2 = some q2 ∧ q1.1 = q2.1 ∧ Rel q1.2 q2.2
def St_judge (Rel : Mem → Mem → Prop) : Prop := ∀ (a1 : Int32) (M1 M2 : Mem), Rel M1 M2 → ∃ (q1 : Int32 × Mem) (q2 : Int32 × Mem), f_X10_judge a1 M1 = some q1 ∧ f_X11_judge a1 M2 = some q2 ∧ q1.1 = q2.1 ∧ Rel q1.2 q2.2
def St_lay (Rel : Mem → Mem → Prop) : Prop := ∀ (a1 a2 a3 : Int32) (M1 M2 : Mem), Rel M1 M2 → ∃ (q1 : Int32 × Mem) (q2 : Int32 × Mem), f_X10_lay a1 a2 a3 M1 = some q1 ∧ f_X11_lay a1 a2 a3 M2 = some q2 ∧ q1.1 = q2.1 ∧ Rel q1.2 q2.2
def St_lies (Rel : Mem → Mem → Prop) : Prop := ∀ (a1 : Int32) (M1 M2 : Mem), Rel M1 M2 → ∃ (q1 : Int32 × Mem) (q2 : Int32 × Mem), f_X10_lies a1 M1 = some q1 ∧ f_X11_lies a1 M2 = some q2 ∧ q1.1 = q2.1 ∧ Rel q1.2 q2.2
def St_taken (Rel : Mem → Mem → Prop) : Prop := ∀ (a1 a2 a3 : Int32) (M1 M2 : Mem), Rel M1 M2 → ∃ (q1 : Int32 × Mem) (q2 : Int32 × Mem), f_X10_taken a1 a2 a3 M1 = some q1 ∧ f_X11_taken a1 a2 a3 M2 = some q2 ∧ q1.1 = q2.1 ∧ Rel q1.2 q2.2
def St_copy (Rel : Mem → Mem → Prop) : Prop := ∀ (a1 a2 a3 a4 a5 : Int32) (M1 M2 : Mem), Rel M1 M2 → ∃ (q1 : Int32 × Mem) (q2 : Int32 × Mem), f_X10_copy a1 a2 a3 a4 a5 M1 = some q1 ∧ f_X11_copy a1 a2 a3 a4 a5 M2 = some q2 ∧ q1.1 = q2.1 ∧ Rel q1.2 q2.2
def St_use (Rel : Mem → Mem → Prop) : Prop := ∀ (a1 : Int32) (M1 M2 : Mem), Rel M1 M2 → ∃ (q1 : Int32 × Mem) (q2 : Int32 × Mem), f_X10_use a1 M1 = some q1 ∧ f_X11_use a1 M2 = some q2 ∧ q1.1 = q2.1 ∧ Rel q1.2 q2.2
def St_undo (Rel : Mem → Mem → Prop) : Prop := ∀ (M1 M2 : Mem), Rel M1 M2 → ∃ (q1 : Int32 × Mem) (q2 : Int32 × Mem), f_X10_undo M1 = some q1 ∧ f_X11_undo M2 = some q2 ∧ q1.1 = q2.1 ∧ Rel q1.2 q2.2
def St_size (Rel : Mem → Mem → Prop) : Prop := ∀ (a1 : Int32) (M1 M2 : Mem), Rel M1 M2 → ∃ (q1 : Int32) (q2 : Int32 × Mem), f_X10_size a1 M1 = some q1 ∧ f_X11_size a1 M2 = some q2 ∧ q1 = q2.1 ∧ Rel M1 q2.2
def St_status (Rel : Mem → Mem → Prop) : Prop := ∀ (M1 M2 : Mem), Rel M1 M2 → ∃ (q1 : Int32) (q2 : Int32 × Mem), f_X10_status M1 = some q1 ∧ f_X11_status M2 = some q2 ∧ q1 = q2.1 ∧ Rel M1 q2.2
def Steps (Rel : Mem → Mem → Prop) : Prop := St_keeper Rel ∧ St_tenths Rel ∧ St_keeperOf Rel ∧ St_list Rel ∧ St_told Rel ∧ St_most Rel ∧ St_grid Rel ∧ St_wall Rel ∧ St_tree Rel ∧ St_plane Rel ∧ St_join Rel ∧ St_dual Rel ∧ St_thin Rel ∧ St_both Rel ∧ St_better Rel ∧ St_family Rel ∧ St_quorum Rel ∧ St_has Rel ∧ St_apart Rel ∧ St_hit Rel ∧ St_falls Rel ∧ St_liars Rel ∧ St_chance Rel ∧ St_even Rel ∧ St_part Rel ∧ St_partOf Rel ∧ St_load Rel ∧ St_loadOf Rel ∧ St_weight Rel ∧ St_bound Rel ∧ St_proved Rel ∧ St_witness Rel ∧ St_names Rel ∧ St_forge Rel ∧ St_judge Rel ∧ St_lay Rel ∧ St_lies Rel ∧ St_taken Rel ∧ St_copy Rel ∧ St_use Rel ∧ St_undo Rel ∧ St_size Rel ∧ St_status Rel
set_option maxRecDepth 100000 in
set_option maxHeartbeats 1000000 in
theorem lc_keeper {Rel : Mem → Mem → Prop} (hs : St_keeper Rel) {q : Lp} {x : Cx} {Q : State → Prop} {M1 M2 : Mem} {b n i : Nat} {xs : Nat → Int32} (g : LG q x b n xs) (hn : n ≤ 3584) (hi : i + 7 ≤ n) (hR : Rel M1 M2) (K : ∀ N1 N2, Rel N1 N2 → LU q x Q N1 N2 1560 [(0, .ref b), (1, .ref ((wX q).2.2.1 0)), (2, .ref ((wY q).2.2.1 0)), (3, .int (nI i))] []) : LU q x Q M1 M2 220 [(0, .ref b), (1, .ref ((wX q).2.2.1 0)), (2, .ref ((wY q).2.2.1 0)), (3, .int (nI i))] [] := by
  obtain ⟨q1, q2, e1, e2, e3, e4⟩ := hs (xs (nI i + 1).toNatClampNeg) (xs (nI i + 2).toNatClampNeg) M1 M2 hR
  refine l_aload_n g 1 dL_law_220 rfl ?_
  refine l_aload_n g 0 dL_law_221 rfl ?_
  refine l_iload_n g 3 dL_law_222 rfl ?_
  refine l_iconst g (v := 1) dL_law_223 rfl ?_
  refine l_iadd g dL_law_224 ?_
  refine l_sld g (sc_in 1 hi (by decide) hn) dL_law_225 ?_
  refine l_aload_n g 0 dL_law_226 rfl ?_
  refine l_iload_n g 3 dL_law_227 rfl ?_
  refine l_iconst g (v := 2) dL_law_228 rfl ?_
  refine l_iadd g dL_law_229 ?_
  refine l_sld g (sc_in 2 hi (by decide) hn) dL_law_230 ?_
  refine l_callX (st := []) (v := .int q1.1) g wv_L_13 [.int (xs (nI i + 1).toNatClampNeg), .int (xs (nI i + 2).toNatClampNeg)] rfl (t_X10_keeper (wX q) x.2.1 e1) (by decide) (by decide) rfl (Nat.le_of_ble_eq_true rfl) rfl dL_law_231 ?_
  refine l_aload_n g 2 dL_law_234 rfl ?_
  refine l_aload_n g 0 dL_law_235 rfl ?_
  refine l_iload_n g 3 dL_law_236 rfl ?_
  refine l_iconst g (v := 1) dL_law_237 rfl ?_
  refine l_iadd g dL_law_238 ?_
  refine l_sld g (sc_in 1 hi (by decide) hn) dL_law_239 ?_
  refine l_aload_n g 0 dL_law_240 rfl ?_
  refine l_iload_n g 3 dL_law_241 rfl ?_
  refine l_iconst g (v := 2) dL_law_242 rfl ?_
  refine l_iadd g dL_law_243 ?_
  refine l_sld g (sc_in 2 hi (by decide) hn) dL_law_244 ?_
  refine l_callY (st := [.int q1.1]) (v := .int q2.1) g wv_L_17 [.int (xs (nI i + 1).toNatClampNeg), .int (xs (nI i + 2).toNatClampNeg)] rfl (t_X11_keeper (wY q) x.2.1 e2) (by decide) (by decide) rfl (Nat.le_of_ble_eq_true rfl) rfl dL_law_245 ?_
  refine l_icmp_eq g 1560 dL_law_248 (by decide) e3 ?_
  exact K _ _ e4
set_option maxRecDepth 100000 in
set_option maxHeartbeats 1000000 in
theorem lc_tenths {Rel : Mem → Mem → Prop} (hs : St_tenths Rel) {q : Lp} {x : Cx} {Q : State → Prop} {M1 M2 : Mem} {b n i : Nat} {xs : Nat → Int32} (g : LG q x b n xs) (hn : n ≤ 3584) (hi : i + 7 ≤ n) (hR : Rel M1 M2) (K : ∀ N1 N2, Rel N1 N2 → LU q x Q N1 N2 1560 [(0, .ref b), (1, .ref ((wX q).2.2.1 0)), (2, .ref ((wY q).2.2.1 0)), (3, .int (nI i))] []) : LU q x Q M1 M2 253 [(0, .ref b), (1, .ref ((wX q).2.2.1 0)), (2, .ref ((wY q).2.2.1 0)), (3, .int (nI i))] [] := by
  obtain ⟨q1, q2, e1, e2, e3, e4⟩ := hs (xs (nI i + 1).toNatClampNeg) (xs (nI i + 2).toNatClampNeg) M1 M2 hR
  refine l_aload_n g 1 dL_law_253 rfl ?_
  refine l_aload_n g 0 dL_law_254 rfl ?_
  refine l_iload_n g 3 dL_law_255 rfl ?_
  refine l_iconst g (v := 1) dL_law_256 rfl ?_
  refine l_iadd g dL_law_257 ?_
  refine l_sld g (sc_in 1 hi (by decide) hn) dL_law_258 ?_
  refine l_aload_n g 0 dL_law_259 rfl ?_
  refine l_iload_n g 3 dL_law_260 rfl ?_
  refine l_iconst g (v := 2) dL_law_261 rfl ?_
  refine l_iadd g dL_law_262 ?_
  refine l_sld g (sc_in 2 hi (by decide) hn) dL_law_263 ?_
  refine l_callX (st := []) (v := .int q1.1) g wv_L_18 [.int (xs (nI i + 1).toNatClampNeg), .int (xs (nI i + 2).toNatClampNeg)] rfl (t_X10_tenths (wX q) x.2.1 e1) (by decide) (by decide) rfl (Nat.le_of_ble_eq_true rfl) rfl dL_law_264 ?_
  refine l_aload_n g 2 dL_law_267 rfl ?_
  refine l_aload_n g 0 dL_law_268 rfl ?_
  refine l_iload_n g 3 dL_law_269 rfl ?_
  refine l_iconst g (v := 1) dL_law_270 rfl ?_
  refine l_iadd g dL_law_271 ?_
  refine l_sld g (sc_in 1 hi (by decide) hn) dL_law_272 ?_
  refine l_aload_n g 0 dL_law_273 rfl ?_
  refine l_iload_n g 3 dL_law_274 rfl ?_
  refine l_iconst g (v := 2) dL_law_275 rfl ?_
  refine l_iadd g dL_law_276 ?_
  refine l_sld g (sc_in 2 hi (by decide) hn) dL_law_277 ?_
  refine l_callY (st := [.int q1.1]) (v := .int q2.1) g wv_L_22 [.int (xs (nI i + 1).toNatClampNeg), .int (xs (nI i + 2).toNatClampNeg)] rfl (t_X11_tenths (wY q) x.2.1 e2) (by decide) (by decide) rfl (Nat.le_of_ble_eq_true rfl) rfl dL_law_278 ?_
  refine l_icmp_eq g 1560 dL_law_281 (by decide) e3 ?_
  exact K _ _ e4
set_option maxRecDepth 100000 in
set_option maxHeartbeats 1000000 in
theorem lc_keeperOf {Rel : Mem → Mem → Prop} (hs : St_keeperOf Rel) {q : Lp} {x : Cx} {Q : State → Prop} {M1 M2 : Mem} {b n i : Nat} {xs : Nat → Int32} (g : LG q x b n xs) (hn : n ≤ 3584) (hi : i + 7 ≤ n) (hR : Rel M1 M2) (K : ∀ N1 N2, Rel N1 N2 → LU q x Q N1 N2 1560 [(0, .ref b), (1, .ref ((wX q).2.2.1 0)), (2, .ref ((wY q).2.2.1 0)), (3, .int (nI i))] []) : LU q x Q M1 M2 286 [(0, .ref b), (1, .ref ((wX q).2.2.1 0)), (2, .ref ((wY q).2.2.1 0)), (3, .int (nI i))] [] := by
  obtain ⟨q1, q2, e1, e2, e3, e4⟩ := hs (xs (nI i + 1).toNatClampNeg) (xs (nI i + 2).toNatClampNeg) M1 M2 hR
  refine l_aload_n g 1 dL_law_286 rfl ?_
  refine l_aload_n g 0 dL_law_287 rfl ?_
  refine l_iload_n g 3 dL_law_288 rfl ?_
  refine l_iconst g (v := 1) dL_law_289 rfl ?_
  refine l_iadd g dL_law_290 ?_
  refine l_sld g (sc_in 1 hi (by decide) hn) dL_law_291 ?_
  refine l_aload_n g 0 dL_law_292 rfl ?_
  refine l_iload_n g 3 dL_law_293 rfl ?_
  refine l_iconst g (v := 2) dL_law_294 rfl ?_
  refine l_iadd g dL_law_295 ?_
  refine l_sld g (sc_in 2 hi (by decide) hn) dL_law_296 ?_
  refine l_callX (st := []) (v := .int q1) g wv_L_23 [.int (xs (nI i + 1).toNatClampNeg), .int (xs (nI i + 2).toNatClampNeg)] rfl (t_X10_keeperOf (wX q) x.2.1 e1) (by decide) (by decide) rfl (Nat.le_of_ble_eq_true rfl) rfl dL_law_297 ?_
  refine l_aload_n g 2 dL_law_300 rfl ?_
  refine l_aload_n g 0 dL_law_301 rfl ?_
  refine l_iload_n g 3 dL_law_302 rfl ?_
  refine l_iconst g (v := 1) dL_law_303 rfl ?_
  refine l_iadd g dL_law_304 ?_
  refine l_sld g (sc_in 1 hi (by decide) hn) dL_law_305 ?_
  refine l_aload_n g 0 dL_law_306 rfl ?_
  refine l_iload_n g 3 dL_law_307 rfl ?_
  refine l_iconst g (v := 2) dL_law_308 rfl ?_
  refine l_iadd g dL_law_309 ?_
  refine l_sld g (sc_in 2 hi (by decide) hn) dL_law_310 ?_
  refine l_callY (st := [.int q1]) (v := .int q2.1) g wv_L_26 [.int (xs (nI i + 1).toNatClampNeg), .int (xs (nI i + 2).toNatClampNeg)] rfl (t_X11_keeperOf (wY q) x.2.1 e2) (by decide) (by decide) rfl (Nat.le_of_ble_eq_true rfl) rfl dL_law_311 ?_
  refine l_icmp_eq g 1560 dL_law_314 (by decide) e3 ?_
  exact K _ _ e4
set_option maxRecDepth 100000 in
set_option maxHeartbeats 1000000 in
theorem lc_list {Rel : Mem → Mem → Prop} (hs : St_list Rel) {q : Lp} {x : Cx} {Q : State → Prop} {M1 M2 : Mem} {b n i : Nat} {xs : Nat → Int32} (g : LG q x b n xs) (hn : n ≤ 3584) (hi : i + 7 ≤ n) (hR : Rel M1 M2) (K : ∀ N1 N2, Rel N1 N2 → LU q x Q N1 N2 1560 [(0, .ref b), (1, .ref ((wX q).2.2.1 0)), (2, .ref ((wY q).2.2.1 0)), (3, .int (nI i))] []) : LU q x Q M1 M2 319 [(0, .ref b), (1, .ref ((wX q).2.2.1 0)), (2, .ref ((wY q).2.2.1 0)), (3, .int (nI i))] [] := by
  obtain ⟨q1, q2, e1, e2, e3, e4⟩ := hs (xs (nI i + 1).toNatClampNeg) M1 M2 hR
  refine l_aload_n g 1 dL_law_319 rfl ?_
  refine l_aload_n g 0 dL_law_320 rfl ?_
  refine l_iload_n g 3 dL_law_321 rfl ?_
  refine l_iconst g (v := 1) dL_law_322 rfl ?_
  refine l_iadd g dL_law_323 ?_
  refine l_sld g (sc_in 1 hi (by decide) hn) dL_law_324 ?_
  refine l_callX (st := []) (v := .int q1.1) g wv_L_27 [.int (xs (nI i + 1).toNatClampNeg)] rfl (t_X10_list (wX q) x.2.1 e1) (by decide) (by decide) rfl (Nat.le_of_ble_eq_true rfl) rfl dL_law_325 ?_
  refine l_aload_n g 2 dL_law_328 rfl ?_
  refine l_aload_n g 0 dL_law_329 rfl ?_
  refine l_iload_n g 3 dL_law_330 rfl ?_
  refine l_iconst g (v := 1) dL_law_331 rfl ?_
  refine l_iadd g dL_law_332 ?_
  refine l_sld g (sc_in 1 hi (by decide) hn) dL_law_333 ?_
  refine l_callY (st := [.int q1.1]) (v := .int q2.1) g wv_L_31 [.int (xs (nI i + 1).toNatClampNeg)] rfl (t_X11_list (wY q) x.2.1 e2) (by decide) (by decide) rfl (Nat.le_of_ble_eq_true rfl) rfl dL_law_334 ?_
  refine l_icmp_eq g 1560 dL_law_337 (by decide) e3 ?_
  exact K _ _ e4
set_option maxRecDepth 100000 in
set_option maxHeartbeats 1000000 in
theorem lc_told {Rel : Mem → Mem → Prop} (hs : St_told Rel) {q : Lp} {x : Cx} {Q : State → Prop} {M1 M2 : Mem} {b n i : Nat} {xs : Nat → Int32} (g : LG q x b n xs) (hn : n ≤ 3584) (hi : i + 7 ≤ n) (hR : Rel M1 M2) (K : ∀ N1 N2, Rel N1 N2 → LU q x Q N1 N2 1560 [(0, .ref b), (1, .ref ((wX q).2.2.1 0)), (2, .ref ((wY q).2.2.1 0)), (3, .int (nI i))] []) : LU q x Q M1 M2 342 [(0, .ref b), (1, .ref ((wX q).2.2.1 0)), (2, .ref ((wY q).2.2.1 0)), (3, .int (nI i))] [] := by
  obtain ⟨q1, q2, e1, e2, e3, e4⟩ := hs  M1 M2 hR
  refine l_aload_n g 1 dL_law_342 rfl ?_
  refine l_callX (st := []) (v := .int q1.1) g wv_L_32 [] rfl (t_X10_told (wX q) x.2.1 e1) (by decide) (by decide) rfl (Nat.le_of_ble_eq_true rfl) rfl dL_law_343 ?_
  refine l_aload_n g 2 dL_law_346 rfl ?_
  refine l_callY (st := [.int q1.1]) (v := .int q2.1) g wv_L_36 [] rfl (t_X11_told (wY q) x.2.1 e2) (by decide) (by decide) rfl (Nat.le_of_ble_eq_true rfl) rfl dL_law_347 ?_
  refine l_icmp_eq g 1560 dL_law_350 (by decide) e3 ?_
  exact K _ _ e4
set_option maxRecDepth 100000 in
set_option maxHeartbeats 1000000 in
theorem lc_most {Rel : Mem → Mem → Prop} (hs : St_most Rel) {q : Lp} {x : Cx} {Q : State → Prop} {M1 M2 : Mem} {b n i : Nat} {xs : Nat → Int32} (g : LG q x b n xs) (hn : n ≤ 3584) (hi : i + 7 ≤ n) (hR : Rel M1 M2) (K : ∀ N1 N2, Rel N1 N2 → LU q x Q N1 N2 1560 [(0, .ref b), (1, .ref ((wX q).2.2.1 0)), (2, .ref ((wY q).2.2.1 0)), (3, .int (nI i))] []) : LU q x Q M1 M2 355 [(0, .ref b), (1, .ref ((wX q).2.2.1 0)), (2, .ref ((wY q).2.2.1 0)), (3, .int (nI i))] [] := by
  obtain ⟨q1, q2, e1, e2, e3, e4⟩ := hs (xs (nI i + 1).toNatClampNeg) M1 M2 hR
  refine l_aload_n g 1 dL_law_355 rfl ?_
  refine l_aload_n g 0 dL_law_356 rfl ?_
  refine l_iload_n g 3 dL_law_357 rfl ?_
  refine l_iconst g (v := 1) dL_law_358 rfl ?_
  refine l_iadd g dL_law_359 ?_
  refine l_sld g (sc_in 1 hi (by decide) hn) dL_law_360 ?_
  refine l_callX (st := []) (v := .int q1.1) g wv_L_37 [.int (xs (nI i + 1).toNatClampNeg)] rfl (t_X10_most (wX q) x.2.1 e1) (by decide) (by decide) rfl (Nat.le_of_ble_eq_true rfl) rfl dL_law_361 ?_
  refine l_aload_n g 2 dL_law_364 rfl ?_
  refine l_aload_n g 0 dL_law_365 rfl ?_
  refine l_iload_n g 3 dL_law_366 rfl ?_
  refine l_iconst g (v := 1) dL_law_367 rfl ?_
  refine l_iadd g dL_law_368 ?_
  refine l_sld g (sc_in 1 hi (by decide) hn) dL_law_369 ?_
  refine l_callY (st := [.int q1.1]) (v := .int q2.1) g wv_L_40 [.int (xs (nI i + 1).toNatClampNeg)] rfl (t_X11_most (wY q) x.2.1 e2) (by decide) (by decide) rfl (Nat.le_of_ble_eq_true rfl) rfl dL_law_370 ?_
  refine l_icmp_eq g 1560 dL_law_373 (by decide) e3 ?_
  exact K _ _ e4
set_option maxRecDepth 100000 in
set_option maxHeartbeats 1000000 in
theorem lc_grid {Rel : Mem → Mem → Prop} (hs : St_grid Rel) {q : Lp} {x : Cx} {Q : State → Prop} {M1 M2 : Mem} {b n i : Nat} {xs : Nat → Int32} (g : LG q x b n xs) (hn : n ≤ 3584) (hi : i + 7 ≤ n) (hR : Rel M1 M2) (K : ∀ N1 N2, Rel N1 N2 → LU q x Q N1 N2 1560 [(0, .ref b), (1, .ref ((wX q).2.2.1 0)), (2, .ref ((wY q).2.2.1 0)), (3, .int (nI i))] []) : LU q x Q M1 M2 378 [(0, .ref b), (1, .ref ((wX q).2.2.1 0)), (2, .ref ((wY q).2.2.1 0)), (3, .int (nI i))] [] := by
  obtain ⟨q1, q2, e1, e2, e3, e4⟩ := hs (xs (nI i + 1).toNatClampNeg) (xs (nI i + 2).toNatClampNeg) (xs (nI i + 3).toNatClampNeg) M1 M2 hR
  refine l_aload_n g 1 dL_law_378 rfl ?_
  refine l_aload_n g 0 dL_law_379 rfl ?_
  refine l_iload_n g 3 dL_law_380 rfl ?_
  refine l_iconst g (v := 1) dL_law_381 rfl ?_
  refine l_iadd g dL_law_382 ?_
  refine l_sld g (sc_in 1 hi (by decide) hn) dL_law_383 ?_
  refine l_aload_n g 0 dL_law_384 rfl ?_
  refine l_iload_n g 3 dL_law_385 rfl ?_
  refine l_iconst g (v := 2) dL_law_386 rfl ?_
  refine l_iadd g dL_law_387 ?_
  refine l_sld g (sc_in 2 hi (by decide) hn) dL_law_388 ?_
  refine l_aload_n g 0 dL_law_389 rfl ?_
  refine l_iload_n g 3 dL_law_390 rfl ?_
  refine l_iconst g (v := 3) dL_law_391 rfl ?_
  refine l_iadd g dL_law_392 ?_
  refine l_sld g (sc_in 3 hi (by decide) hn) dL_law_393 ?_
  refine l_callX (st := []) (v := .int q1.1) g wv_L_41 [.int (xs (nI i + 1).toNatClampNeg), .int (xs (nI i + 2).toNatClampNeg), .int (xs (nI i + 3).toNatClampNeg)] rfl (t_X10_grid (wX q) x.2.1 e1) (by decide) (by decide) rfl (Nat.le_of_ble_eq_true rfl) rfl dL_law_394 ?_
  refine l_aload_n g 2 dL_law_397 rfl ?_
  refine l_aload_n g 0 dL_law_398 rfl ?_
  refine l_iload_n g 3 dL_law_399 rfl ?_
  refine l_iconst g (v := 1) dL_law_400 rfl ?_
  refine l_iadd g dL_law_401 ?_
  refine l_sld g (sc_in 1 hi (by decide) hn) dL_law_402 ?_
  refine l_aload_n g 0 dL_law_403 rfl ?_
  refine l_iload_n g 3 dL_law_404 rfl ?_
  refine l_iconst g (v := 2) dL_law_405 rfl ?_
  refine l_iadd g dL_law_406 ?_
  refine l_sld g (sc_in 2 hi (by decide) hn) dL_law_407 ?_
  refine l_aload_n g 0 dL_law_408 rfl ?_
  refine l_iload_n g 3 dL_law_409 rfl ?_
  refine l_iconst g (v := 3) dL_law_410 rfl ?_
  refine l_iadd g dL_law_411 ?_
  refine l_sld g (sc_in 3 hi (by decide) hn) dL_law_412 ?_
  refine l_callY (st := [.int q1.1]) (v := .int q2.1) g wv_L_45 [.int (xs (nI i + 1).toNatClampNeg), .int (xs (nI i + 2).toNatClampNeg), .int (xs (nI i + 3).toNatClampNeg)] rfl (t_X11_grid (wY q) x.2.1 e2) (by decide) (by decide) rfl (Nat.le_of_ble_eq_true rfl) rfl dL_law_413 ?_
  refine l_icmp_eq g 1560 dL_law_416 (by decide) e3 ?_
  exact K _ _ e4
set_option maxRecDepth 100000 in
set_option maxHeartbeats 1000000 in
theorem lc_wall {Rel : Mem → Mem → Prop} (hs : St_wall Rel) {q : Lp} {x : Cx} {Q : State → Prop} {M1 M2 : Mem} {b n i : Nat} {xs : Nat → Int32} (g : LG q x b n xs) (hn : n ≤ 3584) (hi : i + 7 ≤ n) (hR : Rel M1 M2) (K : ∀ N1 N2, Rel N1 N2 → LU q x Q N1 N2 1560 [(0, .ref b), (1, .ref ((wX q).2.2.1 0)), (2, .ref ((wY q).2.2.1 0)), (3, .int (nI i))] []) : LU q x Q M1 M2 421 [(0, .ref b), (1, .ref ((wX q).2.2.1 0)), (2, .ref ((wY q).2.2.1 0)), (3, .int (nI i))] [] := by
  obtain ⟨q1, q2, e1, e2, e3, e4⟩ := hs (xs (nI i + 1).toNatClampNeg) (xs (nI i + 2).toNatClampNeg) (xs (nI i + 3).toNatClampNeg) (xs (nI i + 4).toNatClampNeg) (xs (nI i + 5).toNatClampNeg) (xs (nI i + 6).toNatClampNeg) M1 M2 hR
  refine l_aload_n g 1 dL_law_421 rfl ?_
  refine l_aload_n g 0 dL_law_422 rfl ?_
  refine l_iload_n g 3 dL_law_423 rfl ?_
  refine l_iconst g (v := 1) dL_law_424 rfl ?_
  refine l_iadd g dL_law_425 ?_
  refine l_sld g (sc_in 1 hi (by decide) hn) dL_law_426 ?_
  refine l_aload_n g 0 dL_law_427 rfl ?_
  refine l_iload_n g 3 dL_law_428 rfl ?_
  refine l_iconst g (v := 2) dL_law_429 rfl ?_
  refine l_iadd g dL_law_430 ?_
  refine l_sld g (sc_in 2 hi (by decide) hn) dL_law_431 ?_
  refine l_aload_n g 0 dL_law_432 rfl ?_
  refine l_iload_n g 3 dL_law_433 rfl ?_
  refine l_iconst g (v := 3) dL_law_434 rfl ?_
  refine l_iadd g dL_law_435 ?_
  refine l_sld g (sc_in 3 hi (by decide) hn) dL_law_436 ?_
  refine l_aload_n g 0 dL_law_437 rfl ?_
  refine l_iload_n g 3 dL_law_438 rfl ?_
  refine l_iconst g (v := 4) dL_law_439 rfl ?_
  refine l_iadd g dL_law_440 ?_
  refine l_sld g (sc_in 4 hi (by decide) hn) dL_law_441 ?_
  refine l_aload_n g 0 dL_law_442 rfl ?_
  refine l_iload_n g 3 dL_law_443 rfl ?_
  refine l_iconst g (v := 5) dL_law_444 rfl ?_
  refine l_iadd g dL_law_445 ?_
  refine l_sld g (sc_in 5 hi (by decide) hn) dL_law_446 ?_
  refine l_aload_n g 0 dL_law_447 rfl ?_
  refine l_iload_n g 3 dL_law_448 rfl ?_
  refine l_bipush g (v := 6) dL_law_449 rfl ?_
  refine l_iadd g dL_law_451 ?_
  refine l_sld g (sc_in 6 hi (by decide) hn) dL_law_452 ?_
  refine l_callX (st := []) (v := .int q1.1) g wv_L_46 [.int (xs (nI i + 1).toNatClampNeg), .int (xs (nI i + 2).toNatClampNeg), .int (xs (nI i + 3).toNatClampNeg), .int (xs (nI i + 4).toNatClampNeg), .int (xs (nI i + 5).toNatClampNeg), .int (xs (nI i + 6).toNatClampNeg)] rfl (t_X10_wall (wX q) x.2.1 e1) (by decide) (by decide) rfl (Nat.le_of_ble_eq_true rfl) rfl dL_law_453 ?_
  refine l_aload_n g 2 dL_law_456 rfl ?_
  refine l_aload_n g 0 dL_law_457 rfl ?_
  refine l_iload_n g 3 dL_law_458 rfl ?_
  refine l_iconst g (v := 1) dL_law_459 rfl ?_
  refine l_iadd g dL_law_460 ?_
  refine l_sld g (sc_in 1 hi (by decide) hn) dL_law_461 ?_
  refine l_aload_n g 0 dL_law_462 rfl ?_
  refine l_iload_n g 3 dL_law_463 rfl ?_
  refine l_iconst g (v := 2) dL_law_464 rfl ?_
  refine l_iadd g dL_law_465 ?_
  refine l_sld g (sc_in 2 hi (by decide) hn) dL_law_466 ?_
  refine l_aload_n g 0 dL_law_467 rfl ?_
  refine l_iload_n g 3 dL_law_468 rfl ?_
  refine l_iconst g (v := 3) dL_law_469 rfl ?_
  refine l_iadd g dL_law_470 ?_
  refine l_sld g (sc_in 3 hi (by decide) hn) dL_law_471 ?_
  refine l_aload_n g 0 dL_law_472 rfl ?_
  refine l_iload_n g 3 dL_law_473 rfl ?_
  refine l_iconst g (v := 4) dL_law_474 rfl ?_
  refine l_iadd g dL_law_475 ?_
  refine l_sld g (sc_in 4 hi (by decide) hn) dL_law_476 ?_
  refine l_aload_n g 0 dL_law_477 rfl ?_
  refine l_iload_n g 3 dL_law_478 rfl ?_
  refine l_iconst g (v := 5) dL_law_479 rfl ?_
  refine l_iadd g dL_law_480 ?_
  refine l_sld g (sc_in 5 hi (by decide) hn) dL_law_481 ?_
  refine l_aload_n g 0 dL_law_482 rfl ?_
  refine l_iload_n g 3 dL_law_483 rfl ?_
  refine l_bipush g (v := 6) dL_law_484 rfl ?_
  refine l_iadd g dL_law_486 ?_
  refine l_sld g (sc_in 6 hi (by decide) hn) dL_law_487 ?_
  refine l_callY (st := [.int q1.1]) (v := .int q2.1) g wv_L_50 [.int (xs (nI i + 1).toNatClampNeg), .int (xs (nI i + 2).toNatClampNeg), .int (xs (nI i + 3).toNatClampNeg), .int (xs (nI i + 4).toNatClampNeg), .int (xs (nI i + 5).toNatClampNeg), .int (xs (nI i + 6).toNatClampNeg)] rfl (t_X11_wall (wY q) x.2.1 e2) (by decide) (by decide) rfl (Nat.le_of_ble_eq_true rfl) rfl dL_law_488 ?_
  refine l_icmp_eq g 1560 dL_law_491 (by decide) e3 ?_
  exact K _ _ e4
set_option maxRecDepth 100000 in
set_option maxHeartbeats 1000000 in
theorem lc_tree {Rel : Mem → Mem → Prop} (hs : St_tree Rel) {q : Lp} {x : Cx} {Q : State → Prop} {M1 M2 : Mem} {b n i : Nat} {xs : Nat → Int32} (g : LG q x b n xs) (hn : n ≤ 3584) (hi : i + 7 ≤ n) (hR : Rel M1 M2) (K : ∀ N1 N2, Rel N1 N2 → LU q x Q N1 N2 1560 [(0, .ref b), (1, .ref ((wX q).2.2.1 0)), (2, .ref ((wY q).2.2.1 0)), (3, .int (nI i))] []) : LU q x Q M1 M2 496 [(0, .ref b), (1, .ref ((wX q).2.2.1 0)), (2, .ref ((wY q).2.2.1 0)), (3, .int (nI i))] [] := by
  obtain ⟨q1, q2, e1, e2, e3, e4⟩ := hs (xs (nI i + 1).toNatClampNeg) (xs (nI i + 2).toNatClampNeg) M1 M2 hR
  refine l_aload_n g 1 dL_law_496 rfl ?_
  refine l_aload_n g 0 dL_law_497 rfl ?_
  refine l_iload_n g 3 dL_law_498 rfl ?_
  refine l_iconst g (v := 1) dL_law_499 rfl ?_
  refine l_iadd g dL_law_500 ?_
  refine l_sld g (sc_in 1 hi (by decide) hn) dL_law_501 ?_
  refine l_aload_n g 0 dL_law_502 rfl ?_
  refine l_iload_n g 3 dL_law_503 rfl ?_
  refine l_iconst g (v := 2) dL_law_504 rfl ?_
  refine l_iadd g dL_law_505 ?_
  refine l_sld g (sc_in 2 hi (by decide) hn) dL_law_506 ?_
  refine l_callX (st := []) (v := .int q1.1) g wv_L_51 [.int (xs (nI i + 1).toNatClampNeg), .int (xs (nI i + 2).toNatClampNeg)] rfl (t_X10_tree (wX q) x.2.1 e1) (by decide) (by decide) rfl (Nat.le_of_ble_eq_true rfl) rfl dL_law_507 ?_
  refine l_aload_n g 2 dL_law_510 rfl ?_
  refine l_aload_n g 0 dL_law_511 rfl ?_
  refine l_iload_n g 3 dL_law_512 rfl ?_
  refine l_iconst g (v := 1) dL_law_513 rfl ?_
  refine l_iadd g dL_law_514 ?_
  refine l_sld g (sc_in 1 hi (by decide) hn) dL_law_515 ?_
  refine l_aload_n g 0 dL_law_516 rfl ?_
  refine l_iload_n g 3 dL_law_517 rfl ?_
  refine l_iconst g (v := 2) dL_law_518 rfl ?_
  refine l_iadd g dL_law_519 ?_
  refine l_sld g (sc_in 2 hi (by decide) hn) dL_law_520 ?_
  refine l_callY (st := [.int q1.1]) (v := .int q2.1) g wv_L_54 [.int (xs (nI i + 1).toNatClampNeg), .int (xs (nI i + 2).toNatClampNeg)] rfl (t_X11_tree (wY q) x.2.1 e2) (by decide) (by decide) rfl (Nat.le_of_ble_eq_true rfl) rfl dL_law_521 ?_
  refine l_icmp_eq g 1560 dL_law_524 (by decide) e3 ?_
  exact K _ _ e4
set_option maxRecDepth 100000 in
set_option maxHeartbeats 1000000 in
theorem lc_plane {Rel : Mem → Mem → Prop} (hs : St_plane Rel) {q : Lp} {x : Cx} {Q : State → Prop} {M1 M2 : Mem} {b n i : Nat} {xs : Nat → Int32} (g : LG q x b n xs) (hn : n ≤ 3584) (hi : i + 7 ≤ n) (hR : Rel M1 M2) (K : ∀ N1 N2, Rel N1 N2 → LU q x Q N1 N2 1560 [(0, .ref b), (1, .ref ((wX q).2.2.1 0)), (2, .ref ((wY q).2.2.1 0)), (3, .int (nI i))] []) : LU q x Q M1 M2 529 [(0, .ref b), (1, .ref ((wX q).2.2.1 0)), (2, .ref ((wY q).2.2.1 0)), (3, .int (nI i))] [] := by
  obtain ⟨q1, q2, e1, e2, e3, e4⟩ := hs (xs (nI i + 1).toNatClampNeg) (xs (nI i + 2).toNatClampNeg) M1 M2 hR
  refine l_aload_n g 1 dL_law_529 rfl ?_
  refine l_aload_n g 0 dL_law_530 rfl ?_
  refine l_iload_n g 3 dL_law_531 rfl ?_
  refine l_iconst g (v := 1) dL_law_532 rfl ?_
  refine l_iadd g dL_law_533 ?_
  refine l_sld g (sc_in 1 hi (by decide) hn) dL_law_534 ?_
  refine l_aload_n g 0 dL_law_535 rfl ?_
  refine l_iload_n g 3 dL_law_536 rfl ?_
  refine l_iconst g (v := 2) dL_law_537 rfl ?_
  refine l_iadd g dL_law_538 ?_
  refine l_sld g (sc_in 2 hi (by decide) hn) dL_law_539 ?_
  refine l_callX (st := []) (v := .int q1.1) g wv_L_55 [.int (xs (nI i + 1).toNatClampNeg), .int (xs (nI i + 2).toNatClampNeg)] rfl (t_X10_plane (wX q) x.2.1 e1) (by decide) (by decide) rfl (Nat.le_of_ble_eq_true rfl) rfl dL_law_540 ?_
  refine l_aload_n g 2 dL_law_543 rfl ?_
  refine l_aload_n g 0 dL_law_544 rfl ?_
  refine l_iload_n g 3 dL_law_545 rfl ?_
  refine l_iconst g (v := 1) dL_law_546 rfl ?_
  refine l_iadd g dL_law_547 ?_
  refine l_sld g (sc_in 1 hi (by decide) hn) dL_law_548 ?_
  refine l_aload_n g 0 dL_law_549 rfl ?_
  refine l_iload_n g 3 dL_law_550 rfl ?_
  refine l_iconst g (v := 2) dL_law_551 rfl ?_
  refine l_iadd g dL_law_552 ?_
  refine l_sld g (sc_in 2 hi (by decide) hn) dL_law_553 ?_
  refine l_callY (st := [.int q1.1]) (v := .int q2.1) g wv_L_58 [.int (xs (nI i + 1).toNatClampNeg), .int (xs (nI i + 2).toNatClampNeg)] rfl (t_X11_plane (wY q) x.2.1 e2) (by decide) (by decide) rfl (Nat.le_of_ble_eq_true rfl) rfl dL_law_554 ?_
  refine l_icmp_eq g 1560 dL_law_557 (by decide) e3 ?_
  exact K _ _ e4
set_option maxRecDepth 100000 in
set_option maxHeartbeats 1000000 in
theorem lc_join {Rel : Mem → Mem → Prop} (hs : St_join Rel) {q : Lp} {x : Cx} {Q : State → Prop} {M1 M2 : Mem} {b n i : Nat} {xs : Nat → Int32} (g : LG q x b n xs) (hn : n ≤ 3584) (hi : i + 7 ≤ n) (hR : Rel M1 M2) (K : ∀ N1 N2, Rel N1 N2 → LU q x Q N1 N2 1560 [(0, .ref b), (1, .ref ((wX q).2.2.1 0)), (2, .ref ((wY q).2.2.1 0)), (3, .int (nI i))] []) : LU q x Q M1 M2 562 [(0, .ref b), (1, .ref ((wX q).2.2.1 0)), (2, .ref ((wY q).2.2.1 0)), (3, .int (nI i))] [] := by
  obtain ⟨q1, q2, e1, e2, e3, e4⟩ := hs (xs (nI i + 1).toNatClampNeg) (xs (nI i + 2).toNatClampNeg) (xs (nI i + 3).toNatClampNeg) M1 M2 hR
  refine l_aload_n g 1 dL_law_562 rfl ?_
  refine l_aload_n g 0 dL_law_563 rfl ?_
  refine l_iload_n g 3 dL_law_564 rfl ?_
  refine l_iconst g (v := 1) dL_law_565 rfl ?_
  refine l_iadd g dL_law_566 ?_
  refine l_sld g (sc_in 1 hi (by decide) hn) dL_law_567 ?_
  refine l_aload_n g 0 dL_law_568 rfl ?_
  refine l_iload_n g 3 dL_law_569 rfl ?_
  refine l_iconst g (v := 2) dL_law_570 rfl ?_
  refine l_iadd g dL_law_571 ?_
  refine l_sld g (sc_in 2 hi (by decide) hn) dL_law_572 ?_
  refine l_aload_n g 0 dL_law_573 rfl ?_
  refine l_iload_n g 3 dL_law_574 rfl ?_
  refine l_iconst g (v := 3) dL_law_575 rfl ?_
  refine l_iadd g dL_law_576 ?_
  refine l_sld g (sc_in 3 hi (by decide) hn) dL_law_577 ?_
  refine l_callX (st := []) (v := .int q1.1) g wv_L_59 [.int (xs (nI i + 1).toNatClampNeg), .int (xs (nI i + 2).toNatClampNeg), .int (xs (nI i + 3).toNatClampNeg)] rfl (t_X10_join (wX q) x.2.1 e1) (by decide) (by decide) rfl (Nat.le_of_ble_eq_true rfl) rfl dL_law_578 ?_
  refine l_aload_n g 2 dL_law_581 rfl ?_
  refine l_aload_n g 0 dL_law_582 rfl ?_
  refine l_iload_n g 3 dL_law_583 rfl ?_
  refine l_iconst g (v := 1) dL_law_584 rfl ?_
  refine l_iadd g dL_law_585 ?_
  refine l_sld g (sc_in 1 hi (by decide) hn) dL_law_586 ?_
  refine l_aload_n g 0 dL_law_587 rfl ?_
  refine l_iload_n g 3 dL_law_588 rfl ?_
  refine l_iconst g (v := 2) dL_law_589 rfl ?_
  refine l_iadd g dL_law_590 ?_
  refine l_sld g (sc_in 2 hi (by decide) hn) dL_law_591 ?_
  refine l_aload_n g 0 dL_law_592 rfl ?_
  refine l_iload_n g 3 dL_law_593 rfl ?_
  refine l_iconst g (v := 3) dL_law_594 rfl ?_
  refine l_iadd g dL_law_595 ?_
  refine l_sld g (sc_in 3 hi (by decide) hn) dL_law_596 ?_
  refine l_callY (st := [.int q1.1]) (v := .int q2.1) g wv_L_62 [.int (xs (nI i + 1).toNatClampNeg), .int (xs (nI i + 2).toNatClampNeg), .int (xs (nI i + 3).toNatClampNeg)] rfl (t_X11_join (wY q) x.2.1 e2) (by decide) (by decide) rfl (Nat.le_of_ble_eq_true rfl) rfl dL_law_597 ?_
  refine l_icmp_eq g 1560 dL_law_600 (by decide) e3 ?_
  exact K _ _ e4
set_option maxRecDepth 100000 in
set_option maxHeartbeats 1000000 in
theorem lc_dual {Rel : Mem → Mem → Prop} (hs : St_dual Rel) {q : Lp} {x : Cx} {Q : State → Prop} {M1 M2 : Mem} {b n i : Nat} {xs : Nat → Int32} (g : LG q x b n xs) (hn : n ≤ 3584) (hi : i + 7 ≤ n) (hR : Rel M1 M2) (K : ∀ N1 N2, Rel N1 N2 → LU q x Q N1 N2 1560 [(0, .ref b), (1, .ref ((wX q).2.2.1 0)), (2, .ref ((wY q).2.2.1 0)), (3, .int (nI i))] []) : LU q x Q M1 M2 605 [(0, .ref b), (1, .ref ((wX q).2.2.1 0)), (2, .ref ((wY q).2.2.1 0)), (3, .int (nI i))] [] := by
  obtain ⟨q1, q2, e1, e2, e3, e4⟩ := hs (xs (nI i + 1).toNatClampNeg) M1 M2 hR
  refine l_aload_n g 1 dL_law_605 rfl ?_
  refine l_aload_n g 0 dL_law_606 rfl ?_
  refine l_iload_n g 3 dL_law_607 rfl ?_
  refine l_iconst g (v := 1) dL_law_608 rfl ?_
  refine l_iadd g dL_law_609 ?_
  refine l_sld g (sc_in 1 hi (by decide) hn) dL_law_610 ?_
  refine l_callX (st := []) (v := .int q1.1) g wv_L_63 [.int (xs (nI i + 1).toNatClampNeg)] rfl (t_X10_dual (wX q) x.2.1 e1) (by decide) (by decide) rfl (Nat.le_of_ble_eq_true rfl) rfl dL_law_611 ?_
  refine l_aload_n g 2 dL_law_614 rfl ?_
  refine l_aload_n g 0 dL_law_615 rfl ?_
  refine l_iload_n g 3 dL_law_616 rfl ?_
  refine l_iconst g (v := 1) dL_law_617 rfl ?_
  refine l_iadd g dL_law_618 ?_
  refine l_sld g (sc_in 1 hi (by decide) hn) dL_law_619 ?_
  refine l_callY (st := [.int q1.1]) (v := .int q2.1) g wv_L_66 [.int (xs (nI i + 1).toNatClampNeg)] rfl (t_X11_dual (wY q) x.2.1 e2) (by decide) (by decide) rfl (Nat.le_of_ble_eq_true rfl) rfl dL_law_620 ?_
  refine l_icmp_eq g 1560 dL_law_623 (by decide) e3 ?_
  exact K _ _ e4
set_option maxRecDepth 100000 in
set_option maxHeartbeats 1000000 in
theorem lc_thin {Rel : Mem → Mem → Prop} (hs : St_thin Rel) {q : Lp} {x : Cx} {Q : State → Prop} {M1 M2 : Mem} {b n i : Nat} {xs : Nat → Int32} (g : LG q x b n xs) (hn : n ≤ 3584) (hi : i + 7 ≤ n) (hR : Rel M1 M2) (K : ∀ N1 N2, Rel N1 N2 → LU q x Q N1 N2 1560 [(0, .ref b), (1, .ref ((wX q).2.2.1 0)), (2, .ref ((wY q).2.2.1 0)), (3, .int (nI i))] []) : LU q x Q M1 M2 628 [(0, .ref b), (1, .ref ((wX q).2.2.1 0)), (2, .ref ((wY q).2.2.1 0)), (3, .int (nI i))] [] := by
  obtain ⟨q1, q2, e1, e2, e3, e4⟩ := hs (xs (nI i + 1).toNatClampNeg) (xs (nI i + 2).toNatClampNeg) M1 M2 hR
  refine l_aload_n g 1 dL_law_628 rfl ?_
  refine l_aload_n g 0 dL_law_629 rfl ?_
  refine l_iload_n g 3 dL_law_630 rfl ?_
  refine l_iconst g (v := 1) dL_law_631 rfl ?_
  refine l_iadd g dL_law_632 ?_
  refine l_sld g (sc_in 1 hi (by decide) hn) dL_law_633 ?_
  refine l_aload_n g 0 dL_law_634 rfl ?_
  refine l_iload_n g 3 dL_law_635 rfl ?_
  refine l_iconst g (v := 2) dL_law_636 rfl ?_
  refine l_iadd g dL_law_637 ?_
  refine l_sld g (sc_in 2 hi (by decide) hn) dL_law_638 ?_
  refine l_callX (st := []) (v := .int q1.1) g wv_L_67 [.int (xs (nI i + 1).toNatClampNeg), .int (xs (nI i + 2).toNatClampNeg)] rfl (t_X10_thin (wX q) x.2.1 e1) (by decide) (by decide) rfl (Nat.le_of_ble_eq_true rfl) rfl dL_law_639 ?_
  refine l_aload_n g 2 dL_law_642 rfl ?_
  refine l_aload_n g 0 dL_law_643 rfl ?_
  refine l_iload_n g 3 dL_law_644 rfl ?_
  refine l_iconst g (v := 1) dL_law_645 rfl ?_
  refine l_iadd g dL_law_646 ?_
  refine l_sld g (sc_in 1 hi (by decide) hn) dL_law_647 ?_
  refine l_aload_n g 0 dL_law_648 rfl ?_
  refine l_iload_n g 3 dL_law_649 rfl ?_
  refine l_iconst g (v := 2) dL_law_650 rfl ?_
  refine l_iadd g dL_law_651 ?_
  refine l_sld g (sc_in 2 hi (by decide) hn) dL_law_652 ?_
  refine l_callY (st := [.int q1.1]) (v := .int q2.1) g wv_L_70 [.int (xs (nI i + 1).toNatClampNeg), .int (xs (nI i + 2).toNatClampNeg)] rfl (t_X11_thin (wY q) x.2.1 e2) (by decide) (by decide) rfl (Nat.le_of_ble_eq_true rfl) rfl dL_law_653 ?_
  refine l_icmp_eq g 1560 dL_law_656 (by decide) e3 ?_
  exact K _ _ e4
set_option maxRecDepth 100000 in
set_option maxHeartbeats 1000000 in
theorem lc_both {Rel : Mem → Mem → Prop} (hs : St_both Rel) {q : Lp} {x : Cx} {Q : State → Prop} {M1 M2 : Mem} {b n i : Nat} {xs : Nat → Int32} (g : LG q x b n xs) (hn : n ≤ 3584) (hi : i + 7 ≤ n) (hR : Rel M1 M2) (K : ∀ N1 N2, Rel N1 N2 → LU q x Q N1 N2 1560 [(0, .ref b), (1, .ref ((wX q).2.2.1 0)), (2, .ref ((wY q).2.2.1 0)), (3, .int (nI i))] []) : LU q x Q M1 M2 661 [(0, .ref b), (1, .ref ((wX q).2.2.1 0)), (2, .ref ((wY q).2.2.1 0)), (3, .int (nI i))] [] := by
  obtain ⟨q1, q2, e1, e2, e3, e4⟩ := hs (xs (nI i + 1).toNatClampNeg) (xs (nI i + 2).toNatClampNeg) M1 M2 hR
  refine l_aload_n g 1 dL_law_661 rfl ?_
  refine l_aload_n g 0 dL_law_662 rfl ?_
  refine l_iload_n g 3 dL_law_663 rfl ?_
  refine l_iconst g (v := 1) dL_law_664 rfl ?_
  refine l_iadd g dL_law_665 ?_
  refine l_sld g (sc_in 1 hi (by decide) hn) dL_law_666 ?_
  refine l_aload_n g 0 dL_law_667 rfl ?_
  refine l_iload_n g 3 dL_law_668 rfl ?_
  refine l_iconst g (v := 2) dL_law_669 rfl ?_
  refine l_iadd g dL_law_670 ?_
  refine l_sld g (sc_in 2 hi (by decide) hn) dL_law_671 ?_
  refine l_callX (st := []) (v := .int q1.1) g wv_L_71 [.int (xs (nI i + 1).toNatClampNeg), .int (xs (nI i + 2).toNatClampNeg)] rfl (t_X10_both (wX q) x.2.1 e1) (by decide) (by decide) rfl (Nat.le_of_ble_eq_true rfl) rfl dL_law_672 ?_
  refine l_aload_n g 2 dL_law_675 rfl ?_
  refine l_aload_n g 0 dL_law_676 rfl ?_
  refine l_iload_n g 3 dL_law_677 rfl ?_
  refine l_iconst g (v := 1) dL_law_678 rfl ?_
  refine l_iadd g dL_law_679 ?_
  refine l_sld g (sc_in 1 hi (by decide) hn) dL_law_680 ?_
  refine l_aload_n g 0 dL_law_681 rfl ?_
  refine l_iload_n g 3 dL_law_682 rfl ?_
  refine l_iconst g (v := 2) dL_law_683 rfl ?_
  refine l_iadd g dL_law_684 ?_
  refine l_sld g (sc_in 2 hi (by decide) hn) dL_law_685 ?_
  refine l_callY (st := [.int q1.1]) (v := .int q2.1) g wv_L_74 [.int (xs (nI i + 1).toNatClampNeg), .int (xs (nI i + 2).toNatClampNeg)] rfl (t_X11_both (wY q) x.2.1 e2) (by decide) (by decide) rfl (Nat.le_of_ble_eq_true rfl) rfl dL_law_686 ?_
  refine l_icmp_eq g 1560 dL_law_689 (by decide) e3 ?_
  exact K _ _ e4
set_option maxRecDepth 100000 in
set_option maxHeartbeats 1000000 in
theorem lc_better {Rel : Mem → Mem → Prop} (hs : St_better Rel) {q : Lp} {x : Cx} {Q : State → Prop} {M1 M2 : Mem} {b n i : Nat} {xs : Nat → Int32} (g : LG q x b n xs) (hn : n ≤ 3584) (hi : i + 7 ≤ n) (hR : Rel M1 M2) (K : ∀ N1 N2, Rel N1 N2 → LU q x Q N1 N2 1560 [(0, .ref b), (1, .ref ((wX q).2.2.1 0)), (2, .ref ((wY q).2.2.1 0)), (3, .int (nI i))] []) : LU q x Q M1 M2 694 [(0, .ref b), (1, .ref ((wX q).2.2.1 0)), (2, .ref ((wY q).2.2.1 0)), (3, .int (nI i))] [] := by
  obtain ⟨q1, q2, e1, e2, e3, e4⟩ := hs (xs (nI i + 1).toNatClampNeg) M1 M2 hR
  refine l_aload_n g 1 dL_law_694 rfl ?_
  refine l_aload_n g 0 dL_law_695 rfl ?_
  refine l_iload_n g 3 dL_law_696 rfl ?_
  refine l_iconst g (v := 1) dL_law_697 rfl ?_
  refine l_iadd g dL_law_698 ?_
  refine l_sld g (sc_in 1 hi (by decide) hn) dL_law_699 ?_
  refine l_callX (st := []) (v := .int q1.1) g wv_L_75 [.int (xs (nI i + 1).toNatClampNeg)] rfl (t_X10_better (wX q) x.2.1 e1) (by decide) (by decide) rfl (Nat.le_of_ble_eq_true rfl) rfl dL_law_700 ?_
  refine l_aload_n g 2 dL_law_703 rfl ?_
  refine l_aload_n g 0 dL_law_704 rfl ?_
  refine l_iload_n g 3 dL_law_705 rfl ?_
  refine l_iconst g (v := 1) dL_law_706 rfl ?_
  refine l_iadd g dL_law_707 ?_
  refine l_sld g (sc_in 1 hi (by decide) hn) dL_law_708 ?_
  refine l_callY (st := [.int q1.1]) (v := .int q2.1) g wv_L_78 [.int (xs (nI i + 1).toNatClampNeg)] rfl (t_X11_better (wY q) x.2.1 e2) (by decide) (by decide) rfl (Nat.le_of_ble_eq_true rfl) rfl dL_law_709 ?_
  refine l_icmp_eq g 1560 dL_law_712 (by decide) e3 ?_
  exact K _ _ e4
set_option maxRecDepth 100000 in
set_option maxHeartbeats 1000000 in
theorem lc_family {Rel : Mem → Mem → Prop} (hs : St_family Rel) {q : Lp} {x : Cx} {Q : State → Prop} {M1 M2 : Mem} {b n i : Nat} {xs : Nat → Int32} (g : LG q x b n xs) (hn : n ≤ 3584) (hi : i + 7 ≤ n) (hR : Rel M1 M2) (K : ∀ N1 N2, Rel N1 N2 → LU q x Q N1 N2 1560 [(0, .ref b), (1, .ref ((wX q).2.2.1 0)), (2, .ref ((wY q).2.2.1 0)), (3, .int (nI i))] []) : LU q x Q M1 M2 717 [(0, .ref b), (1, .ref ((wX q).2.2.1 0)), (2, .ref ((wY q).2.2.1 0)), (3, .int (nI i))] [] := by
  obtain ⟨q1, q2, e1, e2, e3, e4⟩ := hs (xs (nI i + 1).toNatClampNeg) (xs (nI i + 2).toNatClampNeg) M1 M2 hR
  refine l_aload_n g 1 dL_law_717 rfl ?_
  refine l_aload_n g 0 dL_law_718 rfl ?_
  refine l_iload_n g 3 dL_law_719 rfl ?_
  refine l_iconst g (v := 1) dL_law_720 rfl ?_
  refine l_iadd g dL_law_721 ?_
  refine l_sld g (sc_in 1 hi (by decide) hn) dL_law_722 ?_
  refine l_aload_n g 0 dL_law_723 rfl ?_
  refine l_iload_n g 3 dL_law_724 rfl ?_
  refine l_iconst g (v := 2) dL_law_725 rfl ?_
  refine l_iadd g dL_law_726 ?_
  refine l_sld g (sc_in 2 hi (by decide) hn) dL_law_727 ?_
  refine l_callX (st := []) (v := .int q1) g wv_L_79 [.int (xs (nI i + 1).toNatClampNeg), .int (xs (nI i + 2).toNatClampNeg)] rfl (t_X10_family (wX q) x.2.1 e1) (by decide) (by decide) rfl (Nat.le_of_ble_eq_true rfl) rfl dL_law_728 ?_
  refine l_aload_n g 2 dL_law_731 rfl ?_
  refine l_aload_n g 0 dL_law_732 rfl ?_
  refine l_iload_n g 3 dL_law_733 rfl ?_
  refine l_iconst g (v := 1) dL_law_734 rfl ?_
  refine l_iadd g dL_law_735 ?_
  refine l_sld g (sc_in 1 hi (by decide) hn) dL_law_736 ?_
  refine l_aload_n g 0 dL_law_737 rfl ?_
  refine l_iload_n g 3 dL_law_738 rfl ?_
  refine l_iconst g (v := 2) dL_law_739 rfl ?_
  refine l_iadd g dL_law_740 ?_
  refine l_sld g (sc_in 2 hi (by decide) hn) dL_law_741 ?_
  refine l_callY (st := [.int q1]) (v := .int q2.1) g wv_L_82 [.int (xs (nI i + 1).toNatClampNeg), .int (xs (nI i + 2).toNatClampNeg)] rfl (t_X11_family (wY q) x.2.1 e2) (by decide) (by decide) rfl (Nat.le_of_ble_eq_true rfl) rfl dL_law_742 ?_
  refine l_icmp_eq g 1560 dL_law_745 (by decide) e3 ?_
  exact K _ _ e4
set_option maxRecDepth 100000 in
set_option maxHeartbeats 1000000 in
theorem lc_quorum {Rel : Mem → Mem → Prop} (hs : St_quorum Rel) {q : Lp} {x : Cx} {Q : State → Prop} {M1 M2 : Mem} {b n i : Nat} {xs : Nat → Int32} (g : LG q x b n xs) (hn : n ≤ 3584) (hi : i + 7 ≤ n) (hR : Rel M1 M2) (K : ∀ N1 N2, Rel N1 N2 → LU q x Q N1 N2 1560 [(0, .ref b), (1, .ref ((wX q).2.2.1 0)), (2, .ref ((wY q).2.2.1 0)), (3, .int (nI i))] []) : LU q x Q M1 M2 750 [(0, .ref b), (1, .ref ((wX q).2.2.1 0)), (2, .ref ((wY q).2.2.1 0)), (3, .int (nI i))] [] := by
  obtain ⟨q1, q2, e1, e2, e3, e4⟩ := hs (xs (nI i + 1).toNatClampNeg) (xs (nI i + 2).toNatClampNeg) M1 M2 hR
  refine l_aload_n g 1 dL_law_750 rfl ?_
  refine l_aload_n g 0 dL_law_751 rfl ?_
  refine l_iload_n g 3 dL_law_752 rfl ?_
  refine l_iconst g (v := 1) dL_law_753 rfl ?_
  refine l_iadd g dL_law_754 ?_
  refine l_sld g (sc_in 1 hi (by decide) hn) dL_law_755 ?_
  refine l_aload_n g 0 dL_law_756 rfl ?_
  refine l_iload_n g 3 dL_law_757 rfl ?_
  refine l_iconst g (v := 2) dL_law_758 rfl ?_
  refine l_iadd g dL_law_759 ?_
  refine l_sld g (sc_in 2 hi (by decide) hn) dL_law_760 ?_
  refine l_callX (st := []) (v := .int q1) g wv_L_83 [.int (xs (nI i + 1).toNatClampNeg), .int (xs (nI i + 2).toNatClampNeg)] rfl (t_X10_quorum (wX q) x.2.1 e1) (by decide) (by decide) rfl (Nat.le_of_ble_eq_true rfl) rfl dL_law_761 ?_
  refine l_aload_n g 2 dL_law_764 rfl ?_
  refine l_aload_n g 0 dL_law_765 rfl ?_
  refine l_iload_n g 3 dL_law_766 rfl ?_
  refine l_iconst g (v := 1) dL_law_767 rfl ?_
  refine l_iadd g dL_law_768 ?_
  refine l_sld g (sc_in 1 hi (by decide) hn) dL_law_769 ?_
  refine l_aload_n g 0 dL_law_770 rfl ?_
  refine l_iload_n g 3 dL_law_771 rfl ?_
  refine l_iconst g (v := 2) dL_law_772 rfl ?_
  refine l_iadd g dL_law_773 ?_
  refine l_sld g (sc_in 2 hi (by decide) hn) dL_law_774 ?_
  refine l_callY (st := [.int q1]) (v := .int q2.1) g wv_L_86 [.int (xs (nI i + 1).toNatClampNeg), .int (xs (nI i + 2).toNatClampNeg)] rfl (t_X11_quorum (wY q) x.2.1 e2) (by decide) (by decide) rfl (Nat.le_of_ble_eq_true rfl) rfl dL_law_775 ?_
  refine l_icmp_eq g 1560 dL_law_778 (by decide) e3 ?_
  exact K _ _ e4
set_option maxRecDepth 100000 in
set_option maxHeartbeats 1000000 in
theorem lc_has {Rel : Mem → Mem → Prop} (hs : St_has Rel) {q : Lp} {x : Cx} {Q : State → Prop} {M1 M2 : Mem} {b n i : Nat} {xs : Nat → Int32} (g : LG q x b n xs) (hn : n ≤ 3584) (hi : i + 7 ≤ n) (hR : Rel M1 M2) (K : ∀ N1 N2, Rel N1 N2 → LU q x Q N1 N2 1560 [(0, .ref b), (1, .ref ((wX q).2.2.1 0)), (2, .ref ((wY q).2.2.1 0)), (3, .int (nI i))] []) : LU q x Q M1 M2 783 [(0, .ref b), (1, .ref ((wX q).2.2.1 0)), (2, .ref ((wY q).2.2.1 0)), (3, .int (nI i))] [] := by
  obtain ⟨q1, q2, e1, e2, e3, e4⟩ := hs (xs (nI i + 1).toNatClampNeg) (xs (nI i + 2).toNatClampNeg) M1 M2 hR
  refine l_aload_n g 1 dL_law_783 rfl ?_
  refine l_aload_n g 0 dL_law_784 rfl ?_
  refine l_iload_n g 3 dL_law_785 rfl ?_
  refine l_iconst g (v := 1) dL_law_786 rfl ?_
  refine l_iadd g dL_law_787 ?_
  refine l_sld g (sc_in 1 hi (by decide) hn) dL_law_788 ?_
  refine l_aload_n g 0 dL_law_789 rfl ?_
  refine l_iload_n g 3 dL_law_790 rfl ?_
  refine l_iconst g (v := 2) dL_law_791 rfl ?_
  refine l_iadd g dL_law_792 ?_
  refine l_sld g (sc_in 2 hi (by decide) hn) dL_law_793 ?_
  refine l_callX (st := []) (v := .int q1.1) g wv_L_87 [.int (xs (nI i + 1).toNatClampNeg), .int (xs (nI i + 2).toNatClampNeg)] rfl (t_X10_has (wX q) x.2.1 e1) (by decide) (by decide) rfl (Nat.le_of_ble_eq_true rfl) rfl dL_law_794 ?_
  refine l_aload_n g 2 dL_law_797 rfl ?_
  refine l_aload_n g 0 dL_law_798 rfl ?_
  refine l_iload_n g 3 dL_law_799 rfl ?_
  refine l_iconst g (v := 1) dL_law_800 rfl ?_
  refine l_iadd g dL_law_801 ?_
  refine l_sld g (sc_in 1 hi (by decide) hn) dL_law_802 ?_
  refine l_aload_n g 0 dL_law_803 rfl ?_
  refine l_iload_n g 3 dL_law_804 rfl ?_
  refine l_iconst g (v := 2) dL_law_805 rfl ?_
  refine l_iadd g dL_law_806 ?_
  refine l_sld g (sc_in 2 hi (by decide) hn) dL_law_807 ?_
  refine l_callY (st := [.int q1.1]) (v := .int q2.1) g wv_L_90 [.int (xs (nI i + 1).toNatClampNeg), .int (xs (nI i + 2).toNatClampNeg)] rfl (t_X11_has (wY q) x.2.1 e2) (by decide) (by decide) rfl (Nat.le_of_ble_eq_true rfl) rfl dL_law_808 ?_
  refine l_icmp_eq g 1560 dL_law_811 (by decide) e3 ?_
  exact K _ _ e4
set_option maxRecDepth 100000 in
set_option maxHeartbeats 1000000 in
theorem lc_apart {Rel : Mem → Mem → Prop} (hs : St_apart Rel) {q : Lp} {x : Cx} {Q : State → Prop} {M1 M2 : Mem} {b n i : Nat} {xs : Nat → Int32} (g : LG q x b n xs) (hn : n ≤ 3584) (hi : i + 7 ≤ n) (hR : Rel M1 M2) (K : ∀ N1 N2, Rel N1 N2 → LU q x Q N1 N2 1560 [(0, .ref b), (1, .ref ((wX q).2.2.1 0)), (2, .ref ((wY q).2.2.1 0)), (3, .int (nI i))] []) : LU q x Q M1 M2 816 [(0, .ref b), (1, .ref ((wX q).2.2.1 0)), (2, .ref ((wY q).2.2.1 0)), (3, .int (nI i))] [] := by
  obtain ⟨q1, q2, e1, e2, e3, e4⟩ := hs (xs (nI i + 1).toNatClampNeg) (xs (nI i + 2).toNatClampNeg) M1 M2 hR
  refine l_aload_n g 1 dL_law_816 rfl ?_
  refine l_aload_n g 0 dL_law_817 rfl ?_
  refine l_iload_n g 3 dL_law_818 rfl ?_
  refine l_iconst g (v := 1) dL_law_819 rfl ?_
  refine l_iadd g dL_law_820 ?_
  refine l_sld g (sc_in 1 hi (by decide) hn) dL_law_821 ?_
  refine l_aload_n g 0 dL_law_822 rfl ?_
  refine l_iload_n g 3 dL_law_823 rfl ?_
  refine l_iconst g (v := 2) dL_law_824 rfl ?_
  refine l_iadd g dL_law_825 ?_
  refine l_sld g (sc_in 2 hi (by decide) hn) dL_law_826 ?_
  refine l_callX (st := []) (v := .int q1.1) g wv_L_91 [.int (xs (nI i + 1).toNatClampNeg), .int (xs (nI i + 2).toNatClampNeg)] rfl (t_X10_apart (wX q) x.2.1 e1) (by decide) (by decide) rfl (Nat.le_of_ble_eq_true rfl) rfl dL_law_827 ?_
  refine l_aload_n g 2 dL_law_830 rfl ?_
  refine l_aload_n g 0 dL_law_831 rfl ?_
  refine l_iload_n g 3 dL_law_832 rfl ?_
  refine l_iconst g (v := 1) dL_law_833 rfl ?_
  refine l_iadd g dL_law_834 ?_
  refine l_sld g (sc_in 1 hi (by decide) hn) dL_law_835 ?_
  refine l_aload_n g 0 dL_law_836 rfl ?_
  refine l_iload_n g 3 dL_law_837 rfl ?_
  refine l_iconst g (v := 2) dL_law_838 rfl ?_
  refine l_iadd g dL_law_839 ?_
  refine l_sld g (sc_in 2 hi (by decide) hn) dL_law_840 ?_
  refine l_callY (st := [.int q1.1]) (v := .int q2.1) g wv_L_94 [.int (xs (nI i + 1).toNatClampNeg), .int (xs (nI i + 2).toNatClampNeg)] rfl (t_X11_apart (wY q) x.2.1 e2) (by decide) (by decide) rfl (Nat.le_of_ble_eq_true rfl) rfl dL_law_841 ?_
  refine l_icmp_eq g 1560 dL_law_844 (by decide) e3 ?_
  exact K _ _ e4
set_option maxRecDepth 100000 in
set_option maxHeartbeats 1000000 in
theorem lc_hit {Rel : Mem → Mem → Prop} (hs : St_hit Rel) {q : Lp} {x : Cx} {Q : State → Prop} {M1 M2 : Mem} {b n i : Nat} {xs : Nat → Int32} (g : LG q x b n xs) (hn : n ≤ 3584) (hi : i + 7 ≤ n) (hR : Rel M1 M2) (K : ∀ N1 N2, Rel N1 N2 → LU q x Q N1 N2 1560 [(0, .ref b), (1, .ref ((wX q).2.2.1 0)), (2, .ref ((wY q).2.2.1 0)), (3, .int (nI i))] []) : LU q x Q M1 M2 849 [(0, .ref b), (1, .ref ((wX q).2.2.1 0)), (2, .ref ((wY q).2.2.1 0)), (3, .int (nI i))] [] := by
  obtain ⟨q1, q2, e1, e2, e3, e4⟩ := hs (xs (nI i + 1).toNatClampNeg) M1 M2 hR
  refine l_aload_n g 1 dL_law_849 rfl ?_
  refine l_aload_n g 0 dL_law_850 rfl ?_
  refine l_iload_n g 3 dL_law_851 rfl ?_
  refine l_iconst g (v := 1) dL_law_852 rfl ?_
  refine l_iadd g dL_law_853 ?_
  refine l_sld g (sc_in 1 hi (by decide) hn) dL_law_854 ?_
  refine l_callX (st := []) (v := .int q1.1) g wv_L_95 [.int (xs (nI i + 1).toNatClampNeg)] rfl (t_X10_hit (wX q) x.2.1 e1) (by decide) (by decide) rfl (Nat.le_of_ble_eq_true rfl) rfl dL_law_855 ?_
  refine l_aload_n g 2 dL_law_858 rfl ?_
  refine l_aload_n g 0 dL_law_859 rfl ?_
  refine l_iload_n g 3 dL_law_860 rfl ?_
  refine l_iconst g (v := 1) dL_law_861 rfl ?_
  refine l_iadd g dL_law_862 ?_
  refine l_sld g (sc_in 1 hi (by decide) hn) dL_law_863 ?_
  refine l_callY (st := [.int q1.1]) (v := .int q2.1) g wv_L_98 [.int (xs (nI i + 1).toNatClampNeg)] rfl (t_X11_hit (wY q) x.2.1 e2) (by decide) (by decide) rfl (Nat.le_of_ble_eq_true rfl) rfl dL_law_864 ?_
  refine l_icmp_eq g 1560 dL_law_867 (by decide) e3 ?_
  exact K _ _ e4
set_option maxRecDepth 100000 in
set_option maxHeartbeats 1000000 in
theorem lc_falls {Rel : Mem → Mem → Prop} (hs : St_falls Rel) {q : Lp} {x : Cx} {Q : State → Prop} {M1 M2 : Mem} {b n i : Nat} {xs : Nat → Int32} (g : LG q x b n xs) (hn : n ≤ 3584) (hi : i + 7 ≤ n) (hR : Rel M1 M2) (K : ∀ N1 N2, Rel N1 N2 → LU q x Q N1 N2 1560 [(0, .ref b), (1, .ref ((wX q).2.2.1 0)), (2, .ref ((wY q).2.2.1 0)), (3, .int (nI i))] []) : LU q x Q M1 M2 872 [(0, .ref b), (1, .ref ((wX q).2.2.1 0)), (2, .ref ((wY q).2.2.1 0)), (3, .int (nI i))] [] := by
  obtain ⟨q1, q2, e1, e2, e3, e4⟩ := hs (xs (nI i + 1).toNatClampNeg) M1 M2 hR
  refine l_aload_n g 1 dL_law_872 rfl ?_
  refine l_aload_n g 0 dL_law_873 rfl ?_
  refine l_iload_n g 3 dL_law_874 rfl ?_
  refine l_iconst g (v := 1) dL_law_875 rfl ?_
  refine l_iadd g dL_law_876 ?_
  refine l_sld g (sc_in 1 hi (by decide) hn) dL_law_877 ?_
  refine l_callX (st := []) (v := .int q1.1) g wv_L_99 [.int (xs (nI i + 1).toNatClampNeg)] rfl (t_X10_falls (wX q) x.2.1 e1) (by decide) (by decide) rfl (Nat.le_of_ble_eq_true rfl) rfl dL_law_878 ?_
  refine l_aload_n g 2 dL_law_881 rfl ?_
  refine l_aload_n g 0 dL_law_882 rfl ?_
  refine l_iload_n g 3 dL_law_883 rfl ?_
  refine l_iconst g (v := 1) dL_law_884 rfl ?_
  refine l_iadd g dL_law_885 ?_
  refine l_sld g (sc_in 1 hi (by decide) hn) dL_law_886 ?_
  refine l_callY (st := [.int q1.1]) (v := .int q2.1) g wv_L_102 [.int (xs (nI i + 1).toNatClampNeg)] rfl (t_X11_falls (wY q) x.2.1 e2) (by decide) (by decide) rfl (Nat.le_of_ble_eq_true rfl) rfl dL_law_887 ?_
  refine l_icmp_eq g 1560 dL_law_890 (by decide) e3 ?_
  exact K _ _ e4
set_option maxRecDepth 100000 in
set_option maxHeartbeats 1000000 in
theorem lc_liars {Rel : Mem → Mem → Prop} (hs : St_liars Rel) {q : Lp} {x : Cx} {Q : State → Prop} {M1 M2 : Mem} {b n i : Nat} {xs : Nat → Int32} (g : LG q x b n xs) (hn : n ≤ 3584) (hi : i + 7 ≤ n) (hR : Rel M1 M2) (K : ∀ N1 N2, Rel N1 N2 → LU q x Q N1 N2 1560 [(0, .ref b), (1, .ref ((wX q).2.2.1 0)), (2, .ref ((wY q).2.2.1 0)), (3, .int (nI i))] []) : LU q x Q M1 M2 895 [(0, .ref b), (1, .ref ((wX q).2.2.1 0)), (2, .ref ((wY q).2.2.1 0)), (3, .int (nI i))] [] := by
  by_cases hz : (xs (nI i + 2).toNatClampNeg) = 0
  · 
    obtain ⟨q1, q2, e1, e2, e3, e4⟩ := hs (xs (nI i + 1).toNatClampNeg) 0 M1 M2 (Or.inl rfl) hR
    refine l_aload_n g 1 dL_law_895 rfl ?_
    refine l_aload_n g 0 dL_law_896 rfl ?_
    refine l_iload_n g 3 dL_law_897 rfl ?_
    refine l_iconst g (v := 1) dL_law_898 rfl ?_
    refine l_iadd g dL_law_899 ?_
    refine l_sld g (sc_in 1 hi (by decide) hn) dL_law_900 ?_
    refine l_aload_n g 0 dL_law_901 rfl ?_
    refine l_iload_n g 3 dL_law_902 rfl ?_
    refine l_iconst g (v := 2) dL_law_903 rfl ?_
    refine l_iadd g dL_law_904 ?_
    refine l_sld g (sc_in 2 hi (by decide) hn) dL_law_905 ?_
    refine l_if_eq g 913 dL_law_906 (by decide) hz ?_
    refine l_iconst g (v := 0) dL_law_913 rfl ?_
    refine l_callX (st := []) (v := .int q1.1) g wv_L_103 [.int (xs (nI i + 1).toNatClampNeg), .int 0] rfl (t_X10_liars (wX q) x.2.1 e1) (by decide) (by decide) rfl (Nat.le_of_ble_eq_true rfl) rfl dL_law_914 ?_
    refine l_aload_n g 2 dL_law_917 rfl ?_
    refine l_aload_n g 0 dL_law_918 rfl ?_
    refine l_iload_n g 3 dL_law_919 rfl ?_
    refine l_iconst g (v := 1) dL_law_920 rfl ?_
    refine l_iadd g dL_law_921 ?_
    refine l_sld g (sc_in 1 hi (by decide) hn) dL_law_922 ?_
    refine l_aload_n g 0 dL_law_923 rfl ?_
    refine l_iload_n g 3 dL_law_924 rfl ?_
    refine l_iconst g (v := 2) dL_law_925 rfl ?_
    refine l_iadd g dL_law_926 ?_
    refine l_sld g (sc_in 2 hi (by decide) hn) dL_law_927 ?_
    refine l_if_eq g 935 dL_law_928 (by decide) hz ?_
    refine l_iconst g (v := 0) dL_law_935 rfl ?_
    refine l_callY (st := [.int q1.1]) (v := .int q2.1) g wv_L_107 [.int (xs (nI i + 1).toNatClampNeg), .int 0] rfl (t_X11_liars (wY q) x.2.1 e2) (by decide) (by decide) rfl (Nat.le_of_ble_eq_true rfl) rfl dL_law_936 ?_
    refine l_icmp_eq g 1560 dL_law_939 (by decide) e3 ?_
    exact K _ _ e4
  · 
    obtain ⟨q1, q2, e1, e2, e3, e4⟩ := hs (xs (nI i + 1).toNatClampNeg) 1 M1 M2 (Or.inr rfl) hR
    refine l_aload_n g 1 dL_law_895 rfl ?_
    refine l_aload_n g 0 dL_law_896 rfl ?_
    refine l_iload_n g 3 dL_law_897 rfl ?_
    refine l_iconst g (v := 1) dL_law_898 rfl ?_
    refine l_iadd g dL_law_899 ?_
    refine l_sld g (sc_in 1 hi (by decide) hn) dL_law_900 ?_
    refine l_aload_n g 0 dL_law_901 rfl ?_
    refine l_iload_n g 3 dL_law_902 rfl ?_
    refine l_iconst g (v := 2) dL_law_903 rfl ?_
    refine l_iadd g dL_law_904 ?_
    refine l_sld g (sc_in 2 hi (by decide) hn) dL_law_905 ?_
    refine l_if_neq g 913 dL_law_906 (by decide) hz ?_
    refine l_iconst g (v := 1) dL_law_909 rfl ?_
    refine l_goto g 914 dL_law_910 (by decide) ?_
    refine l_callX (st := []) (v := .int q1.1) g wv_L_103 [.int (xs (nI i + 1).toNatClampNeg), .int 1] rfl (t_X10_liars (wX q) x.2.1 e1) (by decide) (by decide) rfl (Nat.le_of_ble_eq_true rfl) rfl dL_law_914 ?_
    refine l_aload_n g 2 dL_law_917 rfl ?_
    refine l_aload_n g 0 dL_law_918 rfl ?_
    refine l_iload_n g 3 dL_law_919 rfl ?_
    refine l_iconst g (v := 1) dL_law_920 rfl ?_
    refine l_iadd g dL_law_921 ?_
    refine l_sld g (sc_in 1 hi (by decide) hn) dL_law_922 ?_
    refine l_aload_n g 0 dL_law_923 rfl ?_
    refine l_iload_n g 3 dL_law_924 rfl ?_
    refine l_iconst g (v := 2) dL_law_925 rfl ?_
    refine l_iadd g dL_law_926 ?_
    refine l_sld g (sc_in 2 hi (by decide) hn) dL_law_927 ?_
    refine l_if_neq g 935 dL_law_928 (by decide) hz ?_
    refine l_iconst g (v := 1) dL_law_931 rfl ?_
    refine l_goto g 936 dL_law_932 (by decide) ?_
    refine l_callY (st := [.int q1.1]) (v := .int q2.1) g wv_L_107 [.int (xs (nI i + 1).toNatClampNeg), .int 1] rfl (t_X11_liars (wY q) x.2.1 e2) (by decide) (by decide) rfl (Nat.le_of_ble_eq_true rfl) rfl dL_law_936 ?_
    refine l_icmp_eq g 1560 dL_law_939 (by decide) e3 ?_
    exact K _ _ e4
set_option maxRecDepth 100000 in
set_option maxHeartbeats 1000000 in
theorem lc_chance {Rel : Mem → Mem → Prop} (hs : St_chance Rel) {q : Lp} {x : Cx} {Q : State → Prop} {M1 M2 : Mem} {b n i : Nat} {xs : Nat → Int32} (g : LG q x b n xs) (hn : n ≤ 3584) (hi : i + 7 ≤ n) (hR : Rel M1 M2) (K : ∀ N1 N2, Rel N1 N2 → LU q x Q N1 N2 1560 [(0, .ref b), (1, .ref ((wX q).2.2.1 0)), (2, .ref ((wY q).2.2.1 0)), (3, .int (nI i))] []) : LU q x Q M1 M2 944 [(0, .ref b), (1, .ref ((wX q).2.2.1 0)), (2, .ref ((wY q).2.2.1 0)), (3, .int (nI i))] [] := by
  obtain ⟨q1, q2, e1, e2, e3, e4⟩ := hs (xs (nI i + 1).toNatClampNeg) M1 M2 hR
  refine l_aload_n g 1 dL_law_944 rfl ?_
  refine l_aload_n g 0 dL_law_945 rfl ?_
  refine l_iload_n g 3 dL_law_946 rfl ?_
  refine l_iconst g (v := 1) dL_law_947 rfl ?_
  refine l_iadd g dL_law_948 ?_
  refine l_sld g (sc_in 1 hi (by decide) hn) dL_law_949 ?_
  refine l_callX (st := []) (v := .long q1.1) g wv_L_108 [.int (xs (nI i + 1).toNatClampNeg)] rfl (t_X10_chance (wX q) x.2.1 e1) (by decide) (by decide) rfl (Nat.le_of_ble_eq_true rfl) rfl dL_law_950 ?_
  refine l_aload_n g 2 dL_law_953 rfl ?_
  refine l_aload_n g 0 dL_law_954 rfl ?_
  refine l_iload_n g 3 dL_law_955 rfl ?_
  refine l_iconst g (v := 1) dL_law_956 rfl ?_
  refine l_iadd g dL_law_957 ?_
  refine l_sld g (sc_in 1 hi (by decide) hn) dL_law_958 ?_
  refine l_callY (st := [.long q1.1]) (v := .long q2.1) g wv_L_112 [.int (xs (nI i + 1).toNatClampNeg)] rfl (t_X11_chance (wY q) x.2.1 e2) (by decide) (by decide) rfl (Nat.le_of_ble_eq_true rfl) rfl dL_law_959 ?_
  refine l_lcmp g dL_law_962 ?_
  refine l_if_eq g 1560 dL_law_963 (by decide) (by rw [e3]; exact lg_cmp_self _) ?_
  exact K _ _ e4
set_option maxRecDepth 100000 in
set_option maxHeartbeats 1000000 in
theorem lc_even {Rel : Mem → Mem → Prop} (hs : St_even Rel) {q : Lp} {x : Cx} {Q : State → Prop} {M1 M2 : Mem} {b n i : Nat} {xs : Nat → Int32} (g : LG q x b n xs) (hn : n ≤ 3584) (hi : i + 7 ≤ n) (hR : Rel M1 M2) (K : ∀ N1 N2, Rel N1 N2 → LU q x Q N1 N2 1560 [(0, .ref b), (1, .ref ((wX q).2.2.1 0)), (2, .ref ((wY q).2.2.1 0)), (3, .int (nI i))] []) : LU q x Q M1 M2 968 [(0, .ref b), (1, .ref ((wX q).2.2.1 0)), (2, .ref ((wY q).2.2.1 0)), (3, .int (nI i))] [] := by
  obtain ⟨q1, q2, e1, e2, e3, e4⟩ := hs (xs (nI i + 1).toNatClampNeg) M1 M2 hR
  refine l_aload_n g 1 dL_law_968 rfl ?_
  refine l_aload_n g 0 dL_law_969 rfl ?_
  refine l_iload_n g 3 dL_law_970 rfl ?_
  refine l_iconst g (v := 1) dL_law_971 rfl ?_
  refine l_iadd g dL_law_972 ?_
  refine l_sld g (sc_in 1 hi (by decide) hn) dL_law_973 ?_
  refine l_callX (st := []) (v := .int q1.1) g wv_L_113 [.int (xs (nI i + 1).toNatClampNeg)] rfl (t_X10_even (wX q) x.2.1 e1) (by decide) (by decide) rfl (Nat.le_of_ble_eq_true rfl) rfl dL_law_974 ?_
  refine l_aload_n g 2 dL_law_977 rfl ?_
  refine l_aload_n g 0 dL_law_978 rfl ?_
  refine l_iload_n g 3 dL_law_979 rfl ?_
  refine l_iconst g (v := 1) dL_law_980 rfl ?_
  refine l_iadd g dL_law_981 ?_
  refine l_sld g (sc_in 1 hi (by decide) hn) dL_law_982 ?_
  refine l_callY (st := [.int q1.1]) (v := .int q2.1) g wv_L_117 [.int (xs (nI i + 1).toNatClampNeg)] rfl (t_X11_even (wY q) x.2.1 e2) (by decide) (by decide) rfl (Nat.le_of_ble_eq_true rfl) rfl dL_law_983 ?_
  refine l_icmp_eq g 1560 dL_law_986 (by decide) e3 ?_
  exact K _ _ e4
set_option maxRecDepth 100000 in
set_option maxHeartbeats 1000000 in
theorem lc_part {Rel : Mem → Mem → Prop} (hs : St_part Rel) {q : Lp} {x : Cx} {Q : State → Prop} {M1 M2 : Mem} {b n i : Nat} {xs : Nat → Int32} (g : LG q x b n xs) (hn : n ≤ 3584) (hi : i + 7 ≤ n) (hR : Rel M1 M2) (K : ∀ N1 N2, Rel N1 N2 → LU q x Q N1 N2 1560 [(0, .ref b), (1, .ref ((wX q).2.2.1 0)), (2, .ref ((wY q).2.2.1 0)), (3, .int (nI i))] []) : LU q x Q M1 M2 991 [(0, .ref b), (1, .ref ((wX q).2.2.1 0)), (2, .ref ((wY q).2.2.1 0)), (3, .int (nI i))] [] := by
  obtain ⟨q1, q2, e1, e2, e3, e4⟩ := hs (xs (nI i + 1).toNatClampNeg) (xs (nI i + 2).toNatClampNeg) M1 M2 hR
  refine l_aload_n g 1 dL_law_991 rfl ?_
  refine l_aload_n g 0 dL_law_992 rfl ?_
  refine l_iload_n g 3 dL_law_993 rfl ?_
  refine l_iconst g (v := 1) dL_law_994 rfl ?_
  refine l_iadd g dL_law_995 ?_
  refine l_sld g (sc_in 1 hi (by decide) hn) dL_law_996 ?_
  refine l_aload_n g 0 dL_law_997 rfl ?_
  refine l_iload_n g 3 dL_law_998 rfl ?_
  refine l_iconst g (v := 2) dL_law_999 rfl ?_
  refine l_iadd g dL_law_1000 ?_
  refine l_sld g (sc_in 2 hi (by decide) hn) dL_law_1001 ?_
  refine l_callX (st := []) (v := .int q1.1) g wv_L_118 [.int (xs (nI i + 1).toNatClampNeg), .int (xs (nI i + 2).toNatClampNeg)] rfl (t_X10_part (wX q) x.2.1 e1) (by decide) (by decide) rfl (Nat.le_of_ble_eq_true rfl) rfl dL_law_1002 ?_
  refine l_aload_n g 2 dL_law_1005 rfl ?_
  refine l_aload_n g 0 dL_law_1006 rfl ?_
  refine l_iload_n g 3 dL_law_1007 rfl ?_
  refine l_iconst g (v := 1) dL_law_1008 rfl ?_
  refine l_iadd g dL_law_1009 ?_
  refine l_sld g (sc_in 1 hi (by decide) hn) dL_law_1010 ?_
  refine l_aload_n g 0 dL_law_1011 rfl ?_
  refine l_iload_n g 3 dL_law_1012 rfl ?_
  refine l_iconst g (v := 2) dL_law_1013 rfl ?_
  refine l_iadd g dL_law_1014 ?_
  refine l_sld g (sc_in 2 hi (by decide) hn) dL_law_1015 ?_
  refine l_callY (st := [.int q1.1]) (v := .int q2.1) g wv_L_121 [.int (xs (nI i + 1).toNatClampNeg), .int (xs (nI i + 2).toNatClampNeg)] rfl (t_X11_part (wY q) x.2.1 e2) (by decide) (by decide) rfl (Nat.le_of_ble_eq_true rfl) rfl dL_law_1016 ?_
  refine l_icmp_eq g 1560 dL_law_1019 (by decide) e3 ?_
  exact K _ _ e4
set_option maxRecDepth 100000 in
set_option maxHeartbeats 1000000 in
theorem lc_partOf {Rel : Mem → Mem → Prop} (hs : St_partOf Rel) {q : Lp} {x : Cx} {Q : State → Prop} {M1 M2 : Mem} {b n i : Nat} {xs : Nat → Int32} (g : LG q x b n xs) (hn : n ≤ 3584) (hi : i + 7 ≤ n) (hR : Rel M1 M2) (K : ∀ N1 N2, Rel N1 N2 → LU q x Q N1 N2 1560 [(0, .ref b), (1, .ref ((wX q).2.2.1 0)), (2, .ref ((wY q).2.2.1 0)), (3, .int (nI i))] []) : LU q x Q M1 M2 1024 [(0, .ref b), (1, .ref ((wX q).2.2.1 0)), (2, .ref ((wY q).2.2.1 0)), (3, .int (nI i))] [] := by
  obtain ⟨q1, q2, e1, e2, e3, e4⟩ := hs (xs (nI i + 1).toNatClampNeg) M1 M2 hR
  refine l_aload_n g 1 dL_law_1024 rfl ?_
  refine l_aload_n g 0 dL_law_1025 rfl ?_
  refine l_iload_n g 3 dL_law_1026 rfl ?_
  refine l_iconst g (v := 1) dL_law_1027 rfl ?_
  refine l_iadd g dL_law_1028 ?_
  refine l_sld g (sc_in 1 hi (by decide) hn) dL_law_1029 ?_
  refine l_callX (st := []) (v := .int q1) g wv_L_122 [.int (xs (nI i + 1).toNatClampNeg)] rfl (t_X10_partOf (wX q) x.2.1 e1) (by decide) (by decide) rfl (Nat.le_of_ble_eq_true rfl) rfl dL_law_1030 ?_
  refine l_aload_n g 2 dL_law_1033 rfl ?_
  refine l_aload_n g 0 dL_law_1034 rfl ?_
  refine l_iload_n g 3 dL_law_1035 rfl ?_
  refine l_iconst g (v := 1) dL_law_1036 rfl ?_
  refine l_iadd g dL_law_1037 ?_
  refine l_sld g (sc_in 1 hi (by decide) hn) dL_law_1038 ?_
  refine l_callY (st := [.int q1]) (v := .int q2.1) g wv_L_125 [.int (xs (nI i + 1).toNatClampNeg)] rfl (t_X11_partOf (wY q) x.2.1 e2) (by decide) (by decide) rfl (Nat.le_of_ble_eq_true rfl) rfl dL_law_1039 ?_
  refine l_icmp_eq g 1560 dL_law_1042 (by decide) e3 ?_
  exact K _ _ e4
set_option maxRecDepth 100000 in
set_option maxHeartbeats 1000000 in
theorem lc_load {Rel : Mem → Mem → Prop} (hs : St_load Rel) {q : Lp} {x : Cx} {Q : State → Prop} {M1 M2 : Mem} {b n i : Nat} {xs : Nat → Int32} (g : LG q x b n xs) (hn : n ≤ 3584) (hi : i + 7 ≤ n) (hR : Rel M1 M2) (K : ∀ N1 N2, Rel N1 N2 → LU q x Q N1 N2 1560 [(0, .ref b), (1, .ref ((wX q).2.2.1 0)), (2, .ref ((wY q).2.2.1 0)), (3, .int (nI i))] []) : LU q x Q M1 M2 1047 [(0, .ref b), (1, .ref ((wX q).2.2.1 0)), (2, .ref ((wY q).2.2.1 0)), (3, .int (nI i))] [] := by
  obtain ⟨q1, q2, e1, e2, e3, e4⟩ := hs (xs (nI i + 1).toNatClampNeg) M1 M2 hR
  refine l_aload_n g 1 dL_law_1047 rfl ?_
  refine l_aload_n g 0 dL_law_1048 rfl ?_
  refine l_iload_n g 3 dL_law_1049 rfl ?_
  refine l_iconst g (v := 1) dL_law_1050 rfl ?_
  refine l_iadd g dL_law_1051 ?_
  refine l_sld g (sc_in 1 hi (by decide) hn) dL_law_1052 ?_
  refine l_callX (st := []) (v := .int q1.1) g wv_L_126 [.int (xs (nI i + 1).toNatClampNeg)] rfl (t_X10_load (wX q) x.2.1 e1) (by decide) (by decide) rfl (Nat.le_of_ble_eq_true rfl) rfl dL_law_1053 ?_
  refine l_aload_n g 2 dL_law_1056 rfl ?_
  refine l_aload_n g 0 dL_law_1057 rfl ?_
  refine l_iload_n g 3 dL_law_1058 rfl ?_
  refine l_iconst g (v := 1) dL_law_1059 rfl ?_
  refine l_iadd g dL_law_1060 ?_
  refine l_sld g (sc_in 1 hi (by decide) hn) dL_law_1061 ?_
  refine l_callY (st := [.int q1.1]) (v := .int q2.1) g wv_L_129 [.int (xs (nI i + 1).toNatClampNeg)] rfl (t_X11_load (wY q) x.2.1 e2) (by decide) (by decide) rfl (Nat.le_of_ble_eq_true rfl) rfl dL_law_1062 ?_
  refine l_icmp_eq g 1560 dL_law_1065 (by decide) e3 ?_
  exact K _ _ e4
set_option maxRecDepth 100000 in
set_option maxHeartbeats 1000000 in
theorem lc_loadOf {Rel : Mem → Mem → Prop} (hs : St_loadOf Rel) {q : Lp} {x : Cx} {Q : State → Prop} {M1 M2 : Mem} {b n i : Nat} {xs : Nat → Int32} (g : LG q x b n xs) (hn : n ≤ 3584) (hi : i + 7 ≤ n) (hR : Rel M1 M2) (K : ∀ N1 N2, Rel N1 N2 → LU q x Q N1 N2 1560 [(0, .ref b), (1, .ref ((wX q).2.2.1 0)), (2, .ref ((wY q).2.2.1 0)), (3, .int (nI i))] []) : LU q x Q M1 M2 1070 [(0, .ref b), (1, .ref ((wX q).2.2.1 0)), (2, .ref ((wY q).2.2.1 0)), (3, .int (nI i))] [] := by
  by_cases hz : (xs (nI i + 2).toNatClampNeg) = 0
  · 
    obtain ⟨q1, q2, e1, e2, e3, e4⟩ := hs (xs (nI i + 1).toNatClampNeg) 0 M1 M2 (Or.inl rfl) hR
    refine l_aload_n g 1 dL_law_1070 rfl ?_
    refine l_aload_n g 0 dL_law_1071 rfl ?_
    refine l_iload_n g 3 dL_law_1072 rfl ?_
    refine l_iconst g (v := 1) dL_law_1073 rfl ?_
    refine l_iadd g dL_law_1074 ?_
    refine l_sld g (sc_in 1 hi (by decide) hn) dL_law_1075 ?_
    refine l_aload_n g 0 dL_law_1076 rfl ?_
    refine l_iload_n g 3 dL_law_1077 rfl ?_
    refine l_iconst g (v := 2) dL_law_1078 rfl ?_
    refine l_iadd g dL_law_1079 ?_
    refine l_sld g (sc_in 2 hi (by decide) hn) dL_law_1080 ?_
    refine l_if_eq g 1088 dL_law_1081 (by decide) hz ?_
    refine l_iconst g (v := 0) dL_law_1088 rfl ?_
    refine l_callX (st := []) (v := .int q1.1) g wv_L_130 [.int (xs (nI i + 1).toNatClampNeg), .int 0] rfl (t_X10_loadOf (wX q) x.2.1 e1) (by decide) (by decide) rfl (Nat.le_of_ble_eq_true rfl) rfl dL_law_1089 ?_
    refine l_aload_n g 2 dL_law_1092 rfl ?_
    refine l_aload_n g 0 dL_law_1093 rfl ?_
    refine l_iload_n g 3 dL_law_1094 rfl ?_
    refine l_iconst g (v := 1) dL_law_1095 rfl ?_
    refine l_iadd g dL_law_1096 ?_
    refine l_sld g (sc_in 1 hi (by decide) hn) dL_law_1097 ?_
    refine l_aload_n g 0 dL_law_1098 rfl ?_
    refine l_iload_n g 3 dL_law_1099 rfl ?_
    refine l_iconst g (v := 2) dL_law_1100 rfl ?_
    refine l_iadd g dL_law_1101 ?_
    refine l_sld g (sc_in 2 hi (by decide) hn) dL_law_1102 ?_
    refine l_if_eq g 1110 dL_law_1103 (by decide) hz ?_
    refine l_iconst g (v := 0) dL_law_1110 rfl ?_
    refine l_callY (st := [.int q1.1]) (v := .int q2.1) g wv_L_133 [.int (xs (nI i + 1).toNatClampNeg), .int 0] rfl (t_X11_loadOf (wY q) x.2.1 e2) (by decide) (by decide) rfl (Nat.le_of_ble_eq_true rfl) rfl dL_law_1111 ?_
    refine l_icmp_eq g 1560 dL_law_1114 (by decide) e3 ?_
    exact K _ _ e4
  · 
    obtain ⟨q1, q2, e1, e2, e3, e4⟩ := hs (xs (nI i + 1).toNatClampNeg) 1 M1 M2 (Or.inr rfl) hR
    refine l_aload_n g 1 dL_law_1070 rfl ?_
    refine l_aload_n g 0 dL_law_1071 rfl ?_
    refine l_iload_n g 3 dL_law_1072 rfl ?_
    refine l_iconst g (v := 1) dL_law_1073 rfl ?_
    refine l_iadd g dL_law_1074 ?_
    refine l_sld g (sc_in 1 hi (by decide) hn) dL_law_1075 ?_
    refine l_aload_n g 0 dL_law_1076 rfl ?_
    refine l_iload_n g 3 dL_law_1077 rfl ?_
    refine l_iconst g (v := 2) dL_law_1078 rfl ?_
    refine l_iadd g dL_law_1079 ?_
    refine l_sld g (sc_in 2 hi (by decide) hn) dL_law_1080 ?_
    refine l_if_neq g 1088 dL_law_1081 (by decide) hz ?_
    refine l_iconst g (v := 1) dL_law_1084 rfl ?_
    refine l_goto g 1089 dL_law_1085 (by decide) ?_
    refine l_callX (st := []) (v := .int q1.1) g wv_L_130 [.int (xs (nI i + 1).toNatClampNeg), .int 1] rfl (t_X10_loadOf (wX q) x.2.1 e1) (by decide) (by decide) rfl (Nat.le_of_ble_eq_true rfl) rfl dL_law_1089 ?_
    refine l_aload_n g 2 dL_law_1092 rfl ?_
    refine l_aload_n g 0 dL_law_1093 rfl ?_
    refine l_iload_n g 3 dL_law_1094 rfl ?_
    refine l_iconst g (v := 1) dL_law_1095 rfl ?_
    refine l_iadd g dL_law_1096 ?_
    refine l_sld g (sc_in 1 hi (by decide) hn) dL_law_1097 ?_
    refine l_aload_n g 0 dL_law_1098 rfl ?_
    refine l_iload_n g 3 dL_law_1099 rfl ?_
    refine l_iconst g (v := 2) dL_law_1100 rfl ?_
    refine l_iadd g dL_law_1101 ?_
    refine l_sld g (sc_in 2 hi (by decide) hn) dL_law_1102 ?_
    refine l_if_neq g 1110 dL_law_1103 (by decide) hz ?_
    refine l_iconst g (v := 1) dL_law_1106 rfl ?_
    refine l_goto g 1111 dL_law_1107 (by decide) ?_
    refine l_callY (st := [.int q1.1]) (v := .int q2.1) g wv_L_133 [.int (xs (nI i + 1).toNatClampNeg), .int 1] rfl (t_X11_loadOf (wY q) x.2.1 e2) (by decide) (by decide) rfl (Nat.le_of_ble_eq_true rfl) rfl dL_law_1111 ?_
    refine l_icmp_eq g 1560 dL_law_1114 (by decide) e3 ?_
    exact K _ _ e4
set_option maxRecDepth 100000 in
set_option maxHeartbeats 1000000 in
theorem lc_weight {Rel : Mem → Mem → Prop} (hs : St_weight Rel) {q : Lp} {x : Cx} {Q : State → Prop} {M1 M2 : Mem} {b n i : Nat} {xs : Nat → Int32} (g : LG q x b n xs) (hn : n ≤ 3584) (hi : i + 7 ≤ n) (hR : Rel M1 M2) (K : ∀ N1 N2, Rel N1 N2 → LU q x Q N1 N2 1560 [(0, .ref b), (1, .ref ((wX q).2.2.1 0)), (2, .ref ((wY q).2.2.1 0)), (3, .int (nI i))] []) : LU q x Q M1 M2 1119 [(0, .ref b), (1, .ref ((wX q).2.2.1 0)), (2, .ref ((wY q).2.2.1 0)), (3, .int (nI i))] [] := by
  obtain ⟨q1, q2, e1, e2, e3, e4⟩ := hs (xs (nI i + 1).toNatClampNeg) (xs (nI i + 2).toNatClampNeg) M1 M2 hR
  refine l_aload_n g 1 dL_law_1119 rfl ?_
  refine l_aload_n g 0 dL_law_1120 rfl ?_
  refine l_iload_n g 3 dL_law_1121 rfl ?_
  refine l_iconst g (v := 1) dL_law_1122 rfl ?_
  refine l_iadd g dL_law_1123 ?_
  refine l_sld g (sc_in 1 hi (by decide) hn) dL_law_1124 ?_
  refine l_aload_n g 0 dL_law_1125 rfl ?_
  refine l_iload_n g 3 dL_law_1126 rfl ?_
  refine l_iconst g (v := 2) dL_law_1127 rfl ?_
  refine l_iadd g dL_law_1128 ?_
  refine l_sld g (sc_in 2 hi (by decide) hn) dL_law_1129 ?_
  refine l_callX (st := []) (v := .int q1.1) g wv_L_134 [.int (xs (nI i + 1).toNatClampNeg), .int (xs (nI i + 2).toNatClampNeg)] rfl (t_X10_weight (wX q) x.2.1 e1) (by decide) (by decide) rfl (Nat.le_of_ble_eq_true rfl) rfl dL_law_1130 ?_
  refine l_aload_n g 2 dL_law_1133 rfl ?_
  refine l_aload_n g 0 dL_law_1134 rfl ?_
  refine l_iload_n g 3 dL_law_1135 rfl ?_
  refine l_iconst g (v := 1) dL_law_1136 rfl ?_
  refine l_iadd g dL_law_1137 ?_
  refine l_sld g (sc_in 1 hi (by decide) hn) dL_law_1138 ?_
  refine l_aload_n g 0 dL_law_1139 rfl ?_
  refine l_iload_n g 3 dL_law_1140 rfl ?_
  refine l_iconst g (v := 2) dL_law_1141 rfl ?_
  refine l_iadd g dL_law_1142 ?_
  refine l_sld g (sc_in 2 hi (by decide) hn) dL_law_1143 ?_
  refine l_callY (st := [.int q1.1]) (v := .int q2.1) g wv_L_137 [.int (xs (nI i + 1).toNatClampNeg), .int (xs (nI i + 2).toNatClampNeg)] rfl (t_X11_weight (wY q) x.2.1 e2) (by decide) (by decide) rfl (Nat.le_of_ble_eq_true rfl) rfl dL_law_1144 ?_
  refine l_icmp_eq g 1560 dL_law_1147 (by decide) e3 ?_
  exact K _ _ e4
set_option maxRecDepth 100000 in
set_option maxHeartbeats 1000000 in
theorem lc_bound {Rel : Mem → Mem → Prop} (hs : St_bound Rel) {q : Lp} {x : Cx} {Q : State → Prop} {M1 M2 : Mem} {b n i : Nat} {xs : Nat → Int32} (g : LG q x b n xs) (hn : n ≤ 3584) (hi : i + 7 ≤ n) (hR : Rel M1 M2) (K : ∀ N1 N2, Rel N1 N2 → LU q x Q N1 N2 1560 [(0, .ref b), (1, .ref ((wX q).2.2.1 0)), (2, .ref ((wY q).2.2.1 0)), (3, .int (nI i))] []) : LU q x Q M1 M2 1152 [(0, .ref b), (1, .ref ((wX q).2.2.1 0)), (2, .ref ((wY q).2.2.1 0)), (3, .int (nI i))] [] := by
  by_cases hz : (xs (nI i + 2).toNatClampNeg) = 0
  · 
    obtain ⟨q1, q2, e1, e2, e3, e4⟩ := hs (xs (nI i + 1).toNatClampNeg) 0 M1 M2 (Or.inl rfl) hR
    refine l_aload_n g 1 dL_law_1152 rfl ?_
    refine l_aload_n g 0 dL_law_1153 rfl ?_
    refine l_iload_n g 3 dL_law_1154 rfl ?_
    refine l_iconst g (v := 1) dL_law_1155 rfl ?_
    refine l_iadd g dL_law_1156 ?_
    refine l_sld g (sc_in 1 hi (by decide) hn) dL_law_1157 ?_
    refine l_aload_n g 0 dL_law_1158 rfl ?_
    refine l_iload_n g 3 dL_law_1159 rfl ?_
    refine l_iconst g (v := 2) dL_law_1160 rfl ?_
    refine l_iadd g dL_law_1161 ?_
    refine l_sld g (sc_in 2 hi (by decide) hn) dL_law_1162 ?_
    refine l_if_eq g 1170 dL_law_1163 (by decide) hz ?_
    refine l_iconst g (v := 0) dL_law_1170 rfl ?_
    refine l_callX (st := []) (v := .int q1.1) g wv_L_138 [.int (xs (nI i + 1).toNatClampNeg), .int 0] rfl (t_X10_bound (wX q) x.2.1 e1) (by decide) (by decide) rfl (Nat.le_of_ble_eq_true rfl) rfl dL_law_1171 ?_
    refine l_aload_n g 2 dL_law_1174 rfl ?_
    refine l_aload_n g 0 dL_law_1175 rfl ?_
    refine l_iload_n g 3 dL_law_1176 rfl ?_
    refine l_iconst g (v := 1) dL_law_1177 rfl ?_
    refine l_iadd g dL_law_1178 ?_
    refine l_sld g (sc_in 1 hi (by decide) hn) dL_law_1179 ?_
    refine l_aload_n g 0 dL_law_1180 rfl ?_
    refine l_iload_n g 3 dL_law_1181 rfl ?_
    refine l_iconst g (v := 2) dL_law_1182 rfl ?_
    refine l_iadd g dL_law_1183 ?_
    refine l_sld g (sc_in 2 hi (by decide) hn) dL_law_1184 ?_
    refine l_if_eq g 1192 dL_law_1185 (by decide) hz ?_
    refine l_iconst g (v := 0) dL_law_1192 rfl ?_
    refine l_callY (st := [.int q1.1]) (v := .int q2.1) g wv_L_141 [.int (xs (nI i + 1).toNatClampNeg), .int 0] rfl (t_X11_bound (wY q) x.2.1 e2) (by decide) (by decide) rfl (Nat.le_of_ble_eq_true rfl) rfl dL_law_1193 ?_
    refine l_icmp_eq g 1560 dL_law_1196 (by decide) e3 ?_
    exact K _ _ e4
  · 
    obtain ⟨q1, q2, e1, e2, e3, e4⟩ := hs (xs (nI i + 1).toNatClampNeg) 1 M1 M2 (Or.inr rfl) hR
    refine l_aload_n g 1 dL_law_1152 rfl ?_
    refine l_aload_n g 0 dL_law_1153 rfl ?_
    refine l_iload_n g 3 dL_law_1154 rfl ?_
    refine l_iconst g (v := 1) dL_law_1155 rfl ?_
    refine l_iadd g dL_law_1156 ?_
    refine l_sld g (sc_in 1 hi (by decide) hn) dL_law_1157 ?_
    refine l_aload_n g 0 dL_law_1158 rfl ?_
    refine l_iload_n g 3 dL_law_1159 rfl ?_
    refine l_iconst g (v := 2) dL_law_1160 rfl ?_
    refine l_iadd g dL_law_1161 ?_
    refine l_sld g (sc_in 2 hi (by decide) hn) dL_law_1162 ?_
    refine l_if_neq g 1170 dL_law_1163 (by decide) hz ?_
    refine l_iconst g (v := 1) dL_law_1166 rfl ?_
    refine l_goto g 1171 dL_law_1167 (by decide) ?_
    refine l_callX (st := []) (v := .int q1.1) g wv_L_138 [.int (xs (nI i + 1).toNatClampNeg), .int 1] rfl (t_X10_bound (wX q) x.2.1 e1) (by decide) (by decide) rfl (Nat.le_of_ble_eq_true rfl) rfl dL_law_1171 ?_
    refine l_aload_n g 2 dL_law_1174 rfl ?_
    refine l_aload_n g 0 dL_law_1175 rfl ?_
    refine l_iload_n g 3 dL_law_1176 rfl ?_
    refine l_iconst g (v := 1) dL_law_1177 rfl ?_
    refine l_iadd g dL_law_1178 ?_
    refine l_sld g (sc_in 1 hi (by decide) hn) dL_law_1179 ?_
    refine l_aload_n g 0 dL_law_1180 rfl ?_
    refine l_iload_n g 3 dL_law_1181 rfl ?_
    refine l_iconst g (v := 2) dL_law_1182 rfl ?_
    refine l_iadd g dL_law_1183 ?_
    refine l_sld g (sc_in 2 hi (by decide) hn) dL_law_1184 ?_
    refine l_if_neq g 1192 dL_law_1185 (by decide) hz ?_
    refine l_iconst g (v := 1) dL_law_1188 rfl ?_
    refine l_goto g 1193 dL_law_1189 (by decide) ?_
    refine l_callY (st := [.int q1.1]) (v := .int q2.1) g wv_L_141 [.int (xs (nI i + 1).toNatClampNeg), .int 1] rfl (t_X11_bound (wY q) x.2.1 e2) (by decide) (by decide) rfl (Nat.le_of_ble_eq_true rfl) rfl dL_law_1193 ?_
    refine l_icmp_eq g 1560 dL_law_1196 (by decide) e3 ?_
    exact K _ _ e4
set_option maxRecDepth 100000 in
set_option maxHeartbeats 1000000 in
theorem lc_proved {Rel : Mem → Mem → Prop} (hs : St_proved Rel) {q : Lp} {x : Cx} {Q : State → Prop} {M1 M2 : Mem} {b n i : Nat} {xs : Nat → Int32} (g : LG q x b n xs) (hn : n ≤ 3584) (hi : i + 7 ≤ n) (hR : Rel M1 M2) (K : ∀ N1 N2, Rel N1 N2 → LU q x Q N1 N2 1560 [(0, .ref b), (1, .ref ((wX q).2.2.1 0)), (2, .ref ((wY q).2.2.1 0)), (3, .int (nI i))] []) : LU q x Q M1 M2 1201 [(0, .ref b), (1, .ref ((wX q).2.2.1 0)), (2, .ref ((wY q).2.2.1 0)), (3, .int (nI i))] [] := by
  obtain ⟨q1, q2, e1, e2, e3, e4⟩ := hs  M1 M2 hR
  refine l_aload_n g 1 dL_law_1201 rfl ?_
  refine l_callX (st := []) (v := .int q1.1) g wv_L_142 [] rfl (t_X10_proved (wX q) x.2.1 e1) (by decide) (by decide) rfl (Nat.le_of_ble_eq_true rfl) rfl dL_law_1202 ?_
  refine l_aload_n g 2 dL_law_1205 rfl ?_
  refine l_callY (st := [.int q1.1]) (v := .int q2.1) g wv_L_145 [] rfl (t_X11_proved (wY q) x.2.1 e2) (by decide) (by decide) rfl (Nat.le_of_ble_eq_true rfl) rfl dL_law_1206 ?_
  refine l_icmp_eq g 1560 dL_law_1209 (by decide) e3 ?_
  exact K _ _ e4
set_option maxRecDepth 100000 in
set_option maxHeartbeats 1000000 in
theorem lc_witness {Rel : Mem → Mem → Prop} (hs : St_witness Rel) {q : Lp} {x : Cx} {Q : State → Prop} {M1 M2 : Mem} {b n i : Nat} {xs : Nat → Int32} (g : LG q x b n xs) (hn : n ≤ 3584) (hi : i + 7 ≤ n) (hR : Rel M1 M2) (K : ∀ N1 N2, Rel N1 N2 → LU q x Q N1 N2 1560 [(0, .ref b), (1, .ref ((wX q).2.2.1 0)), (2, .ref ((wY q).2.2.1 0)), (3, .int (nI i))] []) : LU q x Q M1 M2 1214 [(0, .ref b), (1, .ref ((wX q).2.2.1 0)), (2, .ref ((wY q).2.2.1 0)), (3, .int (nI i))] [] := by
  obtain ⟨q1, q2, e1, e2, e3, e4⟩ := hs (xs (nI i + 1).toNatClampNeg) M1 M2 hR
  refine l_aload_n g 1 dL_law_1214 rfl ?_
  refine l_aload_n g 0 dL_law_1215 rfl ?_
  refine l_iload_n g 3 dL_law_1216 rfl ?_
  refine l_iconst g (v := 1) dL_law_1217 rfl ?_
  refine l_iadd g dL_law_1218 ?_
  refine l_sld g (sc_in 1 hi (by decide) hn) dL_law_1219 ?_
  refine l_callX (st := []) (v := .int q1.1) g wv_L_146 [.int (xs (nI i + 1).toNatClampNeg)] rfl (t_X10_witness (wX q) x.2.1 e1) (by decide) (by decide) rfl (Nat.le_of_ble_eq_true rfl) rfl dL_law_1220 ?_
  refine l_aload_n g 2 dL_law_1223 rfl ?_
  refine l_aload_n g 0 dL_law_1224 rfl ?_
  refine l_iload_n g 3 dL_law_1225 rfl ?_
  refine l_iconst g (v := 1) dL_law_1226 rfl ?_
  refine l_iadd g dL_law_1227 ?_
  refine l_sld g (sc_in 1 hi (by decide) hn) dL_law_1228 ?_
  refine l_callY (st := [.int q1.1]) (v := .int q2.1) g wv_L_149 [.int (xs (nI i + 1).toNatClampNeg)] rfl (t_X11_witness (wY q) x.2.1 e2) (by decide) (by decide) rfl (Nat.le_of_ble_eq_true rfl) rfl dL_law_1229 ?_
  refine l_icmp_eq g 1560 dL_law_1232 (by decide) e3 ?_
  exact K _ _ e4
set_option maxRecDepth 100000 in
set_option maxHeartbeats 1000000 in
theorem lc_names {Rel : Mem → Mem → Prop} (hs : St_names Rel) {q : Lp} {x : Cx} {Q : State → Prop} {M1 M2 : Mem} {b n i : Nat} {xs : Nat → Int32} (g : LG q x b n xs) (hn : n ≤ 3584) (hi : i + 7 ≤ n) (hR : Rel M1 M2) (K : ∀ N1 N2, Rel N1 N2 → LU q x Q N1 N2 1560 [(0, .ref b), (1, .ref ((wX q).2.2.1 0)), (2, .ref ((wY q).2.2.1 0)), (3, .int (nI i))] []) : LU q x Q M1 M2 1237 [(0, .ref b), (1, .ref ((wX q).2.2.1 0)), (2, .ref ((wY q).2.2.1 0)), (3, .int (nI i))] [] := by
  obtain ⟨q1, q2, e1, e2, e3, e4⟩ := hs (xs (nI i + 1).toNatClampNeg) M1 M2 hR
  refine l_aload_n g 1 dL_law_1237 rfl ?_
  refine l_aload_n g 0 dL_law_1238 rfl ?_
  refine l_iload_n g 3 dL_law_1239 rfl ?_
  refine l_iconst g (v := 1) dL_law_1240 rfl ?_
  refine l_iadd g dL_law_1241 ?_
  refine l_sld g (sc_in 1 hi (by decide) hn) dL_law_1242 ?_
  refine l_callX (st := []) (v := .int q1) g wv_L_150 [.int (xs (nI i + 1).toNatClampNeg)] rfl (t_X10_names (wX q) x.2.1 e1) (by decide) (by decide) rfl (Nat.le_of_ble_eq_true rfl) rfl dL_law_1243 ?_
  refine l_aload_n g 2 dL_law_1246 rfl ?_
  refine l_aload_n g 0 dL_law_1247 rfl ?_
  refine l_iload_n g 3 dL_law_1248 rfl ?_
  refine l_iconst g (v := 1) dL_law_1249 rfl ?_
  refine l_iadd g dL_law_1250 ?_
  refine l_sld g (sc_in 1 hi (by decide) hn) dL_law_1251 ?_
  refine l_callY (st := [.int q1]) (v := .int q2.1) g wv_L_153 [.int (xs (nI i + 1).toNatClampNeg)] rfl (t_X11_names (wY q) x.2.1 e2) (by decide) (by decide) rfl (Nat.le_of_ble_eq_true rfl) rfl dL_law_1252 ?_
  refine l_icmp_eq g 1560 dL_law_1255 (by decide) e3 ?_
  exact K _ _ e4
set_option maxRecDepth 100000 in
set_option maxHeartbeats 1000000 in
theorem lc_forge {Rel : Mem → Mem → Prop} (hs : St_forge Rel) {q : Lp} {x : Cx} {Q : State → Prop} {M1 M2 : Mem} {b n i : Nat} {xs : Nat → Int32} (g : LG q x b n xs) (hn : n ≤ 3584) (hi : i + 7 ≤ n) (hR : Rel M1 M2) (K : ∀ N1 N2, Rel N1 N2 → LU q x Q N1 N2 1560 [(0, .ref b), (1, .ref ((wX q).2.2.1 0)), (2, .ref ((wY q).2.2.1 0)), (3, .int (nI i))] []) : LU q x Q M1 M2 1260 [(0, .ref b), (1, .ref ((wX q).2.2.1 0)), (2, .ref ((wY q).2.2.1 0)), (3, .int (nI i))] [] := by
  obtain ⟨q1, q2, e1, e2, e3, e4⟩ := hs (xs (nI i + 1).toNatClampNeg) (xs (nI i + 2).toNatClampNeg) M1 M2 hR
  refine l_aload_n g 1 dL_law_1260 rfl ?_
  refine l_aload_n g 0 dL_law_1261 rfl ?_
  refine l_iload_n g 3 dL_law_1262 rfl ?_
  refine l_iconst g (v := 1) dL_law_1263 rfl ?_
  refine l_iadd g dL_law_1264 ?_
  refine l_sld g (sc_in 1 hi (by decide) hn) dL_law_1265 ?_
  refine l_aload_n g 0 dL_law_1266 rfl ?_
  refine l_iload_n g 3 dL_law_1267 rfl ?_
  refine l_iconst g (v := 2) dL_law_1268 rfl ?_
  refine l_iadd g dL_law_1269 ?_
  refine l_sld g (sc_in 2 hi (by decide) hn) dL_law_1270 ?_
  refine l_callX (st := []) (v := .int q1.1) g wv_L_154 [.int (xs (nI i + 1).toNatClampNeg), .int (xs (nI i + 2).toNatClampNeg)] rfl (t_X10_forge (wX q) x.2.1 e1) (by decide) (by decide) rfl (Nat.le_of_ble_eq_true rfl) rfl dL_law_1271 ?_
  refine l_aload_n g 2 dL_law_1274 rfl ?_
  refine l_aload_n g 0 dL_law_1275 rfl ?_
  refine l_iload_n g 3 dL_law_1276 rfl ?_
  refine l_iconst g (v := 1) dL_law_1277 rfl ?_
  refine l_iadd g dL_law_1278 ?_
  refine l_sld g (sc_in 1 hi (by decide) hn) dL_law_1279 ?_
  refine l_aload_n g 0 dL_law_1280 rfl ?_
  refine l_iload_n g 3 dL_law_1281 rfl ?_
  refine l_iconst g (v := 2) dL_law_1282 rfl ?_
  refine l_iadd g dL_law_1283 ?_
  refine l_sld g (sc_in 2 hi (by decide) hn) dL_law_1284 ?_
  refine l_callY (st := [.int q1.1]) (v := .int q2.1) g wv_L_157 [.int (xs (nI i + 1).toNatClampNeg), .int (xs (nI i + 2).toNatClampNeg)] rfl (t_X11_forge (wY q) x.2.1 e2) (by decide) (by decide) rfl (Nat.le_of_ble_eq_true rfl) rfl dL_law_1285 ?_
  refine l_icmp_eq g 1560 dL_law_1288 (by decide) e3 ?_
  exact K _ _ e4
set_option maxRecDepth 100000 in
set_option maxHeartbeats 1000000 in
theorem lc_judge {Rel : Mem → Mem → Prop} (hs : St_judge Rel) {q : Lp} {x : Cx} {Q : State → Prop} {M1 M2 : Mem} {b n i : Nat} {xs : Nat → Int32} (g : LG q x b n xs) (hn : n ≤ 3584) (hi : i + 7 ≤ n) (hR : Rel M1 M2) (K : ∀ N1 N2, Rel N1 N2 → LU q x Q N1 N2 1560 [(0, .ref b), (1, .ref ((wX q).2.2.1 0)), (2, .ref ((wY q).2.2.1 0)), (3, .int (nI i))] []) : LU q x Q M1 M2 1293 [(0, .ref b), (1, .ref ((wX q).2.2.1 0)), (2, .ref ((wY q).2.2.1 0)), (3, .int (nI i))] [] := by
  obtain ⟨q1, q2, e1, e2, e3, e4⟩ := hs (xs (nI i + 1).toNatClampNeg) M1 M2 hR
  refine l_aload_n g 1 dL_law_1293 rfl ?_
  refine l_aload_n g 0 dL_law_1294 rfl ?_
  refine l_iload_n g 3 dL_law_1295 rfl ?_
  refine l_iconst g (v := 1) dL_law_1296 rfl ?_
  refine l_iadd g dL_law_1297 ?_
  refine l_sld g (sc_in 1 hi (by decide) hn) dL_law_1298 ?_
  refine l_callX (st := []) (v := .int q1.1) g wv_L_158 [.int (xs (nI i + 1).toNatClampNeg)] rfl (t_X10_judge (wX q) x.2.1 e1) (by decide) (by decide) rfl (Nat.le_of_ble_eq_true rfl) rfl dL_law_1299 ?_
  refine l_aload_n g 2 dL_law_1302 rfl ?_
  refine l_aload_n g 0 dL_law_1303 rfl ?_
  refine l_iload_n g 3 dL_law_1304 rfl ?_
  refine l_iconst g (v := 1) dL_law_1305 rfl ?_
  refine l_iadd g dL_law_1306 ?_
  refine l_sld g (sc_in 1 hi (by decide) hn) dL_law_1307 ?_
  refine l_callY (st := [.int q1.1]) (v := .int q2.1) g wv_L_161 [.int (xs (nI i + 1).toNatClampNeg)] rfl (t_X11_judge (wY q) x.2.1 e2) (by decide) (by decide) rfl (Nat.le_of_ble_eq_true rfl) rfl dL_law_1308 ?_
  refine l_icmp_eq g 1560 dL_law_1311 (by decide) e3 ?_
  exact K _ _ e4
set_option maxRecDepth 100000 in
set_option maxHeartbeats 1000000 in
theorem lc_lay {Rel : Mem → Mem → Prop} (hs : St_lay Rel) {q : Lp} {x : Cx} {Q : State → Prop} {M1 M2 : Mem} {b n i : Nat} {xs : Nat → Int32} (g : LG q x b n xs) (hn : n ≤ 3584) (hi : i + 7 ≤ n) (hR : Rel M1 M2) (K : ∀ N1 N2, Rel N1 N2 → LU q x Q N1 N2 1560 [(0, .ref b), (1, .ref ((wX q).2.2.1 0)), (2, .ref ((wY q).2.2.1 0)), (3, .int (nI i))] []) : LU q x Q M1 M2 1316 [(0, .ref b), (1, .ref ((wX q).2.2.1 0)), (2, .ref ((wY q).2.2.1 0)), (3, .int (nI i))] [] := by
  obtain ⟨q1, q2, e1, e2, e3, e4⟩ := hs (xs (nI i + 1).toNatClampNeg) (xs (nI i + 2).toNatClampNeg) (xs (nI i + 3).toNatClampNeg) M1 M2 hR
  refine l_aload_n g 1 dL_law_1316 rfl ?_
  refine l_aload_n g 0 dL_law_1317 rfl ?_
  refine l_iload_n g 3 dL_law_1318 rfl ?_
  refine l_iconst g (v := 1) dL_law_1319 rfl ?_
  refine l_iadd g dL_law_1320 ?_
  refine l_sld g (sc_in 1 hi (by decide) hn) dL_law_1321 ?_
  refine l_aload_n g 0 dL_law_1322 rfl ?_
  refine l_iload_n g 3 dL_law_1323 rfl ?_
  refine l_iconst g (v := 2) dL_law_1324 rfl ?_
  refine l_iadd g dL_law_1325 ?_
  refine l_sld g (sc_in 2 hi (by decide) hn) dL_law_1326 ?_
  refine l_aload_n g 0 dL_law_1327 rfl ?_
  refine l_iload_n g 3 dL_law_1328 rfl ?_
  refine l_iconst g (v := 3) dL_law_1329 rfl ?_
  refine l_iadd g dL_law_1330 ?_
  refine l_sld g (sc_in 3 hi (by decide) hn) dL_law_1331 ?_
  refine l_callX (st := []) (v := .int q1.1) g wv_L_162 [.int (xs (nI i + 1).toNatClampNeg), .int (xs (nI i + 2).toNatClampNeg), .int (xs (nI i + 3).toNatClampNeg)] rfl (t_X10_lay (wX q) x.2.1 e1) (by decide) (by decide) rfl (Nat.le_of_ble_eq_true rfl) rfl dL_law_1332 ?_
  refine l_aload_n g 2 dL_law_1335 rfl ?_
  refine l_aload_n g 0 dL_law_1336 rfl ?_
  refine l_iload_n g 3 dL_law_1337 rfl ?_
  refine l_iconst g (v := 1) dL_law_1338 rfl ?_
  refine l_iadd g dL_law_1339 ?_
  refine l_sld g (sc_in 1 hi (by decide) hn) dL_law_1340 ?_
  refine l_aload_n g 0 dL_law_1341 rfl ?_
  refine l_iload_n g 3 dL_law_1342 rfl ?_
  refine l_iconst g (v := 2) dL_law_1343 rfl ?_
  refine l_iadd g dL_law_1344 ?_
  refine l_sld g (sc_in 2 hi (by decide) hn) dL_law_1345 ?_
  refine l_aload_n g 0 dL_law_1346 rfl ?_
  refine l_iload_n g 3 dL_law_1347 rfl ?_
  refine l_iconst g (v := 3) dL_law_1348 rfl ?_
  refine l_iadd g dL_law_1349 ?_
  refine l_sld g (sc_in 3 hi (by decide) hn) dL_law_1350 ?_
  refine l_callY (st := [.int q1.1]) (v := .int q2.1) g wv_L_165 [.int (xs (nI i + 1).toNatClampNeg), .int (xs (nI i + 2).toNatClampNeg), .int (xs (nI i + 3).toNatClampNeg)] rfl (t_X11_lay (wY q) x.2.1 e2) (by decide) (by decide) rfl (Nat.le_of_ble_eq_true rfl) rfl dL_law_1351 ?_
  refine l_icmp_eq g 1560 dL_law_1354 (by decide) e3 ?_
  exact K _ _ e4
set_option maxRecDepth 100000 in
set_option maxHeartbeats 1000000 in
theorem lc_lies {Rel : Mem → Mem → Prop} (hs : St_lies Rel) {q : Lp} {x : Cx} {Q : State → Prop} {M1 M2 : Mem} {b n i : Nat} {xs : Nat → Int32} (g : LG q x b n xs) (hn : n ≤ 3584) (hi : i + 7 ≤ n) (hR : Rel M1 M2) (K : ∀ N1 N2, Rel N1 N2 → LU q x Q N1 N2 1560 [(0, .ref b), (1, .ref ((wX q).2.2.1 0)), (2, .ref ((wY q).2.2.1 0)), (3, .int (nI i))] []) : LU q x Q M1 M2 1359 [(0, .ref b), (1, .ref ((wX q).2.2.1 0)), (2, .ref ((wY q).2.2.1 0)), (3, .int (nI i))] [] := by
  obtain ⟨q1, q2, e1, e2, e3, e4⟩ := hs (xs (nI i + 1).toNatClampNeg) M1 M2 hR
  refine l_aload_n g 1 dL_law_1359 rfl ?_
  refine l_aload_n g 0 dL_law_1360 rfl ?_
  refine l_iload_n g 3 dL_law_1361 rfl ?_
  refine l_iconst g (v := 1) dL_law_1362 rfl ?_
  refine l_iadd g dL_law_1363 ?_
  refine l_sld g (sc_in 1 hi (by decide) hn) dL_law_1364 ?_
  refine l_callX (st := []) (v := .int q1.1) g wv_L_166 [.int (xs (nI i + 1).toNatClampNeg)] rfl (t_X10_lies (wX q) x.2.1 e1) (by decide) (by decide) rfl (Nat.le_of_ble_eq_true rfl) rfl dL_law_1365 ?_
  refine l_aload_n g 2 dL_law_1368 rfl ?_
  refine l_aload_n g 0 dL_law_1369 rfl ?_
  refine l_iload_n g 3 dL_law_1370 rfl ?_
  refine l_iconst g (v := 1) dL_law_1371 rfl ?_
  refine l_iadd g dL_law_1372 ?_
  refine l_sld g (sc_in 1 hi (by decide) hn) dL_law_1373 ?_
  refine l_callY (st := [.int q1.1]) (v := .int q2.1) g wv_L_169 [.int (xs (nI i + 1).toNatClampNeg)] rfl (t_X11_lies (wY q) x.2.1 e2) (by decide) (by decide) rfl (Nat.le_of_ble_eq_true rfl) rfl dL_law_1374 ?_
  refine l_icmp_eq g 1560 dL_law_1377 (by decide) e3 ?_
  exact K _ _ e4
set_option maxRecDepth 100000 in
set_option maxHeartbeats 1000000 in
theorem lc_taken {Rel : Mem → Mem → Prop} (hs : St_taken Rel) {q : Lp} {x : Cx} {Q : State → Prop} {M1 M2 : Mem} {b n i : Nat} {xs : Nat → Int32} (g : LG q x b n xs) (hn : n ≤ 3584) (hi : i + 7 ≤ n) (hR : Rel M1 M2) (K : ∀ N1 N2, Rel N1 N2 → LU q x Q N1 N2 1560 [(0, .ref b), (1, .ref ((wX q).2.2.1 0)), (2, .ref ((wY q).2.2.1 0)), (3, .int (nI i))] []) : LU q x Q M1 M2 1382 [(0, .ref b), (1, .ref ((wX q).2.2.1 0)), (2, .ref ((wY q).2.2.1 0)), (3, .int (nI i))] [] := by
  obtain ⟨q1, q2, e1, e2, e3, e4⟩ := hs (xs (nI i + 1).toNatClampNeg) (xs (nI i + 2).toNatClampNeg) (xs (nI i + 3).toNatClampNeg) M1 M2 hR
  refine l_aload_n g 1 dL_law_1382 rfl ?_
  refine l_aload_n g 0 dL_law_1383 rfl ?_
  refine l_iload_n g 3 dL_law_1384 rfl ?_
  refine l_iconst g (v := 1) dL_law_1385 rfl ?_
  refine l_iadd g dL_law_1386 ?_
  refine l_sld g (sc_in 1 hi (by decide) hn) dL_law_1387 ?_
  refine l_aload_n g 0 dL_law_1388 rfl ?_
  refine l_iload_n g 3 dL_law_1389 rfl ?_
  refine l_iconst g (v := 2) dL_law_1390 rfl ?_
  refine l_iadd g dL_law_1391 ?_
  refine l_sld g (sc_in 2 hi (by decide) hn) dL_law_1392 ?_
  refine l_aload_n g 0 dL_law_1393 rfl ?_
  refine l_iload_n g 3 dL_law_1394 rfl ?_
  refine l_iconst g (v := 3) dL_law_1395 rfl ?_
  refine l_iadd g dL_law_1396 ?_
  refine l_sld g (sc_in 3 hi (by decide) hn) dL_law_1397 ?_
  refine l_callX (st := []) (v := .int q1.1) g wv_L_170 [.int (xs (nI i + 1).toNatClampNeg), .int (xs (nI i + 2).toNatClampNeg), .int (xs (nI i + 3).toNatClampNeg)] rfl (t_X10_taken (wX q) x.2.1 e1) (by decide) (by decide) rfl (Nat.le_of_ble_eq_true rfl) rfl dL_law_1398 ?_
  refine l_aload_n g 2 dL_law_1401 rfl ?_
  refine l_aload_n g 0 dL_law_1402 rfl ?_
  refine l_iload_n g 3 dL_law_1403 rfl ?_
  refine l_iconst g (v := 1) dL_law_1404 rfl ?_
  refine l_iadd g dL_law_1405 ?_
  refine l_sld g (sc_in 1 hi (by decide) hn) dL_law_1406 ?_
  refine l_aload_n g 0 dL_law_1407 rfl ?_
  refine l_iload_n g 3 dL_law_1408 rfl ?_
  refine l_iconst g (v := 2) dL_law_1409 rfl ?_
  refine l_iadd g dL_law_1410 ?_
  refine l_sld g (sc_in 2 hi (by decide) hn) dL_law_1411 ?_
  refine l_aload_n g 0 dL_law_1412 rfl ?_
  refine l_iload_n g 3 dL_law_1413 rfl ?_
  refine l_iconst g (v := 3) dL_law_1414 rfl ?_
  refine l_iadd g dL_law_1415 ?_
  refine l_sld g (sc_in 3 hi (by decide) hn) dL_law_1416 ?_
  refine l_callY (st := [.int q1.1]) (v := .int q2.1) g wv_L_173 [.int (xs (nI i + 1).toNatClampNeg), .int (xs (nI i + 2).toNatClampNeg), .int (xs (nI i + 3).toNatClampNeg)] rfl (t_X11_taken (wY q) x.2.1 e2) (by decide) (by decide) rfl (Nat.le_of_ble_eq_true rfl) rfl dL_law_1417 ?_
  refine l_icmp_eq g 1560 dL_law_1420 (by decide) e3 ?_
  exact K _ _ e4
set_option maxRecDepth 100000 in
set_option maxHeartbeats 1000000 in
theorem lc_copy {Rel : Mem → Mem → Prop} (hs : St_copy Rel) {q : Lp} {x : Cx} {Q : State → Prop} {M1 M2 : Mem} {b n i : Nat} {xs : Nat → Int32} (g : LG q x b n xs) (hn : n ≤ 3584) (hi : i + 7 ≤ n) (hR : Rel M1 M2) (K : ∀ N1 N2, Rel N1 N2 → LU q x Q N1 N2 1560 [(0, .ref b), (1, .ref ((wX q).2.2.1 0)), (2, .ref ((wY q).2.2.1 0)), (3, .int (nI i))] []) : LU q x Q M1 M2 1425 [(0, .ref b), (1, .ref ((wX q).2.2.1 0)), (2, .ref ((wY q).2.2.1 0)), (3, .int (nI i))] [] := by
  obtain ⟨q1, q2, e1, e2, e3, e4⟩ := hs (xs (nI i + 1).toNatClampNeg) (xs (nI i + 2).toNatClampNeg) (xs (nI i + 3).toNatClampNeg) (xs (nI i + 4).toNatClampNeg) (xs (nI i + 5).toNatClampNeg) M1 M2 hR
  refine l_aload_n g 1 dL_law_1425 rfl ?_
  refine l_aload_n g 0 dL_law_1426 rfl ?_
  refine l_iload_n g 3 dL_law_1427 rfl ?_
  refine l_iconst g (v := 1) dL_law_1428 rfl ?_
  refine l_iadd g dL_law_1429 ?_
  refine l_sld g (sc_in 1 hi (by decide) hn) dL_law_1430 ?_
  refine l_aload_n g 0 dL_law_1431 rfl ?_
  refine l_iload_n g 3 dL_law_1432 rfl ?_
  refine l_iconst g (v := 2) dL_law_1433 rfl ?_
  refine l_iadd g dL_law_1434 ?_
  refine l_sld g (sc_in 2 hi (by decide) hn) dL_law_1435 ?_
  refine l_aload_n g 0 dL_law_1436 rfl ?_
  refine l_iload_n g 3 dL_law_1437 rfl ?_
  refine l_iconst g (v := 3) dL_law_1438 rfl ?_
  refine l_iadd g dL_law_1439 ?_
  refine l_sld g (sc_in 3 hi (by decide) hn) dL_law_1440 ?_
  refine l_aload_n g 0 dL_law_1441 rfl ?_
  refine l_iload_n g 3 dL_law_1442 rfl ?_
  refine l_iconst g (v := 4) dL_law_1443 rfl ?_
  refine l_iadd g dL_law_1444 ?_
  refine l_sld g (sc_in 4 hi (by decide) hn) dL_law_1445 ?_
  refine l_aload_n g 0 dL_law_1446 rfl ?_
  refine l_iload_n g 3 dL_law_1447 rfl ?_
  refine l_iconst g (v := 5) dL_law_1448 rfl ?_
  refine l_iadd g dL_law_1449 ?_
  refine l_sld g (sc_in 5 hi (by decide) hn) dL_law_1450 ?_
  refine l_callX (st := []) (v := .int q1.1) g wv_L_174 [.int (xs (nI i + 1).toNatClampNeg), .int (xs (nI i + 2).toNatClampNeg), .int (xs (nI i + 3).toNatClampNeg), .int (xs (nI i + 4).toNatClampNeg), .int (xs (nI i + 5).toNatClampNeg)] rfl (t_X10_copy (wX q) x.2.1 e1) (by decide) (by decide) rfl (Nat.le_of_ble_eq_true rfl) rfl dL_law_1451 ?_
  refine l_aload_n g 2 dL_law_1454 rfl ?_
  refine l_aload_n g 0 dL_law_1455 rfl ?_
  refine l_iload_n g 3 dL_law_1456 rfl ?_
  refine l_iconst g (v := 1) dL_law_1457 rfl ?_
  refine l_iadd g dL_law_1458 ?_
  refine l_sld g (sc_in 1 hi (by decide) hn) dL_law_1459 ?_
  refine l_aload_n g 0 dL_law_1460 rfl ?_
  refine l_iload_n g 3 dL_law_1461 rfl ?_
  refine l_iconst g (v := 2) dL_law_1462 rfl ?_
  refine l_iadd g dL_law_1463 ?_
  refine l_sld g (sc_in 2 hi (by decide) hn) dL_law_1464 ?_
  refine l_aload_n g 0 dL_law_1465 rfl ?_
  refine l_iload_n g 3 dL_law_1466 rfl ?_
  refine l_iconst g (v := 3) dL_law_1467 rfl ?_
  refine l_iadd g dL_law_1468 ?_
  refine l_sld g (sc_in 3 hi (by decide) hn) dL_law_1469 ?_
  refine l_aload_n g 0 dL_law_1470 rfl ?_
  refine l_iload_n g 3 dL_law_1471 rfl ?_
  refine l_iconst g (v := 4) dL_law_1472 rfl ?_
  refine l_iadd g dL_law_1473 ?_
  refine l_sld g (sc_in 4 hi (by decide) hn) dL_law_1474 ?_
  refine l_aload_n g 0 dL_law_1475 rfl ?_
  refine l_iload_n g 3 dL_law_1476 rfl ?_
  refine l_iconst g (v := 5) dL_law_1477 rfl ?_
  refine l_iadd g dL_law_1478 ?_
  refine l_sld g (sc_in 5 hi (by decide) hn) dL_law_1479 ?_
  refine l_callY (st := [.int q1.1]) (v := .int q2.1) g wv_L_178 [.int (xs (nI i + 1).toNatClampNeg), .int (xs (nI i + 2).toNatClampNeg), .int (xs (nI i + 3).toNatClampNeg), .int (xs (nI i + 4).toNatClampNeg), .int (xs (nI i + 5).toNatClampNeg)] rfl (t_X11_copy (wY q) x.2.1 e2) (by decide) (by decide) rfl (Nat.le_of_ble_eq_true rfl) rfl dL_law_1480 ?_
  refine l_icmp_eq g 1560 dL_law_1483 (by decide) e3 ?_
  exact K _ _ e4
set_option maxRecDepth 100000 in
set_option maxHeartbeats 1000000 in
theorem lc_use {Rel : Mem → Mem → Prop} (hs : St_use Rel) {q : Lp} {x : Cx} {Q : State → Prop} {M1 M2 : Mem} {b n i : Nat} {xs : Nat → Int32} (g : LG q x b n xs) (hn : n ≤ 3584) (hi : i + 7 ≤ n) (hR : Rel M1 M2) (K : ∀ N1 N2, Rel N1 N2 → LU q x Q N1 N2 1560 [(0, .ref b), (1, .ref ((wX q).2.2.1 0)), (2, .ref ((wY q).2.2.1 0)), (3, .int (nI i))] []) : LU q x Q M1 M2 1488 [(0, .ref b), (1, .ref ((wX q).2.2.1 0)), (2, .ref ((wY q).2.2.1 0)), (3, .int (nI i))] [] := by
  obtain ⟨q1, q2, e1, e2, e3, e4⟩ := hs (xs (nI i + 1).toNatClampNeg) M1 M2 hR
  refine l_aload_n g 1 dL_law_1488 rfl ?_
  refine l_aload_n g 0 dL_law_1489 rfl ?_
  refine l_iload_n g 3 dL_law_1490 rfl ?_
  refine l_iconst g (v := 1) dL_law_1491 rfl ?_
  refine l_iadd g dL_law_1492 ?_
  refine l_sld g (sc_in 1 hi (by decide) hn) dL_law_1493 ?_
  refine l_callX (st := []) (v := .int q1.1) g wv_L_179 [.int (xs (nI i + 1).toNatClampNeg)] rfl (t_X10_use (wX q) x.2.1 e1) (by decide) (by decide) rfl (Nat.le_of_ble_eq_true rfl) rfl dL_law_1494 ?_
  refine l_aload_n g 2 dL_law_1497 rfl ?_
  refine l_aload_n g 0 dL_law_1498 rfl ?_
  refine l_iload_n g 3 dL_law_1499 rfl ?_
  refine l_iconst g (v := 1) dL_law_1500 rfl ?_
  refine l_iadd g dL_law_1501 ?_
  refine l_sld g (sc_in 1 hi (by decide) hn) dL_law_1502 ?_
  refine l_callY (st := [.int q1.1]) (v := .int q2.1) g wv_L_182 [.int (xs (nI i + 1).toNatClampNeg)] rfl (t_X11_use (wY q) x.2.1 e2) (by decide) (by decide) rfl (Nat.le_of_ble_eq_true rfl) rfl dL_law_1503 ?_
  refine l_icmp_eq g 1560 dL_law_1506 (by decide) e3 ?_
  exact K _ _ e4
set_option maxRecDepth 100000 in
set_option maxHeartbeats 1000000 in
theorem lc_undo {Rel : Mem → Mem → Prop} (hs : St_undo Rel) {q : Lp} {x : Cx} {Q : State → Prop} {M1 M2 : Mem} {b n i : Nat} {xs : Nat → Int32} (g : LG q x b n xs) (hn : n ≤ 3584) (hi : i + 7 ≤ n) (hR : Rel M1 M2) (K : ∀ N1 N2, Rel N1 N2 → LU q x Q N1 N2 1560 [(0, .ref b), (1, .ref ((wX q).2.2.1 0)), (2, .ref ((wY q).2.2.1 0)), (3, .int (nI i))] []) : LU q x Q M1 M2 1511 [(0, .ref b), (1, .ref ((wX q).2.2.1 0)), (2, .ref ((wY q).2.2.1 0)), (3, .int (nI i))] [] := by
  obtain ⟨q1, q2, e1, e2, e3, e4⟩ := hs  M1 M2 hR
  refine l_aload_n g 1 dL_law_1511 rfl ?_
  refine l_callX (st := []) (v := .int q1.1) g wv_L_183 [] rfl (t_X10_undo (wX q) x.2.1 e1) (by decide) (by decide) rfl (Nat.le_of_ble_eq_true rfl) rfl dL_law_1512 ?_
  refine l_aload_n g 2 dL_law_1515 rfl ?_
  refine l_callY (st := [.int q1.1]) (v := .int q2.1) g wv_L_186 [] rfl (t_X11_undo (wY q) x.2.1 e2) (by decide) (by decide) rfl (Nat.le_of_ble_eq_true rfl) rfl dL_law_1516 ?_
  refine l_icmp_eq g 1560 dL_law_1519 (by decide) e3 ?_
  exact K _ _ e4
set_option maxRecDepth 100000 in
set_option maxHeartbeats 1000000 in
theorem lc_size {Rel : Mem → Mem → Prop} (hs : St_size Rel) {q : Lp} {x : Cx} {Q : State → Prop} {M1 M2 : Mem} {b n i : Nat} {xs : Nat → Int32} (g : LG q x b n xs) (hn : n ≤ 3584) (hi : i + 7 ≤ n) (hR : Rel M1 M2) (K : ∀ N1 N2, Rel N1 N2 → LU q x Q N1 N2 1560 [(0, .ref b), (1, .ref ((wX q).2.2.1 0)), (2, .ref ((wY q).2.2.1 0)), (3, .int (nI i))] []) : LU q x Q M1 M2 1524 [(0, .ref b), (1, .ref ((wX q).2.2.1 0)), (2, .ref ((wY q).2.2.1 0)), (3, .int (nI i))] [] := by
  obtain ⟨q1, q2, e1, e2, e3, e4⟩ := hs (xs (nI i + 1).toNatClampNeg) M1 M2 hR
  refine l_aload_n g 1 dL_law_1524 rfl ?_
  refine l_aload_n g 0 dL_law_1525 rfl ?_
  refine l_iload_n g 3 dL_law_1526 rfl ?_
  refine l_iconst g (v := 1) dL_law_1527 rfl ?_
  refine l_iadd g dL_law_1528 ?_
  refine l_sld g (sc_in 1 hi (by decide) hn) dL_law_1529 ?_
  refine l_callX (st := []) (v := .int q1) g wv_L_187 [.int (xs (nI i + 1).toNatClampNeg)] rfl (t_X10_size (wX q) x.2.1 e1) (by decide) (by decide) rfl (Nat.le_of_ble_eq_true rfl) rfl dL_law_1530 ?_
  refine l_aload_n g 2 dL_law_1533 rfl ?_
  refine l_aload_n g 0 dL_law_1534 rfl ?_
  refine l_iload_n g 3 dL_law_1535 rfl ?_
  refine l_iconst g (v := 1) dL_law_1536 rfl ?_
  refine l_iadd g dL_law_1537 ?_
  refine l_sld g (sc_in 1 hi (by decide) hn) dL_law_1538 ?_
  refine l_callY (st := [.int q1]) (v := .int q2.1) g wv_L_190 [.int (xs (nI i + 1).toNatClampNeg)] rfl (t_X11_size (wY q) x.2.1 e2) (by decide) (by decide) rfl (Nat.le_of_ble_eq_true rfl) rfl dL_law_1539 ?_
  refine l_icmp_eq g 1560 dL_law_1542 (by decide) e3 ?_
  exact K _ _ e4
set_option maxRecDepth 100000 in
set_option maxHeartbeats 1000000 in
theorem lc_status {Rel : Mem → Mem → Prop} (hs : St_status Rel) {q : Lp} {x : Cx} {Q : State → Prop} {M1 M2 : Mem} {b n i : Nat} {xs : Nat → Int32} (g : LG q x b n xs) (hn : n ≤ 3584) (hi : i + 7 ≤ n) (hR : Rel M1 M2) (K : ∀ N1 N2, Rel N1 N2 → LU q x Q N1 N2 1560 [(0, .ref b), (1, .ref ((wX q).2.2.1 0)), (2, .ref ((wY q).2.2.1 0)), (3, .int (nI i))] []) : LU q x Q M1 M2 1547 [(0, .ref b), (1, .ref ((wX q).2.2.1 0)), (2, .ref ((wY q).2.2.1 0)), (3, .int (nI i))] [] := by
  obtain ⟨q1, q2, e1, e2, e3, e4⟩ := hs  M1 M2 hR
  refine l_aload_n g 1 dL_law_1547 rfl ?_
  refine l_callX (st := []) (v := .int q1) g wv_L_191 [] rfl (t_X10_status (wX q) x.2.1 e1) (by decide) (by decide) rfl (Nat.le_of_ble_eq_true rfl) rfl dL_law_1548 ?_
  refine l_aload_n g 2 dL_law_1551 rfl ?_
  refine l_callY (st := [.int q1]) (v := .int q2.1) g wv_L_194 [] rfl (t_X11_status (wY q) x.2.1 e2) (by decide) (by decide) rfl (Nat.le_of_ble_eq_true rfl) rfl dL_law_1552 ?_
  refine l_icmp_eq g 1560 dL_law_1555 (by decide) e3 ?_
  exact K _ _ e4
set_option maxRecDepth 100000 in
set_option maxHeartbeats 4000000 in
theorem law_loop {Rel : Mem → Mem → Prop} (hs : Steps Rel) {q : Lp} {x : Cx} {Q : State → Prop} {b n : Nat} {xs : Nat → Int32} (g : LG q x b n xs) (hn : n ≤ 3584) (hend : ∀ M1 M2 L, LU q x Q M1 M2 1566 L []) : ∀ (k i : Nat) (M1 M2 : Mem), i ≤ n + 7 → n + 8 ≤ i + k → Rel M1 M2 → LU q x Q M1 M2 18 [(0, .ref b), (1, .ref ((wX q).2.2.1 0)), (2, .ref ((wY q).2.2.1 0)), (3, .int (nI i))] [] := by
  obtain ⟨h_keeper, h_tenths, h_keeperOf, h_list, h_told, h_most, h_grid, h_wall, h_tree, h_plane, h_join, h_dual, h_thin, h_both, h_better, h_family, h_quorum, h_has, h_apart, h_hit, h_falls, h_liars, h_chance, h_even, h_part, h_partOf, h_load, h_loadOf, h_weight, h_bound, h_proved, h_witness, h_names, h_forge, h_judge, h_lay, h_lies, h_taken, h_copy, h_use, h_undo, h_size, h_status⟩ := hs
  intro k
  induction k with
  | zero => intro i M1 M2 h1 h2; omega
  | succ k ih =>
    intro i M1 M2 h1 h2 hR
    refine l_iload_n g 3 dL_law_18 rfl ?_
    refine l_aload_n g 0 dL_law_19 rfl ?_
    refine l_slen g dL_law_20 ?_
    refine l_bipush g (v := 7) dL_law_21 rfl ?_
    refine l_isub g dL_law_23 ?_
    refine l_icmp_gt g 1566 dL_law_24 (by decide) (fun c => hend _ _ _) (fun c => ?_)
    have hi : i + 7 ≤ n := by
      rcases Nat.lt_or_ge n 7 with h7 | h7
      · refine absurd ?_ c
        have e : nI n - nI 7 < 0 := pk_sneg (by decide) h7
        have e2 : (0 : Int32) ≤ nI i := nI_pos' (by omega)
        show nI n - nI 7 < nI i
        rw [Int32.lt_iff_toInt_lt] at e ⊢
        rw [Int32.le_iff_toInt_le] at e2
        exact Int.lt_of_lt_of_le e e2
      · rcases Nat.lt_or_ge n (i + 7) with h8 | h8
        · refine absurd ?_ c
          show nI n - nI 7 < nI i
          rw [pk_sub h7]
          exact nI_lt (by omega) (by omega)
        · exact h8
    have K : ∀ N1 N2, Rel N1 N2 → LU q x Q N1 N2 1560 [(0, .ref b), (1, .ref ((wX q).2.2.1 0)), (2, .ref ((wY q).2.2.1 0)), (3, .int (nI i))] [] := by
      intro N1 N2 hN
      refine l_iinc g 3 [(3, .int (nI i + nI 7)), (0, .ref b), (1, .ref ((wX q).2.2.1 0)), (2, .ref ((wY q).2.2.1 0))] dL_law_1560 rfl rfl (by decide) rfl ?_
      refine l_goto g 18 dL_law_1563 (by decide) ?_
      rw [nI_add]
      exact l_sub [1, 2, 3, 0] rfl (ih (i + 7) N1 N2 (by omega) (by omega) hN)
    refine l_aload_n g 0 dL_law_27 rfl ?_
    refine l_iload_n g 3 dL_law_28 rfl ?_
    refine l_sld g (vp_in_nI (by omega) (by omega)) dL_law_29 ?_
    refine l_bipush g (v := 63) dL_law_30 rfl ?_
    refine l_iand g dL_law_32 ?_
    generalize xs (nI i).toNatClampNeg &&& 63 = z
    by_cases b0 : z = 0
    · exact l_tableIn g 220 dL_law_33 0 b0 rfl rfl (by decide) (lc_keeper h_keeper g hn hi hR K)
    by_cases b1 : z = 1
    · exact l_tableIn g 253 dL_law_33 1 b1 rfl rfl (by decide) (lc_tenths h_tenths g hn hi hR K)
    by_cases b2 : z = 2
    · exact l_tableIn g 286 dL_law_33 2 b2 rfl rfl (by decide) (lc_keeperOf h_keeperOf g hn hi hR K)
    by_cases b3 : z = 3
    · exact l_tableIn g 319 dL_law_33 3 b3 rfl rfl (by decide) (lc_list h_list g hn hi hR K)
    by_cases b4 : z = 4
    · exact l_tableIn g 342 dL_law_33 4 b4 rfl rfl (by decide) (lc_told h_told g hn hi hR K)
    by_cases b5 : z = 5
    · exact l_tableIn g 355 dL_law_33 5 b5 rfl rfl (by decide) (lc_most h_most g hn hi hR K)
    by_cases b6 : z = 6
    · exact l_tableIn g 378 dL_law_33 6 b6 rfl rfl (by decide) (lc_grid h_grid g hn hi hR K)
    by_cases b7 : z = 7
    · exact l_tableIn g 421 dL_law_33 7 b7 rfl rfl (by decide) (lc_wall h_wall g hn hi hR K)
    by_cases b8 : z = 8
    · exact l_tableIn g 496 dL_law_33 8 b8 rfl rfl (by decide) (lc_tree h_tree g hn hi hR K)
    by_cases b9 : z = 9
    · exact l_tableIn g 529 dL_law_33 9 b9 rfl rfl (by decide) (lc_plane h_plane g hn hi hR K)
    by_cases b10 : z = 10
    · exact l_tableIn g 562 dL_law_33 10 b10 rfl rfl (by decide) (lc_join h_join g hn hi hR K)
    by_cases b11 : z = 11
    · exact l_tableIn g 605 dL_law_33 11 b11 rfl rfl (by decide) (lc_dual h_dual g hn hi hR K)
    by_cases b12 : z = 12
    · exact l_tableIn g 628 dL_law_33 12 b12 rfl rfl (by decide) (lc_thin h_thin g hn hi hR K)
    by_cases b13 : z = 13
    · exact l_tableIn g 661 dL_law_33 13 b13 rfl rfl (by decide) (lc_both h_both g hn hi hR K)
    by_cases b14 : z = 14
    · exact l_tableIn g 694 dL_law_33 14 b14 rfl rfl (by decide) (lc_better h_better g hn hi hR K)
    by_cases b15 : z = 15
    · exact l_tableIn g 717 dL_law_33 15 b15 rfl rfl (by decide) (lc_family h_family g hn hi hR K)
    by_cases b16 : z = 16
    · exact l_tableIn g 750 dL_law_33 16 b16 rfl rfl (by decide) (lc_quorum h_quorum g hn hi hR K)
    by_cases b17 : z = 17
    · exact l_tableIn g 783 dL_law_33 17 b17 rfl rfl (by decide) (lc_has h_has g hn hi hR K)
    by_cases b18 : z = 18
    · exact l_tableIn g 816 dL_law_33 18 b18 rfl rfl (by decide) (lc_apart h_apart g hn hi hR K)
    by_cases b19 : z = 19
    · exact l_tableIn g 849 dL_law_33 19 b19 rfl rfl (by decide) (lc_hit h_hit g hn hi hR K)
    by_cases b20 : z = 20
    · exact l_tableIn g 872 dL_law_33 20 b20 rfl rfl (by decide) (lc_falls h_falls g hn hi hR K)
    by_cases b21 : z = 21
    · exact l_tableIn g 895 dL_law_33 21 b21 rfl rfl (by decide) (lc_liars h_liars g hn hi hR K)
    by_cases b22 : z = 22
    · exact l_tableIn g 944 dL_law_33 22 b22 rfl rfl (by decide) (lc_chance h_chance g hn hi hR K)
    by_cases b23 : z = 23
    · exact l_tableIn g 968 dL_law_33 23 b23 rfl rfl (by decide) (lc_even h_even g hn hi hR K)
    by_cases b24 : z = 24
    · exact l_tableIn g 991 dL_law_33 24 b24 rfl rfl (by decide) (lc_part h_part g hn hi hR K)
    by_cases b25 : z = 25
    · exact l_tableIn g 1024 dL_law_33 25 b25 rfl rfl (by decide) (lc_partOf h_partOf g hn hi hR K)
    by_cases b26 : z = 26
    · exact l_tableIn g 1047 dL_law_33 26 b26 rfl rfl (by decide) (lc_load h_load g hn hi hR K)
    by_cases b27 : z = 27
    · exact l_tableIn g 1070 dL_law_33 27 b27 rfl rfl (by decide) (lc_loadOf h_loadOf g hn hi hR K)
    by_cases b28 : z = 28
    · exact l_tableIn g 1119 dL_law_33 28 b28 rfl rfl (by decide) (lc_weight h_weight g hn hi hR K)
    by_cases b29 : z = 29
    · exact l_tableIn g 1152 dL_law_33 29 b29 rfl rfl (by decide) (lc_bound h_bound g hn hi hR K)
    by_cases b30 : z = 30
    · exact l_tableIn g 1201 dL_law_33 30 b30 rfl rfl (by decide) (lc_proved h_proved g hn hi hR K)
    by_cases b31 : z = 31
    · exact l_tableIn g 1214 dL_law_33 31 b31 rfl rfl (by decide) (lc_witness h_witness g hn hi hR K)
    by_cases b32 : z = 32
    · exact l_tableIn g 1237 dL_law_33 32 b32 rfl rfl (by decide) (lc_names h_names g hn hi hR K)
    by_cases b33 : z = 33
    · exact l_tableIn g 1260 dL_law_33 33 b33 rfl rfl (by decide) (lc_forge h_forge g hn hi hR K)
    by_cases b34 : z = 34
    · exact l_tableIn g 1293 dL_law_33 34 b34 rfl rfl (by decide) (lc_judge h_judge g hn hi hR K)
    by_cases b35 : z = 35
    · exact l_tableIn g 1316 dL_law_33 35 b35 rfl rfl (by decide) (lc_lay h_lay g hn hi hR K)
    by_cases b36 : z = 36
    · exact l_tableIn g 1359 dL_law_33 36 b36 rfl rfl (by decide) (lc_lies h_lies g hn hi hR K)
    by_cases b37 : z = 37
    · exact l_tableIn g 1382 dL_law_33 37 b37 rfl rfl (by decide) (lc_taken h_taken g hn hi hR K)
    by_cases b38 : z = 38
    · exact l_tableIn g 1425 dL_law_33 38 b38 rfl rfl (by decide) (lc_copy h_copy g hn hi hR K)
    by_cases b39 : z = 39
    · exact l_tableIn g 1488 dL_law_33 39 b39 rfl rfl (by decide) (lc_use h_use g hn hi hR K)
    by_cases b40 : z = 40
    · exact l_tableIn g 1511 dL_law_33 40 b40 rfl rfl (by decide) (lc_undo h_undo g hn hi hR K)
    by_cases b41 : z = 41
    · exact l_tableIn g 1524 dL_law_33 41 b41 rfl rfl (by decide) (lc_size h_size g hn hi hR K)
    by_cases b42 : z = 42
    · exact l_tableIn g 1547 dL_law_33 42 b42 rfl rfl (by decide) (lc_status h_status g hn hi hR K)
    exact l_tableOut g 1560 dL_law_33 (sw_out 42 (by decide) _ rfl (fun j hj => match j, hj with | 0, _ => b0 | 1, _ => b1 | 2, _ => b2 | 3, _ => b3 | 4, _ => b4 | 5, _ => b5 | 6, _ => b6 | 7, _ => b7 | 8, _ => b8 | 9, _ => b9 | 10, _ => b10 | 11, _ => b11 | 12, _ => b12 | 13, _ => b13 | 14, _ => b14 | 15, _ => b15 | 16, _ => b16 | 17, _ => b17 | 18, _ => b18 | 19, _ => b19 | 20, _ => b20 | 21, _ => b21 | 22, _ => b22 | 23, _ => b23 | 24, _ => b24 | 25, _ => b25 | 26, _ => b26 | 27, _ => b27 | 28, _ => b28 | 29, _ => b29 | 30, _ => b30 | 31, _ => b31 | 32, _ => b32 | 33, _ => b33 | 34, _ => b34 | 35, _ => b35 | 36, _ => b36 | 37, _ => b37 | 38, _ => b38 | 39, _ => b39 | 40, _ => b40 | 41, _ => b41 | 42, _ => b42 | k + 43, hk => absurd hk (by omega))) (by decide) (K _ _ hR)
