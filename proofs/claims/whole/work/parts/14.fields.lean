section FRows
variable {w : Wp} {x : Cx} {r : Option Value × Mem} {M : Mem} {pc : Nat} {L : List (Nat × Value)} {st : List Value} {own : String} {cc : ByteArray} {n : Nat} {rt : Option FieldType} {d : Nat}
theorem gfX0_0 (g : Gd shX w x own cc n rt d) {c : Nat} (hk : kX c = 0) {ix : Nat} (hl : Cond.fieldLink own ix "MeetHouse$Act" "kind" "I" ∈ tbG) {v : Int32} (hv : M.1 c 0 = v) (hd : decode cc pc = .ok (.getfield ix, 3)) (kk : U shX w x r M (pc + 3) L (.int v :: st)) : U shX w x r M pc L (.ref (w.2.2.1 c) :: st) := by
  subst hv
  exact u_get g (kX_lt hk rfl) (ceX_0 hk) rfl inX0 0 (by decide) hl rfl hd kk
theorem pfX0_0 (g : Gd shX w x own cc n rt d) {c : Nat} (hk : kX c = 0) {ix : Nat} (hl : Cond.fieldLink own ix "MeetHouse$Act" "kind" "I" ∈ tbG) {v : Int32} (hd : decode cc pc = .ok (.putfield ix, 3)) (kk : U shX w x r (sI M c 0 v) (pc + 3) L st) : U shX w x r M pc L (.int v :: .ref (w.2.2.1 c) :: st) := by
  refine u_put g (kX_lt hk rfl) (ceX_0 hk) rfl inX0 tyX0 tyX0_ok nmX0 0 (by decide) hl rfl rfl rfl (by simp) ?_ hd kk
  rw [ceX_0 hk]
  simp [sI]
theorem gfX0_1 (g : Gd shX w x own cc n rt d) {c : Nat} (hk : kX c = 0) {ix : Nat} (hl : Cond.fieldLink own ix "MeetHouse$Act" "which" "I" ∈ tbG) {v : Int32} (hv : M.1 c 1 = v) (hd : decode cc pc = .ok (.getfield ix, 3)) (kk : U shX w x r M (pc + 3) L (.int v :: st)) : U shX w x r M pc L (.ref (w.2.2.1 c) :: st) := by
  subst hv
  exact u_get g (kX_lt hk rfl) (ceX_0 hk) rfl inX0 1 (by decide) hl rfl hd kk
theorem pfX0_1 (g : Gd shX w x own cc n rt d) {c : Nat} (hk : kX c = 0) {ix : Nat} (hl : Cond.fieldLink own ix "MeetHouse$Act" "which" "I" ∈ tbG) {v : Int32} (hd : decode cc pc = .ok (.putfield ix, 3)) (kk : U shX w x r (sI M c 1 v) (pc + 3) L st) : U shX w x r M pc L (.int v :: .ref (w.2.2.1 c) :: st) := by
  refine u_put g (kX_lt hk rfl) (ceX_0 hk) rfl inX0 tyX0 tyX0_ok nmX0 1 (by decide) hl rfl rfl rfl (by simp) ?_ hd kk
  rw [ceX_0 hk]
  simp [sI]
theorem gfX0_2 (g : Gd shX w x own cc n rt d) {c : Nat} (hk : kX c = 0) {ix : Nat} (hl : Cond.fieldLink own ix "MeetHouse$Act" "before" "I" ∈ tbG) {v : Int32} (hv : M.1 c 2 = v) (hd : decode cc pc = .ok (.getfield ix, 3)) (kk : U shX w x r M (pc + 3) L (.int v :: st)) : U shX w x r M pc L (.ref (w.2.2.1 c) :: st) := by
  subst hv
  exact u_get g (kX_lt hk rfl) (ceX_0 hk) rfl inX0 2 (by decide) hl rfl hd kk
theorem pfX0_2 (g : Gd shX w x own cc n rt d) {c : Nat} (hk : kX c = 0) {ix : Nat} (hl : Cond.fieldLink own ix "MeetHouse$Act" "before" "I" ∈ tbG) {v : Int32} (hd : decode cc pc = .ok (.putfield ix, 3)) (kk : U shX w x r (sI M c 2 v) (pc + 3) L st) : U shX w x r M pc L (.int v :: .ref (w.2.2.1 c) :: st) := by
  refine u_put g (kX_lt hk rfl) (ceX_0 hk) rfl inX0 tyX0 tyX0_ok nmX0 2 (by decide) hl rfl rfl rfl (by simp) ?_ hd kk
  rw [ceX_0 hk]
  simp [sI]
theorem gfX0_3 (g : Gd shX w x own cc n rt d) {c : Nat} (hk : kX c = 0) {ix : Nat} (hl : Cond.fieldLink own ix "MeetHouse$Act" "thing" "LMeetHouse$Thing;" ∈ tbG) (hd : decode cc pc = .ok (.getfield ix, 3)) (kk : U shX w x r M (pc + 3) L (.ref (w.2.2.1 (c + 1)) :: st)) : U shX w x r M pc L (.ref (w.2.2.1 c) :: st) := u_get g (kX_lt hk rfl) (ceX_0 hk) rfl inX0 3 (by decide) hl rfl hd kk
theorem gfX1_0 (g : Gd shX w x own cc n rt d) {c : Nat} (hk : kX c = 1) {ix : Nat} (hl : Cond.fieldLink own ix "MeetHouse$Family" "kind" "I" ∈ tbG) {v : Int32} (hv : M.1 c 0 = v) (hd : decode cc pc = .ok (.getfield ix, 3)) (kk : U shX w x r M (pc + 3) L (.int v :: st)) : U shX w x r M pc L (.ref (w.2.2.1 c) :: st) := by
  subst hv
  exact u_get g (kX_lt hk rfl) (ceX_1 hk) rfl inX1 0 (by decide) hl rfl hd kk
theorem pfX1_0 (g : Gd shX w x own cc n rt d) {c : Nat} (hk : kX c = 1) {ix : Nat} (hl : Cond.fieldLink own ix "MeetHouse$Family" "kind" "I" ∈ tbG) {v : Int32} (hd : decode cc pc = .ok (.putfield ix, 3)) (kk : U shX w x r (sI M c 0 v) (pc + 3) L st) : U shX w x r M pc L (.int v :: .ref (w.2.2.1 c) :: st) := by
  refine u_put g (kX_lt hk rfl) (ceX_1 hk) rfl inX1 tyX1 tyX1_ok nmX1 0 (by decide) hl rfl rfl rfl (by simp) ?_ hd kk
  rw [ceX_1 hk]
  simp [sI]
theorem gfX1_1 (g : Gd shX w x own cc n rt d) {c : Nat} (hk : kX c = 1) {ix : Nat} (hl : Cond.fieldLink own ix "MeetHouse$Family" "count" "I" ∈ tbG) {v : Int32} (hv : M.1 c 1 = v) (hd : decode cc pc = .ok (.getfield ix, 3)) (kk : U shX w x r M (pc + 3) L (.int v :: st)) : U shX w x r M pc L (.ref (w.2.2.1 c) :: st) := by
  subst hv
  exact u_get g (kX_lt hk rfl) (ceX_1 hk) rfl inX1 1 (by decide) hl rfl hd kk
theorem pfX1_1 (g : Gd shX w x own cc n rt d) {c : Nat} (hk : kX c = 1) {ix : Nat} (hl : Cond.fieldLink own ix "MeetHouse$Family" "count" "I" ∈ tbG) {v : Int32} (hd : decode cc pc = .ok (.putfield ix, 3)) (kk : U shX w x r (sI M c 1 v) (pc + 3) L st) : U shX w x r M pc L (.int v :: .ref (w.2.2.1 c) :: st) := by
  refine u_put g (kX_lt hk rfl) (ceX_1 hk) rfl inX1 tyX1 tyX1_ok nmX1 1 (by decide) hl rfl rfl rfl (by simp) ?_ hd kk
  rw [ceX_1 hk]
  simp [sI]
theorem gfX1_2 (g : Gd shX w x own cc n rt d) {c : Nat} (hk : kX c = 1) {ix : Nat} (hl : Cond.fieldLink own ix "MeetHouse$Family" "sets" "[I" ∈ tbG) (hd : decode cc pc = .ok (.getfield ix, 3)) (kk : U shX w x r M (pc + 3) L (.ref (w.2.2.1 (c + 1)) :: st)) : U shX w x r M pc L (.ref (w.2.2.1 c) :: st) := u_get g (kX_lt hk rfl) (ceX_1 hk) rfl inX1 2 (by decide) hl rfl hd kk
theorem gfX2_0 (g : Gd shX w x own cc n rt d) {c : Nat} (hk : kX c = 2) {ix : Nat} (hl : Cond.fieldLink own ix "MeetHouse$Fraction" "upper" "I" ∈ tbG) {v : Int32} (hv : M.1 c 0 = v) (hd : decode cc pc = .ok (.getfield ix, 3)) (kk : U shX w x r M (pc + 3) L (.int v :: st)) : U shX w x r M pc L (.ref (w.2.2.1 c) :: st) := by
  subst hv
  exact u_get g (kX_lt hk rfl) (ceX_2 hk) rfl inX2 0 (by decide) hl rfl hd kk
theorem pfX2_0 (g : Gd shX w x own cc n rt d) {c : Nat} (hk : kX c = 2) {ix : Nat} (hl : Cond.fieldLink own ix "MeetHouse$Fraction" "upper" "I" ∈ tbG) {v : Int32} (hd : decode cc pc = .ok (.putfield ix, 3)) (kk : U shX w x r (sI M c 0 v) (pc + 3) L st) : U shX w x r M pc L (.int v :: .ref (w.2.2.1 c) :: st) := by
  refine u_put g (kX_lt hk rfl) (ceX_2 hk) rfl inX2 tyX2 tyX2_ok nmX2 0 (by decide) hl rfl rfl rfl (by simp) ?_ hd kk
  rw [ceX_2 hk]
  simp [sI]
theorem gfX2_1 (g : Gd shX w x own cc n rt d) {c : Nat} (hk : kX c = 2) {ix : Nat} (hl : Cond.fieldLink own ix "MeetHouse$Fraction" "lower" "I" ∈ tbG) {v : Int32} (hv : M.1 c 1 = v) (hd : decode cc pc = .ok (.getfield ix, 3)) (kk : U shX w x r M (pc + 3) L (.int v :: st)) : U shX w x r M pc L (.ref (w.2.2.1 c) :: st) := by
  subst hv
  exact u_get g (kX_lt hk rfl) (ceX_2 hk) rfl inX2 1 (by decide) hl rfl hd kk
theorem pfX2_1 (g : Gd shX w x own cc n rt d) {c : Nat} (hk : kX c = 2) {ix : Nat} (hl : Cond.fieldLink own ix "MeetHouse$Fraction" "lower" "I" ∈ tbG) {v : Int32} (hd : decode cc pc = .ok (.putfield ix, 3)) (kk : U shX w x r (sI M c 1 v) (pc + 3) L st) : U shX w x r M pc L (.int v :: .ref (w.2.2.1 c) :: st) := by
  refine u_put g (kX_lt hk rfl) (ceX_2 hk) rfl inX2 tyX2 tyX2_ok nmX2 1 (by decide) hl rfl rfl rfl (by simp) ?_ hd kk
  rw [ceX_2 hk]
  simp [sI]
theorem gfX3_0 (g : Gd shX w x own cc n rt d) {c : Nat} (hk : kX c = 3) {ix : Nat} (hl : Cond.fieldLink own ix "MeetHouse$Gatherer" "pot" "LMeetHouse$Pot;" ∈ tbG) (hd : decode cc pc = .ok (.getfield ix, 3)) (kk : U shX w x r M (pc + 3) L (.ref (w.2.2.1 255) :: st)) : U shX w x r M pc L (.ref (w.2.2.1 c) :: st) := u_get g (kX_lt hk rfl) (ceX_3 hk) rfl inX3 0 (by decide) hl rfl hd kk
theorem gfX3_1 (g : Gd shX w x own cc n rt d) {c : Nat} (hk : kX c = 3) {ix : Nat} (hl : Cond.fieldLink own ix "MeetHouse$Gatherer" "ways" "[I" ∈ tbG) (hd : decode cc pc = .ok (.getfield ix, 3)) (kk : U shX w x r M (pc + 3) L (.ref (w.2.2.1 258) :: st)) : U shX w x r M pc L (.ref (w.2.2.1 c) :: st) := u_get g (kX_lt hk rfl) (ceX_3 hk) rfl inX3 1 (by decide) hl rfl hd kk
theorem gfX3_2 (g : Gd shX w x own cc n rt d) {c : Nat} (hk : kX c = 3) {ix : Nat} (hl : Cond.fieldLink own ix "MeetHouse$Gatherer" "starts" "[I" ∈ tbG) (hd : decode cc pc = .ok (.getfield ix, 3)) (kk : U shX w x r M (pc + 3) L (.ref (w.2.2.1 259) :: st)) : U shX w x r M pc L (.ref (w.2.2.1 c) :: st) := u_get g (kX_lt hk rfl) (ceX_3 hk) rfl inX3 2 (by decide) hl rfl hd kk
theorem gfX3_3 (g : Gd shX w x own cc n rt d) {c : Nat} (hk : kX c = 3) {ix : Nat} (hl : Cond.fieldLink own ix "MeetHouse$Gatherer" "lengths" "[I" ∈ tbG) (hd : decode cc pc = .ok (.getfield ix, 3)) (kk : U shX w x r M (pc + 3) L (.ref (w.2.2.1 260) :: st)) : U shX w x r M pc L (.ref (w.2.2.1 c) :: st) := u_get g (kX_lt hk rfl) (ceX_3 hk) rfl inX3 3 (by decide) hl rfl hd kk
theorem gfX3_4 (g : Gd shX w x own cc n rt d) {c : Nat} (hk : kX c = 3) {ix : Nat} (hl : Cond.fieldLink own ix "MeetHouse$Gatherer" "rowCount" "I" ∈ tbG) {v : Int32} (hv : M.1 c 4 = v) (hd : decode cc pc = .ok (.getfield ix, 3)) (kk : U shX w x r M (pc + 3) L (.int v :: st)) : U shX w x r M pc L (.ref (w.2.2.1 c) :: st) := by
  subst hv
  exact u_get g (kX_lt hk rfl) (ceX_3 hk) rfl inX3 4 (by decide) hl rfl hd kk
theorem pfX3_4 (g : Gd shX w x own cc n rt d) {c : Nat} (hk : kX c = 3) {ix : Nat} (hl : Cond.fieldLink own ix "MeetHouse$Gatherer" "rowCount" "I" ∈ tbG) {v : Int32} (hd : decode cc pc = .ok (.putfield ix, 3)) (kk : U shX w x r (sI M c 4 v) (pc + 3) L st) : U shX w x r M pc L (.int v :: .ref (w.2.2.1 c) :: st) := by
  refine u_put g (kX_lt hk rfl) (ceX_3 hk) rfl inX3 tyX3 tyX3_ok nmX3 4 (by decide) hl rfl rfl rfl (by simp) ?_ hd kk
  rw [ceX_3 hk]
  simp [sI]
theorem gfX3_5 (g : Gd shX w x own cc n rt d) {c : Nat} (hk : kX c = 3) {ix : Nat} (hl : Cond.fieldLink own ix "MeetHouse$Gatherer" "rowsEnded" "Z" ∈ tbG) {v : Int32} (hv : M.1 c 5 = v) (hd : decode cc pc = .ok (.getfield ix, 3)) (kk : U shX w x r M (pc + 3) L (.int v :: st)) : U shX w x r M pc L (.ref (w.2.2.1 c) :: st) := by
  subst hv
  exact u_get g (kX_lt hk rfl) (ceX_3 hk) rfl inX3 5 (by decide) hl rfl hd kk
theorem pfX3_5 (g : Gd shX w x own cc n rt d) {c : Nat} (hk : kX c = 3) {ix : Nat} (hl : Cond.fieldLink own ix "MeetHouse$Gatherer" "rowsEnded" "Z" ∈ tbG) {v : Int32} (hb : isB v) (hd : decode cc pc = .ok (.putfield ix, 3)) (kk : U shX w x r (sI M c 5 v) (pc + 3) L st) : U shX w x r M pc L (.int v :: .ref (w.2.2.1 c) :: st) := by
  refine u_put g (kX_lt hk rfl) (ceX_3 hk) rfl inX3 tyX3 tyX3_ok nmX3 5 (by decide) hl rfl (isB_narrow hb) (isB_fits hb) (by simp) ?_ hd kk
  rw [ceX_3 hk]
  simp [sI]
theorem gfX3_6 (g : Gd shX w x own cc n rt d) {c : Nat} (hk : kX c = 3) {ix : Nat} (hl : Cond.fieldLink own ix "MeetHouse$Gatherer" "bits" "[I" ∈ tbG) (hd : decode cc pc = .ok (.getfield ix, 3)) (kk : U shX w x r M (pc + 3) L (.ref (w.2.2.1 261) :: st)) : U shX w x r M pc L (.ref (w.2.2.1 c) :: st) := u_get g (kX_lt hk rfl) (ceX_3 hk) rfl inX3 6 (by decide) hl rfl hd kk
theorem gfX3_7 (g : Gd shX w x own cc n rt d) {c : Nat} (hk : kX c = 3) {ix : Nat} (hl : Cond.fieldLink own ix "MeetHouse$Gatherer" "strengths" "[I" ∈ tbG) (hd : decode cc pc = .ok (.getfield ix, 3)) (kk : U shX w x r M (pc + 3) L (.ref (w.2.2.1 262) :: st)) : U shX w x r M pc L (.ref (w.2.2.1 c) :: st) := u_get g (kX_lt hk rfl) (ceX_3 hk) rfl inX3 7 (by decide) hl rfl hd kk
theorem gfX3_8 (g : Gd shX w x own cc n rt d) {c : Nat} (hk : kX c = 3) {ix : Nat} (hl : Cond.fieldLink own ix "MeetHouse$Gatherer" "strongCount" "I" ∈ tbG) {v : Int32} (hv : M.1 c 8 = v) (hd : decode cc pc = .ok (.getfield ix, 3)) (kk : U shX w x r M (pc + 3) L (.int v :: st)) : U shX w x r M pc L (.ref (w.2.2.1 c) :: st) := by
  subst hv
  exact u_get g (kX_lt hk rfl) (ceX_3 hk) rfl inX3 8 (by decide) hl rfl hd kk
theorem pfX3_8 (g : Gd shX w x own cc n rt d) {c : Nat} (hk : kX c = 3) {ix : Nat} (hl : Cond.fieldLink own ix "MeetHouse$Gatherer" "strongCount" "I" ∈ tbG) {v : Int32} (hd : decode cc pc = .ok (.putfield ix, 3)) (kk : U shX w x r (sI M c 8 v) (pc + 3) L st) : U shX w x r M pc L (.int v :: .ref (w.2.2.1 c) :: st) := by
  refine u_put g (kX_lt hk rfl) (ceX_3 hk) rfl inX3 tyX3 tyX3_ok nmX3 8 (by decide) hl rfl rfl rfl (by simp) ?_ hd kk
  rw [ceX_3 hk]
  simp [sI]
theorem gfX3_9 (g : Gd shX w x own cc n rt d) {c : Nat} (hk : kX c = 3) {ix : Nat} (hl : Cond.fieldLink own ix "MeetHouse$Gatherer" "found" "I" ∈ tbG) {v : Int32} (hv : M.1 c 9 = v) (hd : decode cc pc = .ok (.getfield ix, 3)) (kk : U shX w x r M (pc + 3) L (.int v :: st)) : U shX w x r M pc L (.ref (w.2.2.1 c) :: st) := by
  subst hv
  exact u_get g (kX_lt hk rfl) (ceX_3 hk) rfl inX3 9 (by decide) hl rfl hd kk
theorem pfX3_9 (g : Gd shX w x own cc n rt d) {c : Nat} (hk : kX c = 3) {ix : Nat} (hl : Cond.fieldLink own ix "MeetHouse$Gatherer" "found" "I" ∈ tbG) {v : Int32} (hd : decode cc pc = .ok (.putfield ix, 3)) (kk : U shX w x r (sI M c 9 v) (pc + 3) L st) : U shX w x r M pc L (.int v :: .ref (w.2.2.1 c) :: st) := by
  refine u_put g (kX_lt hk rfl) (ceX_3 hk) rfl inX3 tyX3 tyX3_ok nmX3 9 (by decide) hl rfl rfl rfl (by simp) ?_ hd kk
  rw [ceX_3 hk]
  simp [sI]
theorem gfX4_0 (g : Gd shX w x own cc n rt d) {c : Nat} (hk : kX c = 4) {ix : Nat} (hl : Cond.fieldLink own ix "MeetHouse$History" "acts" "[LMeetHouse$Act;" ∈ tbG) (hd : decode cc pc = .ok (.getfield ix, 3)) (kk : U shX w x r M (pc + 3) L (.ref (w.2.2.1 11) :: st)) : U shX w x r M pc L (.ref (w.2.2.1 c) :: st) := u_get g (kX_lt hk rfl) (ceX_4 hk) rfl inX4 0 (by decide) hl rfl hd kk
theorem gfX4_1 (g : Gd shX w x own cc n rt d) {c : Nat} (hk : kX c = 4) {ix : Nat} (hl : Cond.fieldLink own ix "MeetHouse$History" "first" "I" ∈ tbG) {v : Int32} (hv : M.1 c 1 = v) (hd : decode cc pc = .ok (.getfield ix, 3)) (kk : U shX w x r M (pc + 3) L (.int v :: st)) : U shX w x r M pc L (.ref (w.2.2.1 c) :: st) := by
  subst hv
  exact u_get g (kX_lt hk rfl) (ceX_4 hk) rfl inX4 1 (by decide) hl rfl hd kk
theorem pfX4_1 (g : Gd shX w x own cc n rt d) {c : Nat} (hk : kX c = 4) {ix : Nat} (hl : Cond.fieldLink own ix "MeetHouse$History" "first" "I" ∈ tbG) {v : Int32} (hd : decode cc pc = .ok (.putfield ix, 3)) (kk : U shX w x r (sI M c 1 v) (pc + 3) L st) : U shX w x r M pc L (.int v :: .ref (w.2.2.1 c) :: st) := by
  refine u_put g (kX_lt hk rfl) (ceX_4 hk) rfl inX4 tyX4 tyX4_ok nmX4 1 (by decide) hl rfl rfl rfl (by simp) ?_ hd kk
  rw [ceX_4 hk]
  simp [sI]
theorem gfX4_2 (g : Gd shX w x own cc n rt d) {c : Nat} (hk : kX c = 4) {ix : Nat} (hl : Cond.fieldLink own ix "MeetHouse$History" "held" "I" ∈ tbG) {v : Int32} (hv : M.1 c 2 = v) (hd : decode cc pc = .ok (.getfield ix, 3)) (kk : U shX w x r M (pc + 3) L (.int v :: st)) : U shX w x r M pc L (.ref (w.2.2.1 c) :: st) := by
  subst hv
  exact u_get g (kX_lt hk rfl) (ceX_4 hk) rfl inX4 2 (by decide) hl rfl hd kk
theorem pfX4_2 (g : Gd shX w x own cc n rt d) {c : Nat} (hk : kX c = 4) {ix : Nat} (hl : Cond.fieldLink own ix "MeetHouse$History" "held" "I" ∈ tbG) {v : Int32} (hd : decode cc pc = .ok (.putfield ix, 3)) (kk : U shX w x r (sI M c 2 v) (pc + 3) L st) : U shX w x r M pc L (.int v :: .ref (w.2.2.1 c) :: st) := by
  refine u_put g (kX_lt hk rfl) (ceX_4 hk) rfl inX4 tyX4 tyX4_ok nmX4 2 (by decide) hl rfl rfl rfl (by simp) ?_ hd kk
  rw [ceX_4 hk]
  simp [sI]
theorem gfX5_0 (g : Gd shX w x own cc n rt d) {c : Nat} (hk : kX c = 5) {ix : Nat} (hl : Cond.fieldLink own ix "MeetHouse$Keepers" "count" "I" ∈ tbG) {v : Int32} (hv : M.1 c 0 = v) (hd : decode cc pc = .ok (.getfield ix, 3)) (kk : U shX w x r M (pc + 3) L (.int v :: st)) : U shX w x r M pc L (.ref (w.2.2.1 c) :: st) := by
  subst hv
  exact u_get g (kX_lt hk rfl) (ceX_5 hk) rfl inX5 0 (by decide) hl rfl hd kk
theorem pfX5_0 (g : Gd shX w x own cc n rt d) {c : Nat} (hk : kX c = 5) {ix : Nat} (hl : Cond.fieldLink own ix "MeetHouse$Keepers" "count" "I" ∈ tbG) {v : Int32} (hd : decode cc pc = .ok (.putfield ix, 3)) (kk : U shX w x r (sI M c 0 v) (pc + 3) L st) : U shX w x r M pc L (.int v :: .ref (w.2.2.1 c) :: st) := by
  refine u_put g (kX_lt hk rfl) (ceX_5 hk) rfl inX5 tyX5 tyX5_ok nmX5 0 (by decide) hl rfl rfl rfl (by simp) ?_ hd kk
  rw [ceX_5 hk]
  simp [sI]
theorem gfX5_1 (g : Gd shX w x own cc n rt d) {c : Nat} (hk : kX c = 5) {ix : Nat} (hl : Cond.fieldLink own ix "MeetHouse$Keepers" "strengths" "[I" ∈ tbG) (hd : decode cc pc = .ok (.getfield ix, 3)) (kk : U shX w x r M (pc + 3) L (.ref (w.2.2.1 2) :: st)) : U shX w x r M pc L (.ref (w.2.2.1 c) :: st) := u_get g (kX_lt hk rfl) (ceX_5 hk) rfl inX5 1 (by decide) hl rfl hd kk
theorem gfX5_2 (g : Gd shX w x own cc n rt d) {c : Nat} (hk : kX c = 5) {ix : Nat} (hl : Cond.fieldLink own ix "MeetHouse$Keepers" "tenthsThere" "[I" ∈ tbG) (hd : decode cc pc = .ok (.getfield ix, 3)) (kk : U shX w x r M (pc + 3) L (.ref (w.2.2.1 3) :: st)) : U shX w x r M pc L (.ref (w.2.2.1 c) :: st) := u_get g (kX_lt hk rfl) (ceX_5 hk) rfl inX5 2 (by decide) hl rfl hd kk
theorem gfX5_3 (g : Gd shX w x own cc n rt d) {c : Nat} (hk : kX c = 5) {ix : Nat} (hl : Cond.fieldLink own ix "MeetHouse$Keepers" "weights" "[I" ∈ tbG) (hd : decode cc pc = .ok (.getfield ix, 3)) (kk : U shX w x r M (pc + 3) L (.ref (w.2.2.1 4) :: st)) : U shX w x r M pc L (.ref (w.2.2.1 c) :: st) := u_get g (kX_lt hk rfl) (ceX_5 hk) rfl inX5 3 (by decide) hl rfl hd kk
theorem gfX6_0 (g : Gd shX w x own cc n rt d) {c : Nat} (hk : kX c = 6) {ix : Nat} (hl : Cond.fieldLink own ix "MeetHouse$Plan" "familyNumber" "I" ∈ tbG) {v : Int32} (hv : M.1 c 0 = v) (hd : decode cc pc = .ok (.getfield ix, 3)) (kk : U shX w x r M (pc + 3) L (.int v :: st)) : U shX w x r M pc L (.ref (w.2.2.1 c) :: st) := by
  subst hv
  exact u_get g (kX_lt hk rfl) (ceX_6 hk) rfl inX6 0 (by decide) hl rfl hd kk
theorem pfX6_0 (g : Gd shX w x own cc n rt d) {c : Nat} (hk : kX c = 6) {ix : Nat} (hl : Cond.fieldLink own ix "MeetHouse$Plan" "familyNumber" "I" ∈ tbG) {v : Int32} (hd : decode cc pc = .ok (.putfield ix, 3)) (kk : U shX w x r (sI M c 0 v) (pc + 3) L st) : U shX w x r M pc L (.int v :: .ref (w.2.2.1 c) :: st) := by
  refine u_put g (kX_lt hk rfl) (ceX_6 hk) rfl inX6 tyX6 tyX6_ok nmX6 0 (by decide) hl rfl rfl rfl (by simp) ?_ hd kk
  rw [ceX_6 hk]
  simp [sI]
theorem gfX6_1 (g : Gd shX w x own cc n rt d) {c : Nat} (hk : kX c = 6) {ix : Nat} (hl : Cond.fieldLink own ix "MeetHouse$Plan" "count" "I" ∈ tbG) {v : Int32} (hv : M.1 c 1 = v) (hd : decode cc pc = .ok (.getfield ix, 3)) (kk : U shX w x r M (pc + 3) L (.int v :: st)) : U shX w x r M pc L (.ref (w.2.2.1 c) :: st) := by
  subst hv
  exact u_get g (kX_lt hk rfl) (ceX_6 hk) rfl inX6 1 (by decide) hl rfl hd kk
theorem pfX6_1 (g : Gd shX w x own cc n rt d) {c : Nat} (hk : kX c = 6) {ix : Nat} (hl : Cond.fieldLink own ix "MeetHouse$Plan" "count" "I" ∈ tbG) {v : Int32} (hd : decode cc pc = .ok (.putfield ix, 3)) (kk : U shX w x r (sI M c 1 v) (pc + 3) L st) : U shX w x r M pc L (.int v :: .ref (w.2.2.1 c) :: st) := by
  refine u_put g (kX_lt hk rfl) (ceX_6 hk) rfl inX6 tyX6 tyX6_ok nmX6 1 (by decide) hl rfl rfl rfl (by simp) ?_ hd kk
  rw [ceX_6 hk]
  simp [sI]
theorem gfX6_2 (g : Gd shX w x own cc n rt d) {c : Nat} (hk : kX c = 6) {ix : Nat} (hl : Cond.fieldLink own ix "MeetHouse$Plan" "parts" "[I" ∈ tbG) (hd : decode cc pc = .ok (.getfield ix, 3)) (kk : U shX w x r M (pc + 3) L (.ref (w.2.2.1 (c + 1)) :: st)) : U shX w x r M pc L (.ref (w.2.2.1 c) :: st) := u_get g (kX_lt hk rfl) (ceX_6 hk) rfl inX6 2 (by decide) hl rfl hd kk
theorem gfX7_0 (g : Gd shX w x own cc n rt d) {c : Nat} (hk : kX c = 7) {ix : Nat} (hl : Cond.fieldLink own ix "MeetHouse$Pot" "words" "[J" ∈ tbG) (hd : decode cc pc = .ok (.getfield ix, 3)) (kk : U shX w x r M (pc + 3) L (.ref (w.2.2.1 256) :: st)) : U shX w x r M pc L (.ref (w.2.2.1 c) :: st) := u_get g (kX_lt hk rfl) (ceX_7 hk) rfl inX7 0 (by decide) hl rfl hd kk
theorem gfX7_1 (g : Gd shX w x own cc n rt d) {c : Nat} (hk : kX c = 7) {ix : Nat} (hl : Cond.fieldLink own ix "MeetHouse$Pot" "lowChances" "[J" ∈ tbG) (hd : decode cc pc = .ok (.getfield ix, 3)) (kk : U shX w x r M (pc + 3) L (.ref (w.2.2.1 257) :: st)) : U shX w x r M pc L (.ref (w.2.2.1 c) :: st) := u_get g (kX_lt hk rfl) (ceX_7 hk) rfl inX7 1 (by decide) hl rfl hd kk
theorem gfX7_2 (g : Gd shX w x own cc n rt d) {c : Nat} (hk : kX c = 7) {ix : Nat} (hl : Cond.fieldLink own ix "MeetHouse$Pot" "used" "I" ∈ tbG) {v : Int32} (hv : M.1 c 2 = v) (hd : decode cc pc = .ok (.getfield ix, 3)) (kk : U shX w x r M (pc + 3) L (.int v :: st)) : U shX w x r M pc L (.ref (w.2.2.1 c) :: st) := by
  subst hv
  exact u_get g (kX_lt hk rfl) (ceX_7 hk) rfl inX7 2 (by decide) hl rfl hd kk
theorem pfX7_2 (g : Gd shX w x own cc n rt d) {c : Nat} (hk : kX c = 7) {ix : Nat} (hl : Cond.fieldLink own ix "MeetHouse$Pot" "used" "I" ∈ tbG) {v : Int32} (hd : decode cc pc = .ok (.putfield ix, 3)) (kk : U shX w x r (sI M c 2 v) (pc + 3) L st) : U shX w x r M pc L (.int v :: .ref (w.2.2.1 c) :: st) := by
  refine u_put g (kX_lt hk rfl) (ceX_7 hk) rfl inX7 tyX7 tyX7_ok nmX7 2 (by decide) hl rfl rfl rfl (by simp) ?_ hd kk
  rw [ceX_7 hk]
  simp [sI]
theorem gfX8_0 (g : Gd shX w x own cc n rt d) {c : Nat} (hk : kX c = 8) {ix : Nat} (hl : Cond.fieldLink own ix "MeetHouse$Sheet" "count" "I" ∈ tbG) {v : Int32} (hv : M.1 c 0 = v) (hd : decode cc pc = .ok (.getfield ix, 3)) (kk : U shX w x r M (pc + 3) L (.int v :: st)) : U shX w x r M pc L (.ref (w.2.2.1 c) :: st) := by
  subst hv
  exact u_get g (kX_lt hk rfl) (ceX_8 hk) rfl inX8 0 (by decide) hl rfl hd kk
theorem pfX8_0 (g : Gd shX w x own cc n rt d) {c : Nat} (hk : kX c = 8) {ix : Nat} (hl : Cond.fieldLink own ix "MeetHouse$Sheet" "count" "I" ∈ tbG) {v : Int32} (hd : decode cc pc = .ok (.putfield ix, 3)) (kk : U shX w x r (sI M c 0 v) (pc + 3) L st) : U shX w x r M pc L (.int v :: .ref (w.2.2.1 c) :: st) := by
  refine u_put g (kX_lt hk rfl) (ceX_8 hk) rfl inX8 tyX8 tyX8_ok nmX8 0 (by decide) hl rfl rfl rfl (by simp) ?_ hd kk
  rw [ceX_8 hk]
  simp [sI]
theorem gfX8_1 (g : Gd shX w x own cc n rt d) {c : Nat} (hk : kX c = 8) {ix : Nat} (hl : Cond.fieldLink own ix "MeetHouse$Sheet" "pairs" "[I" ∈ tbG) (hd : decode cc pc = .ok (.getfield ix, 3)) (kk : U shX w x r M (pc + 3) L (.ref (w.2.2.1 253) :: st)) : U shX w x r M pc L (.ref (w.2.2.1 c) :: st) := u_get g (kX_lt hk rfl) (ceX_8 hk) rfl inX8 1 (by decide) hl rfl hd kk
theorem gfX9_0 (g : Gd shX w x own cc n rt d) {c : Nat} (hk : kX c = 9) {ix : Nat} (hl : Cond.fieldLink own ix "MeetHouse$Thing" "sort" "I" ∈ tbG) {v : Int32} (hv : M.1 c 0 = v) (hd : decode cc pc = .ok (.getfield ix, 3)) (kk : U shX w x r M (pc + 3) L (.int v :: st)) : U shX w x r M pc L (.ref (w.2.2.1 c) :: st) := by
  subst hv
  exact u_get g (kX_lt hk rfl) (ceX_9 hk) rfl inX9 0 (by decide) hl rfl hd kk
theorem pfX9_0 (g : Gd shX w x own cc n rt d) {c : Nat} (hk : kX c = 9) {ix : Nat} (hl : Cond.fieldLink own ix "MeetHouse$Thing" "sort" "I" ∈ tbG) {v : Int32} (hd : decode cc pc = .ok (.putfield ix, 3)) (kk : U shX w x r (sI M c 0 v) (pc + 3) L st) : U shX w x r M pc L (.int v :: .ref (w.2.2.1 c) :: st) := by
  refine u_put g (kX_lt hk rfl) (ceX_9 hk) rfl inX9 tyX9 tyX9_ok nmX9 0 (by decide) hl rfl rfl rfl (by simp) ?_ hd kk
  rw [ceX_9 hk]
  simp [sI]
theorem gfX9_1 (g : Gd shX w x own cc n rt d) {c : Nat} (hk : kX c = 9) {ix : Nat} (hl : Cond.fieldLink own ix "MeetHouse$Thing" "number" "I" ∈ tbG) {v : Int32} (hv : M.1 c 1 = v) (hd : decode cc pc = .ok (.getfield ix, 3)) (kk : U shX w x r M (pc + 3) L (.int v :: st)) : U shX w x r M pc L (.ref (w.2.2.1 c) :: st) := by
  subst hv
  exact u_get g (kX_lt hk rfl) (ceX_9 hk) rfl inX9 1 (by decide) hl rfl hd kk
theorem pfX9_1 (g : Gd shX w x own cc n rt d) {c : Nat} (hk : kX c = 9) {ix : Nat} (hl : Cond.fieldLink own ix "MeetHouse$Thing" "number" "I" ∈ tbG) {v : Int32} (hd : decode cc pc = .ok (.putfield ix, 3)) (kk : U shX w x r (sI M c 1 v) (pc + 3) L st) : U shX w x r M pc L (.int v :: .ref (w.2.2.1 c) :: st) := by
  refine u_put g (kX_lt hk rfl) (ceX_9 hk) rfl inX9 tyX9 tyX9_ok nmX9 1 (by decide) hl rfl rfl rfl (by simp) ?_ hd kk
  rw [ceX_9 hk]
  simp [sI]
theorem gfX9_2 (g : Gd shX w x own cc n rt d) {c : Nat} (hk : kX c = 9) {ix : Nat} (hl : Cond.fieldLink own ix "MeetHouse$Thing" "plan" "LMeetHouse$Plan;" ∈ tbG) (hd : decode cc pc = .ok (.getfield ix, 3)) (kk : U shX w x r M (pc + 3) L (.ref (w.2.2.1 (c + 1)) :: st)) : U shX w x r M pc L (.ref (w.2.2.1 c) :: st) := u_get g (kX_lt hk rfl) (ceX_9 hk) rfl inX9 2 (by decide) hl rfl hd kk
theorem gfX10_0 (g : Gd shX w x own cc n rt d) {c : Nat} (hk : kX c = 10) {ix : Nat} (hl : Cond.fieldLink own ix "MeetHouse" "keepers" "LMeetHouse$Keepers;" ∈ tbG) (hd : decode cc pc = .ok (.getfield ix, 3)) (kk : U shX w x r M (pc + 3) L (.ref (w.2.2.1 1) :: st)) : U shX w x r M pc L (.ref (w.2.2.1 c) :: st) := u_get g (kX_lt hk rfl) (ceX_10 hk) rfl inX10 0 (by decide) hl rfl hd kk
theorem gfX10_1 (g : Gd shX w x own cc n rt d) {c : Nat} (hk : kX c = 10) {ix : Nat} (hl : Cond.fieldLink own ix "MeetHouse" "families" "[LMeetHouse$Family;" ∈ tbG) (hd : decode cc pc = .ok (.getfield ix, 3)) (kk : U shX w x r M (pc + 3) L (.ref (w.2.2.1 5) :: st)) : U shX w x r M pc L (.ref (w.2.2.1 c) :: st) := u_get g (kX_lt hk rfl) (ceX_10 hk) rfl inX10 1 (by decide) hl rfl hd kk
theorem gfX10_2 (g : Gd shX w x own cc n rt d) {c : Nat} (hk : kX c = 10) {ix : Nat} (hl : Cond.fieldLink own ix "MeetHouse" "familyCount" "I" ∈ tbG) {v : Int32} (hv : M.1 c 2 = v) (hd : decode cc pc = .ok (.getfield ix, 3)) (kk : U shX w x r M (pc + 3) L (.int v :: st)) : U shX w x r M pc L (.ref (w.2.2.1 c) :: st) := by
  subst hv
  exact u_get g (kX_lt hk rfl) (ceX_10 hk) rfl inX10 2 (by decide) hl rfl hd kk
theorem pfX10_2 (g : Gd shX w x own cc n rt d) {c : Nat} (hk : kX c = 10) {ix : Nat} (hl : Cond.fieldLink own ix "MeetHouse" "familyCount" "I" ∈ tbG) {v : Int32} (hd : decode cc pc = .ok (.putfield ix, 3)) (kk : U shX w x r (sI M c 2 v) (pc + 3) L st) : U shX w x r M pc L (.int v :: .ref (w.2.2.1 c) :: st) := by
  refine u_put g (kX_lt hk rfl) (ceX_10 hk) rfl inX10 tyX10 tyX10_ok nmX10 2 (by decide) hl rfl rfl rfl (by simp) ?_ hd kk
  rw [ceX_10 hk]
  simp [sI]
theorem gfX10_3 (g : Gd shX w x own cc n rt d) {c : Nat} (hk : kX c = 10) {ix : Nat} (hl : Cond.fieldLink own ix "MeetHouse" "toldSets" "[I" ∈ tbG) (hd : decode cc pc = .ok (.getfield ix, 3)) (kk : U shX w x r M (pc + 3) L (.ref (w.2.2.1 6) :: st)) : U shX w x r M pc L (.ref (w.2.2.1 c) :: st) := u_get g (kX_lt hk rfl) (ceX_10 hk) rfl inX10 3 (by decide) hl rfl hd kk
theorem gfX10_4 (g : Gd shX w x own cc n rt d) {c : Nat} (hk : kX c = 10) {ix : Nat} (hl : Cond.fieldLink own ix "MeetHouse" "toldCount" "I" ∈ tbG) {v : Int32} (hv : M.1 c 4 = v) (hd : decode cc pc = .ok (.getfield ix, 3)) (kk : U shX w x r M (pc + 3) L (.int v :: st)) : U shX w x r M pc L (.ref (w.2.2.1 c) :: st) := by
  subst hv
  exact u_get g (kX_lt hk rfl) (ceX_10 hk) rfl inX10 4 (by decide) hl rfl hd kk
theorem pfX10_4 (g : Gd shX w x own cc n rt d) {c : Nat} (hk : kX c = 10) {ix : Nat} (hl : Cond.fieldLink own ix "MeetHouse" "toldCount" "I" ∈ tbG) {v : Int32} (hd : decode cc pc = .ok (.putfield ix, 3)) (kk : U shX w x r (sI M c 4 v) (pc + 3) L st) : U shX w x r M pc L (.int v :: .ref (w.2.2.1 c) :: st) := by
  refine u_put g (kX_lt hk rfl) (ceX_10 hk) rfl inX10 tyX10 tyX10_ok nmX10 4 (by decide) hl rfl rfl rfl (by simp) ?_ hd kk
  rw [ceX_10 hk]
  simp [sI]
theorem gfX10_5 (g : Gd shX w x own cc n rt d) {c : Nat} (hk : kX c = 10) {ix : Nat} (hl : Cond.fieldLink own ix "MeetHouse" "plan" "LMeetHouse$Plan;" ∈ tbG) (hd : decode cc pc = .ok (.getfield ix, 3)) (kk : U shX w x r M (pc + 3) L (.ref (w.2.2.1 7) :: st)) : U shX w x r M pc L (.ref (w.2.2.1 c) :: st) := u_get g (kX_lt hk rfl) (ceX_10 hk) rfl inX10 5 (by decide) hl rfl hd kk
theorem gfX10_6 (g : Gd shX w x own cc n rt d) {c : Nat} (hk : kX c = 10) {ix : Nat} (hl : Cond.fieldLink own ix "MeetHouse" "places" "[LMeetHouse$Thing;" ∈ tbG) (hd : decode cc pc = .ok (.getfield ix, 3)) (kk : U shX w x r M (pc + 3) L (.ref (w.2.2.1 9) :: st)) : U shX w x r M pc L (.ref (w.2.2.1 c) :: st) := u_get g (kX_lt hk rfl) (ceX_10 hk) rfl inX10 6 (by decide) hl rfl hd kk
theorem gfX10_7 (g : Gd shX w x own cc n rt d) {c : Nat} (hk : kX c = 10) {ix : Nat} (hl : Cond.fieldLink own ix "MeetHouse" "history" "LMeetHouse$History;" ∈ tbG) (hd : decode cc pc = .ok (.getfield ix, 3)) (kk : U shX w x r M (pc + 3) L (.ref (w.2.2.1 10) :: st)) : U shX w x r M pc L (.ref (w.2.2.1 c) :: st) := u_get g (kX_lt hk rfl) (ceX_10 hk) rfl inX10 7 (by decide) hl rfl hd kk
theorem gfX10_8 (g : Gd shX w x own cc n rt d) {c : Nat} (hk : kX c = 10) {ix : Nat} (hl : Cond.fieldLink own ix "MeetHouse" "sheet" "LMeetHouse$Sheet;" ∈ tbG) (hd : decode cc pc = .ok (.getfield ix, 3)) (kk : U shX w x r M (pc + 3) L (.ref (w.2.2.1 252) :: st)) : U shX w x r M pc L (.ref (w.2.2.1 c) :: st) := u_get g (kX_lt hk rfl) (ceX_10 hk) rfl inX10 8 (by decide) hl rfl hd kk
theorem gfX10_9 (g : Gd shX w x own cc n rt d) {c : Nat} (hk : kX c = 10) {ix : Nat} (hl : Cond.fieldLink own ix "MeetHouse" "gatherer" "LMeetHouse$Gatherer;" ∈ tbG) (hd : decode cc pc = .ok (.getfield ix, 3)) (kk : U shX w x r M (pc + 3) L (.ref (w.2.2.1 254) :: st)) : U shX w x r M pc L (.ref (w.2.2.1 c) :: st) := u_get g (kX_lt hk rfl) (ceX_10 hk) rfl inX10 9 (by decide) hl rfl hd kk
theorem gfX10_10 (g : Gd shX w x own cc n rt d) {c : Nat} (hk : kX c = 10) {ix : Nat} (hl : Cond.fieldLink own ix "MeetHouse" "fraction" "LMeetHouse$Fraction;" ∈ tbG) (hd : decode cc pc = .ok (.getfield ix, 3)) (kk : U shX w x r M (pc + 3) L (.ref (w.2.2.1 263) :: st)) : U shX w x r M pc L (.ref (w.2.2.1 c) :: st) := u_get g (kX_lt hk rfl) (ceX_10 hk) rfl inX10 10 (by decide) hl rfl hd kk
theorem gfX10_11 (g : Gd shX w x own cc n rt d) {c : Nat} (hk : kX c = 10) {ix : Nat} (hl : Cond.fieldLink own ix "MeetHouse" "latestStatus" "I" ∈ tbG) {v : Int32} (hv : M.1 c 11 = v) (hd : decode cc pc = .ok (.getfield ix, 3)) (kk : U shX w x r M (pc + 3) L (.int v :: st)) : U shX w x r M pc L (.ref (w.2.2.1 c) :: st) := by
  subst hv
  exact u_get g (kX_lt hk rfl) (ceX_10 hk) rfl inX10 11 (by decide) hl rfl hd kk
theorem pfX10_11 (g : Gd shX w x own cc n rt d) {c : Nat} (hk : kX c = 10) {ix : Nat} (hl : Cond.fieldLink own ix "MeetHouse" "latestStatus" "I" ∈ tbG) {v : Int32} (hd : decode cc pc = .ok (.putfield ix, 3)) (kk : U shX w x r (sI M c 11 v) (pc + 3) L st) : U shX w x r M pc L (.int v :: .ref (w.2.2.1 c) :: st) := by
  refine u_put g (kX_lt hk rfl) (ceX_10 hk) rfl inX10 tyX10 tyX10_ok nmX10 11 (by decide) hl rfl rfl rfl (by simp) ?_ hd kk
  rw [ceX_10 hk]
  simp [sI]
theorem gfX11_0 (g : Gd shY w x own cc n rt d) {ix : Nat} (hl : Cond.fieldLink own ix "MeetHouseModel" "strengths" "[I" ∈ tbG) (hd : decode cc pc = .ok (.getfield ix, 3)) (kk : U shY w x r M (pc + 3) L (.ref (w.2.2.1 1) :: st)) : U shY w x r M pc L (.ref (w.2.2.1 0) :: st) := u_get g (show 0 < shY.1 by decide) ceY_0 rfl inX11 0 (by decide) hl rfl hd kk
theorem gfX11_1 (g : Gd shY w x own cc n rt d) {ix : Nat} (hl : Cond.fieldLink own ix "MeetHouseModel" "tenth" "[I" ∈ tbG) (hd : decode cc pc = .ok (.getfield ix, 3)) (kk : U shY w x r M (pc + 3) L (.ref (w.2.2.1 2) :: st)) : U shY w x r M pc L (.ref (w.2.2.1 0) :: st) := u_get g (show 0 < shY.1 by decide) ceY_0 rfl inX11 1 (by decide) hl rfl hd kk
theorem gfX11_2 (g : Gd shY w x own cc n rt d) {ix : Nat} (hl : Cond.fieldLink own ix "MeetHouseModel" "weights" "[I" ∈ tbG) (hd : decode cc pc = .ok (.getfield ix, 3)) (kk : U shY w x r M (pc + 3) L (.ref (w.2.2.1 3) :: st)) : U shY w x r M pc L (.ref (w.2.2.1 0) :: st) := u_get g (show 0 < shY.1 by decide) ceY_0 rfl inX11 2 (by decide) hl rfl hd kk
theorem gfX11_3 (g : Gd shY w x own cc n rt d) {ix : Nat} (hl : Cond.fieldLink own ix "MeetHouseModel" "keepers" "I" ∈ tbG) {v : Int32} (hv : M.1 0 3 = v) (hd : decode cc pc = .ok (.getfield ix, 3)) (kk : U shY w x r M (pc + 3) L (.int v :: st)) : U shY w x r M pc L (.ref (w.2.2.1 0) :: st) := by
  subst hv
  exact u_get g (show 0 < shY.1 by decide) ceY_0 rfl inX11 3 (by decide) hl rfl hd kk
theorem pfX11_3 (g : Gd shY w x own cc n rt d) {ix : Nat} (hl : Cond.fieldLink own ix "MeetHouseModel" "keepers" "I" ∈ tbG) {v : Int32} (hd : decode cc pc = .ok (.putfield ix, 3)) (kk : U shY w x r (sI M 0 3 v) (pc + 3) L st) : U shY w x r M pc L (.int v :: .ref (w.2.2.1 0) :: st) := by
  refine u_put g (show 0 < shY.1 by decide) ceY_0 rfl inX11 tyX11 tyX11_ok nmX11 3 (by decide) hl rfl rfl rfl (by simp) ?_ hd kk
  rw [ceY_0]
  simp [sI]
theorem gfX11_4 (g : Gd shY w x own cc n rt d) {ix : Nat} (hl : Cond.fieldLink own ix "MeetHouseModel" "status" "I" ∈ tbG) {v : Int32} (hv : M.1 0 4 = v) (hd : decode cc pc = .ok (.getfield ix, 3)) (kk : U shY w x r M (pc + 3) L (.int v :: st)) : U shY w x r M pc L (.ref (w.2.2.1 0) :: st) := by
  subst hv
  exact u_get g (show 0 < shY.1 by decide) ceY_0 rfl inX11 4 (by decide) hl rfl hd kk
theorem pfX11_4 (g : Gd shY w x own cc n rt d) {ix : Nat} (hl : Cond.fieldLink own ix "MeetHouseModel" "status" "I" ∈ tbG) {v : Int32} (hd : decode cc pc = .ok (.putfield ix, 3)) (kk : U shY w x r (sI M 0 4 v) (pc + 3) L st) : U shY w x r M pc L (.int v :: .ref (w.2.2.1 0) :: st) := by
  refine u_put g (show 0 < shY.1 by decide) ceY_0 rfl inX11 tyX11 tyX11_ok nmX11 4 (by decide) hl rfl rfl rfl (by simp) ?_ hd kk
  rw [ceY_0]
  simp [sI]
theorem gfX11_5 (g : Gd shY w x own cc n rt d) {ix : Nat} (hl : Cond.fieldLink own ix "MeetHouseModel" "thrown" "I" ∈ tbG) {v : Int32} (hv : M.1 0 5 = v) (hd : decode cc pc = .ok (.getfield ix, 3)) (kk : U shY w x r M (pc + 3) L (.int v :: st)) : U shY w x r M pc L (.ref (w.2.2.1 0) :: st) := by
  subst hv
  exact u_get g (show 0 < shY.1 by decide) ceY_0 rfl inX11 5 (by decide) hl rfl hd kk
theorem pfX11_5 (g : Gd shY w x own cc n rt d) {ix : Nat} (hl : Cond.fieldLink own ix "MeetHouseModel" "thrown" "I" ∈ tbG) {v : Int32} (hd : decode cc pc = .ok (.putfield ix, 3)) (kk : U shY w x r (sI M 0 5 v) (pc + 3) L st) : U shY w x r M pc L (.int v :: .ref (w.2.2.1 0) :: st) := by
  refine u_put g (show 0 < shY.1 by decide) ceY_0 rfl inX11 tyX11 tyX11_ok nmX11 5 (by decide) hl rfl rfl rfl (by simp) ?_ hd kk
  rw [ceY_0]
  simp [sI]
theorem gfX11_6 (g : Gd shY w x own cc n rt d) {ix : Nat} (hl : Cond.fieldLink own ix "MeetHouseModel" "list" "[I" ∈ tbG) (hd : decode cc pc = .ok (.getfield ix, 3)) (kk : U shY w x r M (pc + 3) L (.ref (w.2.2.1 4) :: st)) : U shY w x r M pc L (.ref (w.2.2.1 0) :: st) := u_get g (show 0 < shY.1 by decide) ceY_0 rfl inX11 6 (by decide) hl rfl hd kk
theorem gfX11_7 (g : Gd shY w x own cc n rt d) {ix : Nat} (hl : Cond.fieldLink own ix "MeetHouseModel" "listed" "I" ∈ tbG) {v : Int32} (hv : M.1 0 7 = v) (hd : decode cc pc = .ok (.getfield ix, 3)) (kk : U shY w x r M (pc + 3) L (.int v :: st)) : U shY w x r M pc L (.ref (w.2.2.1 0) :: st) := by
  subst hv
  exact u_get g (show 0 < shY.1 by decide) ceY_0 rfl inX11 7 (by decide) hl rfl hd kk
theorem pfX11_7 (g : Gd shY w x own cc n rt d) {ix : Nat} (hl : Cond.fieldLink own ix "MeetHouseModel" "listed" "I" ∈ tbG) {v : Int32} (hd : decode cc pc = .ok (.putfield ix, 3)) (kk : U shY w x r (sI M 0 7 v) (pc + 3) L st) : U shY w x r M pc L (.int v :: .ref (w.2.2.1 0) :: st) := by
  refine u_put g (show 0 < shY.1 by decide) ceY_0 rfl inX11 tyX11 tyX11_ok nmX11 7 (by decide) hl rfl rfl rfl (by simp) ?_ hd kk
  rw [ceY_0]
  simp [sI]
theorem gfX11_8 (g : Gd shY w x own cc n rt d) {ix : Nat} (hl : Cond.fieldLink own ix "MeetHouseModel" "kinds" "[I" ∈ tbG) (hd : decode cc pc = .ok (.getfield ix, 3)) (kk : U shY w x r M (pc + 3) L (.ref (w.2.2.1 5) :: st)) : U shY w x r M pc L (.ref (w.2.2.1 0) :: st) := u_get g (show 0 < shY.1 by decide) ceY_0 rfl inX11 8 (by decide) hl rfl hd kk
theorem gfX11_9 (g : Gd shY w x own cc n rt d) {ix : Nat} (hl : Cond.fieldLink own ix "MeetHouseModel" "many" "[I" ∈ tbG) (hd : decode cc pc = .ok (.getfield ix, 3)) (kk : U shY w x r M (pc + 3) L (.ref (w.2.2.1 6) :: st)) : U shY w x r M pc L (.ref (w.2.2.1 0) :: st) := u_get g (show 0 < shY.1 by decide) ceY_0 rfl inX11 9 (by decide) hl rfl hd kk
theorem gfX11_10 (g : Gd shY w x own cc n rt d) {ix : Nat} (hl : Cond.fieldLink own ix "MeetHouseModel" "quorums" "[I" ∈ tbG) (hd : decode cc pc = .ok (.getfield ix, 3)) (kk : U shY w x r M (pc + 3) L (.ref (w.2.2.1 7) :: st)) : U shY w x r M pc L (.ref (w.2.2.1 0) :: st) := u_get g (show 0 < shY.1 by decide) ceY_0 rfl inX11 10 (by decide) hl rfl hd kk
theorem gfX11_11 (g : Gd shY w x own cc n rt d) {ix : Nat} (hl : Cond.fieldLink own ix "MeetHouseModel" "families" "I" ∈ tbG) {v : Int32} (hv : M.1 0 11 = v) (hd : decode cc pc = .ok (.getfield ix, 3)) (kk : U shY w x r M (pc + 3) L (.int v :: st)) : U shY w x r M pc L (.ref (w.2.2.1 0) :: st) := by
  subst hv
  exact u_get g (show 0 < shY.1 by decide) ceY_0 rfl inX11 11 (by decide) hl rfl hd kk
theorem pfX11_11 (g : Gd shY w x own cc n rt d) {ix : Nat} (hl : Cond.fieldLink own ix "MeetHouseModel" "families" "I" ∈ tbG) {v : Int32} (hd : decode cc pc = .ok (.putfield ix, 3)) (kk : U shY w x r (sI M 0 11 v) (pc + 3) L st) : U shY w x r M pc L (.int v :: .ref (w.2.2.1 0) :: st) := by
  refine u_put g (show 0 < shY.1 by decide) ceY_0 rfl inX11 tyX11 tyX11_ok nmX11 11 (by decide) hl rfl rfl rfl (by simp) ?_ hd kk
  rw [ceY_0]
  simp [sI]
theorem gfX11_12 (g : Gd shY w x own cc n rt d) {ix : Nat} (hl : Cond.fieldLink own ix "MeetHouseModel" "plan" "[I" ∈ tbG) (hd : decode cc pc = .ok (.getfield ix, 3)) (kk : U shY w x r M (pc + 3) L (.ref (w.2.2.1 8) :: st)) : U shY w x r M pc L (.ref (w.2.2.1 0) :: st) := u_get g (show 0 < shY.1 by decide) ceY_0 rfl inX11 12 (by decide) hl rfl hd kk
theorem gfX11_13 (g : Gd shY w x own cc n rt d) {ix : Nat} (hl : Cond.fieldLink own ix "MeetHouseModel" "hasPlan" "Z" ∈ tbG) {v : Int32} (hv : M.1 0 13 = v) (hd : decode cc pc = .ok (.getfield ix, 3)) (kk : U shY w x r M (pc + 3) L (.int v :: st)) : U shY w x r M pc L (.ref (w.2.2.1 0) :: st) := by
  subst hv
  exact u_get g (show 0 < shY.1 by decide) ceY_0 rfl inX11 13 (by decide) hl rfl hd kk
theorem pfX11_13 (g : Gd shY w x own cc n rt d) {ix : Nat} (hl : Cond.fieldLink own ix "MeetHouseModel" "hasPlan" "Z" ∈ tbG) {v : Int32} (hb : isB v) (hd : decode cc pc = .ok (.putfield ix, 3)) (kk : U shY w x r (sI M 0 13 v) (pc + 3) L st) : U shY w x r M pc L (.int v :: .ref (w.2.2.1 0) :: st) := by
  refine u_put g (show 0 < shY.1 by decide) ceY_0 rfl inX11 tyX11 tyX11_ok nmX11 13 (by decide) hl rfl (isB_narrow hb) (isB_fits hb) (by simp) ?_ hd kk
  rw [ceY_0]
  simp [sI]
theorem gfX11_14 (g : Gd shY w x own cc n rt d) {ix : Nat} (hl : Cond.fieldLink own ix "MeetHouseModel" "sorts" "[I" ∈ tbG) (hd : decode cc pc = .ok (.getfield ix, 3)) (kk : U shY w x r M (pc + 3) L (.ref (w.2.2.1 9) :: st)) : U shY w x r M pc L (.ref (w.2.2.1 0) :: st) := u_get g (show 0 < shY.1 by decide) ceY_0 rfl inX11 14 (by decide) hl rfl hd kk
theorem gfX11_15 (g : Gd shY w x own cc n rt d) {ix : Nat} (hl : Cond.fieldLink own ix "MeetHouseModel" "things" "[I" ∈ tbG) (hd : decode cc pc = .ok (.getfield ix, 3)) (kk : U shY w x r M (pc + 3) L (.ref (w.2.2.1 10) :: st)) : U shY w x r M pc L (.ref (w.2.2.1 0) :: st) := u_get g (show 0 < shY.1 by decide) ceY_0 rfl inX11 15 (by decide) hl rfl hd kk
theorem gfX11_16 (g : Gd shY w x own cc n rt d) {ix : Nat} (hl : Cond.fieldLink own ix "MeetHouseModel" "plans" "[I" ∈ tbG) (hd : decode cc pc = .ok (.getfield ix, 3)) (kk : U shY w x r M (pc + 3) L (.ref (w.2.2.1 11) :: st)) : U shY w x r M pc L (.ref (w.2.2.1 0) :: st) := u_get g (show 0 < shY.1 by decide) ceY_0 rfl inX11 16 (by decide) hl rfl hd kk
theorem gfX11_17 (g : Gd shY w x own cc n rt d) {ix : Nat} (hl : Cond.fieldLink own ix "MeetHouseModel" "sheet" "[I" ∈ tbG) (hd : decode cc pc = .ok (.getfield ix, 3)) (kk : U shY w x r M (pc + 3) L (.ref (w.2.2.1 12) :: st)) : U shY w x r M pc L (.ref (w.2.2.1 0) :: st) := u_get g (show 0 < shY.1 by decide) ceY_0 rfl inX11 17 (by decide) hl rfl hd kk
theorem gfX11_18 (g : Gd shY w x own cc n rt d) {ix : Nat} (hl : Cond.fieldLink own ix "MeetHouseModel" "pairs" "I" ∈ tbG) {v : Int32} (hv : M.1 0 18 = v) (hd : decode cc pc = .ok (.getfield ix, 3)) (kk : U shY w x r M (pc + 3) L (.int v :: st)) : U shY w x r M pc L (.ref (w.2.2.1 0) :: st) := by
  subst hv
  exact u_get g (show 0 < shY.1 by decide) ceY_0 rfl inX11 18 (by decide) hl rfl hd kk
theorem pfX11_18 (g : Gd shY w x own cc n rt d) {ix : Nat} (hl : Cond.fieldLink own ix "MeetHouseModel" "pairs" "I" ∈ tbG) {v : Int32} (hd : decode cc pc = .ok (.putfield ix, 3)) (kk : U shY w x r (sI M 0 18 v) (pc + 3) L st) : U shY w x r M pc L (.int v :: .ref (w.2.2.1 0) :: st) := by
  refine u_put g (show 0 < shY.1 by decide) ceY_0 rfl inX11 tyX11 tyX11_ok nmX11 18 (by decide) hl rfl rfl rfl (by simp) ?_ hd kk
  rw [ceY_0]
  simp [sI]
theorem gfX11_19 (g : Gd shY w x own cc n rt d) {ix : Nat} (hl : Cond.fieldLink own ix "MeetHouseModel" "acted" "[I" ∈ tbG) (hd : decode cc pc = .ok (.getfield ix, 3)) (kk : U shY w x r M (pc + 3) L (.ref (w.2.2.1 13) :: st)) : U shY w x r M pc L (.ref (w.2.2.1 0) :: st) := u_get g (show 0 < shY.1 by decide) ceY_0 rfl inX11 19 (by decide) hl rfl hd kk
theorem gfX11_20 (g : Gd shY w x own cc n rt d) {ix : Nat} (hl : Cond.fieldLink own ix "MeetHouseModel" "acts" "I" ∈ tbG) {v : Int32} (hv : M.1 0 20 = v) (hd : decode cc pc = .ok (.getfield ix, 3)) (kk : U shY w x r M (pc + 3) L (.int v :: st)) : U shY w x r M pc L (.ref (w.2.2.1 0) :: st) := by
  subst hv
  exact u_get g (show 0 < shY.1 by decide) ceY_0 rfl inX11 20 (by decide) hl rfl hd kk
theorem pfX11_20 (g : Gd shY w x own cc n rt d) {ix : Nat} (hl : Cond.fieldLink own ix "MeetHouseModel" "acts" "I" ∈ tbG) {v : Int32} (hd : decode cc pc = .ok (.putfield ix, 3)) (kk : U shY w x r (sI M 0 20 v) (pc + 3) L st) : U shY w x r M pc L (.int v :: .ref (w.2.2.1 0) :: st) := by
  refine u_put g (show 0 < shY.1 by decide) ceY_0 rfl inX11 tyX11 tyX11_ok nmX11 20 (by decide) hl rfl rfl rfl (by simp) ?_ hd kk
  rw [ceY_0]
  simp [sI]
theorem gfX11_21 (g : Gd shY w x own cc n rt d) {ix : Nat} (hl : Cond.fieldLink own ix "MeetHouseModel" "comes" "[Z" ∈ tbG) (hd : decode cc pc = .ok (.getfield ix, 3)) (kk : U shY w x r M (pc + 3) L (.ref (w.2.2.1 14) :: st)) : U shY w x r M pc L (.ref (w.2.2.1 0) :: st) := u_get g (show 0 < shY.1 by decide) ceY_0 rfl inX11 21 (by decide) hl rfl hd kk
theorem gfX11_22 (g : Gd shY w x own cc n rt d) {ix : Nat} (hl : Cond.fieldLink own ix "MeetHouseModel" "holds" "[Z" ∈ tbG) (hd : decode cc pc = .ok (.getfield ix, 3)) (kk : U shY w x r M (pc + 3) L (.ref (w.2.2.1 15) :: st)) : U shY w x r M pc L (.ref (w.2.2.1 0) :: st) := u_get g (show 0 < shY.1 by decide) ceY_0 rfl inX11 22 (by decide) hl rfl hd kk
theorem gfX11_23 (g : Gd shY w x own cc n rt d) {ix : Nat} (hl : Cond.fieldLink own ix "MeetHouseModel" "found" "[I" ∈ tbG) (hd : decode cc pc = .ok (.getfield ix, 3)) (kk : U shY w x r M (pc + 3) L (.ref (w.2.2.1 16) :: st)) : U shY w x r M pc L (.ref (w.2.2.1 0) :: st) := u_get g (show 0 < shY.1 by decide) ceY_0 rfl inX11 23 (by decide) hl rfl hd kk
theorem gfX11_24 (g : Gd shY w x own cc n rt d) {ix : Nat} (hl : Cond.fieldLink own ix "MeetHouseModel" "foundMany" "I" ∈ tbG) {v : Int32} (hv : M.1 0 24 = v) (hd : decode cc pc = .ok (.getfield ix, 3)) (kk : U shY w x r M (pc + 3) L (.int v :: st)) : U shY w x r M pc L (.ref (w.2.2.1 0) :: st) := by
  subst hv
  exact u_get g (show 0 < shY.1 by decide) ceY_0 rfl inX11 24 (by decide) hl rfl hd kk
theorem pfX11_24 (g : Gd shY w x own cc n rt d) {ix : Nat} (hl : Cond.fieldLink own ix "MeetHouseModel" "foundMany" "I" ∈ tbG) {v : Int32} (hd : decode cc pc = .ok (.putfield ix, 3)) (kk : U shY w x r (sI M 0 24 v) (pc + 3) L st) : U shY w x r M pc L (.int v :: .ref (w.2.2.1 0) :: st) := by
  refine u_put g (show 0 < shY.1 by decide) ceY_0 rfl inX11 tyX11 tyX11_ok nmX11 24 (by decide) hl rfl rfl rfl (by simp) ?_ hd kk
  rw [ceY_0]
  simp [sI]
theorem gfX11_25 (g : Gd shY w x own cc n rt d) {ix : Nat} (hl : Cond.fieldLink own ix "MeetHouseModel" "rowFrom" "[I" ∈ tbG) (hd : decode cc pc = .ok (.getfield ix, 3)) (kk : U shY w x r M (pc + 3) L (.ref (w.2.2.1 17) :: st)) : U shY w x r M pc L (.ref (w.2.2.1 0) :: st) := u_get g (show 0 < shY.1 by decide) ceY_0 rfl inX11 25 (by decide) hl rfl hd kk
theorem gfX11_26 (g : Gd shY w x own cc n rt d) {ix : Nat} (hl : Cond.fieldLink own ix "MeetHouseModel" "rowSize" "[I" ∈ tbG) (hd : decode cc pc = .ok (.getfield ix, 3)) (kk : U shY w x r M (pc + 3) L (.ref (w.2.2.1 18) :: st)) : U shY w x r M pc L (.ref (w.2.2.1 0) :: st) := u_get g (show 0 < shY.1 by decide) ceY_0 rfl inX11 26 (by decide) hl rfl hd kk
theorem gfX11_27 (g : Gd shY w x own cc n rt d) {ix : Nat} (hl : Cond.fieldLink own ix "MeetHouseModel" "rows" "I" ∈ tbG) {v : Int32} (hv : M.1 0 27 = v) (hd : decode cc pc = .ok (.getfield ix, 3)) (kk : U shY w x r M (pc + 3) L (.int v :: st)) : U shY w x r M pc L (.ref (w.2.2.1 0) :: st) := by
  subst hv
  exact u_get g (show 0 < shY.1 by decide) ceY_0 rfl inX11 27 (by decide) hl rfl hd kk
theorem pfX11_27 (g : Gd shY w x own cc n rt d) {ix : Nat} (hl : Cond.fieldLink own ix "MeetHouseModel" "rows" "I" ∈ tbG) {v : Int32} (hd : decode cc pc = .ok (.putfield ix, 3)) (kk : U shY w x r (sI M 0 27 v) (pc + 3) L st) : U shY w x r M pc L (.int v :: .ref (w.2.2.1 0) :: st) := by
  refine u_put g (show 0 < shY.1 by decide) ceY_0 rfl inX11 tyX11 tyX11_ok nmX11 27 (by decide) hl rfl rfl rfl (by simp) ?_ hd kk
  rw [ceY_0]
  simp [sI]
theorem gfX11_28 (g : Gd shY w x own cc n rt d) {ix : Nat} (hl : Cond.fieldLink own ix "MeetHouseModel" "digit" "[I" ∈ tbG) (hd : decode cc pc = .ok (.getfield ix, 3)) (kk : U shY w x r M (pc + 3) L (.ref (w.2.2.1 19) :: st)) : U shY w x r M pc L (.ref (w.2.2.1 0) :: st) := u_get g (show 0 < shY.1 by decide) ceY_0 rfl inX11 28 (by decide) hl rfl hd kk
theorem gfX11_29 (g : Gd shY w x own cc n rt d) {ix : Nat} (hl : Cond.fieldLink own ix "MeetHouseModel" "enough" "[I" ∈ tbG) (hd : decode cc pc = .ok (.getfield ix, 3)) (kk : U shY w x r M (pc + 3) L (.ref (w.2.2.1 20) :: st)) : U shY w x r M pc L (.ref (w.2.2.1 0) :: st) := u_get g (show 0 < shY.1 by decide) ceY_0 rfl inX11 29 (by decide) hl rfl hd kk
theorem gfX11_30 (g : Gd shY w x own cc n rt d) {ix : Nat} (hl : Cond.fieldLink own ix "MeetHouseModel" "enoughMany" "[I" ∈ tbG) (hd : decode cc pc = .ok (.getfield ix, 3)) (kk : U shY w x r M (pc + 3) L (.ref (w.2.2.1 21) :: st)) : U shY w x r M pc L (.ref (w.2.2.1 0) :: st) := u_get g (show 0 < shY.1 by decide) ceY_0 rfl inX11 30 (by decide) hl rfl hd kk
theorem gfX11_31 (g : Gd shY w x own cc n rt d) {ix : Nat} (hl : Cond.fieldLink own ix "MeetHouseModel" "full" "[Z" ∈ tbG) (hd : decode cc pc = .ok (.getfield ix, 3)) (kk : U shY w x r M (pc + 3) L (.ref (w.2.2.1 22) :: st)) : U shY w x r M pc L (.ref (w.2.2.1 0) :: st) := u_get g (show 0 < shY.1 by decide) ceY_0 rfl inX11 31 (by decide) hl rfl hd kk
theorem gfX11_32 (g : Gd shY w x own cc n rt d) {ix : Nat} (hl : Cond.fieldLink own ix "MeetHouseModel" "more" "[Z" ∈ tbG) (hd : decode cc pc = .ok (.getfield ix, 3)) (kk : U shY w x r M (pc + 3) L (.ref (w.2.2.1 23) :: st)) : U shY w x r M pc L (.ref (w.2.2.1 0) :: st) := u_get g (show 0 < shY.1 by decide) ceY_0 rfl inX11 32 (by decide) hl rfl hd kk
theorem gfX11_33 (g : Gd shY w x own cc n rt d) {ix : Nat} (hl : Cond.fieldLink own ix "MeetHouseModel" "upper" "I" ∈ tbG) {v : Int32} (hv : M.1 0 33 = v) (hd : decode cc pc = .ok (.getfield ix, 3)) (kk : U shY w x r M (pc + 3) L (.int v :: st)) : U shY w x r M pc L (.ref (w.2.2.1 0) :: st) := by
  subst hv
  exact u_get g (show 0 < shY.1 by decide) ceY_0 rfl inX11 33 (by decide) hl rfl hd kk
theorem pfX11_33 (g : Gd shY w x own cc n rt d) {ix : Nat} (hl : Cond.fieldLink own ix "MeetHouseModel" "upper" "I" ∈ tbG) {v : Int32} (hd : decode cc pc = .ok (.putfield ix, 3)) (kk : U shY w x r (sI M 0 33 v) (pc + 3) L st) : U shY w x r M pc L (.int v :: .ref (w.2.2.1 0) :: st) := by
  refine u_put g (show 0 < shY.1 by decide) ceY_0 rfl inX11 tyX11 tyX11_ok nmX11 33 (by decide) hl rfl rfl rfl (by simp) ?_ hd kk
  rw [ceY_0]
  simp [sI]
theorem gfX11_34 (g : Gd shY w x own cc n rt d) {ix : Nat} (hl : Cond.fieldLink own ix "MeetHouseModel" "lower" "I" ∈ tbG) {v : Int32} (hv : M.1 0 34 = v) (hd : decode cc pc = .ok (.getfield ix, 3)) (kk : U shY w x r M (pc + 3) L (.int v :: st)) : U shY w x r M pc L (.ref (w.2.2.1 0) :: st) := by
  subst hv
  exact u_get g (show 0 < shY.1 by decide) ceY_0 rfl inX11 34 (by decide) hl rfl hd kk
theorem pfX11_34 (g : Gd shY w x own cc n rt d) {ix : Nat} (hl : Cond.fieldLink own ix "MeetHouseModel" "lower" "I" ∈ tbG) {v : Int32} (hd : decode cc pc = .ok (.putfield ix, 3)) (kk : U shY w x r (sI M 0 34 v) (pc + 3) L st) : U shY w x r M pc L (.int v :: .ref (w.2.2.1 0) :: st) := by
  refine u_put g (show 0 < shY.1 by decide) ceY_0 rfl inX11 tyX11 tyX11_ok nmX11 34 (by decide) hl rfl rfl rfl (by simp) ?_ hd kk
  rw [ceY_0]
  simp [sI]
theorem gfX11_35 (g : Gd shY w x own cc n rt d) {ix : Nat} (hl : Cond.fieldLink own ix "MeetHouseModel" "spare" "[I" ∈ tbG) (hd : decode cc pc = .ok (.getfield ix, 3)) (kk : U shY w x r M (pc + 3) L (.ref (w.2.2.1 24) :: st)) : U shY w x r M pc L (.ref (w.2.2.1 0) :: st) := u_get g (show 0 < shY.1 by decide) ceY_0 rfl inX11 35 (by decide) hl rfl hd kk
theorem aX_ild (g : Gd shX w x own cc n rt d) {c : Nat} (N : Nat) (hN : N < 19000) (hk : kX c = 1000 + N) {i v : Int32} (hi : vp_in i N) (hv : M.1 c i.toNatClampNeg = v) (hd : decode cc pc = .ok (.iaload, 1)) (kk : U shX w x r M (pc + 1) L (.int v :: st)) : U shX w x r M pc L (.int i :: .ref (w.2.2.1 c) :: st) := by
  subst hv
  exact u_iald g (kX_lt hk (by rw [beq_eq_false_iff_ne]; omega)) (ceX_i N hN hk) hi hd kk
theorem aX_ist (g : Gd shX w x own cc n rt d) {c : Nat} (N : Nat) (hN : N < 19000) (hk : kX c = 1000 + N) {i v : Int32} (hi : vp_in i N) {j : Nat} (hj : i.toNatClampNeg = j) (hd : decode cc pc = .ok (.iastore, 1)) (kk : U shX w x r (sI M c j v) (pc + 1) L st) : U shX w x r M pc L (.int v :: .int i :: .ref (w.2.2.1 c) :: st) := by
  subst hj
  exact u_iast g (kX_lt hk (by rw [beq_eq_false_iff_ne]; omega)) (ceX_i N hN hk) (ceX_i N hN hk) hi hd kk
theorem aX_lld (g : Gd shX w x own cc n rt d) {c : Nat} (N : Nat) (hN : N < 80000) (hk : kX c = 20000 + N) {i : Int32} {v : Int64} (hi : vp_in i N) (hv : M.2 c i.toNatClampNeg = v) (hd : decode cc pc = .ok (.laload, 1)) (kk : U shX w x r M (pc + 1) L (.long v :: st)) : U shX w x r M pc L (.int i :: .ref (w.2.2.1 c) :: st) := by
  subst hv
  exact u_lald g (kX_lt hk (by rw [beq_eq_false_iff_ne]; omega)) (ceX_j N hN hk) hi hd kk
theorem aX_lst (g : Gd shX w x own cc n rt d) {c : Nat} (N : Nat) (hN : N < 80000) (hk : kX c = 20000 + N) {i : Int32} {v : Int64} (hi : vp_in i N) {j : Nat} (hj : i.toNatClampNeg = j) (hd : decode cc pc = .ok (.lastore, 1)) (kk : U shX w x r (sL M c j v) (pc + 1) L st) : U shX w x r M pc L (.long v :: .int i :: .ref (w.2.2.1 c) :: st) := by
  subst hj
  exact u_last g (kX_lt hk (by rw [beq_eq_false_iff_ne]; omega)) (ceX_j N hN hk) (ceX_j N hN hk) hi hd kk
theorem aX_zld (g : Gd shX w x own cc n rt d) {c : Nat} (N : Nat) (hk : kX c = 100000 + N) {i v : Int32} (hi : vp_in i N) (hv : M.1 c i.toNatClampNeg = v) (hd : decode cc pc = .ok (.baload, 1)) (kk : U shX w x r M (pc + 1) L (.int v :: st)) : U shX w x r M pc L (.int i :: .ref (w.2.2.1 c) :: st) := by
  subst hv
  exact u_zald g (kX_lt hk (by rw [beq_eq_false_iff_ne]; omega)) (ceX_z N hk) hi hd kk
theorem aX_zst (g : Gd shX w x own cc n rt d) {c : Nat} (N : Nat) (hk : kX c = 100000 + N) {i v : Int32} (hb : isB v) (hi : vp_in i N) {j : Nat} (hj : i.toNatClampNeg = j) (hd : decode cc pc = .ok (.bastore, 1)) (kk : U shX w x r (sI M c j v) (pc + 1) L st) : U shX w x r M pc L (.int v :: .int i :: .ref (w.2.2.1 c) :: st) := by
  subst hj
  exact u_zast g hb (kX_lt hk (by rw [beq_eq_false_iff_ne]; omega)) (ceX_z N hk) (ceX_z N hk) hi hd kk
theorem aY_ild (g : Gd shY w x own cc n rt d) {c : Nat} (N : Nat) (hN : N < 19000) (hk : kY c = 1000 + N) {i v : Int32} (hi : vp_in i N) (hv : M.1 c i.toNatClampNeg = v) (hd : decode cc pc = .ok (.iaload, 1)) (kk : U shY w x r M (pc + 1) L (.int v :: st)) : U shY w x r M pc L (.int i :: .ref (w.2.2.1 c) :: st) := by
  subst hv
  exact u_iald g (kY_lt hk (by rw [beq_eq_false_iff_ne]; omega)) (ceY_i N hN hk) hi hd kk
theorem aY_ist (g : Gd shY w x own cc n rt d) {c : Nat} (N : Nat) (hN : N < 19000) (hk : kY c = 1000 + N) {i v : Int32} (hi : vp_in i N) {j : Nat} (hj : i.toNatClampNeg = j) (hd : decode cc pc = .ok (.iastore, 1)) (kk : U shY w x r (sI M c j v) (pc + 1) L st) : U shY w x r M pc L (.int v :: .int i :: .ref (w.2.2.1 c) :: st) := by
  subst hj
  exact u_iast g (kY_lt hk (by rw [beq_eq_false_iff_ne]; omega)) (ceY_i N hN hk) (ceY_i N hN hk) hi hd kk
theorem aY_lld (g : Gd shY w x own cc n rt d) {c : Nat} (N : Nat) (hN : N < 80000) (hk : kY c = 20000 + N) {i : Int32} {v : Int64} (hi : vp_in i N) (hv : M.2 c i.toNatClampNeg = v) (hd : decode cc pc = .ok (.laload, 1)) (kk : U shY w x r M (pc + 1) L (.long v :: st)) : U shY w x r M pc L (.int i :: .ref (w.2.2.1 c) :: st) := by
  subst hv
  exact u_lald g (kY_lt hk (by rw [beq_eq_false_iff_ne]; omega)) (ceY_j N hN hk) hi hd kk
theorem aY_lst (g : Gd shY w x own cc n rt d) {c : Nat} (N : Nat) (hN : N < 80000) (hk : kY c = 20000 + N) {i : Int32} {v : Int64} (hi : vp_in i N) {j : Nat} (hj : i.toNatClampNeg = j) (hd : decode cc pc = .ok (.lastore, 1)) (kk : U shY w x r (sL M c j v) (pc + 1) L st) : U shY w x r M pc L (.long v :: .int i :: .ref (w.2.2.1 c) :: st) := by
  subst hj
  exact u_last g (kY_lt hk (by rw [beq_eq_false_iff_ne]; omega)) (ceY_j N hN hk) (ceY_j N hN hk) hi hd kk
theorem aY_zld (g : Gd shY w x own cc n rt d) {c : Nat} (N : Nat) (hk : kY c = 100000 + N) {i v : Int32} (hi : vp_in i N) (hv : M.1 c i.toNatClampNeg = v) (hd : decode cc pc = .ok (.baload, 1)) (kk : U shY w x r M (pc + 1) L (.int v :: st)) : U shY w x r M pc L (.int i :: .ref (w.2.2.1 c) :: st) := by
  subst hv
  exact u_zald g (kY_lt hk (by rw [beq_eq_false_iff_ne]; omega)) (ceY_z N hk) hi hd kk
theorem aY_zst (g : Gd shY w x own cc n rt d) {c : Nat} (N : Nat) (hk : kY c = 100000 + N) {i v : Int32} (hb : isB v) (hi : vp_in i N) {j : Nat} (hj : i.toNatClampNeg = j) (hd : decode cc pc = .ok (.bastore, 1)) (kk : U shY w x r (sI M c j v) (pc + 1) L st) : U shY w x r M pc L (.int v :: .int i :: .ref (w.2.2.1 c) :: st) := by
  subst hj
  exact u_zast g hb (kY_lt hk (by rw [beq_eq_false_iff_ne]; omega)) (ceY_z N hk) (ceY_z N hk) hi hd kk
theorem aX_fam (g : Gd shX w x own cc n rt d) {i : Int32} (hi : vp_in i 24) (hd : decode cc pc = .ok (.aaload, 1)) (kk : U shX w x r M (pc + 1) L (.ref (w.2.2.1 (264 + 2 * i.toNatClampNeg)) :: st)) : U shX w x r M pc L (.int i :: .ref (w.2.2.1 5) :: st) := u_aald (f := fun j => 264 + 2 * j) (t0 := 3) (N := 24) (C := "MeetHouse$Family") g (show 5 < shX.1 by decide) rfl rfl hi hd kk
theorem aX_pla (g : Gd shX w x own cc n rt d) {i : Int32} (hi : vp_in i 16) (hd : decode cc pc = .ok (.aaload, 1)) (kk : U shX w x r M (pc + 1) L (.ref (w.2.2.1 (312 + 3 * i.toNatClampNeg)) :: st)) : U shX w x r M pc L (.int i :: .ref (w.2.2.1 9) :: st) := u_aald (f := fun j => 312 + 3 * j) (t0 := 4) (N := 16) (C := "MeetHouse$Thing") g (show 9 < shX.1 by decide) rfl rfl hi hd kk
theorem aX_act (g : Gd shX w x own cc n rt d) {i : Int32} (hi : vp_in i 60) (hd : decode cc pc = .ok (.aaload, 1)) (kk : U shX w x r M (pc + 1) L (.ref (w.2.2.1 (12 + 4 * i.toNatClampNeg)) :: st)) : U shX w x r M pc L (.int i :: .ref (w.2.2.1 11) :: st) := u_aald (f := fun j => 12 + 4 * j) (t0 := 5) (N := 60) (C := "MeetHouse$Act") g (show 11 < shX.1 by decide) rfl rfl hi hd kk
end FRows
