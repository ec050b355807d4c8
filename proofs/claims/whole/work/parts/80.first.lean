/-! the first memories -/
theorem rel_first : Rel M0X M0Y := by
  have e0 : ∀ c, kX c ≠ 6 → c ≠ 255 → c ≠ 263 → M0X.1 c = fun _ => 0 := fun c h1 h2 h3 => M0X_row h1 h2 h3
  refine ⟨(0, fun _ => 0, fun _ => 0, fun _ => 0, 0, fun _ => fam0, none, fun _ => th0), [], ⟨⟨⟨?_, fun k hk => ?_⟩, ⟨?_, fun f hf => ?_⟩, ⟨?_, ?_⟩, fun k hk => ⟨?_, fun q => ?_, fun q => ?_⟩⟩, ⟨⟨rfl, fun k hk => ?_⟩, ⟨rfl, fun f hf => ?_⟩, rfl, fun k hk => ⟨rfl, fun q => ?_, fun q => ?_⟩⟩, by simp, ⟨⟨by decide, fun k hk => ?_⟩, ⟨by decide, fun f hf => ?_⟩, fun p hp => ?_, fun k hk => ⟨by show 0 ≤ 3; omega, fun q => ?_⟩, fun k _ => ⟨rfl, rfl, rfl⟩, fun f _ => rfl⟩, ⟨0, by decide, ?_, ?_, trivial⟩, rfl, trivial⟩, ⟨0, fun _ => 0, by decide, ?_, rfl, fun i hi => by omega⟩, ⟨0, by decide, ?_, rfl, fun i hi => by omega⟩, ?_⟩
  · rw [e0 1 (by decide) (by decide) (by decide)]; rfl
  · exact absurd hk (Nat.not_lt_zero _)
  · rw [e0 0 (by decide) (by decide) (by decide)]; rfl
  · exact absurd hf (Nat.not_lt_zero _)
  · rw [M0X_plan (c := 7) rfl (by decide) (by decide)]; rfl
  · rw [M0X_plan (c := 7) rfl (by decide) (by decide)]; rfl
  · rw [e0 _ (by rw [kX_place hk]; decide) (by omega) (by omega)]; rfl
  · have q : (0 : Nat) = 1 ∨ (0 : Nat) = 2 := q
    omega
  · have q : (0 : Nat) = 3 := q
    omega
  · exact absurd hk (Nat.not_lt_zero _)
  · exact absurd hf (Nat.not_lt_zero _)
  · have q : (0 : Nat) = 1 ∨ (0 : Nat) = 2 := q
    omega
  · have q : (0 : Nat) = 3 := q
    omega
  · exact absurd hk (Nat.not_lt_zero _)
  · exact absurd hf (Nat.not_lt_zero _)
  · cases hp
  · have q : (0 : Nat) = 3 := q
    omega
  · rw [e0 10 (by decide) (by decide) (by decide)]; rfl
  · rw [e0 10 (by decide) (by decide) (by decide)]; rfl
  · rw [e0 0 (by decide) (by decide) (by decide)]; rfl
  · rw [e0 252 (by decide) (by decide) (by decide)]; rfl
  · rw [e0 0 (by decide) (by decide) (by decide)]; rfl
