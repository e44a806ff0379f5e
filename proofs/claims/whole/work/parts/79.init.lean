/-! a new object -/
theorem hInit0 : ∃ y z, fX3_init = some y ∧ fX4_init = some z ∧ ∀ pv : Nat → BX0, Sim0 y.1 0 pv y.2.1 y.2.2.1 y.2.2.2.1 y.2.2.2.2.1 y.2.2.2.2.2 z := by
  refine ⟨_, _, rfl, rfl, fun pv => ?_⟩
  refine ⟨⟨rfl, rfl, ?_, ?_, ?_, ?_, ?_⟩, ⟨60, 0, rfl, rfl, by omega, by omega, by omega, ?_, fun k hk => by omega, fun i j _ hj => by omega⟩, ⟨0, by omega, by omega, rfl, rfl, fun i hi => by omega⟩, ⟨0, by omega, rfl, rfl, fun i hi => by omega⟩, rfl, Or.inl rfl⟩
  · intro k hk
    rcases (show k = 0 ∨ k = 1 ∨ k = 2 ∨ k = 3 ∨ k = 4 by omega) with rfl | rfl | rfl | rfl | rfl <;> rfl
  · intro k hk
    rcases (show k = 0 ∨ k = 1 ∨ k = 2 ∨ k = 3 ∨ k = 4 by omega) with rfl | rfl | rfl | rfl | rfl <;> rfl
  · intro k hk
    rcases (show k = 0 ∨ k = 1 ∨ k = 2 ∨ k = 3 by omega) with rfl | rfl | rfl | rfl <;> rfl
  · intro k hk
    rcases (show k = 0 ∨ k = 1 ∨ k = 2 ∨ k = 3 by omega) with rfl | rfl | rfl | rfl <;> rfl
  · intro k hk
    rcases (show k = 0 ∨ k = 1 ∨ k = 2 ∨ k = 3 by omega) with rfl | rfl | rfl | rfl <;> rfl
  · intro k hk
    obtain rfl : k = 0 := by omega
    exact ⟨by decide, by decide, by decide, by decide⟩
