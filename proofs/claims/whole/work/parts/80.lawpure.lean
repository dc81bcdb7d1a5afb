/-- what is left when the machine is gone: the law's function over memory answers 1, within the room -/
theorem law_pure (sa : (Nat → Nat) × Nat × (Nat → Int32)) (B : Nat) (h : sa.2.1 ≤ 3072) : ∃ (N : Nat) (M1 : mv_M), jb_LW_law_0 N sa (B, 0, fun _ => none) = some (1, M1) ∧ M1.1 ≤ B + 600000 ∧ M1.2.1 ≤ 7302250 := by
  sorry
