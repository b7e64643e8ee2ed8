/-! THE DIGEST: yet to be proved. -/
theorem digest_b {M : Mem} (h : Inv M) : ∃ v M1 M2, fX4_digest M = some (v, M1) ∧ fX5_digest M1 = some (v, M2) ∧ Inv M2 := by
  sorry
