theorem law_true : ∀ (L : Nat) (xs : Nat → Int32), L ≤ 3072 → ∃ M9, fL_law_18 L xs 1000 0 M00 = some (true, M9) := sorry
