/-! THE FIRST MEMORY. -/
theorem M00_out {a k : Nat} (h0 : ¬ a = 0) (h1 : ¬ a = 1) (h16 : ¬ (16 ≤ a ∧ a < 20)) (h26 : ¬ a = 26) (h27 : ¬ a = 27) : M00 a k = 0 := by
  unfold M00
  rw [up_id h26, up_id h27, up_id h27, up_id h27, up_id h27, up_id h0, up_id (by omega), up_id (by omega), up_id (by omega), up_id (by omega), up_id h1]
theorem Inv00 : Inv M00 := by
  have hch : chN (fun _ => 0) 0 = 0 := by decide
  refine ⟨⟨fun _ => 0, 0, 0, fun _ => 0, 4, ⟨⟨?_, by omega, fun k hk => absurd hk (Nat.not_lt_zero _)⟩, ?_, ⟨⟨?_, fun c hc => ?_⟩, fun x hx => ?_⟩, ⟨?_, by omega, fun k hk => absurd hk (Nat.not_lt_zero _)⟩, ?_⟩, ⟨⟨?_, by omega, fun k hk => absurd hk (Nat.not_lt_zero _)⟩, ⟨?_, by omega, fun k hk => absurd hk (Nat.not_lt_zero _)⟩, ?_⟩, by omega⟩, fun k hk => ?_, ⟨0, fun _ _ => 0, ⟨?_, fun k hk => absurd hk (Nat.not_lt_zero _)⟩, ⟨?_, fun k hk => absurd hk (Nat.not_lt_zero _)⟩, by omega, fun k hk => absurd hk (Nat.not_lt_zero _)⟩, ?_⟩
  · decide
  · decide
  · decide
  · rw [hch] at hc; exact absurd hc (Nat.not_lt_zero _)
  · rw [hch] at hx; exact absurd hx (Nat.not_lt_zero _)
  · decide
  · decide
  · decide
  · decide
  · decide
  · rcases (show k = 0 ∨ k = 1 ∨ k = 2 ∨ k = 3 by omega) with rfl | rfl | rfl | rfl
    · exact ⟨by decide, Or.inl (by decide)⟩
    · exact ⟨by decide, Or.inl (by decide)⟩
    · exact ⟨by decide, Or.inl (by decide)⟩
    · exact ⟨by decide, Or.inl (by decide)⟩
  · decide
  · decide
  · decide
