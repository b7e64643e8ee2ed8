/-! channel, count, write. -/
theorem channel_q {M : Mem} (h : Inv M) (x1 x2 : Int32) : BthP (fun M => fX4_channel M x1 x2) (fX5_channel x1 x2) M := by
  refine bthP_q h (fun t n ns sn od hI => ?_)
  have hW := hI.wf
  have hN := hW.1
  have hK := hI.1.2.2
  have i5 : fX5_in x2.toInt64 0 4 = okR x2 0 4 := x5_inR x2 0 4
  cases e1 : chB (chN t n) x1 with
  | false =>
    refine ⟨-2, ?_, fun M2 m1 hKM _ => ⟨M2, ?_, .rfl M2⟩⟩
    · unfold fX4_channel fX0_fact
      have := has_s hK.1.1 hW x1
      rw [e1] at this
      unfold fX0_hasChannel at this
      by_cases a : x1 < 0
      · rw [if_pos a, bP_s]
      · rw [if_neg a] at this ⊢
        by_cases b : M 1 3 ≤ x1
        · rw [if_pos b, bP_s]
        · rw [if_neg b] at this; cases this
    · unfold fX5_channel
      rw [m1, bW_s, isCh_s hKM.1 hW, e1, if_neg Bool.false_ne_true]
  | true =>
    obtain ⟨c, rfl, hc⟩ := chB_t e1
    cases e2 : okR x2 0 4 with
    | false =>
      refine ⟨-2, ?_, fun M2 m1 hKM _ => ⟨M2, ?_, .rfl M2⟩⟩
      · unfold fX4_channel fX0_fact
        rw [hK.1.1.1, if_neg (nI_pos (by omega)), if_neg (fun z => by have := (nI_leI (by omega) (by omega)).mp z; omega), rng_2 x2 0 5 _ _ 0 4 (by decide) (by decide), e2, if_neg Bool.false_ne_true, bP_s]
      · unfold fX5_channel
        rw [m1, bW_s, isCh_s hKM.1 hW, e1, if_pos rfl, i5, e2, if_neg Bool.false_ne_true]
    | true =>
      obtain ⟨k, rfl, hk⟩ := okR_0 e2
      refine ⟨nI (fcN t c k), ?_, fun M2 m1 hKM _ => ⟨M2, ?_, .rfl M2⟩⟩
      · unfold fX4_channel
        rw [fact_s hK.1.1 hN hc (by omega), bP_s]
      · unfold fX5_channel
        rw [m1, bW_s, isCh_s hKM.1 hW, e1, if_pos rfl, i5, e2, if_pos rfl, (told_i hKM.1 hN hc (show k < 5 by omega) _).1, (told_i hKM.1 hN hc (show k < 5 by omega) (none : Option Int32)).2]
theorem told4_s {N : Nat} {fc : Nat → Nat → Nat} {M : Mem} (hC : CF N fc M) (hN : N ≤ 16) : fX0_toldTogether M = some (nI (sumN N (fun c => fc c 2))) := by
  unfold fX0_toldTogether
  refine loop_up (σ := Unit) (fun k i _ => fX0_toldTogether_4 M k (nI (sumN i (fun c => fc c 2))) (nI i)) (fun _ _ => True) (fun o => o = some (nI (sumN N (fun c => fc c 2)))) N (fun k i s hi hI => ?_) (fun k s hI => ?_) 1000 0 () (by omega) (by omega) trivial
  · left
    refine ⟨(), trivial, ?_⟩
    (try dsimp only)
    rw [fX0_toldTogether_4, hC.1, if_neg (fun z => by have := (nI_leI (by omega) (by omega)).mp z; omega), fact_2 hC hN hi, bP_s, nI_add, nI_1, sumN]
  · (try dsimp only)
    rw [fX0_toldTogether_4, hC.1, if_pos ((nI_leI (by omega) (by omega)).mpr (Nat.le_refl _))]
theorem jump4_s {N : Nat} {fc : Nat → Nat → Nat} {M : Mem} (hC : CF N fc M) (hW : WF N fc) : fX0_jumping M = some (nI (cntP (fun c => decide (fc c 3 = 4)) N)) := by
  have hN := hW.1
  unfold fX0_jumping
  refine loop_up (σ := Unit) (fun k i _ => fX0_jumping_4 M k (nI (cntP (fun c => decide (fc c 3 = 4)) i)) (nI i)) (fun _ _ => True) (fun o => o = some (nI (cntP (fun c => decide (fc c 3 = 4)) N))) N (fun k i s hi hI => ?_) (fun k s hI => ?_) 1000 0 () (by omega) (by omega) trivial
  · left
    refine ⟨(), trivial, ?_⟩
    have hw := hW.2 i hi
    (try dsimp only)
    rw [fX0_jumping_4, hC.1, if_neg (fun z => by have := (nI_leI (by omega) (by omega)).mp z; omega), fact_3 hC hN hi, bP_s, show cntP (fun c => decide (fc c 3 = 4)) (i + 1) = cntP (fun c => decide (fc c 3 = 4)) i + if decide (fc i 3 = 4) = true then 1 else 0 from rfl]
    by_cases e : fc i 3 = 4
    · rw [if_pos (by rw [e]; rfl), if_pos (decide_eq_true e), nI_1, nI_1]
    · rw [if_neg (show ¬ nI (fc i 3) = 4 from fun z => e ((nI_eq (by omega) (by omega)).mp (show nI (fc i 3) = nI 4 from z))), if_neg (fun z => e (of_decide_eq_true z)), nI_1]; rfl
  · (try dsimp only)
    rw [fX0_jumping_4, hC.1, if_pos ((nI_leI (by omega) (by omega)).mpr (Nat.le_refl _))]
theorem told5_s {N : Nat} {fc : Nat → Nat → Nat} {M : Mem} (hC : MF N fc M) (hN : N ≤ 16) : fX5_count_87 1000 0 0 M = some (nI (sumN N (fun c => fc c 2)), M) := by
  refine loop_up (σ := Unit) (fun k i _ => fX5_count_87 k (nI (sumN i (fun c => fc c 2))) (nI i) M) (fun _ _ => True) (fun o => o = some (nI (sumN N (fun c => fc c 2)), M)) N (fun k i s hi hI => ?_) (fun k s hI => ?_) 1000 0 () (by omega) (by omega) trivial
  · left
    refine ⟨(), trivial, ?_⟩
    (try dsimp only)
    rw [fX5_count_87, hC.1, if_neg (fun z => by have := (nI_leI (by omega) (by omega)).mp z; omega), (told_2 hC hN hi _).1, (told_2 hC hN hi (none : Option Int32)).2, ltl_s, nI_add, nI_1, sumN]
  · (try dsimp only)
    rw [fX5_count_87, hC.1, if_pos ((nI_leI (by omega) (by omega)).mpr (Nat.le_refl _))]
theorem told_3 {N : Nat} {fc : Nat → Nat → Nat} {M : Mem} (hC : MF N fc M) (hN : N ≤ 16) {α : Type} {c : Nat} (hc : c < N) (x : Option α) : gd (inb (5 * nI c + 3) 80) x = x ∧ M 32 (5 * nI c + 3).toNatClampNeg = nI (fc c 3) := told_i hC hN hc (show 3 < 5 by omega) x
theorem jump5_s {N : Nat} {fc : Nat → Nat → Nat} {M : Mem} (hC : MF N fc M) (hW : WF N fc) : fX5_count_118 1000 0 0 M = some (nI (cntP (fun c => decide (fc c 3 = 4)) N), M) := by
  have hN := hW.1
  refine loop_up (σ := Unit) (fun k i _ => fX5_count_118 k (nI (cntP (fun c => decide (fc c 3 = 4)) i)) (nI i) M) (fun _ _ => True) (fun o => o = some (nI (cntP (fun c => decide (fc c 3 = 4)) N), M)) N (fun k i s hi hI => ?_) (fun k s hI => ?_) 1000 0 () (by omega) (by omega) trivial
  · left
    refine ⟨(), trivial, ?_⟩
    have hw := hW.2 i hi
    (try dsimp only)
    rw [fX5_count_118, hC.1, if_neg (fun z => by have := (nI_leI (by omega) (by omega)).mp z; omega), (told_3 hC hN hi _).1, (told_3 hC hN hi (none : Option Int32)).2, show cntP (fun c => decide (fc c 3 = 4)) (i + 1) = cntP (fun c => decide (fc c 3 = 4)) i + if decide (fc i 3 = 4) = true then 1 else 0 from rfl]
    by_cases e : fc i 3 = 4
    · rw [if_pos (by rw [e]; rfl), if_pos (decide_eq_true e), nI_1, nI_1]
    · rw [if_neg (show ¬ nI (fc i 3) = 4 from fun z => e ((nI_eq (by omega) (by omega)).mp (show nI (fc i 3) = nI 4 from z))), if_neg (fun z => e (of_decide_eq_true z)), nI_1, Int32.add_zero]; rfl
  · (try dsimp only)
    rw [fX5_count_118, hC.1, if_pos ((nI_leI (by omega) (by omega)).mpr (Nat.le_refl _))]
theorem count_q {M : Mem} (h : Inv M) (x : Int32) : Bth (fX4_count x) (fX5_count x) M := by
  obtain ⟨sz, sd, z1, z2, z3⟩ := h.2.2.1
  have hfi := h.2.2.2
  refine bth_q h (fun t n ns sn od hI => ?_)
  have hW := hI.wf
  have hN := hW.1
  obtain ⟨⟨a1, a2, a3⟩, ⟨b1, b2, b3⟩, _⟩ := hI
  have key : ∀ v, fX4_count x M = some (v, M) → (∀ M2, fX5_reads M = some (faultI t n, M2) → KM (chN t n) (fcN t) ns sn od M2 → FrQ M M2 → fX5_count x M = some (v, M2)) → ∃ v M1, fX4_count x M = some (v, M1) ∧ FrE M M1 ∧ (IT t n ns sn od M1 → ∀ M2, fX5_reads M1 = some (faultI t n, M2) → KM (chN t n) (fcN t) ns sn od M2 → FrQ M1 M2 → ∃ M3, fX5_count x M1 = some (v, M3) ∧ FrQ M2 M3) := fun v h1 h2 => ⟨v, M, h1, .rfl M, fun _ M2 m1 hKM hF => ⟨M2, h2 M2 m1 hKM hF, .rfl M2⟩⟩
  by_cases x0 : x = 0
  · exact key (nI (chN t n)) (by unfold fX4_count; rw [if_pos x0, a3.1.1.1]) (fun M2 m1 hKM hF => by unfold fX5_count; rw [m1, bW_s, if_pos x0, hKM.1.1])
  by_cases x1 : x = 1
  · exact key (nI n) (by unfold fX4_count; rw [if_neg x0, if_pos x1, a1.1]) (fun M2 m1 hKM hF => by unfold fX5_count; rw [m1, bW_s, if_neg x0, if_pos x1, hF.2 6 (by decide) (by decide) (by decide), b1.1])
  by_cases x2 : x = 2
  · exact key (nI ns) (by unfold fX4_count; rw [if_neg x0, if_neg x1, if_pos x2, a3.2.1.1]) (fun M2 m1 hKM hF => by unfold fX5_count; rw [m1, bW_s, if_neg x0, if_neg x1, if_pos x2, hKM.2.1.1])
  by_cases x3 : x = 3
  · exact key (nI sz) (by unfold fX4_count; rw [if_neg x0, if_neg x1, if_neg x2, if_pos x3, z1.1]) (fun M2 m1 hKM hF => by unfold fX5_count; rw [m1, bW_s, if_neg x0, if_neg x1, if_neg x2, if_pos x3, (hF.zm z2).1])
  by_cases x4 : x = 4
  · exact key (nI od) (by unfold fX4_count; rw [if_neg x0, if_neg x1, if_neg x2, if_neg x3, if_pos x4, a3.2.2]) (fun M2 m1 hKM hF => by unfold fX5_count; rw [m1, bW_s, if_neg x0, if_neg x1, if_neg x2, if_neg x3, if_pos x4, hKM.2.2])
  by_cases x5 : x = 5
  · exact key _ (by unfold fX4_count; rw [if_neg x0, if_neg x1, if_neg x2, if_neg x3, if_neg x4, if_pos x5, told4_s a3.1.1 hN, bP_s]) (fun M2 m1 hKM hF => by unfold fX5_count; rw [m1, bW_s, if_neg x0, if_neg x1, if_neg x2, if_neg x3, if_neg x4, if_pos x5, told5_s hKM.1 hN])
  by_cases x6 : x = 6
  · exact key _ (by unfold fX4_count; rw [if_neg x0, if_neg x1, if_neg x2, if_neg x3, if_neg x4, if_neg x5, if_pos x6, jump4_s a3.1.1 hW, bP_s]) (fun M2 m1 hKM hF => by unfold fX5_count; rw [m1, bW_s, if_neg x0, if_neg x1, if_neg x2, if_neg x3, if_neg x4, if_neg x5, if_pos x6, jump5_s hKM.1 hW])
  by_cases x7 : x = 7
  · obtain ⟨M1, c1, c2⟩ := allRows_s a3 hW
    refine ⟨_, M1, by unfold fX4_count; rw [if_neg x0, if_neg x1, if_neg x2, if_neg x3, if_neg x4, if_neg x5, if_neg x6, if_pos x7, c1, bW_s], .of c2, fun hI1 M2 m1 hKM hF => ?_⟩
    obtain ⟨M3, n1, n2⟩ := allWays_s hKM hW
    exact ⟨M3, by unfold fX5_count; rw [m1, bW_s, if_neg x0, if_neg x1, if_neg x2, if_neg x3, if_neg x4, if_neg x5, if_neg x6, if_pos x7, n1, bW_s], .of n2⟩
  by_cases x8 : x = 8
  · exact key (M 0 7) (by unfold fX4_count; rw [if_neg x0, if_neg x1, if_neg x2, if_neg x3, if_neg x4, if_neg x5, if_neg x6, if_neg x7, if_pos x8]) (fun M2 m1 hKM hF => by unfold fX5_count; rw [m1, bW_s, if_neg x0, if_neg x1, if_neg x2, if_neg x3, if_neg x4, if_neg x5, if_neg x6, if_neg x7, if_pos x8, hF.2 4 (by decide) (by decide) (by decide), hfi])
  exact key (-2) (by unfold fX4_count; rw [if_neg x0, if_neg x1, if_neg x2, if_neg x3, if_neg x4, if_neg x5, if_neg x6, if_neg x7, if_neg x8]) (fun M2 m1 hKM hF => by unfold fX5_count; rw [m1, bW_s, if_neg x0, if_neg x1, if_neg x2, if_neg x3, if_neg x4, if_neg x5, if_neg x6, if_neg x7, if_neg x8])
