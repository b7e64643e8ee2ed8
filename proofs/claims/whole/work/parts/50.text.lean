/-! THE TEXT'S CALLS, BOTH SIDES. -/
theorem odds_b {M : Mem} (h : Inv M) (x : Int32) : Bth (fX4_odds x) (fX5_odds x) M := by
  have hh := h
  obtain ⟨⟨t, n, ns, sn, od, hI⟩, hS, hZ, hf⟩ := h
  obtain ⟨⟨a1, a2, a3⟩, ⟨b1, b2, b3⟩, c⟩ := hI
  have i5 : fX5_in x.toInt64 0 16 = okR x 0 16 := x5_inR x 0 16
  cases e : okR x 0 16 with
  | false =>
    refine ⟨-2, M, M, ?_, ?_, hh⟩
    · unfold fX4_odds; rw [rng_3 x 0 16 _ _ 0 16 (by decide) (by decide), e, if_neg Bool.false_ne_true]
    · unfold fX5_odds; rw [i5, e, if_neg Bool.false_ne_true]
  | true =>
    obtain ⟨q, rfl, hq⟩ := okR_0 e
    refine ⟨nI od, up M 0 6 (nI q), up (up M 0 6 (nI q)) 26 12 (nI q), ?_, ?_, ⟨⟨t, n, ns, sn, q, ⟨?_, ?_, ?_⟩, ⟨?_, ?_, up_eq _ _ _ _⟩, by omega⟩, ?_, ?_, ?_⟩⟩
    · unfold fX4_odds; rw [rng_3 (nI q) 0 16 _ _ 0 16 (by decide) (by decide), e, if_pos rfl, ltl_s, a3.2.2]
    · unfold fX5_odds; rw [i5, e, if_pos rfl, ltl_s, up_id (show ¬ 26 = 0 by decide), b3]
    · exact ⟨by rw [up_id (by omega), up_id (by omega)]; exact a1.1, a1.2.1, fun k hk => by rw [up_id (by omega), up_id (by omega)]; exact a1.2.2 k hk⟩
    · rw [up_id (by omega), up_id (by omega)]; exact a2
    · exact ⟨a3.1.keep (by rw [up_id (by omega), up_id (by omega)]) (by rw [up_id (by omega), up_id (by omega)]) (by rw [up_id (by omega), up_id (by omega)]), ⟨by rw [up_id (by omega), up_id (by omega)]; exact a3.2.1.1, a3.2.1.2.1, fun k hk => by rw [up_id (by omega), up_id (by omega)]; exact a3.2.1.2.2 k hk⟩, by rw [up_id (by omega), up_eq]⟩
    · exact ⟨by rw [up_ix (by omega), up_id (by omega)]; exact b1.1, b1.2.1, fun k hk => by rw [up_id (by omega), up_id (by omega)]; exact b1.2.2 k hk⟩
    · exact ⟨by rw [up_ix (by omega), up_id (by omega)]; exact b2.1, b2.2.1, fun k hk => by rw [up_id (by omega), up_id (by omega)]; exact b2.2.2 k hk⟩
    · exact HS_keep hS (fun a _ _ => by rw [up_id (by omega), up_id (by omega)]) (fun a _ _ => by rw [up_id (by omega), up_id (by omega)])
    · exact hZ.keep (fun a _ _ => by rw [up_id (by omega), up_id (by omega)]) (by rw [up_ix (by omega), up_id (by omega)]) (by rw [up_id (by omega), up_id (by omega)])
    · rw [up_id (by omega), up_ix (by omega), up_ix (by omega), up_id (by omega)]; exact hf
theorem storm_b {M : Mem} (h : Inv M) (x : Int32) : Bth (fX4_storm x) (fX5_storm x) M := by
  have hh := h
  obtain ⟨⟨t, n, ns, sn, od, hI⟩, hS, hZ, hf⟩ := h
  obtain ⟨⟨a1, a2, a3⟩, ⟨b1, b2, b3⟩, c⟩ := hI
  have h8 := b2.2.1
  cases e : okR x 0 99 with
  | false =>
    refine ⟨-2, M, M, ?_, ?_, hh⟩
    · unfold fX4_storm; rw [x4_isNight, e, if_neg Bool.false_ne_true]
    · unfold fX5_storm; rw [x5_isNight, e, if_neg Bool.false_ne_true]
  | true =>
    obtain ⟨q, rfl, hq⟩ := okR_0 e
    by_cases f8 : ns = 8
    · refine ⟨-4, M, M, ?_, ?_, hh⟩
      · unfold fX4_storm fX0_addStorm; rw [x4_isNight, e, if_pos rfl, a3.2.1.1, if_neg (nI_pos (by omega)), if_neg (fun z => by rw [pL8] at z; have := (nI_ltI (by omega) (by omega)).mp z; omega), bW_s, if_neg Bool.false_ne_true]
      · unfold fX5_storm; rw [x5_isNight, e, if_pos rfl, b2.1, f8, if_pos (show nI 8 = 8 from rfl)]
    · refine ⟨nI (ns + 1), up (up M 5 ns (nI q)) 1 7 (nI (ns + 1)), up (up (up (up M 5 ns (nI q)) 1 7 (nI (ns + 1))) 33 ns (nI q)) 26 10 (nI (ns + 1)), ?_, ?_, ⟨⟨t, n, ns + 1, fun k => if k = ns then q else sn k, od, ⟨?_, ?_, ?_⟩, ⟨?_, ?_, ?_⟩, c⟩, ?_, ?_, ?_⟩⟩
      · unfold fX4_storm fX0_addStorm; rw [x4_isNight, e, if_pos rfl, a3.2.1.1, if_neg (nI_pos (by omega)), if_pos (by rw [pL8]; exact (nI_ltI (by omega) (by omega)).mpr (by omega)), pz_gd (by omega) (by omega), ltl_s, ltl_s, nI_clamp (by omega), up_id (show ¬ 1 = 5 by decide), a3.2.1.1, nI_1, bW_s, if_pos rfl, up_eq]
      · unfold fX5_storm
        rw [x5_isNight, e, if_pos rfl, up_id (show ¬ 26 = 1 by decide), up_id (show ¬ 26 = 5 by decide), b2.1, if_neg (fun z => by rw [pL8] at z; have := (nI_eq (by omega) (by omega)).mp z; omega), pz_gd (by omega) (by omega), ltl_s, ltl_s, nI_clamp (by omega), up_eq, up_id (show ¬ 26 = 33 by decide), up_id (show ¬ 26 = 1 by decide), up_id (show ¬ 26 = 5 by decide), b2.1, nI_1]
      · refine ⟨?_, a1.2.1, fun k hk => ?_⟩
        · simp (disch := omega) only [up_id, up_ix]; exact a1.1
        · simp (disch := omega) only [up_id]; exact a1.2.2 k hk
      · simp (disch := omega) only [up_id, up_ix]; exact a2
      · refine ⟨a3.1.keep ?_ ?_ ?_, ⟨?_, by omega, fun k hk => ?_⟩, ?_⟩
        · simp (disch := omega) only [up_id, up_ix]
        · simp (disch := omega) only [up_id]
        · simp (disch := omega) only [up_id]
        · rw [up_id (by omega), up_id (by omega), up_eq]
        · rw [up_id (by omega), up_id (by omega), up_id (by omega)]
          (try dsimp only)
          by_cases w : k = ns
          · rw [w, up_eq, if_pos rfl]; exact ⟨rfl, by omega⟩
          · rw [up_ix w, if_neg w]; exact a3.2.1.2.2 k (by omega)
        · simp (disch := omega) only [up_id]; exact a3.2.2
      · refine ⟨?_, b1.2.1, fun k hk => ?_⟩
        · simp (disch := omega) only [up_id, up_ix]; exact b1.1
        · simp (disch := omega) only [up_id]; exact b1.2.2 k hk
      · refine ⟨up_eq _ _ _ _, by omega, fun k hk => ?_⟩
        rw [up_id (by omega)]
        (try dsimp only)
        by_cases w : k = ns
        · rw [w, up_eq, if_pos rfl]; exact ⟨rfl, by omega⟩
        · rw [up_ix w, if_neg w, up_id (by omega), up_id (by omega)]; exact b2.2.2 k (by omega)
      · simp (disch := omega) only [up_id, up_ix]; exact b3
      · exact HS_keep hS (fun a _ _ => by simp (disch := omega) only [up_id]) (fun a _ _ => by simp (disch := omega) only [up_id])
      · exact hZ.keep (fun a _ _ => by simp (disch := omega) only [up_id]) (by simp (disch := omega) only [up_id, up_ix]) (by simp (disch := omega) only [up_id])
      · simp (disch := omega) only [up_id, up_ix]; exact hf
theorem calm_b {M : Mem} (h : Inv M) : Bth fX4_calm fX5_calm M := by
  have hh := h
  obtain ⟨⟨t, n, ns, sn, od, hI⟩, hS, hZ, hf⟩ := h
  obtain ⟨⟨a1, a2, a3⟩, ⟨b1, b2, b3⟩, c⟩ := hI
  have h8 := b2.2.1
  by_cases f0 : ns = 0
  · refine ⟨-3, M, M, ?_, ?_, hh⟩
    · unfold fX4_calm fX0_dropStorm; rw [a3.2.1.1, f0, if_pos (show nI 0 = 0 from rfl), bW_s, if_neg Bool.false_ne_true]
    · unfold fX5_calm; rw [b2.1, f0, if_pos (show nI 0 = 0 from rfl)]
  · have hne : ¬ nI ns = 0 := fun z => f0 ((nI_z (by omega)).mp z)
    refine ⟨nI (ns - 1), up M 1 7 (nI (ns - 1)), up (up M 1 7 (nI (ns - 1))) 26 10 (nI (ns - 1)), ?_, ?_, ⟨⟨t, n, ns - 1, sn, od, ⟨?_, ?_, ?_⟩, ⟨?_, ?_, ?_⟩, c⟩, ?_, ?_, ?_⟩⟩
    · unfold fX4_calm fX0_dropStorm; rw [a3.2.1.1, if_neg hne, nI_s1 (show 1 ≤ ns by omega), ltl_s, bW_s, if_pos rfl, up_eq]
    · unfold fX5_calm; rw [up_id (show ¬ 26 = 1 by decide), b2.1, if_neg hne, nI_s1 (show 1 ≤ ns by omega), ltl_s, up_eq]
    · refine ⟨?_, a1.2.1, fun k hk => ?_⟩
      · simp (disch := omega) only [up_id, up_ix]; exact a1.1
      · simp (disch := omega) only [up_id]; exact a1.2.2 k hk
    · simp (disch := omega) only [up_id, up_ix]; exact a2
    · refine ⟨a3.1.keep ?_ ?_ ?_, ⟨?_, by omega, fun k hk => ?_⟩, ?_⟩
      · simp (disch := omega) only [up_id, up_ix]
      · simp (disch := omega) only [up_id]
      · simp (disch := omega) only [up_id]
      · rw [up_id (by omega), up_eq]
      · simp (disch := omega) only [up_id]; exact a3.2.1.2.2 k (by omega)
      · simp (disch := omega) only [up_id]; exact a3.2.2
    · refine ⟨?_, b1.2.1, fun k hk => ?_⟩
      · simp (disch := omega) only [up_id, up_ix]; exact b1.1
      · simp (disch := omega) only [up_id]; exact b1.2.2 k hk
    · refine ⟨up_eq _ _ _ _, by omega, fun k hk => ?_⟩
      simp (disch := omega) only [up_id]; exact b2.2.2 k (by omega)
    · simp (disch := omega) only [up_id, up_ix]; exact b3
    · exact HS_keep hS (fun a _ _ => by simp (disch := omega) only [up_id]) (fun a _ _ => by simp (disch := omega) only [up_id])
    · exact hZ.keep (fun a _ _ => by simp (disch := omega) only [up_id]) (by simp (disch := omega) only [up_id, up_ix]) (by simp (disch := omega) only [up_id])
    · simp (disch := omega) only [up_id, up_ix]; exact hf
