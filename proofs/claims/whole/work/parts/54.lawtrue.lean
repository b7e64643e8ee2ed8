/-! THE LAW: whatever the script says, both answer alike. (written by mk54.py) -/
theorem law_step {L : Nat} {xs : Nat → Int32} {M : Mem} (h : Inv M) {i : Nat} (hL : L ≤ 3072) (hi : i + 6 ≤ L) (n : Nat) : ∃ M', Inv M' ∧ fL_law_18 L xs (n + 1) (nI i) M = fL_law_18 L xs n (nI (i + 6)) M' := by
  have hG : ∀ (j : Nat), j < 6 → ∀ {α : Type} (x : Option α), gd (inb (nI i + nI j) L) x = x := fun j hj α x => by rw [nI_add]; exact pz_gd (by omega) (by omega)
  have g1 : ∀ {α : Type} (x : Option α), gd (inb (nI i + 1) L) x = x := fun x => hG 1 (by omega) x
  have g2 : ∀ {α : Type} (x : Option α), gd (inb (nI i + 2) L) x = x := fun x => hG 2 (by omega) x
  have g3 : ∀ {α : Type} (x : Option α), gd (inb (nI i + 3) L) x = x := fun x => hG 3 (by omega) x
  have g4 : ∀ {α : Type} (x : Option α), gd (inb (nI i + 4) L) x = x := fun x => hG 4 (by omega) x
  have g5 : ∀ {α : Type} (x : Option α), gd (inb (nI i + 5) L) x = x := fun x => hG 5 (by omega) x
  have a6 : nI i + 6 = nI (i + 6) := nI_add i 6
  rw [fL_law_18, if_neg (fun z => by rw [pz_lt, pz_ti (by omega), pL6, pk_sub_toInt (by omega) (by omega)] at z; omega), pz_gd (by omega) (by omega)]
  simp only [g1, g2, g3, g4, g5, a6]
  generalize (xs (nI i).toNatClampNeg &&& 63) = op
  by_cases c0 : op = 0
  · rw [if_pos c0]
    obtain ⟨v, M1, M2, e1, e2, e3⟩ := type_b h (xs (nI i + 1).toNatClampNeg)
    rw [e1, bW_s, e2, bW_s, if_pos rfl]
    exact ⟨M2, e3, rfl⟩
  rw [if_neg c0]
  by_cases c1 : op = 1
  · rw [if_pos c1]
    obtain ⟨v, M1, M2, e1, e2, e3⟩ := wipe_b h
    rw [e1, bW_s, e2, bW_s, if_pos rfl]
    exact ⟨M2, e3, rfl⟩
  rw [if_neg c1]
  by_cases c2 : op = 2
  · rw [if_pos c2]
    obtain ⟨v, M1, M2, e1, e2, e3⟩ := undo_b h
    rw [e1, bW_s, e2, bW_s, if_pos rfl]
    exact ⟨M2, e3, rfl⟩
  rw [if_neg c2]
  by_cases c3 : op = 3
  · rw [if_pos c3]
    obtain ⟨v, M1, M2, e1, e2, e3⟩ := fault_q h
    dsimp only at e1
    injection e1 with e1
    injection e1 with e1 e4
    subst e4
    rw [e2, bW_s, if_pos e1]
    exact ⟨M2, e3, rfl⟩
  rw [if_neg c3]
  by_cases c4 : op = 4
  · rw [if_pos c4]
    obtain ⟨v, M2, e1, e2, e3⟩ := channel_q h (xs (nI i + 1).toNatClampNeg) (xs (nI i + 2).toNatClampNeg)
    dsimp only at e1
    rw [e1, bP_s, e2, bW_s, if_pos rfl]
    exact ⟨M2, e3, rfl⟩
  rw [if_neg c4]
  by_cases c5 : op = 5
  · rw [if_pos c5]
    obtain ⟨v, M1, M2, e1, e2, e3⟩ := storm_b h (xs (nI i + 1).toNatClampNeg)
    rw [e1, bW_s, e2, bW_s, if_pos rfl]
    exact ⟨M2, e3, rfl⟩
  rw [if_neg c5]
  by_cases c6 : op = 6
  · rw [if_pos c6]
    obtain ⟨v, M1, M2, e1, e2, e3⟩ := calm_b h
    rw [e1, bW_s, e2, bW_s, if_pos rfl]
    exact ⟨M2, e3, rfl⟩
  rw [if_neg c6]
  by_cases c7 : op = 7
  · rw [if_pos c7]
    obtain ⟨v, M1, M2, e1, e2, e3⟩ := odds_b h (xs (nI i + 1).toNatClampNeg)
    rw [e1, bW_s, e2, bW_s, if_pos rfl]
    exact ⟨M2, e3, rfl⟩
  rw [if_neg c7]
  by_cases c8 : op = 8
  · rw [if_pos c8]
    obtain ⟨v, M2, e1, e2, e3⟩ := deep_q h (xs (nI i + 1).toNatClampNeg) (xs (nI i + 2).toNatClampNeg)
    dsimp only at e1
    rw [e1, bP_s, e2, bW_s, if_pos rfl]
    exact ⟨M2, e3, rfl⟩
  rw [if_neg c8]
  by_cases c9 : op = 9
  · rw [if_pos c9]
    obtain ⟨v, M2, e1, e2, e3⟩ := map_q h (xs (nI i + 1).toNatClampNeg) (xs (nI i + 2).toNatClampNeg)
    dsimp only at e1
    rw [e1, bP_s, e2, bW_s, if_pos rfl]
    exact ⟨M2, e3, rfl⟩
  rw [if_neg c9]
  by_cases c10 : op = 10
  · rw [if_pos c10]
    obtain ⟨v, M1, M2, e1, e2, e3⟩ := ways_q h (xs (nI i + 1).toNatClampNeg) (xs (nI i + 2).toNatClampNeg) (xs (nI i + 3).toNatClampNeg)
    rw [e1, bW_s, e2, bW_s, if_pos rfl]
    exact ⟨M2, e3, rfl⟩
  rw [if_neg c10]
  by_cases c11 : op = 11
  · rw [if_pos c11]
    obtain ⟨v, M1, M2, e1, e2, e3⟩ := draft_q h (xs (nI i + 1).toNatClampNeg)
    rw [e1, bW_s, e2, bW_s, if_pos rfl]
    exact ⟨M2, e3, rfl⟩
  rw [if_neg c11]
  by_cases c12 : op = 12
  · rw [if_pos c12]
    obtain ⟨v, M1, M2, e1, e2, e3⟩ := waits_q h (xs (nI i + 1).toNatClampNeg) (xs (nI i + 2).toNatClampNeg)
    rw [e1, bW_s, e2, bW_s, if_pos rfl]
    exact ⟨M2, e3, rfl⟩
  rw [if_neg c12]
  by_cases c13 : op = 13
  · rw [if_pos c13]
    obtain ⟨v, M1, M2, e1, e2, e3⟩ := byMap_q h (xs (nI i + 1).toNatClampNeg) (xs (nI i + 2).toNatClampNeg)
    rw [e1, bW_s, e2, bW_s, if_pos rfl]
    exact ⟨M2, e3, rfl⟩
  rw [if_neg c13]
  by_cases c14 : op = 14
  · rw [if_pos c14]
    obtain ⟨v, M1, M2, e1, e2, e3⟩ := byChange_q h (xs (nI i + 1).toNatClampNeg) (xs (nI i + 2).toNatClampNeg)
    rw [e1, bW_s, e2, bW_s, if_pos rfl]
    exact ⟨M2, e3, rfl⟩
  rw [if_neg c14]
  by_cases c15 : op = 15
  · rw [if_pos c15]
    obtain ⟨v, M1, M2, e1, e2, e3⟩ := saved_q h (xs (nI i + 1).toNatClampNeg) (xs (nI i + 2).toNatClampNeg)
    rw [e1, bW_s, e2, bW_s, if_pos rfl]
    exact ⟨M2, e3, rfl⟩
  rw [if_neg c15]
  by_cases c16 : op = 16
  · rw [if_pos c16]
    obtain ⟨v, M1, M2, e1, e2, e3, e4⟩ := sounded_b h.2.2.1 (xs (nI i + 1).toNatClampNeg) (xs (nI i + 2).toNatClampNeg) (xs (nI i + 3).toNatClampNeg)
    rw [e1, bW_s, e2, bW_s, if_pos rfl]
    exact ⟨M2, h.X e3 e4, rfl⟩
  rw [if_neg c16]
  by_cases c17 : op = 17
  · rw [if_pos c17]
    obtain ⟨v, M1, M2, e1, e2, e3, e4⟩ := forget_b h.2.2.1
    rw [e1, bW_s, e2, bW_s, if_pos rfl]
    exact ⟨M2, h.X e3 e4, rfl⟩
  rw [if_neg c17]
  by_cases c18 : op = 18
  · rw [if_pos c18]
    obtain ⟨v, M1, M2, e1, e2, e3⟩ := read_b h.2.1 h.2.2.1 h.2.2.2 (xs (nI i + 1).toNatClampNeg)
    rw [e1, bW_s, e2, bW_s, if_pos rfl]
    refine ⟨M2, ?_, rfl⟩
    rcases e3 with e3 | e3
    · exact h.S e3.1
    · exact h.X e3.1 e3.2
  rw [if_neg c18]
  by_cases c19 : op = 19
  · rw [if_pos c19]
    obtain ⟨v, M2, e1, e2, e3⟩ := laws_q h (xs (nI i + 1).toNatClampNeg) (xs (nI i + 2).toNatClampNeg)
    dsimp only at e1
    rw [e1, bP_s, e2, bW_s, if_pos rfl]
    exact ⟨M2, e3, rfl⟩
  rw [if_neg c19]
  by_cases c20 : op = 20
  · rw [if_pos c20]
    obtain ⟨v, M2, e1, e2, e3⟩ := next_q h (xs (nI i + 1).toNatClampNeg) (xs (nI i + 2).toNatClampNeg)
    dsimp only at e1
    rw [e1, bP_s, e2, bW_s, if_pos rfl]
    exact ⟨M2, e3, rfl⟩
  rw [if_neg c20]
  by_cases c21 : op = 21
  · rw [if_pos c21]
    obtain ⟨v, M1, M2, e1, e2, e3⟩ := tells_q h (xs (nI i + 1).toNatClampNeg) (xs (nI i + 2).toNatClampNeg)
    rw [e1, bW_s, e2, bW_s, if_pos rfl]
    exact ⟨M2, e3, rfl⟩
  rw [if_neg c21]
  by_cases c22 : op = 22
  · rw [if_pos c22]
    obtain ⟨v, M1, M2, e1, e2, e3⟩ := wreck_q h (xs (nI i + 1).toNatClampNeg) (xs (nI i + 2).toNatClampNeg) (xs (nI i + 3).toNatClampNeg)
    rw [e1, bW_s, e2, bW_s, if_pos rfl]
    exact ⟨M2, e3, rfl⟩
  rw [if_neg c22]
  by_cases c23 : op = 23
  · rw [if_pos c23]
    obtain ⟨v, M1, M2, e1, e2, e3⟩ := through_q h (xs (nI i + 1).toNatClampNeg) (xs (nI i + 2).toNatClampNeg) (xs (nI i + 3).toNatClampNeg)
    rw [e1, bW_s, e2, bW_s, if_pos rfl]
    exact ⟨M2, e3, rfl⟩
  rw [if_neg c23]
  by_cases c24 : op = 24
  · rw [if_pos c24]
    obtain ⟨v, M1, M2, e1, e2, e3⟩ := sure_q h (xs (nI i + 1).toNatClampNeg) (xs (nI i + 2).toNatClampNeg) (xs (nI i + 3).toNatClampNeg)
    rw [e1, bW_s, e2, bW_s, if_pos rfl]
    exact ⟨M2, e3, rfl⟩
  rw [if_neg c24]
  by_cases c25 : op = 25
  · rw [if_pos c25]
    obtain ⟨v, M1, M2, e1, e2, e3⟩ := safest_q h (xs (nI i + 1).toNatClampNeg) (xs (nI i + 2).toNatClampNeg) (xs (nI i + 3).toNatClampNeg)
    rw [e1, bW_s, e2, bW_s, if_pos rfl]
    exact ⟨M2, e3, rfl⟩
  rw [if_neg c25]
  by_cases c26 : op = 26
  · rw [if_pos c26]
    obtain ⟨v, M1, M2, e1, e2, e3⟩ := worth_q h (xs (nI i + 1).toNatClampNeg) (xs (nI i + 2).toNatClampNeg)
    rw [e1, bW_s, e2, bW_s, if_pos rfl]
    exact ⟨M2, e3, rfl⟩
  rw [if_neg c26]
  by_cases c27 : op = 27
  · rw [if_pos c27]
    obtain ⟨v, M1, M2, e1, e2, e3⟩ := season_q h (xs (nI i + 1).toNatClampNeg) (xs (nI i + 2).toNatClampNeg) (xs (nI i + 3).toNatClampNeg) (xs (nI i + 4).toNatClampNeg)
    rw [e1, bW_s, e2, bW_s, if_pos rfl]
    exact ⟨M2, e3, rfl⟩
  rw [if_neg c27]
  by_cases c28 : op = 28
  · rw [if_pos c28]
    obtain ⟨v, M1, M2, e1, e2, e3⟩ := sheet_b h.2.1 h.2.2.2 (xs (nI i + 1).toNatClampNeg) (xs (nI i + 2).toNatClampNeg) (xs (nI i + 3).toNatClampNeg)
    rw [e1, bW_s, e2, bW_s, if_pos rfl]
    exact ⟨M2, h.S e3, rfl⟩
  rw [if_neg c28]
  by_cases c29 : op = 29
  · rw [if_pos c29]
    obtain ⟨v, M1, M2, e1, e2, e3⟩ := lose_b h.2.1 h.2.2.2 (xs (nI i + 1).toNatClampNeg)
    rw [e1, bW_s, e2, bW_s, if_pos rfl]
    exact ⟨M2, h.S e3, rfl⟩
  rw [if_neg c29]
  by_cases c30 : op = 30
  · rw [if_pos c30]
    obtain ⟨v, M1, M2, e1, e2, e3⟩ := lay_b h.2.1 h.2.2.2 (xs (nI i + 1).toNatClampNeg) (xs (nI i + 2).toNatClampNeg) (xs (nI i + 3).toNatClampNeg) (xs (nI i + 4).toNatClampNeg)
    rw [e1, bW_s, e2, bW_s, if_pos rfl]
    exact ⟨M2, h.S e3, rfl⟩
  rw [if_neg c30]
  by_cases c31 : op = 31
  · rw [if_pos c31]
    obtain ⟨v, M1, M2, e1, e2, e3⟩ := get_b h.2.1 h.2.2.2 (xs (nI i + 1).toNatClampNeg) (xs (nI i + 2).toNatClampNeg) (xs (nI i + 3).toNatClampNeg)
    rw [e1, bW_s, e2, bW_s, if_pos rfl]
    exact ⟨M2, h.S e3, rfl⟩
  rw [if_neg c31]
  by_cases c32 : op = 32
  · rw [if_pos c32]
    obtain ⟨v, M1, M2, e1, e2, e3⟩ := copy_b h.2.1 h.2.2.2 (xs (nI i + 1).toNatClampNeg) (xs (nI i + 2).toNatClampNeg) (xs (nI i + 3).toNatClampNeg) (xs (nI i + 4).toNatClampNeg) (xs (nI i + 5).toNatClampNeg)
    rw [e1, bW_s, e2, bW_s, if_pos rfl]
    exact ⟨M2, h.S e3, rfl⟩
  rw [if_neg c32]
  by_cases c33 : op = 33
  · rw [if_pos c33]
    obtain ⟨v, M1, M2, e1, e2, e3⟩ := write_b h (xs (nI i + 1).toNatClampNeg) (xs (nI i + 2).toNatClampNeg) (xs (nI i + 3).toNatClampNeg)
    rw [e1, bW_s, e2, bW_s, if_pos rfl]
    exact ⟨M2, e3, rfl⟩
  rw [if_neg c33]
  by_cases c34 : op = 34
  · rw [if_pos c34]
    obtain ⟨v, M1, M2, e1, e2, e3⟩ := count_q h (xs (nI i + 1).toNatClampNeg)
    rw [e1, bW_s, e2, bW_s, if_pos rfl]
    exact ⟨M2, e3, rfl⟩
  rw [if_neg c34]
  by_cases c35 : op = 35
  · rw [if_pos c35]
    obtain ⟨v, M1, M2, e1, e2, e3⟩ := digest_b h
    rw [e1, bW_s, e2, bW_s, if_pos ((lg_zero v v).mpr rfl)]
    exact ⟨M2, e3, rfl⟩
  rw [if_neg c35]
  exact ⟨M, h, rfl⟩
theorem law_loop {L : Nat} {xs : Nat → Int32} (hL : L ≤ 3072) : ∀ (n i : Nat) (M : Mem), Inv M → i ≤ L → L < i + 6 * n → ∃ M9, fL_law_18 L xs n (nI i) M = some (true, M9)
  | 0, i, M, _, h1, h2 => by omega
  | n + 1, i, M, h, h1, h2 => by
    by_cases e : i + 6 ≤ L
    · obtain ⟨M', h', e'⟩ := law_step (xs := xs) h hL e n
      rw [e']
      exact law_loop hL n (i + 6) M' h' e (by omega)
    · rw [fL_law_18, if_pos (by rw [pz_lt, pz_ti (by omega), pL6, pk_sub_toInt (by omega) (by omega)]; omega)]
      exact ⟨M, rfl⟩
theorem law_true (L : Nat) (xs : Nat → Int32) (hL : L ≤ 3072) : ∃ M9, fL_law_18 L xs 1000 0 M00 = some (true, M9) := law_loop hL 1000 0 M00 Inv00 (Nat.zero_le _) (by omega)
