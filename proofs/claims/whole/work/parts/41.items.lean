/-! ONE ITEM OF A SHEET: lose, lay, get. -/
/-- why an item can't be had: 1 the sheet is lost, 3 it is of another form, 2 it has no such item -/
def rfc (M : Mem) (k : Nat) (y x : Int32) : Int32 := if M 27 k = -1 then 1 else if M 27 k = y then (if 0 ≤ x.toInt ∧ x.toInt < (M 28 k).toInt then 0 else 2) else 3
theorem rfc_v (M : Mem) (k : Nat) (y x : Int32) : rfc M k y x = 0 ∨ rfc M k y x = 1 ∨ rfc M k y x = 2 ∨ rfc M k y x = 3 := by
  unfold rfc
  by_cases a : M 27 k = -1
  · rw [if_pos a]; exact Or.inr (Or.inl rfl)
  · rw [if_neg a]
    by_cases b : M 27 k = y
    · rw [if_pos b]
      by_cases c : 0 ≤ x.toInt ∧ x.toInt < (M 28 k).toInt
      · rw [if_pos c]; exact Or.inl rfl
      · rw [if_neg c]; exact Or.inr (Or.inr (Or.inl rfl))
    · rw [if_neg b]; exact Or.inr (Or.inr (Or.inr rfl))
theorem refusal_s {M : Mem} (h : HS M) {k : Nat} (hk : k < 4) {y : Int32} (hy : okR y 0 2 = true) (x : Int32) : fX4_refusalOfItem (some (16 + k)) y x M = if rfc M k y x = 0 then some (0, M) else some (-10 - rfc M k y x, up M 0 7 (rfc M k y x)) := by
  unfold fX4_refusalOfItem fX4_found rfc
  rw [qm_1, isS_k k hk, gd_true, isForm_s, hy, if_pos rfl, lost_s]
  obtain ⟨h1, h2⟩ := h k hk
  rw [h1]
  rcases h2 with h2 | ⟨f, z, c1, c2, c3, c4, c5, c6⟩
  · rw [h2, decide_eq_true rfl, if_pos rfl, if_pos rfl, ltl_s, bW_s, if_neg (show ¬ (1 : Int32) = 0 by decide)]
  · have hm : ¬ M 27 k = -1 := by rw [c3]; exact nI_ne_m1 (by omega)
    rw [decide_eq_false hm, if_neg Bool.false_ne_true, if_neg hm]
    by_cases b : M 27 k = y
    · rw [if_pos b, if_pos b, hasItems_s c4 c2]
      by_cases c : 0 ≤ x.toInt ∧ x.toInt < (M 28 k).toInt
      · rw [if_pos c, if_pos (show (0 : Int32) = 0 from rfl), if_pos (decide_eq_true (by rw [c5, pz_ti (by omega)] at c; rw [show (1 : Int32).toInt = 1 by decide]; omega))]
      · rw [if_neg c, if_neg (show ¬ (2 : Int32) = 0 by decide), if_neg (by rw [decide_eq_true_eq]; intro w; apply c; rw [c5, pz_ti (by omega)]; rw [show (1 : Int32).toInt = 1 by decide] at w; omega), ltl_s, bW_s]
    · rw [if_neg b, if_neg b, ltl_s, bW_s, if_neg (show ¬ (3 : Int32) = 0 by decide)]
theorem lacks_s {M S : Mem} (h : HS M) {k : Nat} (hk : k < 4) (h27 : S 27 = M 27) (h28 : S 28 = M 28) (y x : Int32) : fX5_lacks (nI k) y x S = if rfc M k y x = 0 then some (0, S) else some (-10 - rfc M k y x, up S 26 4 (rfc M k y x)) := by
  unfold fX5_lacks fX5_met rfc
  rw [pz_gd (by omega) (by omega), nI_clamp (by omega), h27, h28]
  obtain ⟨h1, h2⟩ := h k hk
  rcases h2 with h2 | ⟨f, z, c1, c2, c3, c4, c5, c6⟩
  · rw [h2, if_neg (by decide), if_pos rfl, ltl_s, bW_s, if_neg (show ¬ (1 : Int32) = 0 by decide)]
  · have hm : ¬ M 27 k = -1 := by rw [c3]; exact nI_ne_m1 (by omega)
    rw [if_neg hm, if_pos (by rw [c3]; exact nI_pos' (by omega)), pz_gd (by omega) (by omega)]
    by_cases b : M 27 k = y
    · have hz : (Int32.toInt64 (M 28 k - 1)).toInt = (z : Int) - 1 := by rw [i64_ti, c5, pL1, pk_sub_toInt (by omega) (by omega)]; rfl
      rw [if_pos b, if_pos b, pz_gd (by omega) (by omega), x5_in, hz, i64_ti, show (0 : Int64).toInt = 0 by decide]
      by_cases c : 0 ≤ x.toInt ∧ x.toInt < (M 28 k).toInt
      · rw [if_pos c, if_pos (show (0 : Int32) = 0 from rfl), if_pos (decide_eq_true (by rw [c5, pz_ti (by omega)] at c; omega))]
      · rw [if_neg c, if_neg (show ¬ (2 : Int32) = 0 by decide), if_neg (by rw [decide_eq_true_eq]; intro w; apply c; rw [c5, pz_ti (by omega)]; omega), ltl_s, bW_s]
    · rw [if_neg b, if_neg b, ltl_s, bW_s, if_neg (show ¬ (3 : Int32) = 0 by decide)]
theorem lose_b {M : Mem} (h : HS M) (hf : M 0 7 = M 26 4) (x : Int32) : ∃ v M1 M2, fX4_lose x M = some (v, M1) ∧ fX5_lose x M1 = some (v, M2) ∧ SQ M M2 := by
  have hid : SQ M M := ⟨h, hf, .rfl M⟩
  cases e : okR x 0 3 with
  | false =>
    refine ⟨-2, M, M, ?_, ?_, hid⟩
    · unfold fX4_lose; rw [sheetAt_n x e, bP_s, qm_0]
    · unfold fX5_lose; rw [isSheet_s, e, if_neg Bool.false_ne_true]
  | true =>
    obtain ⟨k, rfl, hk'⟩ := okR_0 e
    have hk : k < 4 := by omega
    obtain ⟨h1, h2⟩ := h k hk
    rcases h2 with h2 | ⟨f, z, c1, c2, c3, c4, c5, c6⟩
    · refine ⟨-10 - 1, up M 0 7 1, _, ?_, ?_, fm_s h 1⟩
      · unfold fX4_lose fX4_found; rw [sheetAt_k k hk, bP_s, qm_1, isS_k k hk, gd_true, lost_s, h1, decide_eq_true h2, if_pos rfl, ltl_s, bW_s]
      · unfold fX5_lose fX5_met; rw [isSheet_s, e, if_pos rfl, pz_gd (by omega) (by omega), nI_clamp (by omega), up_id (by omega), h2, if_neg (by decide), ltl_s, bW_s]
    · have hm : ¬ M 27 k = -1 := by rw [c3]; exact nI_ne_m1 (by omega)
      obtain ⟨g, g1, g2⟩ := renew_s (M := M) hk (-1) 0
      refine ⟨nI z, up (up (upf M (20 + k) g) (16 + k) 1 (-1)) (16 + k) 2 0, up (up (up (upf M (20 + k) g) (16 + k) 1 (-1)) (16 + k) 2 0) 27 k (-1), ?_, ?_, ?_, ?_, ?_, ?_, ?_⟩
      · unfold fX4_lose; rw [sheetAt_k k hk, bP_s, qm_1, isS_k k hk, gd_true, lost_s, h1, decide_eq_false hm, if_neg Bool.false_ne_true, g1, bW_s, c4]
      · unfold fX5_lose
        rw [isSheet_s, e, if_pos rfl, pz_gd (by omega) (by omega), nI_clamp (by omega), up_id (by omega), up_id (by omega), upf_id (by omega), c3, if_pos (nI_pos' (by omega)), pz_gd (by omega) (by omega), ltl_s, pz_gd (by omega) (by omega), up_id (by omega), up_id (by omega), up_id (by omega), upf_id (by omega), c5]
      · refine HS_set h hk (fun j hj hjk => ⟨?_, ?_, ?_, ?_, fun i hi => ?_⟩) ⟨?_, Or.inl ?_⟩
        · simp (disch := omega) only [up_id, upf_id]
        · simp (disch := omega) only [up_id, upf_id]
        · simp (disch := omega) only [up_id, up_ix, upf_id]
        · simp (disch := omega) only [up_id, upf_id]
        · simp (disch := omega) only [up_id, upf_id]
        · simp (disch := omega) only [up_id, up_ix, up_eq, upf_id]
        · simp (disch := omega) only [up_eq]
      · simp (disch := omega) only [up_id, upf_id]; exact hf
      · intro a a1 a2 a3 a4
        simp (disch := omega) only [up_id, upf_id]
      · intro a _
        simp (disch := omega) only [up_id, upf_id]
      · intro a _
        simp (disch := omega) only [up_id, upf_id]
theorem get_b {M : Mem} (h : HS M) (hf : M 0 7 = M 26 4) (x y n : Int32) : ∃ v M1 M2, fX4_get x y n M = some (v, M1) ∧ fX5_get x y n M1 = some (v, M2) ∧ SQ M M2 := by
  have hid : SQ M M := ⟨h, hf, .rfl M⟩
  have i5 : ∀ z : Int32, fX5_in z.toInt64 0 2 = okR z 0 2 := fun z => x5_inR z 0 2
  cases e : okR x 0 3 with
  | false =>
    refine ⟨-2147483648, M, M, ?_, ?_, hid⟩
    · unfold fX4_get fX4_refusalOfItem; rw [sheetAt_n x e, bP_s, qm_0, bW_s, qm_0]
    · unfold fX5_get; rw [isSheet_s, e, if_neg Bool.false_ne_true]
  | true =>
    obtain ⟨k, rfl, hk'⟩ := okR_0 e
    have hk : k < 4 := by omega
    cases e2 : okR y 0 2 with
    | false =>
      refine ⟨-2147483648, M, M, ?_, ?_, hid⟩
      · unfold fX4_get fX4_refusalOfItem; rw [sheetAt_k k hk, bP_s, qm_1, isS_k k hk, gd_true, isForm_s, e2, if_neg Bool.false_ne_true, bW_s, qm_1, isS_k k hk, gd_true, if_neg (by decide)]
      · unfold fX5_get; rw [isSheet_s, e, if_pos rfl, i5, e2, if_neg Bool.false_ne_true]
    | true =>
      by_cases r : rfc M k y n = 0
      · have hr := r
        unfold rfc at hr
        obtain ⟨h1, h2⟩ := h k hk
        rcases h2 with h2 | ⟨f, z, c1, c2, c3, c4, c5, c6⟩
        · rw [if_pos h2] at hr; exact absurd hr (by decide)
        · rw [if_neg (by rw [c3]; exact nI_ne_m1 (by omega))] at hr
          by_cases b : M 27 k = y
          · rw [if_pos b] at hr
            by_cases c : 0 ≤ n.toInt ∧ n.toInt < (M 28 k).toInt
            · rw [c5, pz_ti (by omega)] at c
              obtain ⟨i, rfl, hi31⟩ := nat_of (x := n) c.1
              rw [pz_ti hi31] at c
              have hi : i < z := by omega
              refine ⟨M (20 + k) i, M, M, ?_, ?_, hid⟩
              · unfold fX4_get
                rw [sheetAt_k k hk, bP_s, refusal_s h hk e2, if_pos r, bW_s, qm_1, isS_k k hk, gd_true, if_pos rfl]
                unfold fX2_itemAt
                rw [c4, if_neg (fun w => by have := (nI_leI (by omega) (by omega)).mp w; omega), show 16 + k + 4 = 20 + k by omega, itemOf_in (by rw [aln_k k hk]; omega) (by rw [aln_k k hk]; omega), bP_s, bP_s]
              · unfold fX5_get
                rw [isSheet_s, e, if_pos rfl, i5, e2, if_pos rfl, lacks_s h hk rfl rfl, if_pos r, bW_s, if_pos rfl, show (60 : Int32) = nI 60 from rfl, pk_mul, nI_add, pz_gd (by omega) (by omega), nI_clamp (by omega), c6 i hi]
            · rw [if_neg c] at hr; exact absurd hr (by decide)
          · rw [if_neg b] at hr; exact absurd hr (by decide)
      · have hn : ¬ (-10 - rfc M k y n : Int32) = 0 := by rcases rfc_v M k y n with a | a | a | a <;> rw [a] <;> first | exact absurd a r | decide
        refine ⟨-2147483648, up M 0 7 (rfc M k y n), _, ?_, ?_, fm_s h (rfc M k y n)⟩
        · unfold fX4_get
          rw [sheetAt_k k hk, bP_s, refusal_s h hk e2, if_neg r, bW_s, qm_1, isS_k k hk, gd_true, if_neg hn]
        · unfold fX5_get
          rw [isSheet_s, e, if_pos rfl, i5, e2, if_pos rfl, lacks_s h hk (up_id (by omega)) (up_id (by omega)), if_neg r, bW_s, if_neg hn]
theorem put_s {M : Mem} {k f i : Nat} (hk : k < 4) (hf : M (16 + k) 1 = nI f) (hf2 : f ≤ 2) (hi : i < 60) (x : Int32) : fX2_put (16 + k) (nI i) x M = some ((), up M (20 + k) i (fX5_cut (nI f) x)) := by
  unfold fX2_put fX2_put_31 fX5_cut
  rw [hf, show 16 + k + 4 = 20 + k by omega]
  have hp : ∀ v, fX4_putInto (20 + k) (nI i) v M = some ((), up M (20 + k) i v) := fun v => putInto_in (by rw [aln_k k hk]; exact hi) (by rw [aln_k k hk]; omega)
  rcases (show f = 0 ∨ f = 1 ∨ f = 2 by omega) with rfl | rfl | rfl
  · rw [if_pos (show nI 0 = 0 from rfl), if_pos (show nI 0 = 0 from rfl), hp, bW_s]
  · rw [if_neg (show ¬ nI 1 = 0 by decide), if_neg (show ¬ nI 1 = 0 by decide), if_pos (show nI 1 = 1 from rfl), if_pos (show nI 1 = 1 from rfl), hp, bW_s]
  · rw [if_neg (show ¬ nI 2 = 0 by decide), if_neg (show ¬ nI 2 = 0 by decide), if_neg (show ¬ nI 2 = 1 by decide), if_neg (show ¬ nI 2 = 1 by decide), hp, bW_s]
/-- the same item set on both sides -/
theorem HS_put {M : Mem} (h : HS M) {k i : Nat} (hk : k < 4) (hi : i < 60) (v : Int32) : HS (up (up M (20 + k) i v) 29 (60 * k + i) v) := by
  refine HS_set h hk (fun j hj hjk => ⟨?_, ?_, ?_, ?_, fun y hy => ?_⟩) ?_
  · simp (disch := omega) only [up_id]
  · simp (disch := omega) only [up_id]
  · simp (disch := omega) only [up_id]
  · simp (disch := omega) only [up_id]
  · rw [up_ix (by omega), up_id (by omega)]
  · obtain ⟨h1, h2⟩ := h k hk
    unfold HS1
    simp (disch := omega) only [up_id]
    refine ⟨h1, ?_⟩
    rcases h2 with h2 | ⟨f, z, c1, c2, c3, c4, c5, c6⟩
    · exact Or.inl h2
    · refine Or.inr ⟨f, z, c1, c2, c3, c4, c5, fun y hy => ?_⟩
      by_cases e : y = i
      · rw [e, up_eq, up_eq]
      · rw [up_ix e, up_ix (by omega), up_id (by omega)]; exact c6 y hy
theorem lay_b {M : Mem} (h : HS M) (hf : M 0 7 = M 26 4) (x y n v : Int32) : ∃ r M1 M2, fX4_lay x y n v M = some (r, M1) ∧ fX5_lay x y n v M1 = some (r, M2) ∧ SQ M M2 := by
  have hid : SQ M M := ⟨h, hf, .rfl M⟩
  have i5 : ∀ z : Int32, fX5_in z.toInt64 0 2 = okR z 0 2 := fun z => x5_inR z 0 2
  cases e : okR x 0 3 with
  | false =>
    refine ⟨-2, M, M, ?_, ?_, hid⟩
    · unfold fX4_lay fX4_refusalOfItem; rw [sheetAt_n x e, bP_s, qm_0, bW_s, qm_0]
    · unfold fX5_lay; rw [isSheet_s, e, if_neg Bool.false_ne_true]
  | true =>
    obtain ⟨k, rfl, hk'⟩ := okR_0 e
    have hk : k < 4 := by omega
    cases e2 : okR y 0 2 with
    | false =>
      refine ⟨-2, M, M, ?_, ?_, hid⟩
      · unfold fX4_lay fX4_refusalOfItem; rw [sheetAt_k k hk, bP_s, qm_1, isS_k k hk, gd_true, isForm_s, e2, if_neg Bool.false_ne_true, bW_s, qm_1, isS_k k hk, gd_true, if_neg (by decide)]
      · unfold fX5_lay; rw [isSheet_s, e, if_pos rfl, i5, e2, if_neg Bool.false_ne_true]
    | true =>
      by_cases r : rfc M k y n = 0
      · have hr := r
        unfold rfc at hr
        obtain ⟨h1, h2⟩ := h k hk
        rcases h2 with h2 | ⟨f, z, c1, c2, c3, c4, c5, c6⟩
        · rw [if_pos h2] at hr; exact absurd hr (by decide)
        · rw [if_neg (by rw [c3]; exact nI_ne_m1 (by omega))] at hr
          by_cases b : M 27 k = y
          · rw [if_pos b] at hr
            by_cases c : 0 ≤ n.toInt ∧ n.toInt < (M 28 k).toInt
            · rw [c5, pz_ti (by omega)] at c
              obtain ⟨i, rfl, hi31⟩ := nat_of (x := n) c.1
              rw [pz_ti hi31] at c
              have hi : i < z := by omega
              have hy : y = nI f := by rw [← b, c3]
              refine ⟨1, up M (20 + k) i (fX5_cut (nI f) v), up (up M (20 + k) i (fX5_cut (nI f) v)) 29 (60 * k + i) (fX5_cut (nI f) v), ?_, ?_, HS_put h hk (by omega) _, ?_, ?_, ?_, ?_⟩
              · unfold fX4_lay
                rw [sheetAt_k k hk, bP_s, refusal_s h hk e2, if_pos r, bW_s, qm_1, isS_k k hk, gd_true, if_pos rfl, put_s hk (h1.trans c3) c1 (by omega), bW_s]
              · unfold fX5_lay
                rw [isSheet_s, e, if_pos rfl, i5, e2, if_pos rfl, lacks_s h hk (up_id (by omega)) (up_id (by omega)), if_pos r, bW_s, if_pos rfl, show (60 : Int32) = nI 60 from rfl, pk_mul, nI_add, pz_gd (by omega) (by omega), ltl_s, nI_clamp (by omega), hy]
              · simp (disch := omega) only [up_id]; exact hf
              · intro a a1 a2 a3 a4
                simp (disch := omega) only [up_id]
              · intro a _
                simp (disch := omega) only [up_id]
              · intro a _
                simp (disch := omega) only [up_id]
            · rw [if_neg c] at hr; exact absurd hr (by decide)
          · rw [if_neg b] at hr; exact absurd hr (by decide)
      · have hn : ¬ (-10 - rfc M k y n : Int32) = 0 := by rcases rfc_v M k y n with a | a | a | a <;> rw [a] <;> first | exact absurd a r | decide
        refine ⟨-10 - rfc M k y n, up M 0 7 (rfc M k y n), _, ?_, ?_, fm_s h (rfc M k y n)⟩
        · unfold fX4_lay
          rw [sheetAt_k k hk, bP_s, refusal_s h hk e2, if_neg r, bW_s, qm_1, isS_k k hk, gd_true, if_neg hn]
        · unfold fX5_lay
          rw [isSheet_s, e, if_pos rfl, i5, e2, if_pos rfl, lacks_s h hk (up_id (by omega)) (up_id (by omega)), if_neg r, bW_s, if_neg hn]
