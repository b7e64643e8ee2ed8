/-! COPIES FROM SHEET TO SHEET, AND SOUNDINGS. -/
theorem i64_add (a b : Int32) : (a.toInt64 + b.toInt64).toInt = a.toInt + b.toInt := by
  have ha := pz_rng a
  have hb := pz_rng b
  rw [Int64.toInt_add, i64_ti, i64_ti]
  exact Int.bmod_eq_of_le (by omega) (by omega)
theorem copy5_s {M : Mem} {k l p r c : Nat} (hk : k < 4) (hl : l < 4) (hp : p + c ≤ 60) (hr : r + c ≤ 60) : ∃ g q, fX5_copy_120 1000 (nI k) (nI p) (nI l) (nI r) (nI c) 0 M = some (1, upf (upf M 30 g) 29 q) ∧ (∀ y, y < c → q (60 * l + r + y) = M 29 (60 * k + p + y)) ∧ ∀ x, (∀ y, y < c → ¬ x = 60 * l + r + y) → q x = M 29 x := by
  rw [← upf_self M 30]
  have ad : ∀ a b i : Nat, (60 : Int32) * nI a + nI b + nI i = nI (60 * a + b + i) := fun a b i => by rw [show (60 : Int32) = nI 60 from rfl, pk_mul, nI_add, nI_add]
  refine loop_up (σ := Nat → Int32) (fun j i g => fX5_copy_120 j (nI k) (nI p) (nI l) (nI r) (nI c) (nI i) (upf M 30 g)) (fun i g => ∀ y, y < i → g y = M 29 (60 * k + p + y)) (fun o => ∃ g q, o = some (1, upf (upf (upf M 30 (M 30)) 30 g) 29 q) ∧ (∀ y, y < c → q (60 * l + r + y) = (upf M 30 (M 30)) 29 (60 * k + p + y)) ∧ ∀ x, (∀ y, y < c → ¬ x = 60 * l + r + y) → q x = (upf M 30 (M 30)) 29 x) c (fun j i g hi hI => ?_) (fun j g hI => ?_) 1000 0 (M 30) (by omega) (by omega) (fun y hy => absurd hy (Nat.not_lt_zero _))
  · left
    (try dsimp only)
    rw [fX5_copy_120, if_neg (fun y => by have := (nI_leI (by omega) (by omega)).mp y; omega), ad, pz_gd (by omega) (by omega), pz_gd (by omega) (by omega), ltl_s, nI_clamp (by omega), nI_clamp (by omega), upf_id (show ¬ 29 = 30 by decide), upf_up, upf_eq, upf_upf, nI_1]
    refine ⟨_, fun y hy => ?_, rfl⟩
    by_cases e : y = i
    · rw [e, upd_at]
    · rw [upd_ne e]; exact hI y (by omega)
  · (try dsimp only)
    rw [fX5_copy_120, if_pos ((nI_leI (by omega) (by omega)).mpr (Nat.le_refl _)), ← upf_self (upf M 30 g) 29]
    refine loop_up (σ := Nat → Int32) (fun j i q => fX5_copy_157 j (nI l) (nI r) (nI c) (nI i) (upf (upf M 30 g) 29 q)) (fun i q => (∀ y, y < i → q (60 * l + r + y) = M 29 (60 * k + p + y)) ∧ ∀ x, (∀ y, y < i → ¬ x = 60 * l + r + y) → q x = M 29 x) (fun o => ∃ g q, o = some (1, upf (upf (upf M 30 (M 30)) 30 g) 29 q) ∧ (∀ y, y < c → q (60 * l + r + y) = (upf M 30 (M 30)) 29 (60 * k + p + y)) ∧ ∀ x, (∀ y, y < c → ¬ x = 60 * l + r + y) → q x = (upf M 30 (M 30)) 29 x) c (fun j i q hi hJ => ?_) (fun j q hJ => ?_) 1000 0 ((upf M 30 g) 29) (by omega) (by omega) ⟨fun y hy => absurd hy (Nat.not_lt_zero _), fun x _ => by rw [upf_id (by decide)]⟩
    · left
      (try dsimp only)
      rw [fX5_copy_157, if_neg (fun y => by have := (nI_leI (by omega) (by omega)).mp y; omega), ad, pz_gd (by omega) (by omega), pz_gd (by omega) (by omega), ltl_s, nI_clamp (by omega), nI_clamp (by omega), upf_id (show ¬ 30 = 29 by decide), upf_eq, upf_up, upf_eq, upf_upf, nI_1]
      refine ⟨_, ⟨fun y hy => ?_, fun x hx => ?_⟩, rfl⟩
      · by_cases e : y = i
        · rw [e, upd_at]; exact hI i hi
        · rw [upd_ne (by omega)]; exact hJ.1 y (by omega)
      · rw [upd_ne (hx i (by omega))]; exact hJ.2 x (fun y hy => hx y (by omega))
    · (try dsimp only)
      rw [fX5_copy_157, if_pos ((nI_leI (by omega) (by omega)).mpr (Nat.le_refl _))]
      exact ⟨g, q, by rw [upf_upf], by rw [upf_id (by decide)]; exact hJ.1, by rw [upf_id (by decide)]; exact hJ.2⟩
theorem copy_b {M : Mem} (h : HS M) (hf : M 0 7 = M 26 4) (x1 x2 x3 x4 x5 : Int32) : ∃ v M1 M2, fX4_copy x1 x2 x3 x4 x5 M = some (v, M1) ∧ fX5_copy x1 x2 x3 x4 x5 M1 = some (v, M2) ∧ SQ M M2 := by
  have hid : SQ M M := ⟨h, hf, .rfl M⟩
  cases e : okR x1 0 3 with
  | false =>
    cases e2 : okR x3 0 3 with
    | false =>
      refine ⟨-2, M, M, ?_, ?_, hid⟩
      · unfold fX4_copy; rw [sheetAt_n x1 e, bP_s, sheetAt_n x3 e2, bP_s, qm_0]
      · unfold fX5_copy; rw [isSheet_s, e, if_neg Bool.false_ne_true]
    | true =>
      obtain ⟨l, rfl, hl'⟩ := okR_0 e2
      have hl : l < 4 := by omega
      refine ⟨-2, M, M, ?_, ?_, hid⟩
      · unfold fX4_copy; rw [sheetAt_n x1 e, bP_s, sheetAt_k l hl, bP_s, qm_0]
      · unfold fX5_copy; rw [isSheet_s, e, if_neg Bool.false_ne_true]
  | true =>
    obtain ⟨k, rfl, hk'⟩ := okR_0 e
    have hk : k < 4 := by omega
    cases e2 : okR x3 0 3 with
    | false =>
      refine ⟨-2, M, M, ?_, ?_, hid⟩
      · unfold fX4_copy; rw [sheetAt_k k hk, bP_s, sheetAt_n x3 e2, bP_s, qm_1, isS_k k hk, gd_true, qm_0]
      · unfold fX5_copy; rw [isSheet_s, e, if_pos rfl, isSheet_s, e2, if_neg Bool.false_ne_true]
    | true =>
      obtain ⟨l, rfl, hl'⟩ := okR_0 e2
      have hl : l < 4 := by omega
      obtain ⟨h1, h2⟩ := h k hk
      obtain ⟨j1, j2⟩ := h l hl
      have c4 : ∀ r : Option (Int32 × Mem), (if fX2_isLost M (16 + k) = true then fX4_copy_43 M else if fX2_isLost M (16 + l) = true then fX4_copy_43 M else if M (16 + k) 1 = M (16 + l) 1 then if fX2_hasItems M (16 + k) x2 x5 = true then if fX2_hasItems M (16 + l) x4 x5 = true then gd (cpOK x2 x4 x5 60 60) (lt (upf M (16 + l + 4) (va_cpy (M (16 + k + 4)) (M (16 + l + 4)) x2.toNatClampNeg x4.toNatClampNeg x5.toNatClampNeg)) fun M13 => some ((1 : Int32), M13)) else fX4_copy_91 M else fX4_copy_91 M else bW (fX4_found (4 : Int32) M) fun z17 M18 => some (z17, M18)) = r → fX4_copy (nI k) x2 (nI l) x4 x5 M = r := by
        intro r hr
        unfold fX4_copy
        rw [sheetAt_k k hk, bP_s, sheetAt_k l hl, bP_s, qm_1, isS_k k hk, gd_true, qm_1, isS_k l hl, gd_true]
        exact hr
      rcases h2 with h2 | ⟨f, z, c1, c2, c3, c4', c5, c6⟩
      · refine ⟨-10 - 1, up M 0 7 1, _, c4 _ ?_, ?_, fm_s h 1⟩
        · rw [lost_s, h1, h2, decide_eq_true rfl, if_pos rfl]; unfold fX4_copy_43 fX4_found; rw [ltl_s, bW_s]
        · unfold fX5_copy fX5_copy_35 fX5_met
          rw [isSheet_s, e, if_pos rfl, isSheet_s, e2, if_pos rfl, pz_gd (by omega) (by omega), nI_clamp (by omega), up_id (by omega), h2, if_pos (by decide), ltl_s, bW_s]
      · have hm : ¬ M 27 k = -1 := by rw [c3]; exact nI_ne_m1 (by omega)
        rcases j2 with j2 | ⟨f', z', d1, d2, d3, d4, d5, d6⟩
        · refine ⟨-10 - 1, up M 0 7 1, _, c4 _ ?_, ?_, fm_s h 1⟩
          · rw [lost_s, h1, decide_eq_false hm, if_neg Bool.false_ne_true, lost_s, j1, j2, decide_eq_true rfl, if_pos rfl]; unfold fX4_copy_43 fX4_found; rw [ltl_s, bW_s]
          · unfold fX5_copy fX5_copy_35 fX5_met
            rw [isSheet_s, e, if_pos rfl, isSheet_s, e2, if_pos rfl, pz_gd (by omega) (by omega), nI_clamp (by omega), nI_clamp (by omega), up_id (by omega), c3, if_neg (nI_pos (by omega)), pz_gd (by omega) (by omega), j2, if_neg (by decide), ltl_s, bW_s]
        · have hm' : ¬ M 27 l = -1 := by rw [d3]; exact nI_ne_m1 (by omega)
          by_cases q : M 27 k = M 27 l
          · by_cases w : (0 ≤ x2.toInt ∧ 0 ≤ x5.toInt ∧ x2.toInt + x5.toInt ≤ z) ∧ (0 ≤ x4.toInt ∧ 0 ≤ x5.toInt ∧ x4.toInt + x5.toInt ≤ z')
            · obtain ⟨⟨w1, w2, w3⟩, w4, _, w5⟩ := w
              obtain ⟨p, rfl, hp31⟩ := nat_of w1
              obtain ⟨c, rfl, hc31⟩ := nat_of w2
              obtain ⟨r, rfl, hr31⟩ := nat_of w4
              rw [pz_ti hp31, pz_ti hc31] at w3
              rw [pz_ti hr31, pz_ti hc31] at w5
              obtain ⟨g, y, g1, g2, g3⟩ := copy5_s (M := upf M (20 + l) (va_cpy (M (20 + k)) (M (20 + l)) p r c)) (k := k) (l := l) (p := p) (r := r) (c := c) hk hl (by omega) (by omega)
              refine ⟨1, upf M (20 + l) (va_cpy (M (20 + k)) (M (20 + l)) p r c), upf (upf (upf M (20 + l) (va_cpy (M (20 + k)) (M (20 + l)) p r c)) 30 g) 29 y, c4 _ ?_, ?_, ?_, ?_, ?_, ?_, ?_⟩
              · rw [lost_s, h1, decide_eq_false hm, if_neg Bool.false_ne_true, lost_s, j1, decide_eq_false hm', if_neg Bool.false_ne_true, if_pos q, hasItems_s c4' c2, if_pos (decide_eq_true (by rw [pz_ti hp31, pz_ti hc31]; omega)), hasItems_s d4 d2, if_pos (decide_eq_true (by rw [pz_ti hr31, pz_ti hc31]; omega)), nI_clamp (by omega), nI_clamp (by omega), nI_clamp (by omega), show 16 + k + 4 = 20 + k by omega, show 16 + l + 4 = 20 + l by omega]
                have hcp : cpOK (nI p) (nI r) (nI c) 60 60 = true := by
                  simp only [cpOK, Bool.and_eq_true, decide_eq_true_eq]
                  rw [nI_clamp (by omega), nI_clamp (by omega), nI_clamp (by omega)]
                  exact ⟨nI_pos' (by omega), nI_pos' (by omega), nI_pos' (by omega), by omega, by omega⟩
                rw [hcp, gd_true, ltl_s]
              · unfold fX5_copy
                have l1 : ¬ (0 < lg_cmp (Int32.toInt64 (nI p) + Int32.toInt64 (nI c)) (Int32.toInt64 (nI z))) := by rw [lg_pos, i64_add, i64_ti, pz_ti hp31, pz_ti hc31, pz_ti (by omega)]; omega
                have l2 : lg_cmp (Int32.toInt64 (nI r) + Int32.toInt64 (nI c)) (Int32.toInt64 (nI z')) ≤ 0 := by
                  have : ¬ (0 < lg_cmp (Int32.toInt64 (nI r) + Int32.toInt64 (nI c)) (Int32.toInt64 (nI z'))) := by rw [lg_pos, i64_add, i64_ti, pz_ti hr31, pz_ti hc31, pz_ti (by omega)]; omega
                  rw [pz_lt] at this; rw [pz_le]; omega
                rw [isSheet_s, e, if_pos rfl, isSheet_s, e2, if_pos rfl, pz_gd (by omega) (by omega), nI_clamp (by omega), nI_clamp (by omega), upf_id (show ¬ 27 = 20 + l by omega), upf_id (show ¬ 28 = 20 + l by omega), c3, if_neg (nI_pos (by omega)), pz_gd (by omega) (by omega), d3, if_pos (nI_pos' (by omega)), pz_gd (by omega) (by omega), pz_gd (by omega) (by omega), if_pos (by rw [← c3, q, d3]), if_neg (nI_pos hp31), if_neg (nI_pos hr31), if_neg (nI_pos hc31), pz_gd (by omega) (by omega), c5, if_neg l1, pz_gd (by omega) (by omega), d5, if_pos l2, g1]
              · refine HS_set h hl (fun j hj hjl => ⟨?_, ?_, ?_, ?_, fun i hi => ?_⟩) ⟨?_, Or.inr ⟨f', z', d1, d2, ?_, ?_, ?_, fun i hi => ?_⟩⟩
                · simp (disch := omega) only [upf_id]
                · simp (disch := omega) only [upf_id]
                · simp (disch := omega) only [upf_id]
                · simp (disch := omega) only [upf_id]
                · rw [upf_eq, g3 _ (fun y hy => by omega), upf_id (by omega)]
                · simp (disch := omega) only [upf_id]; exact j1
                · simp (disch := omega) only [upf_id]; exact d3
                · simp (disch := omega) only [upf_id]; exact d4
                · simp (disch := omega) only [upf_id]; exact d5
                · rw [upf_id (by omega), upf_id (by omega), upf_eq, upf_eq]
                  unfold va_cpy
                  by_cases t : r ≤ i ∧ i < r + c
                  · have := g2 (i - r) (by omega)
                    rw [upf_id (by omega)] at this
                    rw [if_pos t, show 60 * l + i = 60 * l + r + (i - r) by omega, this, c6 _ (by omega)]
                    congr 1
                    omega
                  · rw [if_neg t, g3 _ (fun y hy => by omega), upf_id (by omega)]
                    exact d6 i hi
              · simp (disch := omega) only [upf_id]; exact hf
              · intro a a1 a2 a3 a4
                simp (disch := omega) only [upf_id]
              · intro a _
                simp (disch := omega) only [upf_id]
              · intro a _
                simp (disch := omega) only [upf_id]
            · refine ⟨-10 - 2, up M 0 7 2, _, c4 _ ?_, ?_, fm_s h 2⟩
              · rw [lost_s, h1, decide_eq_false hm, if_neg Bool.false_ne_true, lost_s, j1, decide_eq_false hm', if_neg Bool.false_ne_true, if_pos q, hasItems_s c4' c2, hasItems_s d4 d2]
                have hr : fX4_copy_91 M = some (-10 - 2, up M 0 7 2) := by unfold fX4_copy_91 fX4_found; rw [ltl_s, bW_s]
                rw [hr]
                by_cases t1 : 0 ≤ x2.toInt ∧ 0 ≤ x5.toInt ∧ x2.toInt + x5.toInt ≤ z
                · rw [if_pos (decide_eq_true t1), if_neg (by rw [decide_eq_true_eq]; exact fun t2 => w ⟨t1, t2⟩)]
                · rw [if_neg (by rw [decide_eq_true_eq]; exact t1)]
              · unfold fX5_copy
                have hr : fX5_copy_111 (up M 0 7 2) = some (-10 - 2, up (up M 0 7 2) 26 4 2) := by unfold fX5_copy_111 fX5_met; rw [ltl_s, bW_s]
                have z0 : (0 : Int32).toInt = 0 := by decide
                rw [isSheet_s, e, if_pos rfl, isSheet_s, e2, if_pos rfl, pz_gd (by omega) (by omega), nI_clamp (by omega), nI_clamp (by omega), up_id (show ¬ 27 = 0 by omega), up_id (show ¬ 28 = 0 by omega), c3, if_neg (nI_pos (by omega)), pz_gd (by omega) (by omega), d3, if_pos (nI_pos' (by omega)), pz_gd (by omega) (by omega), pz_gd (by omega) (by omega), if_pos (by rw [← c3, q, d3]), hr]
                by_cases t2 : x2 < 0
                · rw [if_pos t2]
                · rw [if_neg t2]
                  by_cases t4 : x4 < 0
                  · rw [if_pos t4]
                  · rw [if_neg t4]
                    by_cases t5 : x5 < 0
                    · rw [if_pos t5]
                    · rw [if_neg t5, pz_gd (by omega) (by omega), c5]
                      rw [pz_lt, z0] at t2 t4 t5
                      by_cases t6 : 0 < lg_cmp (Int32.toInt64 x2 + Int32.toInt64 x5) (Int32.toInt64 (nI z))
                      · rw [if_pos t6]
                      · rw [if_neg t6, pz_gd (by omega) (by omega), d5]
                        rw [lg_pos, i64_add, i64_ti, pz_ti (by omega)] at t6
                        by_cases t7 : lg_cmp (Int32.toInt64 x4 + Int32.toInt64 x5) (Int32.toInt64 (nI z')) ≤ 0
                        · have t8 : ¬ (0 < lg_cmp (Int32.toInt64 x4 + Int32.toInt64 x5) (Int32.toInt64 (nI z'))) := by rw [pz_le] at t7; rw [pz_lt]; omega
                          rw [lg_pos, i64_add, i64_ti, pz_ti (by omega)] at t8
                          exact absurd ⟨⟨by omega, by omega, by omega⟩, by omega, by omega, by omega⟩ w
                        · rw [if_neg t7]
          · refine ⟨-10 - 4, up M 0 7 4, _, c4 _ ?_, ?_, fm_s h 4⟩
            · rw [lost_s, h1, decide_eq_false hm, if_neg Bool.false_ne_true, lost_s, j1, decide_eq_false hm', if_neg Bool.false_ne_true, if_neg q]; unfold fX4_found; rw [ltl_s, bW_s]
            · unfold fX5_copy fX5_met
              rw [isSheet_s, e, if_pos rfl, isSheet_s, e2, if_pos rfl, pz_gd (by omega) (by omega), nI_clamp (by omega), nI_clamp (by omega), up_id (by omega), if_neg (by rw [c3]; exact nI_pos (by omega)), pz_gd (by omega) (by omega), if_pos (by rw [d3]; exact nI_pos' (by omega)), pz_gd (by omega) (by omega), pz_gd (by omega) (by omega), if_neg q, ltl_s, bW_s]
