/-! THE SHEETS: the class's and the reference's, side by side in one memory. -/
def HS1 (M : Mem) (k : Nat) : Prop := M (16 + k) 1 = M 27 k ∧ (M 27 k = -1 ∨ ∃ f z, f ≤ 2 ∧ z ≤ 60 ∧ M 27 k = nI f ∧ M (16 + k) 2 = nI z ∧ M 28 k = nI z ∧ ∀ i, i < z → M (20 + k) i = M 29 (60 * k + i))
def HS (M : Mem) : Prop := ∀ k, k < 4 → HS1 M k
def FrS (M S : Mem) : Prop := (∀ a, ¬ a = 0 → ¬ (16 ≤ a ∧ a < 24) → ¬ a = 26 → ¬ (27 ≤ a ∧ a ≤ 30) → S a = M a) ∧ (∀ k, ¬ k = 7 → S 0 k = M 0 k) ∧ ∀ k, ¬ k = 4 → S 26 k = M 26 k
def SQ (M S : Mem) : Prop := HS S ∧ S 0 7 = S 26 4 ∧ FrS M S
theorem FrS.rfl (M : Mem) : FrS M M := ⟨fun _ _ _ _ _ => Eq.refl _, fun _ _ => Eq.refl _, fun _ _ => Eq.refl _⟩
theorem HS_set {M S : Mem} (h : HS M) {k : Nat} (hk : k < 4) (h1 : ∀ j, j < 4 → ¬ j = k → S (16 + j) = M (16 + j) ∧ S (20 + j) = M (20 + j) ∧ S 27 j = M 27 j ∧ S 28 j = M 28 j ∧ ∀ i, i < 60 → S 29 (60 * j + i) = M 29 (60 * j + i)) (h2 : HS1 S k) : HS S := by
  intro j hj
  by_cases e : j = k
  · rw [e]; exact h2
  · obtain ⟨a1, a2, a3, a4, a5⟩ := h1 j hj e
    obtain ⟨b1, b2⟩ := h j hj
    refine ⟨by rw [a1, a3]; exact b1, ?_⟩
    rcases b2 with b2 | ⟨f, z, c1, c2, c3, c4, c5, c6⟩
    · exact Or.inl (by rw [a3]; exact b2)
    · exact Or.inr ⟨f, z, c1, c2, by rw [a3]; exact c3, by rw [a1]; exact c4, by rw [a4]; exact c5, fun i hi => by rw [a2, a5 i (by omega)]; exact c6 i hi⟩
theorem HS_keep {M S : Mem} (h : HS M) (h1 : ∀ a, 16 ≤ a → a < 24 → S a = M a) (h2 : ∀ a, 27 ≤ a → a ≤ 29 → S a = M a) : HS S := by
  intro k hk
  have := h k hk
  unfold HS1 at this ⊢
  rw [h1 (16 + k) (by omega) (by omega), h1 (20 + k) (by omega) (by omega), h2 27 (by omega) (by omega), h2 28 (by omega) (by omega), h2 29 (by omega) (by omega)]
  exact this
theorem fm_s {M : Mem} (h : HS M) (x : Int32) : SQ M (up (up M 0 7 x) 26 4 x) := by
  refine ⟨HS_keep h (fun a h1 h2 => by rw [up_id (by omega), up_id (by omega)]) (fun a h1 h2 => by rw [up_id (by omega), up_id (by omega)]), by rw [up_id (by decide), up_eq, up_eq], fun a h1 _ h3 _ => by rw [up_id h3, up_id h1], fun k hk => by rw [up_id (by decide), up_ix hk], fun k hk => by rw [up_ix hk, up_id (by decide)]⟩
theorem okR_0 {x : Int32} {hi : Int} (h : okR x 0 hi = true) : ∃ q : Nat, x = nI q ∧ (q : Int) ≤ hi := by
  obtain ⟨q, h1, _, h3⟩ := okR_t h (by omega)
  exact ⟨q, h1, h3⟩
theorem sheetAt_n (x : Int32) (h : okR x 0 3 = false) : fX4_sheetAt x = some none := by
  unfold fX4_sheetAt
  by_cases e : x < 0
  · rw [if_pos e]
  · rw [if_neg e, if_pos]
    have h' := of_decide_eq_false h
    rw [pz_le, show (4 : Int32).toInt = 4 by decide]
    rw [pz_lt, show (0 : Int32).toInt = 0 by decide] at e
    omega
theorem sheetAt_k : ∀ k, k < 4 → fX4_sheetAt (nI k) = some (some (16 + k)) := by decide +kernel
theorem isS_k : ∀ k, k < 4 → isS (16 + k) = true := by decide
theorem aln_k : ∀ k, k < 4 → aln (20 + k) = 60 := by decide
theorem isForm_s (x : Int32) : fX4_isForm x = okR x 0 2 := by
  unfold fX4_isForm okR
  by_cases h1 : x < 0
  · rw [if_pos h1]; exact (decide_eq_false (fun h => by have := (pz_lt _ _).mp h1; simp only [pL0, pz_ti (show 0 < 2 ^ 31 by decide)] at this; omega)).symm
  · rw [if_neg h1]
    have h1' : 0 ≤ x.toInt := by rw [pz_lt, pL0, pz_ti (by decide)] at h1; omega
    by_cases h2 : 2 < x
    · rw [if_pos h2]; exact (decide_eq_false (fun h => by have := (pz_lt _ _).mp h2; simp only [pL2, pz_ti (show 2 < 2 ^ 31 by decide)] at this; omega)).symm
    · rw [if_neg h2]; exact (decide_eq_true (by rw [pz_lt, pL2, pz_ti (by decide)] at h2; omega)).symm
theorem isSheet_s (x : Int32) : fX5_isSheet x = okR x 0 3 := x5_inR x 0 3
theorem nat_of {x : Int32} (h : 0 ≤ x.toInt) : ∃ z : Nat, x = nI z ∧ z < 2 ^ 31 := ⟨x.toInt.toNat, pz_of h, by have := pz_rng x; omega⟩
theorem hasItems_s {M : Mem} {o z : Nat} (h : M o 2 = nI z) (hz : z ≤ 60) (x n : Int32) : fX2_hasItems M o x n = decide (0 ≤ x.toInt ∧ 0 ≤ n.toInt ∧ x.toInt + n.toInt ≤ z) := by
  unfold fX2_hasItems
  have z0 : (0 : Int32).toInt = 0 := by decide
  by_cases h1 : x < 0
  · rw [if_pos h1, decide_eq_false]; rw [pz_lt, z0] at h1; omega
  · rw [if_neg h1]
    by_cases h2 : n < 0
    · rw [if_pos h2, decide_eq_false]; rw [pz_lt, z0] at h2; omega
    · rw [if_neg h2, h]
      rw [pz_lt, z0] at h1 h2
      by_cases h3 : nI z < x
      · rw [if_pos h3, decide_eq_false]; rw [pz_lt, pz_ti (by omega)] at h3; omega
      · rw [if_neg h3]
        rw [pz_lt, pz_ti (by omega)] at h3
        obtain ⟨p, rfl, hp31⟩ := nat_of (x := x) (by omega)
        rw [pz_ti hp31] at h1 h3 ⊢
        have hp : p ≤ z := by omega
        rw [pk_sub hp]
        by_cases h4 : nI (z - p) < n
        · rw [if_pos h4, decide_eq_false]; rw [pz_lt, pz_ti (by omega)] at h4; omega
        · rw [if_neg h4, decide_eq_true]; rw [pz_lt, pz_ti (by omega)] at h4; omega
theorem renew_s {M : Mem} {k : Nat} (hk : k < 4) (f n : Int32) : ∃ g, fX2_renew (16 + k) f n M = some ((), up (up (upf M (20 + k) g) (16 + k) 1 f) (16 + k) 2 n) ∧ ∀ i, i < 60 → g i = 0 := by
  obtain ⟨g, e, hg⟩ := fill_s (M := M) (r := 20 + k) (v := 0) (by rw [aln_k k hk]; omega)
  refine ⟨g, ?_, fun i hi => hg i (by rw [aln_k k hk]; exact hi)⟩
  unfold fX2_renew
  rw [show 16 + k + 4 = 20 + k by omega, e, bW_s, ltl_s, ltl_s]
theorem lost_s {M : Mem} {o : Nat} : fX2_isLost M o = decide (M o 1 = -1) := by
  unfold fX2_isLost
  by_cases e : M o 1 = -1
  · rw [if_pos e, decide_eq_true e]
  · rw [if_neg e, decide_eq_false e]
theorem sheet5_s {M : Mem} {k z : Nat} (hk : k < 4) (hz : z ≤ 60) : ∃ g, fX5_sheet_55 1000 (nI k) (nI z) 0 M = some (nI z, upf M 29 g) ∧ (∀ i, i < z → g (60 * k + i) = 0) ∧ ∀ x, (∀ i, i < z → ¬ x = 60 * k + i) → g x = M 29 x := by
  rw [← upf_self M 29]
  refine loop_up (σ := Nat → Int32) (fun j i g => fX5_sheet_55 j (nI k) (nI z) (nI i) (upf M 29 g)) (fun i g => (∀ y, y < i → g (60 * k + y) = 0) ∧ ∀ x, (∀ y, y < i → ¬ x = 60 * k + y) → g x = M 29 x) (fun o => ∃ g, o = some (nI z, upf (upf M 29 (M 29)) 29 g) ∧ (∀ i, i < z → g (60 * k + i) = 0) ∧ ∀ x, (∀ i, i < z → ¬ x = 60 * k + i) → g x = (upf M 29 (M 29)) 29 x) z (fun j i g hi hI => ?_) (fun j g hI => ?_) 1000 0 (M 29) (by omega) (by omega) ⟨fun y hy => absurd hy (Nat.not_lt_zero _), fun _ _ => rfl⟩
  · left
    (try dsimp only)
    rw [fX5_sheet_55, if_neg (fun y => by have := (nI_leI (by omega) (by omega)).mp y; omega), show (60 : Int32) = nI 60 from rfl, pk_mul, nI_add, pz_gd (by omega) (by omega), ltl_s, nI_clamp (by omega), upf_up, upf_eq, upf_upf, nI_1]
    refine ⟨_, ⟨fun y hy => ?_, fun x hx => ?_⟩, rfl⟩
    · by_cases e : y = i
      · rw [e, upd_at]
      · rw [upd_ne (by omega)]; exact hI.1 y (by omega)
    · rw [upd_ne (hx i (by omega))]; exact hI.2 x (fun y hy => hx y (by omega))
  · (try dsimp only)
    rw [fX5_sheet_55, if_pos ((nI_leI (by omega) (by omega)).mpr (Nat.le_refl _))]
    exact ⟨g, by rw [upf_upf], hI.1, by rw [upf_eq]; exact hI.2⟩
theorem sheet_b {M : Mem} (h : HS M) (hf : M 0 7 = M 26 4) (x y n : Int32) : ∃ v M1 M2, fX4_sheet x y n M = some (v, M1) ∧ fX5_sheet x y n M1 = some (v, M2) ∧ SQ M M2 := by
  have hid : SQ M M := ⟨h, hf, .rfl M⟩
  have i5 : ∀ z : Int32, fX5_in z.toInt64 0 2 = okR z 0 2 := fun z => x5_inR z 0 2
  cases e : okR x 0 3 with
  | false =>
    refine ⟨-2, M, M, ?_, ?_, hid⟩
    · unfold fX4_sheet; rw [sheetAt_n x e, bP_s, qm_0]
    · unfold fX5_sheet; rw [isSheet_s, e, if_neg Bool.false_ne_true]
  | true =>
    obtain ⟨k, rfl, hk'⟩ := okR_0 e
    have hk : k < 4 := by omega
    cases e2 : okR y 0 2 with
    | false =>
      refine ⟨-2, M, M, ?_, ?_, hid⟩
      · unfold fX4_sheet; rw [sheetAt_k k hk, bP_s, qm_1, isS_k k hk, gd_true, isForm_s, e2, if_neg Bool.false_ne_true]
      · unfold fX5_sheet; rw [isSheet_s, e, if_pos rfl, i5, e2, if_neg Bool.false_ne_true]
    | true =>
      obtain ⟨f, rfl, hf2⟩ := okR_0 e2
      by_cases e3 : n ≤ 60
      · by_cases e4 : 0 ≤ n
        · obtain ⟨z, rfl, hz31⟩ := nat_of (x := n) (by rw [pz_le, show (0 : Int32).toInt = 0 by decide] at e4; exact e4)
          have hz : z ≤ 60 := by rw [pz_le, pz_ti hz31, show (60 : Int32).toInt = 60 by decide] at e3; omega
          obtain ⟨g, g1, g2⟩ := renew_s (M := M) hk (nI f) (nI z)
          obtain ⟨q, q1, q2, q3⟩ := sheet5_s (M := up (up (up (up (upf M (20 + k) g) (16 + k) 1 (nI f)) (16 + k) 2 (nI z)) 27 k (nI f)) 28 k (nI z)) hk hz
          refine ⟨nI z, up (up (upf M (20 + k) g) (16 + k) 1 (nI f)) (16 + k) 2 (nI z), upf (up (up (up (up (upf M (20 + k) g) (16 + k) 1 (nI f)) (16 + k) 2 (nI z)) 27 k (nI f)) 28 k (nI z)) 29 q, ?_, ?_, ?_, ?_, ?_, ?_, ?_⟩
          · unfold fX4_sheet; rw [sheetAt_k k hk, bP_s, qm_1, isS_k k hk, gd_true, isForm_s, e2, if_pos rfl, if_pos e3, if_pos e4, g1, bW_s]
          · unfold fX5_sheet; rw [isSheet_s, e, if_pos rfl, i5, e2, if_pos rfl, if_pos e3, if_pos e4, pz_gd (by omega) (by omega), ltl_s, nI_clamp (by omega), pz_gd (by omega) (by omega), ltl_s, q1]
          · refine HS_set h hk (fun j hj hjk => ⟨?_, ?_, ?_, ?_, fun i hi => ?_⟩) ⟨?_, Or.inr ⟨f, z, by omega, hz, ?_, ?_, ?_, fun i hi => ?_⟩⟩
            · rw [upf_id (by omega), up_id (by omega), up_id (by omega), up_id (by omega), up_id (by omega), upf_id (by omega)]
            · rw [upf_id (by omega), up_id (by omega), up_id (by omega), up_id (by omega), up_id (by omega), upf_id (by omega)]
            · rw [upf_id (by omega), up_id (by omega), up_ix hjk, up_id (by omega), up_id (by omega), upf_id (by omega)]
            · rw [upf_id (by omega), up_ix hjk, up_id (by omega), up_id (by omega), up_id (by omega), upf_id (by omega)]
            · rw [upf_eq, q3 _ (fun y hy => by omega), up_id (by omega), up_id (by omega), up_id (by omega), up_id (by omega), upf_id (by omega)]
            · rw [upf_id (by omega), up_id (by omega), up_id (by omega), up_ix (by omega), up_eq, upf_id (by omega), up_id (by omega), up_eq]
            · rw [upf_id (by omega), up_id (by omega), up_eq]
            · rw [upf_id (by omega), up_id (by omega), up_id (by omega), up_eq]
            · rw [upf_id (by omega), up_eq]
            · rw [upf_id (by omega), up_id (by omega), up_id (by omega), up_id (by omega), up_id (by omega), upf_eq, g2 i (by omega), upf_eq, q2 i hi]
          · rw [upf_id (by omega), up_id (by omega), up_id (by omega), up_id (by omega), up_id (by omega), upf_id (by omega), upf_id (by omega), up_id (by omega), up_id (by omega), up_id (by omega), up_id (by omega), upf_id (by omega)]; exact hf
          · intro a a1 a2 a3 a4
            rw [upf_id (by omega), up_id (by omega), up_id (by omega), up_id (by omega), up_id (by omega), upf_id (by omega)]
          · intro a _
            rw [upf_id (by omega), up_id (by omega), up_id (by omega), up_id (by omega), up_id (by omega), upf_id (by omega)]
          · intro a _
            rw [upf_id (by omega), up_id (by omega), up_id (by omega), up_id (by omega), up_id (by omega), upf_id (by omega)]
        · refine ⟨-10 - 5, up M 0 7 5, _, ?_, ?_, fm_s h 5⟩
          · unfold fX4_sheet fX4_found; rw [sheetAt_k k hk, bP_s, qm_1, isS_k k hk, gd_true, isForm_s, e2, if_pos rfl, if_pos e3, if_neg e4, ltl_s, bW_s]
          · unfold fX5_sheet fX5_met; rw [isSheet_s, e, if_pos rfl, i5, e2, if_pos rfl, if_pos e3, if_neg e4, ltl_s, bW_s]
      · refine ⟨-2, M, M, ?_, ?_, hid⟩
        · unfold fX4_sheet; rw [sheetAt_k k hk, bP_s, qm_1, isS_k k hk, gd_true, isForm_s, e2, if_pos rfl, if_neg e3]
        · unfold fX5_sheet; rw [isSheet_s, e, if_pos rfl, i5, e2, if_pos rfl, if_neg e3]
