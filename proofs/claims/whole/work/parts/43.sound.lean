/-! SOUNDINGS: sounded, forget, read. -/
theorem isSnd_s (a b c : Int32) : fX4_isSounding a b c = (okR a 0 99 && (okR b 0 15 && okR c 0 9)) := by
  have h15 : ∀ t, fX4_isSounding_15 a c t = (okR a 0 99 && (t && okR c 0 9)) := by
    intro t
    unfold fX4_isSounding_15
    rw [x4_isNight]
    cases okR a 0 99 with
    | false => rw [if_neg Bool.false_ne_true, Bool.false_and]
    | true =>
      rw [if_pos rfl, Bool.true_and]
      cases t with
      | false => rw [if_neg Bool.false_ne_true, Bool.false_and]
      | true =>
        rw [if_pos rfl, Bool.true_and]
        unfold okR
        by_cases h1 : c < 0
        · rw [if_pos h1, decide_eq_false]; rw [pz_lt, show (0 : Int32).toInt = 0 by decide] at h1; omega
        · rw [if_neg h1]
          by_cases h2 : 9 < c
          · rw [if_pos h2, decide_eq_false]; rw [pz_lt, show (9 : Int32).toInt = 9 by decide] at h2; omega
          · rw [if_neg h2, decide_eq_true]
            rw [pz_lt, show (0 : Int32).toInt = 0 by decide] at h1
            rw [pz_lt, show (9 : Int32).toInt = 9 by decide] at h2
            omega
  unfold fX4_isSounding
  rw [h15, h15]
  have hb : okR b 0 15 = (if b < 0 then false else if 16 ≤ b then false else true) := by
    unfold okR
    by_cases h1 : b < 0
    · rw [if_pos h1, decide_eq_false]; rw [pz_lt, show (0 : Int32).toInt = 0 by decide] at h1; omega
    · rw [if_neg h1]
      by_cases h2 : 16 ≤ b
      · rw [if_pos h2, decide_eq_false]; rw [pz_le, show (16 : Int32).toInt = 16 by decide] at h2; omega
      · rw [if_neg h2, decide_eq_true]
        rw [pz_lt, show (0 : Int32).toInt = 0 by decide] at h1
        rw [pz_le, show (16 : Int32).toInt = 16 by decide] at h2
        omega
  rw [hb]
  by_cases h1 : b < 0
  · rw [if_pos h1, if_pos h1]
  · rw [if_neg h1, if_neg h1]
    by_cases h2 : 16 ≤ b
    · rw [if_pos h2, if_pos h2]
    · rw [if_neg h2, if_neg h2]
def FrZ (M S : Mem) : Prop := (∀ a, ¬ (6 ≤ a ∧ a < 10) → S a = M a)
def FrY (M S : Mem) : Prop := (∀ a, ¬ a = 26 → ¬ a = 36 → S a = M a) ∧ ∀ k, ¬ k = 16 → S 26 k = M 26 k
theorem add_s {M : Mem} {n : Nat} {s : Nat → Nat → Nat} (h : ZC n s M) (hn : n < 12) : ∃ M', fX3_add (nI (s n 0)) (nI (s n 1)) (nI (s n 2)) M = some (true, M') ∧ ZC (n + 1) s M' ∧ FrZ M M' := by
  unfold fX3_add
  rw [h.1, if_pos (by rw [show (12 : Int32) = nI 12 from rfl]; exact (nI_ltI (by omega) (by omega)).mpr hn), pi7 hn, bW_s, up_id (show ¬ 6 = 7 by decide), h.1, pi8 hn, bW_s, up_id (show ¬ 6 = 8 by decide), up_id (show ¬ 6 = 7 by decide), h.1, pi9 hn, bW_s, ltl_s, up_id (show ¬ 6 = 9 by decide), up_id (show ¬ 6 = 8 by decide), up_id (show ¬ 6 = 7 by decide), h.1, nI_1]
  refine ⟨_, rfl, ⟨up_eq _ _ _ _, fun k hk => ?_⟩, fun a ha => ?_⟩
  · rw [up_id (show ¬ 7 = 6 by decide), up_id (show ¬ 7 = 9 by decide), up_id (show ¬ 7 = 8 by decide), up_id (show ¬ 8 = 6 by decide), up_id (show ¬ 8 = 9 by decide), up_id (show ¬ 9 = 6 by decide)]
    by_cases e : k = n
    · subst e
      rw [up_eq, up_eq, up_eq]; exact ⟨rfl, rfl, rfl⟩
    · rw [up_ix e, up_ix e, up_id (show ¬ 8 = 7 by decide), up_ix e, up_id (show ¬ 9 = 8 by decide), up_id (show ¬ 9 = 7 by decide)]
      exact h.2 k (by omega)
  · rw [up_id (by omega), up_id (by omega), up_id (by omega), up_id (by omega)]
theorem add_f {M : Mem} {n : Nat} {s : Nat → Nat → Nat} (h : ZC n s M) (hn : 12 ≤ n) (hn2 : n < 100) (a b c : Int32) : fX3_add a b c M = some (false, M) := by
  unfold fX3_add
  rw [h.1, if_neg (fun z => by rw [show (12 : Int32) = nI 12 from rfl] at z; have := (nI_ltI (by omega) (by omega)).mp z; omega)]
theorem snd5_s {M : Mem} {n : Nat} {s : Nat → Nat → Nat} (h : ZM n s M) (hn : n < 12) (hr : s n 0 ≤ 99 ∧ s n 1 ≤ 15 ∧ s n 2 ≤ 9) : ∃ M', fX5_sounded (nI (s n 0)) (nI (s n 1)) (nI (s n 2)) M = some (nI (n + 1), M') ∧ ZM (n + 1) s M' ∧ FrY M M' := by
  have e : (3 : Int32) * nI n = nI (3 * n) := pk_mul 3 n
  have e1 : nI (3 * n) + 1 = nI (3 * n + 1) := nI_1 _
  have e2 : nI (3 * n) + 2 = nI (3 * n + 2) := nI_add _ 2
  unfold fX5_sounded
  rw [x5_isNight, okR_nI (by omega), if_pos (decide_eq_true (by omega)), show fX5_in (nI (s n 1)).toInt64 0 15 = okR (nI (s n 1)) 0 15 from x5_inR _ 0 15, okR_nI (by omega), if_pos (decide_eq_true (by omega)), show fX5_in (nI (s n 2)).toInt64 0 9 = okR (nI (s n 2)) 0 9 from x5_inR _ 0 9, okR_nI (by omega), if_pos (decide_eq_true (by omega)), h.1, if_neg (fun z => by rw [show (12 : Int32) = nI 12 from rfl] at z; have := (nI_eq (by omega) (by omega)).mp z; omega), e, pz_gd (by omega) (by omega), ltl_s, up_id (show ¬ 26 = 36 by decide), h.1, e, e1, pz_gd (by omega) (by omega), ltl_s, up_id (show ¬ 26 = 36 by decide), up_id (show ¬ 26 = 36 by decide), h.1, e, e2, pz_gd (by omega) (by omega), ltl_s, ltl_s, up_eq, up_id (show ¬ 26 = 36 by decide), up_id (show ¬ 26 = 36 by decide), up_id (show ¬ 26 = 36 by decide), h.1, nI_1, nI_clamp (by omega), nI_clamp (by omega), nI_clamp (by omega)]
  refine ⟨_, rfl, ⟨up_eq _ _ _ _, fun k hk j hj => ?_⟩, fun a a1 a2 => ?_, fun k hk => ?_⟩
  · rw [up_id (show ¬ 36 = 26 by decide)]
    by_cases q : k = n
    · subst q
      rcases (show j = 0 ∨ j = 1 ∨ j = 2 by omega) with rfl | rfl | rfl
      · rw [up_ix (by omega), up_ix (by omega), show 3 * k + 0 = 3 * k from rfl, up_eq]
      · rw [up_ix (by omega), up_eq]
      · rw [up_eq]
    · rw [up_ix (by omega), up_ix (by omega), up_ix (by omega)]
      exact h.2 k (by omega) j hj
  · rw [up_id a1, up_id a2, up_id a2, up_id a2]
  · rw [up_ix hk, up_id (show ¬ 26 = 36 by decide), up_id (show ¬ 26 = 36 by decide), up_id (show ¬ 26 = 36 by decide)]
theorem snd5_12 {M : Mem} {s : Nat → Nat → Nat} (h : ZM 12 s M) {a b c : Int32} (hv : (okR a 0 99 && (okR b 0 15 && okR c 0 9)) = true) : fX5_sounded a b c M = some (-4, M) := by
  simp only [Bool.and_eq_true] at hv
  unfold fX5_sounded
  rw [x5_isNight, hv.1, if_pos rfl, show fX5_in b.toInt64 0 15 = okR b 0 15 from x5_inR _ 0 15, hv.2.1, if_pos rfl, show fX5_in c.toInt64 0 9 = okR c 0 9 from x5_inR _ 0 9, hv.2.2, if_pos rfl, h.1, if_pos (show nI 12 = 12 from rfl)]
theorem snd5_n {M : Mem} {a b c : Int32} (hv : (okR a 0 99 && (okR b 0 15 && okR c 0 9)) = false) : fX5_sounded a b c M = some (-2, M) := by
  unfold fX5_sounded
  rw [x5_isNight, show fX5_in b.toInt64 0 15 = okR b 0 15 from x5_inR _ 0 15, show fX5_in c.toInt64 0 9 = okR c 0 9 from x5_inR _ 0 9]
  cases e1 : okR a 0 99 with
  | false => rw [if_neg Bool.false_ne_true]
  | true =>
    cases e2 : okR b 0 15 with
    | false => rw [if_pos rfl, if_neg Bool.false_ne_true]
    | true =>
      cases e3 : okR c 0 9 with
      | false => rw [if_pos rfl, if_pos rfl, if_neg Bool.false_ne_true]
      | true => rw [e1, e2, e3] at hv; cases hv
def ZS (M : Mem) : Prop := ∃ sz sd, ZC sz sd M ∧ ZM sz sd M ∧ ZR sz sd
theorem ZC.keep {sz : Nat} {sd : Nat → Nat → Nat} {M S : Mem} (h : ZC sz sd M) (h6 : S 6 = M 6) (h7 : S 7 = M 7) (h8 : S 8 = M 8) (h9 : S 9 = M 9) : ZC sz sd S := ⟨by rw [h6]; exact h.1, fun k hk => by rw [h7, h8, h9]; exact h.2 k hk⟩
theorem ZM.keep {sz : Nat} {sd : Nat → Nat → Nat} {M S : Mem} (h : ZM sz sd M) (h26 : S 26 16 = M 26 16) (h36 : S 36 = M 36) : ZM sz sd S := ⟨h26.trans h.1, fun k hk j hj => by rw [h36]; exact h.2 k hk j hj⟩
theorem FrZ.zm {sz : Nat} {sd : Nat → Nat → Nat} {M S : Mem} (h : FrZ M S) (z : ZM sz sd M) : ZM sz sd S := z.keep (by rw [h 26 (by omega)]) (h 36 (by omega))
theorem FrY.zc {sz : Nat} {sd : Nat → Nat → Nat} {M S : Mem} (h : FrY M S) (z : ZC sz sd M) : ZC sz sd S := z.keep (h.1 6 (by decide) (by decide)) (h.1 7 (by decide) (by decide)) (h.1 8 (by decide) (by decide)) (h.1 9 (by decide) (by decide))
/-- what soundings may change -/
def FrX (M S : Mem) : Prop := (∀ a, ¬ (6 ≤ a ∧ a < 10) → ¬ a = 26 → ¬ a = 36 → S a = M a) ∧ ∀ k, ¬ k = 16 → S 26 k = M 26 k
theorem FrX.of {M S T : Mem} (h : FrZ M S) (g : FrY S T) : FrX M T := ⟨fun a a1 a2 a3 => (g.1 a a2 a3).trans (h a a1), fun k hk => (g.2 k hk).trans (by rw [h 26 (by omega)])⟩
theorem FrX.rfl (M : Mem) : FrX M M := ⟨fun _ _ _ _ => Eq.refl _, fun _ _ => Eq.refl _⟩
theorem sounded_b {M : Mem} (h : ZS M) (a b c : Int32) : ∃ v M1 M2, fX4_sounded a b c M = some (v, M1) ∧ fX5_sounded a b c M1 = some (v, M2) ∧ ZS M2 ∧ FrX M M2 := by
  obtain ⟨sz, sd, z1, z2, z3⟩ := h
  have hsz := z3.1
  cases hv : (okR a 0 99 && (okR b 0 15 && okR c 0 9)) with
  | false =>
    refine ⟨-2, M, M, ?_, snd5_n hv, ⟨sz, sd, z1, z2, z3⟩, .rfl M⟩
    unfold fX4_sounded
    rw [isSnd_s, hv, if_neg Bool.false_ne_true]
  | true =>
    by_cases e : sz = 12
    · subst e
      refine ⟨-4, M, M, ?_, snd5_12 z2 hv, ⟨12, sd, z1, z2, z3⟩, .rfl M⟩
      unfold fX4_sounded
      rw [isSnd_s, hv, if_pos rfl, add_f z1 (by omega) (by omega), bW_s, if_neg Bool.false_ne_true]
    · have hv' := hv
      simp only [Bool.and_eq_true] at hv'
      obtain ⟨p, rfl, hp⟩ := okR_0 hv'.1
      obtain ⟨q, rfl, hq⟩ := okR_0 hv'.2.1
      obtain ⟨r, rfl, hr⟩ := okR_0 hv'.2.2
      have hs : ∃ s : Nat → Nat → Nat, (∀ k, k < sz → s k = sd k) ∧ s sz 0 = p ∧ s sz 1 = q ∧ s sz 2 = r := ⟨fun k j => if k = sz then (if j = 0 then p else if j = 1 then q else r) else sd k j, fun k hk => by funext j; exact if_neg (by omega), by simp, by simp, by simp⟩
      obtain ⟨s, s0, s1, s2, s3⟩ := hs
      have z1' : ZC sz s M := ⟨z1.1, fun k hk => by rw [s0 k hk]; exact z1.2 k hk⟩
      have z2' : ZM sz s M := ⟨z2.1, fun k hk j hj => by rw [s0 k hk]; exact z2.2 k hk j hj⟩
      obtain ⟨M1, m1, m2, m3⟩ := add_s z1' (by omega)
      obtain ⟨M2, n1, n2, n3⟩ := snd5_s (m3.zm z2') (by omega) (by omega)
      rw [s1, s2, s3] at m1 n1
      refine ⟨nI (sz + 1), M1, M2, ?_, n1, ⟨sz + 1, s, n3.zc m2, n2, by omega, fun k hk => ?_⟩, .of m3 n3⟩
      · unfold fX4_sounded
        rw [isSnd_s, hv, if_pos rfl, m1, bW_s, if_pos rfl, m2.1]
      · by_cases t : k = sz
        · subst t; omega
        · rw [s0 k (by omega)]; exact z3.2 k (by omega)
theorem forget_b {M : Mem} (h : ZS M) : ∃ v M1 M2, fX4_forget M = some (v, M1) ∧ fX5_forget M1 = some (v, M2) ∧ ZS M2 ∧ FrX M M2 := by
  obtain ⟨sz, sd, z1, z2, z3⟩ := h
  refine ⟨M 6 4, up M 6 4 0, up (up M 6 4 0) 26 16 0, ?_, ?_, ⟨0, sd, ⟨by rw [up_id (by decide), up_eq]; rfl, fun k hk => absurd hk (Nat.not_lt_zero _)⟩, ⟨up_eq _ _ _ _, fun k hk => absurd hk (Nat.not_lt_zero _)⟩, by omega, fun k hk => absurd hk (Nat.not_lt_zero _)⟩, fun a a1 a2 a3 => by rw [up_id a2, up_id (by omega)], fun k hk => by rw [up_ix hk, up_id (by decide)]⟩
  · unfold fX4_forget fX3_drop
    rw [ltl_s, bW_s]
  · unfold fX5_forget
    rw [ltl_s, up_id (show ¬ 26 = 6 by decide), z1.1, z2.1]
