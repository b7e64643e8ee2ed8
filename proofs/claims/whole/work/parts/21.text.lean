/-! THE TEXT: what it says, and how the class understands it -/
def kindN (b : Nat) : Nat := if b = 119 then 0 else if b = 114 then 1 else if b = 115 then 2 else if b = 112 then 3 else if b = 106 then 4 else 5
def wellB (t : Nat → Nat) (i : Nat) : Bool := match i % 6 with
  | 0 => decide (97 ≤ t i) && decide (t i ≤ 102)
  | 1 => decide (t (i - 1) < t i) && decide (t i ≤ 102)
  | 2 => decide (48 ≤ t i) && decide (t i ≤ 57)
  | 3 => decide (kindN (t i) < 5)
  | 4 => decide (49 ≤ t i) && decide (t i ≤ 57)
  | _ => decide (t i = 59)
def frst (P : Nat → Bool) : Nat → Nat → Nat
  | 0, i => i
  | k + 1, i => if P i = true then i else frst P k (i + 1)
theorem frst_at {P : Nat → Bool} : ∀ {k i j : Nat}, i ≤ j → j < i + k → (∀ x, i ≤ x → x < j → P x = false) → P j = true → frst P k i = j
  | 0, i, j, h1, h2, _, _ => by omega
  | k + 1, i, j, h1, h2, h3, h4 => by
    rw [frst]
    by_cases e : i = j
    · subst e; rw [if_pos h4]
    · rw [if_neg (by rw [h3 i (Nat.le_refl _) (by omega)]; decide)]
      exact frst_at (by omega) (by omega) (fun x a b => h3 x (by omega) b) h4
theorem frst_no {P : Nat → Bool} : ∀ {k i : Nat}, (∀ x, i ≤ x → x < i + k → P x = false) → frst P k i = i + k
  | 0, i, _ => rfl
  | k + 1, i, h => by
    rw [frst, if_neg (by rw [h i (Nat.le_refl _) (by omega)]; decide), frst_no (fun x a b => h x (by omega) (by omega))]
    omega
/-- the place of the first byte that isn't well; n if all are -/
def badAt (t : Nat → Nat) (n : Nat) : Nat := frst (fun i => !wellB t i) n 0
def wellT (t : Nat → Nat) (n : Nat) : Bool := decide (badAt t n = n) && (decide (n = 0) || decide (n % 6 = 5))
def faultI (t : Nat → Nat) (n : Nat) : Int32 := if wellT t n = true then -1 else nI (badAt t n)
def chN (t : Nat → Nat) (n : Nat) : Nat := if wellT t n = true then (n + 1) / 6 else 0
def fcN (t : Nat → Nat) (c k : Nat) : Nat := match k with
  | 0 => t (6 * c) - 97
  | 1 => t (6 * c + 1) - 97
  | 2 => t (6 * c + 2) - 48
  | 3 => kindN (t (6 * c + 3))
  | _ => t (6 * c + 4) - 48
theorem bad_at {t : Nat → Nat} {n i : Nat} (hi : i < n) (h : ∀ j, j < i → wellB t j = true) (h2 : wellB t i = false) : badAt t n = i :=
  frst_at (Nat.zero_le _) (by omega) (fun x _ hx => by rw [h x hx]; rfl) (by rw [h2]; rfl)
theorem bad_no {t : Nat → Nat} {n : Nat} (h : ∀ j, j < n → wellB t j = true) : badAt t n = n := by
  have := frst_no (P := fun i => !wellB t i) (k := n) (i := 0) (fun x _ hx => by rw [h x (by omega)]; rfl)
  rw [Nat.zero_add] at this; exact this
theorem bad_le (t : Nat → Nat) (n : Nat) : badAt t n ≤ n := by
  by_cases h : ∀ j, j < n → wellB t j = true
  · rw [bad_no h]; omega
  · have : ∃ j, j < n ∧ wellB t j = false := by
      apply Classical.byContradiction
      intro q
      exact h (fun j hj => by
        cases e : wellB t j with
        | true => rfl
        | false => exact absurd ⟨j, hj, e⟩ q)
    obtain ⟨j, ⟨hj, h1⟩, h2⟩ := pk_least (fun j => j < n ∧ wellB t j = false) this
    rw [bad_at hj (fun x hx => by
      cases e : wellB t x with
      | true => rfl
      | false => exact absurd ⟨by omega, e⟩ (h2 x hx)) h1]
    omega
theorem well_all {t : Nat → Nat} {n : Nat} (h : badAt t n = n) : ∀ j, j < n → wellB t j = true := by
  intro j hj
  cases e : wellB t j with
  | true => rfl
  | false =>
    obtain ⟨i, ⟨hi, h1⟩, h2⟩ := pk_least (fun i => i < n ∧ wellB t i = false) ⟨j, hj, e⟩
    have := bad_at hi (fun x hx => by
      cases e : wellB t x with
      | true => rfl
      | false => exact absurd ⟨by omega, e⟩ (h2 x hx)) h1
    omega
theorem well_ch {t : Nat → Nat} {n : Nat} (h : wellT t n = true) : badAt t n = n ∧ (n = 0 ∨ n % 6 = 5) := by
  simp only [wellT, Bool.and_eq_true, Bool.or_eq_true, decide_eq_true_eq] at h
  exact h
theorem chN_le {t : Nat → Nat} {n : Nat} (hn : n ≤ 95) : chN t n ≤ 16 := by
  unfold chN; split <;> omega
theorem ch_len {t : Nat → Nat} {n : Nat} (h : 0 < chN t n) : n + 1 = 6 * chN t n ∧ badAt t n = n := by
  unfold chN at h ⊢
  split at h
  · rename_i hw
    obtain ⟨h1, h2⟩ := well_ch hw
    rw [if_pos hw]
    refine ⟨?_, h1⟩
    omega
  · omega
/-- what is known of channels of a text that is well -/
def WF (N : Nat) (fc : Nat → Nat → Nat) : Prop := N ≤ 16 ∧ ∀ c, c < N → fc c 0 < fc c 1 ∧ fc c 1 ≤ 5 ∧ fc c 2 ≤ 9 ∧ fc c 3 ≤ 4 ∧ 1 ≤ fc c 4 ∧ fc c 4 ≤ 9
theorem wf_text {t : Nat → Nat} {n : Nat} (hn : n ≤ 95) : WF (chN t n) (fcN t) := by
  refine ⟨chN_le hn, fun c hc => ?_⟩
  obtain ⟨h1, h2⟩ := ch_len (t := t) (n := n) (by omega)
  have hw := well_all h2
  have w0 := hw (6 * c) (by omega)
  have w1 := hw (6 * c + 1) (by omega)
  have w2 := hw (6 * c + 2) (by omega)
  have w3 := hw (6 * c + 3) (by omega)
  have w4 := hw (6 * c + 4) (by omega)
  unfold wellB at w0 w1 w2 w3 w4
  rw [show (6 * c) % 6 = 0 by omega] at w0
  rw [show (6 * c + 1) % 6 = 1 by omega] at w1
  rw [show (6 * c + 2) % 6 = 2 by omega] at w2
  rw [show (6 * c + 3) % 6 = 3 by omega] at w3
  rw [show (6 * c + 4) % 6 = 4 by omega] at w4
  simp only [Bool.and_eq_true, decide_eq_true_eq, Nat.add_sub_cancel] at w0 w1 w2 w3 w4
  show t (6 * c) - 97 < t (6 * c + 1) - 97 ∧ t (6 * c + 1) - 97 ≤ 5 ∧ t (6 * c + 2) - 48 ≤ 9 ∧ kindN (t (6 * c + 3)) ≤ 4 ∧ 1 ≤ t (6 * c + 4) - 48 ∧ t (6 * c + 4) - 48 ≤ 9
  clear hw h1 h2 hc
  generalize t (6 * c) = a0 at *
  generalize t (6 * c + 1) = a1 at *
  generalize t (6 * c + 2) = a2 at *
  generalize kindN (t (6 * c + 3)) = a3 at *
  generalize t (6 * c + 4) = a4 at *
  exact ⟨by omega, by omega, by omega, by omega, by omega, by omega⟩
def Txt (M : Mem) (t : Nat → Nat) (n : Nat) : Prop := M 1 1 = nI n ∧ n ≤ 95 ∧ ∀ k, k < n → M 2 k = nI (t k) ∧ t k < 256
set_option maxRecDepth 100000 in
theorem ixOf : ∀ b, b < 256 → fJ0_indexOf_0f7a4 (cstC (nI b)) = some (if kindN b < 5 then nI (kindN b) else -1) := by decide +kernel
theorem isWell_s {M : Mem} {t : Nat → Nat} {n i : Nat} (hT : Txt M t n) (hi : i < n) : fX0_isWell M (nI i) = some (wellB t i) := by
  obtain ⟨h1, h2, h3⟩ := hT
  obtain ⟨hb, hb2⟩ := h3 i hi
  have hr : rmI (nI i) 6 = nI (i % 6) := by rw [pL6]; exact pz_rm (by omega) (by omega) (by omega)
  unfold fX0_isWell
  rw [itemOf_in (show i < 95 by omega) (by decide), bP_s, hb]
  simp only [hr]
  unfold wellB
  rcases (show i % 6 = 0 ∨ i % 6 = 1 ∨ i % 6 = 2 ∨ i % 6 = 3 ∨ i % 6 = 4 ∨ i % 6 = 5 by omega) with h | h | h | h | h | h <;> simp only [h]
  · rw [if_pos (show nI 0 = 0 from rfl)]
    exact rng_b (lo := 97) (hi := 102) (by omega) (by omega) (by omega)
  · rw [if_neg (show ¬ nI 1 = 0 by decide), if_pos (show nI 1 = 1 from rfl)]
    have e : nI i - 1 = nI (i - 1) := by rw [pL1]; exact pk_sub (by omega)
    obtain ⟨hc, hc2⟩ := h3 (i - 1) (by omega)
    rw [e, itemOf_in (show i - 1 < 95 by omega) (by decide), bP_s, hc]
    by_cases q1 : t (i - 1) < t i
    · rw [if_neg (fun q => by have := (nI_leI (by omega) (by omega)).mp q; omega), decide_eq_true q1]
      by_cases q2 : t i ≤ 102
      · rw [if_neg (fun q => by rw [pL102] at q; have := (nI_ltI (by omega) (by omega)).mp q; omega), decide_eq_true q2]; rfl
      · rw [if_pos (by rw [pL102]; exact (nI_ltI (by omega) (by omega)).mpr (by omega)), decide_eq_false q2]; rfl
    · rw [if_pos ((nI_leI (by omega) (by omega)).mpr (by omega)), decide_eq_false q1]; rfl
  · rw [if_neg (show ¬ nI 2 = 0 by decide), if_neg (show ¬ nI 2 = 1 by decide), if_pos (show nI 2 = 2 from rfl)]
    exact rng_b (lo := 48) (hi := 57) (by omega) (by omega) (by omega)
  · rw [if_neg (show ¬ nI 3 = 0 by decide), if_neg (show ¬ nI 3 = 1 by decide), if_neg (show ¬ nI 3 = 2 by decide), if_pos (show nI 3 = 3 from rfl), ixOf _ hb2, bP_s]
    by_cases q : kindN (t i) < 5
    · rw [if_pos q, if_neg (nI_pos (by omega)), decide_eq_true q]
    · rw [if_neg q, if_pos (show (-1 : Int32) < 0 by decide), decide_eq_false q]
  · rw [if_neg (show ¬ nI 4 = 0 by decide), if_neg (show ¬ nI 4 = 1 by decide), if_neg (show ¬ nI 4 = 2 by decide), if_neg (show ¬ nI 4 = 3 by decide), if_pos (show nI 4 = 4 from rfl)]
    exact rng_b (lo := 49) (hi := 57) (by omega) (by omega) (by omega)
  · rw [if_neg (show ¬ nI 5 = 0 by decide), if_neg (show ¬ nI 5 = 1 by decide), if_neg (show ¬ nI 5 = 2 by decide), if_neg (show ¬ nI 5 = 3 by decide), if_neg (show ¬ nI 5 = 4 by decide)]
    by_cases q : t i = 59
    · rw [if_pos (by rw [q]; rfl), decide_eq_true q]
    · rw [if_neg (fun z => by rw [pL59] at z; have := (nI_eq (by omega) (by omega)).mp z; omega), decide_eq_false q]
theorem firstFault_s {M : Mem} {t : Nat → Nat} {n : Nat} (hT : Txt M t n) : fX0_firstFault M = some (faultI t n) := by
  have hn := hT.2.1
  unfold fX0_firstFault
  refine loop_up (σ := Unit) (fun k i _ => fX0_firstFault_2 M k (nI i)) (fun i _ => ∀ j, j < i → wellB t j = true) (fun x => x = some (faultI t n)) n (fun k i s hi hI => ?_) (fun k s hI => ?_) 1000 0 () (by omega) (by omega) (fun j hj => by omega)
  · show (∃ s', (∀ j, j < i + 1 → wellB t j = true) ∧ fX0_firstFault_2 M (k + 1) (nI i) = fX0_firstFault_2 M k (nI (i + 1))) ∨ fX0_firstFault_2 M (k + 1) (nI i) = some (faultI t n)
    rw [fX0_firstFault_2, hT.1, if_neg (fun q => by have := (nI_leI (by omega) (by omega)).mp q; omega), isWell_s hT hi, bP_s]
    cases e : wellB t i with
    | true => exact Or.inl ⟨(), fun j hj => by rcases Nat.lt_or_ge j i with h | h; exact hI j h; rw [show j = i by omega]; exact e, by rw [if_pos rfl, nI_1]⟩
    | false =>
      refine Or.inr ?_
      have hb := bad_at hi hI e
      rw [if_neg (by decide)]
      unfold faultI
      rw [if_neg (fun h => by have := (well_ch h).1; omega), hb]
  · show fX0_firstFault_2 M (k + 1) (nI n) = some (faultI t n)
    rw [fX0_firstFault_2, hT.1, if_pos ((nI_leI (by omega) (by omega)).mpr (Nat.le_refl _))]
    have hb := bad_no hI
    have hr : rmI (nI n) 6 = nI (n % 6) := by rw [pL6]; exact pz_rm (by omega) (by omega) (by omega)
    unfold faultI wellT
    rw [hb, hr]
    by_cases q0 : n = 0
    · rw [if_pos (by rw [q0]; rfl), if_pos (by simp [q0])]
    · rw [if_neg (fun z => by rw [pL0] at z; have := (nI_eq (by omega) (by omega)).mp z; omega)]
      by_cases q5 : n % 6 = 5
      · rw [if_pos (by rw [q5]; rfl), if_pos (by simp [q5])]
      · rw [if_neg (fun z => by rw [pL5] at z; have := (nI_eq (by omega) (by omega)).mp z; omega), if_neg (by simp [q0, q5])]
