theorem loop_upF {σ ρ : Type} (f : Nat → Nat → σ → Option ρ) (I : Nat → σ → Prop) (G : Option ρ → Prop) (e : Nat)
    (hs : ∀ n i s, i < e → e - i ≤ n → I i s → (∃ s', I (i + 1) s' ∧ f (n + 1) i s = f n (i + 1) s') ∨ G (f (n + 1) i s))
    (he : ∀ n s, I e s → G (f (n + 1) e s)) :
    ∀ n i s, i ≤ e → e - i < n → I i s → G (f n i s) := by
  intro n
  induction n with
  | zero => intro i s _ h; omega
  | succ n ih =>
    intro i s hi hn hI
    rcases Nat.lt_or_ge i e with h | h
    · rcases hs n i s h (by omega) hI with ⟨s', h1, h2⟩ | h1
      · rw [h2]; exact ih (i + 1) s' h (by omega) h1
      · exact h1
    · have : i = e := by omega
      subst this
      exact he n s hI
theorem okR_nI {b : Nat} (h : b < 2 ^ 31) (lo hi : Int) : okR (nI b) lo hi = decide (lo ≤ (b : Int) ∧ (b : Int) ≤ hi) := by
  unfold okR; rw [pz_ti h]
def TxM (M : Mem) (t : Nat → Nat) (n : Nat) : Prop := M 26 6 = nI n ∧ n ≤ 95 ∧ ∀ k, k < n → M 31 k = nI (t k) ∧ t k < 256
set_option maxRecDepth 100000 in
theorem shOf : ∀ b, b < 256 → fX5_shiftOf (nI b) = if kindN b < 5 then nI (kindN b) else -1 := by decide +kernel
theorem tells78 (M : Mem) {b lo : Nat} (hb : b < 256) (hl : lo = 48 ∨ lo = 49) : fX5_tellsOf_78 M (nI b) (nI b).toInt64 (lN lo) = some (if lo ≤ b ∧ b ≤ 57 then nI (b - 48) else -1) := by
  unfold fX5_tellsOf_78
  rw [x5_inR, okR_nI (by omega)]
  have e1 : (lN lo).toInt = (lo : Int) := lN_toInt (by omega)
  have e2 : (57 : Int64).toInt = 57 := rfl
  rw [e1, e2]
  by_cases q : lo ≤ b ∧ b ≤ 57
  · rw [if_pos q, if_pos (decide_eq_true (by omega))]
    have e3 : nI b - nI 48 = nI (b - 48) := pk_sub (by omega)
    rw [show (48 : Int32) = nI 48 from rfl, e3]
  · rw [if_neg q, if_neg (by simp only [decide_eq_true_eq]; omega)]
theorem tells_s {M : Mem} {t : Nat → Nat} {c k : Nat} (h8 : M 26 8 = nI c) (hc : c < 16) (hk : k < 5) (hb : t (6 * c + k) < 256) (h0 : k = 1 → M 32 (5 * c) = nI (t (6 * c) - 97) ∧ wellB t (6 * c) = true ∧ t (6 * c) < 256) : fX5_tellsOf M (nI k) (nI (t (6 * c + k))) = some (if wellB t (6 * c + k) = true then nI (fcN t c k) else -1) := by
  unfold fX5_tellsOf
  have e97 : (97 : Int64).toInt = 97 := rfl
  have e102 : (102 : Int64).toInt = 102 := rfl
  have p97 : (97 : Int32) = nI 97 := rfl
  have hm : (6 * c + k) % 6 = k := by omega
  unfold wellB
  rw [hm]
  rcases (show k = 0 ∨ k = 1 ∨ k = 2 ∨ k = 3 ∨ k = 4 by omega) with rfl | rfl | rfl | rfl | rfl
  · rw [if_neg (show ¬ (2 : Int32) ≤ nI 0 by decide), x5_inR, okR_nI (by omega), e97, e102]
    (try dsimp only)
    by_cases q : 97 ≤ t (6 * c + 0) ∧ t (6 * c + 0) ≤ 102
    · rw [if_pos (decide_eq_true (by omega)), if_pos (show nI 0 = 0 from rfl), if_pos (by simp only [Bool.and_eq_true, decide_eq_true_eq]; exact q), p97, pk_sub q.1]; rfl
    · rw [if_neg (by simp only [decide_eq_true_eq]; omega), if_neg (by simp only [Bool.and_eq_true, decide_eq_true_eq]; exact q)]
  · obtain ⟨a1, a2, a3⟩ := h0 rfl
    unfold wellB at a2
    rw [show (6 * c) % 6 = 0 by omega] at a2
    simp only [Bool.and_eq_true, decide_eq_true_eq] at a2
    have e5 : 5 * nI c = nI (5 * c) := by rw [pL5, pk_mul]
    rw [if_neg (show ¬ (2 : Int32) ≤ nI 1 by decide), x5_inR, okR_nI (by omega), e97, e102, if_neg (show ¬ nI 1 = 0 by decide), h8, e5, pz_gd (by omega) (by omega), nI_clamp (by omega), a1]
    (try dsimp only)
    rw [Nat.add_sub_cancel]
    by_cases q : 97 ≤ t (6 * c + 1) ∧ t (6 * c + 1) ≤ 102
    · rw [if_pos (decide_eq_true (by omega)), p97, pk_sub q.1]
      by_cases q2 : t (6 * c) < t (6 * c + 1)
      · rw [if_neg (fun z => by have := (nI_leI (by omega) (by omega)).mp z; omega), if_pos (by simp [q.2, q2])]; rfl
      · rw [if_pos ((nI_leI (by omega) (by omega)).mpr (by omega)), if_neg (by simp [q2])]
    · rw [if_neg (by simp only [decide_eq_true_eq]; omega), if_neg (by simp only [Bool.and_eq_true, decide_eq_true_eq]; omega)]
  · rw [if_pos (show (2 : Int32) ≤ nI 2 by decide), if_neg (show ¬ nI 2 = 3 by decide), if_pos (show nI 2 = 2 from rfl), show (48 : Int64) = lN 48 from rfl, tells78 M hb (Or.inl rfl)]
    (try dsimp only)
    by_cases q : 48 ≤ t (6 * c + 2) ∧ t (6 * c + 2) ≤ 57
    · rw [if_pos q, if_pos (by simp [q])]; rfl
    · rw [if_neg q, if_neg (by simp only [Bool.and_eq_true, decide_eq_true_eq]; exact q)]
  · rw [if_pos (show (2 : Int32) ≤ nI 3 by decide), if_pos (show nI 3 = 3 from rfl), shOf _ hb]
    (try dsimp only)
    by_cases q : kindN (t (6 * c + 3)) < 5
    · rw [if_pos q, if_pos (by simp [q])]; rfl
    · rw [if_neg q, if_neg (by simp [q])]
  · rw [if_pos (show (2 : Int32) ≤ nI 4 by decide), if_neg (show ¬ nI 4 = 3 by decide), if_neg (show ¬ nI 4 = 2 by decide), show (49 : Int64) = lN 49 from rfl, tells78 M hb (Or.inr rfl)]
    (try dsimp only)
    by_cases q : 49 ≤ t (6 * c + 4) ∧ t (6 * c + 4) ≤ 57
    · rw [if_pos q, if_pos (by simp [q])]; rfl
    · rw [if_neg q, if_neg (by simp only [Bool.and_eq_true, decide_eq_true_eq]; exact q)]
theorem kindN_le (b : Nat) : kindN b ≤ 5 := by
  unfold kindN
  by_cases h1 : b = 119
  · rw [if_pos h1]; omega
  · rw [if_neg h1]
    by_cases h2 : b = 114
    · rw [if_pos h2]; omega
    · rw [if_neg h2]
      by_cases h3 : b = 115
      · rw [if_pos h3]; omega
      · rw [if_neg h3]
        by_cases h4 : b = 112
        · rw [if_pos h4]; omega
        · rw [if_neg h4]
          by_cases h5 : b = 106
          · rw [if_pos h5]; omega
          · rw [if_neg h5]; omega
theorem fcN_lt {t : Nat → Nat} {c k : Nat} (hk : k < 5) (hb : t (6 * c + k) < 256) : fcN t c k < 256 := by
  have h := kindN_le (t (6 * c + 3))
  rcases (show k = 0 ∨ k = 1 ∨ k = 2 ∨ k = 3 ∨ k = 4 by omega) with rfl | rfl | rfl | rfl | rfl
  · show t (6 * c) - 97 < 256
    rw [Nat.add_zero] at hb; omega
  · show t (6 * c + 1) - 97 < 256
    omega
  · show t (6 * c + 2) - 48 < 256
    omega
  · show kindN (t (6 * c + 3)) < 256
    omega
  · show t (6 * c + 4) - 48 < 256
    omega
/-- what reading a channel gives -/
def RCh (M : Mem) (t : Nat → Nat) (n c : Nat) (o : Option (Bool × Mem)) : Prop := ∃ b M', o = some (b, M') ∧ (∀ a, ¬ a = 26 → ¬ a = 32 → M' a = M a) ∧ (∀ x, ¬ x = 7 → ¬ x = 8 → M' 26 x = M 26 x) ∧ (∀ j, j < 5 * c → M' 32 j = M 32 j) ∧
  (b = true → M' 26 8 = nI (c + 1) ∧ M' 26 7 = nI (6 * c + 5) ∧ 6 * c + 5 ≤ n ∧ (∀ j, j < 6 * c + 5 → wellB t j = true) ∧ ∀ k, k < 5 → M' 32 (5 * c + k) = nI (fcN t c k)) ∧
  (b = false → ∃ k, k < 5 ∧ M' 26 7 = nI (6 * c + k) ∧ 6 * c + k ≤ n ∧ (∀ j, j < 6 * c + k → wellB t j = true) ∧ (6 * c + k = n ∨ 6 * c + k < n ∧ wellB t (6 * c + k) = false))
theorem rch_s {M : Mem} {t : Nat → Nat} {n c : Nat} (hT : TxM M t n) (h8 : M 26 8 = nI c) (h7 : M 26 7 = nI (6 * c)) (hc : 6 * c ≤ n) (hw : ∀ j, j < 6 * c → wellB t j = true) : RCh M t n c (fX5_readsChannel M) := by
  have hn := hT.2.1
  unfold fX5_readsChannel
  rw [h8, if_neg (fun z => by rw [pL16] at z; have := (nI_eq (by omega) (by omega)).mp z; omega)]
  refine loop_up (σ := Mem) (fun k i s => fX5_readsChannel_13 k (nI i) s) (fun i s => (∀ a, ¬ a = 26 → ¬ a = 32 → s a = M a) ∧ (∀ x, ¬ x = 7 → ¬ x = 8 → s 26 x = M 26 x) ∧ (∀ j, j < 5 * c → s 32 j = M 32 j) ∧ s 26 8 = nI c ∧ s 26 7 = nI (6 * c + i) ∧ 6 * c + i ≤ n ∧ (∀ j, j < 6 * c + i → wellB t j = true) ∧ ∀ k, k < i → s 32 (5 * c + k) = nI (fcN t c k)) (RCh M t n c) 5 (fun k i s hi hI => ?_) (fun k s hI => ?_) 1000 0 M (by omega) (by omega) ⟨fun _ _ _ => rfl, fun _ _ _ => rfl, fun _ _ => rfl, h8, h7, by omega, hw, fun k hk => absurd hk (Nat.not_lt_zero _)⟩
  · obtain ⟨f1, f2, f3, s8, s7, sn, sw, sf⟩ := hI
    have fail : (6 * c + i = n ∨ 6 * c + i < n ∧ wellB t (6 * c + i) = false) → RCh M t n c (some (false, s)) := fun h => ⟨false, s, rfl, f1, f2, f3, fun h => (by cases h), fun _ => ⟨i, hi, s7, sn, sw, h⟩⟩
    (try dsimp only)
    rw [fX5_readsChannel_13, if_neg (fun q => by rw [pL5] at q; have := (nI_leI (by omega) (by omega)).mp q; omega), f2 6 (by decide) (by decide), hT.1, s7]
    by_cases q : n ≤ 6 * c + i
    · right
      rw [if_pos ((nI_leI (by omega) (by omega)).mpr q)]
      unfold fX5_readsChannel_47
      rw [if_pos rfl]
      exact fail (Or.inl (by omega))
    · obtain ⟨tb, tb2⟩ := hT.2.2 (6 * c + i) (by omega)
      rw [if_neg (fun z => q ((nI_leI (by omega) (by omega)).mp z)), pz_gd (by omega) (by omega), nI_clamp (by omega), f1 31 (by decide) (by decide), tb, tells_s (t := t) (c := c) s8 (by omega) hi tb2 (fun e => by
        subst e
        exact ⟨by rw [← Nat.add_zero (5 * c)]; exact sf 0 (by omega), sw (6 * c) (by omega), (hT.2.2 (6 * c) (by omega)).2⟩), bP_s]
      unfold fX5_readsChannel_47
      cases e : wellB t (6 * c + i) with
      | false =>
        right
        rw [if_neg Bool.false_ne_true, if_pos rfl]
        exact fail (Or.inr ⟨by omega, e⟩)
      | true =>
        left
        rw [if_pos rfl]
        have hfc : fcN t c i < 2 ^ 31 := Nat.lt_trans (fcN_lt hi tb2) (by decide)
        have e5 : 5 * nI c + nI i = nI (5 * c + i) := by rw [pL5, pk_mul, nI_add]
        rw [if_neg (fun z => by rw [pz_eq, pz_ti hfc] at z; have : (-1 : Int32).toInt = -1 := rfl; omega), s8, e5, pz_gd (by omega) (by omega), ltl_s, nI_clamp (by omega), ltl_s, up_id (by decide), s7, nI_1, nI_1]
        refine ⟨_, ⟨?_, ?_, ?_, ?_, ?_, ?_, ?_, ?_⟩, rfl⟩
        · intro a a1 a2; rw [up_id a1, up_id a2]; exact f1 a a1 a2
        · intro x x1 x2; rw [up_ix x1, up_id (by decide)]; exact f2 x x1 x2
        · intro j hj; rw [up_id (by decide), up_ix (by omega)]; exact f3 j hj
        · rw [up_ix (by decide), up_id (by decide)]; exact s8
        · rw [up_eq, Nat.add_assoc]
        · omega
        · intro j hj
          rcases Nat.lt_or_ge j (6 * c + i) with h | h
          · exact sw j h
          · rw [show j = 6 * c + i by omega]; exact e
        · intro x hx
          rw [up_id (by decide)]
          by_cases ex : x = i
          · rw [ex, up_eq]
          · rw [up_ix (by omega)]; exact sf x (by omega)
  · obtain ⟨f1, f2, f3, s8, s7, sn, sw, sf⟩ := hI
    (try dsimp only)
    rw [fX5_readsChannel_13, if_pos (show (5 : Int32) ≤ nI 5 by decide), ltl_s, s8, nI_1]
    exact ⟨true, _, rfl, fun a a1 a2 => by rw [up_id a1]; exact f1 a a1 a2, fun x x1 x2 => by rw [up_ix x2]; exact f2 x x1 x2, fun j hj => by rw [up_id (by decide)]; exact f3 j hj, fun _ => ⟨up_eq _ _ _ _, by rw [up_ix (by decide)]; exact s7, sn, sw, fun x hx => by rw [up_id (by decide)]; exact sf x hx⟩, fun h => (by cases h)⟩
def MF (N : Nat) (fc : Nat → Nat → Nat) (M : Mem) : Prop := M 26 8 = nI N ∧ ∀ c, c < N → ∀ k, k < 5 → M 32 (5 * c + k) = nI (fc c k)
/-- what reading the text gives -/
def RTx (M : Mem) (t : Nat → Nat) (n : Nat) (o : Option (Int32 × Mem)) : Prop := ∃ M', o = some (faultI t n, M') ∧ (∀ a, ¬ a = 26 → ¬ a = 32 → M' a = M a) ∧ (∀ x, ¬ x = 7 → ¬ x = 8 → M' 26 x = M 26 x) ∧ MF (chN t n) (fcN t) M'
theorem reads_s {M : Mem} {t : Nat → Nat} {n : Nat} (hT : TxM M t n) : RTx M t n (fX5_reads M) := by
  have hn := hT.2.1
  have ill : ∀ (S : Mem) (k : Nat), (∀ a, ¬ a = 26 → ¬ a = 32 → S a = M a) → (∀ x, ¬ x = 7 → ¬ x = 8 → S 26 x = M 26 x) → S 26 7 = nI k → 0 < n → ¬ (k = n ∧ n % 6 = 5) → badAt t n = k → RTx M t n (lt (up S 26 8 0) fun M10 => some ((M10 26 7), M10)) := by
    intro S k f1 f2 s7 h0 hk hb
    rw [ltl_s]
    have hw : ¬ wellT t n = true := fun h => by have := well_ch h; omega
    refine ⟨up S 26 8 0, ?_, fun a a1 a2 => by rw [up_id a1]; exact f1 a a1 a2, fun x x1 x2 => by rw [up_ix x2]; exact f2 x x1 x2, ?_, fun c hc => ?_⟩
    · unfold faultI
      rw [if_neg hw, hb, up_ix (by decide), s7]
    · unfold chN
      rw [if_neg hw, up_eq]; rfl
    · unfold chN at hc
      rw [if_neg hw] at hc
      omega
  unfold fX5_reads
  rw [ltl_s, ltl_s, up_ix (by decide), up_ix (by decide), hT.1]
  by_cases q0 : n = 0
  · subst q0
    rw [if_pos (show nI 0 ≤ 0 by decide), fX5_reads_23, if_neg (by decide)]
    have hb : badAt t 0 = 0 := by have := bad_le t 0; omega
    have hw : wellT t 0 = true := by unfold wellT; rw [hb]; rfl
    refine ⟨_, by unfold faultI; rw [if_pos hw], fun a a1 a2 => by rw [up_id a1, up_id a1], fun x x1 x2 => by rw [up_ix x2, up_ix x1], ?_, fun c hc => ?_⟩
    · unfold chN
      rw [if_pos hw, up_eq]; rfl
    · unfold chN at hc
      rw [if_pos hw] at hc
      omega
  · rw [if_neg (fun z => by rw [pL0] at z; have := (nI_leI (by omega) (by omega)).mp z; omega)]
    refine loop_upF (σ := Mem) (fun k c s => fX5_reads_23 k true s) (fun c s => (∀ a, ¬ a = 26 → ¬ a = 32 → s a = M a) ∧ (∀ x, ¬ x = 7 → ¬ x = 8 → s 26 x = M 26 x) ∧ s 26 8 = nI c ∧ s 26 7 = nI (6 * c) ∧ 6 * c ≤ n ∧ (∀ j, j < 6 * c → wellB t j = true) ∧ ∀ d, d < c → ∀ k, k < 5 → s 32 (5 * d + k) = nI (fcN t d k)) (RTx M t n) 16 (fun k c s hc hk hI => ?_) (fun k s hI => ?_) 1000 0 _ (by omega) (by omega) ⟨fun a a1 a2 => by rw [up_id a1, up_id a1], fun x x1 x2 => by rw [up_ix x2, up_ix x1], up_eq _ _ _ _, by rw [up_ix (by decide), up_eq]; rfl, by omega, fun j hj => absurd hj (by omega), fun d hd => absurd hd (Nat.not_lt_zero _)⟩
    · obtain ⟨f1, f2, s8, s7, sn, sw, sf⟩ := hI
      have hTs : TxM s t n := ⟨by rw [f2 6 (by decide) (by decide)]; exact hT.1, hn, fun x hx => by rw [f1 31 (by decide) (by decide)]; exact hT.2.2 x hx⟩
      obtain ⟨b, M', e, g1, g2, g3, gt, gf⟩ := rch_s hTs s8 s7 sn sw
      have F1 : ∀ a, ¬ a = 26 → ¬ a = 32 → M' a = M a := fun a a1 a2 => (g1 a a1 a2).trans (f1 a a1 a2)
      have F2 : ∀ x, ¬ x = 7 → ¬ x = 8 → M' 26 x = M 26 x := fun x x1 x2 => (g2 x x1 x2).trans (f2 x x1 x2)
      (try dsimp only)
      rw [fX5_reads_23, if_pos rfl, e, bW_s]
      cases b with
      | false =>
        right
        obtain ⟨x, hx, w7, wn, ww, wb⟩ := gf rfl
        rw [if_neg (by decide)]
        unfold fX5_reads_52
        rw [if_neg (by decide)]
        refine ill M' (6 * c + x) F1 F2 w7 (by omega) (by omega) ?_
        rcases wb with wb | ⟨wb, wb2⟩
        · rw [wb]; exact bad_no (fun j hj => ww j (by omega))
        · exact bad_at wb ww wb2
      | true =>
        obtain ⟨w8, w7, wn, ww, wf⟩ := gt rfl
        rw [if_pos rfl, F2 6 (by decide) (by decide), hT.1, w7]
        have hfc : ∀ d, d < c + 1 → ∀ k, k < 5 → M' 32 (5 * d + k) = nI (fcN t d k) := fun d hd x hx => by
          rcases Nat.lt_or_ge d c with h | h
          · rw [g3 _ (by omega)]; exact sf d h x hx
          · rw [show d = c by omega]; exact wf x hx
        by_cases q : n ≤ 6 * c + 5
        · right
          have en : n = 6 * c + 5 := by omega
          rw [if_pos ((nI_leI (by omega) (by omega)).mpr q)]
          unfold fX5_reads_52
          rw [if_pos rfl, if_neg (by decide)]
          unfold fX5_reads_85
          rw [if_neg (by decide), ltl_s]
          obtain ⟨k', rfl⟩ : ∃ z, k = z + 1 := ⟨k - 1, by omega⟩
          rw [fX5_reads_23, if_neg (by decide)]
          have hb : badAt t n = n := bad_no (fun j hj => ww j (by omega))
          have hw : wellT t n = true := by unfold wellT; rw [hb]; simp; omega
          have hN : chN t n = c + 1 := by unfold chN; rw [if_pos hw]; omega
          refine ⟨_, by unfold faultI; rw [if_pos hw], fun a a1 a2 => by rw [up_id a1]; exact F1 a a1 a2, fun x x1 x2 => by rw [up_ix x1]; exact F2 x x1 x2, ?_, fun d hd x hx => ?_⟩
          · rw [up_ix (by decide), hN]; exact w8
          · rw [up_id (by decide)]; exact hfc d (by omega) x hx
        · rw [if_neg (fun z => q ((nI_leI (by omega) (by omega)).mp z))]
          unfold fX5_reads_52
          rw [if_pos rfl, if_pos rfl, w7, pz_gd (by omega) (by omega), nI_clamp (by omega), F1 31 (by decide) (by decide)]
          obtain ⟨tb, tb2⟩ := hT.2.2 (6 * c + 5) (by omega)
          rw [tb]
          have hwb : wellB t (6 * c + 5) = decide (t (6 * c + 5) = 59) := by unfold wellB; rw [show (6 * c + 5) % 6 = 5 by omega]; rfl
          by_cases q2 : t (6 * c + 5) = 59
          · left
            rw [if_pos (by rw [q2]; rfl)]
            unfold fX5_reads_85
            rw [if_pos rfl, ltl_s, w7, nI_1]
            refine ⟨_, ⟨fun a a1 a2 => by rw [up_id a1]; exact F1 a a1 a2, fun x x1 x2 => by rw [up_ix x1]; exact F2 x x1 x2, by rw [up_ix (by decide)]; exact w8, by rw [up_eq]; congr 1, by omega, fun j hj => ?_, fun d hd x hx => by rw [up_id (by decide)]; exact hfc d hd x hx⟩, rfl⟩
            rcases Nat.lt_or_ge j (6 * c + 5) with h | h
            · exact ww j h
            · rw [show j = 6 * c + 5 by omega, hwb]; exact decide_eq_true q2
          · right
            rw [if_neg (fun z => by rw [show (59 : Int32) = nI 59 from rfl] at z; have := (nI_eq (by omega) (by omega)).mp z; omega)]
            exact ill M' (6 * c + 5) F1 F2 w7 (by omega) (by omega) (bad_at (by omega) ww (by rw [hwb]; exact decide_eq_false q2))
    · obtain ⟨f1, f2, s8, s7, sn, sw, sf⟩ := hI
      omega
