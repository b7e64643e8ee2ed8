theorem ch_b {t : Nat → Nat} {n c : Nat} (hc : c < chN t n) : (97 ≤ t (c * 6) ∧ t (c * 6) < t (c * 6 + 1) ∧ t (c * 6 + 1) ≤ 102) ∧ (48 ≤ t (c * 6 + 2) ∧ t (c * 6 + 2) ≤ 57) ∧ kindN (t (c * 6 + 3)) < 5 ∧ (49 ≤ t (c * 6 + 4) ∧ t (c * 6 + 4) ≤ 57) ∧ c * 6 + 4 < n := by
  obtain ⟨h1, h2⟩ := ch_len (t := t) (n := n) (by omega)
  have hw := well_all h2
  have w0 := hw (6 * c) (by omega)
  have w1 := hw (6 * c + 1) (by omega)
  have w2 := hw (6 * c + 2) (by omega)
  have w3 := hw (6 * c + 3) (by omega)
  have w4 := hw (6 * c + 4) (by omega)
  unfold wellB at w0 w1 w2 w3 w4
  rw [show (6 * c) % 6 = 0 by omega] at w0
  rw [show (6 * c + 1) % 6 = 1 by omega] at w1
  rw [show (6 * c + 2) % 6 = 2 by omega] at w2
  rw [show (6 * c + 3) % 6 = 3 by omega] at w3
  rw [show (6 * c + 4) % 6 = 4 by omega] at w4
  simp only [Bool.and_eq_true, decide_eq_true_eq, Nat.add_sub_cancel] at w0 w1 w2 w3 w4
  rw [Nat.mul_comm c 6]
  exact ⟨⟨w0.1, w1.1, w1.2⟩, w2, w3, w4, by omega⟩
theorem learn_s {M : Mem} {t : Nat → Nat} {n c : Nat} (hT : Txt M t n) (hc : c < chN t n) : ∃ M', fX0_learn (nI c) M = some ((), M') ∧ (∀ a, ¬ a = 3 → M' a = M a) ∧ (∀ k, k < 5 → M' 3 (c * 5 + k) = nI (fcN t c k)) ∧ ∀ j, (j < c * 5 ∨ c * 5 + 5 ≤ j) → M' 3 j = M 3 j := by
  have h16 := chN_le (t := t) hT.2.1
  obtain ⟨⟨a1, a2, a3⟩, ⟨b1, b2⟩, c1, ⟨d1, d2⟩, e1⟩ := ch_b hc
  have hn := hT.2.1
  have t0 := hT.2.2 (c * 6) (by omega)
  have t1 := hT.2.2 (c * 6 + 1) (by omega)
  have t2 := hT.2.2 (c * 6 + 2) (by omega)
  have t3 := hT.2.2 (c * 6 + 3) (by omega)
  have t4 := hT.2.2 (c * 6 + 4) (by omega)
  have s0 : nI (t (c * 6)) - nI 97 = nI (t (c * 6) - 97) := pk_sub a1
  have s1 : nI (t (c * 6 + 1)) - nI 97 = nI (t (c * 6 + 1) - 97) := pk_sub (by omega)
  have s2 : nI (t (c * 6 + 2)) - nI 48 = nI (t (c * 6 + 2) - 48) := pk_sub b1
  have s4 : nI (t (c * 6 + 4)) - nI 48 = nI (t (c * 6 + 4) - 48) := pk_sub (by omega)
  refine ⟨up (up (up (up (up M 3 (c * 5) (nI (t (c * 6) - 97))) 3 (c * 5 + 1) (nI (t (c * 6 + 1) - 97))) 3 (c * 5 + 2) (nI (t (c * 6 + 2) - 48))) 3 (c * 5 + 3) (nI (kindN (t (c * 6 + 3))))) 3 (c * 5 + 4) (nI (t (c * 6 + 4) - 48)), ?_, ?_, ?_, ?_⟩
  · unfold fX0_learn
    have p97 : (97 : Int32) = nI 97 := rfl
    have p48 : (48 : Int32) = nI 48 := rfl
    simp (disch := omega) only [pL6, pL5, pL0, pL1, pL2, pL3, pL4, p97, p48, pk_mul, nI_add, it2, pi3, bP_s, bW_s, up_id, t0.1, t1.1, t2.1, t3.1, t4.1, Nat.add_zero, s0, s1, s2, s4, ixOf _ t3.2, if_pos c1]
  · intro a ha
    simp only [up_id ha]
  · intro k hk
    have h6 : c * 6 = 6 * c := Nat.mul_comm _ _
    rcases (show k = 0 ∨ k = 1 ∨ k = 2 ∨ k = 3 ∨ k = 4 by omega) with rfl | rfl | rfl | rfl | rfl <;> simp (disch := omega) only [up_eq, up_ix, Nat.add_zero] <;> rw [h6] <;> rfl
  · intro j hj
    simp (disch := omega) only [up_ix]
def CF (N : Nat) (fc : Nat → Nat → Nat) (M : Mem) : Prop := M 1 3 = nI N ∧ ∀ c, c < N → ∀ k, k < 5 → M 3 (c * 5 + k) = nI (fc c k)
theorem fact_s {N : Nat} {fc : Nat → Nat → Nat} {M : Mem} (h : CF N fc M) (hN : N ≤ 16) {c k : Nat} (hc : c < N) (hk : k < 5) : fX0_fact M (nI c) (nI k) = some (nI (fc c k)) := by
  unfold fX0_fact
  have e : nI c * 5 + nI k = nI (c * 5 + k) := by rw [pL5, pk_mul, nI_add]
  rw [e, h.1, if_neg (nI_pos (by omega)), if_neg (fun q => by have := (nI_leI (by omega) (by omega)).mp q; omega), if_neg (nI_pos (by omega)), if_pos (by rw [pL5]; exact (nI_ltI (by omega) (by omega)).mpr hk), if_neg (fun q => by rw [pL80] at q; have := (nI_leI (by omega) (by omega)).mp q; omega), pz_gd (by omega) (by omega), nI_clamp (by omega), h.2 c hc k hk]
theorem fact_0 {N : Nat} {fc : Nat → Nat → Nat} {M : Mem} (h : CF N fc M) (hN : N ≤ 16) {c : Nat} (hc : c < N) : fX0_fact M (nI c) 0 = some (nI (fc c 0)) := fact_s h hN hc (k := 0) (by omega)
theorem fact_1 {N : Nat} {fc : Nat → Nat → Nat} {M : Mem} (h : CF N fc M) (hN : N ≤ 16) {c : Nat} (hc : c < N) : fX0_fact M (nI c) 1 = some (nI (fc c 1)) := fact_s h hN hc (k := 1) (by omega)
theorem fact_2 {N : Nat} {fc : Nat → Nat → Nat} {M : Mem} (h : CF N fc M) (hN : N ≤ 16) {c : Nat} (hc : c < N) : fX0_fact M (nI c) 2 = some (nI (fc c 2)) := fact_s h hN hc (k := 2) (by omega)
theorem fact_3 {N : Nat} {fc : Nat → Nat → Nat} {M : Mem} (h : CF N fc M) (hN : N ≤ 16) {c : Nat} (hc : c < N) : fX0_fact M (nI c) 3 = some (nI (fc c 3)) := fact_s h hN hc (k := 3) (by omega)
theorem fact_4 {N : Nat} {fc : Nat → Nat → Nat} {M : Mem} (h : CF N fc M) (hN : N ≤ 16) {c : Nat} (hc : c < N) : fX0_fact M (nI c) 4 = some (nI (fc c 4)) := fact_s h hN hc (k := 4) (by omega)
def segD (fr : Nat → Nat) (p : Nat) : Nat → List Nat
  | 0 => []
  | c + 1 => if fr c = p then c :: segD fr p c else segD fr p c
def ordT (N : Nat) (fr : Nat → Nat) : Nat → List Nat
  | 0 => []
  | j + 1 => segD fr j N ++ ordT N fr j
def ordL (N : Nat) (fr : Nat → Nat) : List Nat := ordT N fr 6
theorem ordT_len (fr : Nat → Nat) (N : Nat) : ∀ j, (ordT (N + 1) fr j).length = (ordT N fr j).length + if fr N < j then 1 else 0
  | 0 => by simp [ordT]
  | j + 1 => by
    rw [ordT, ordT, List.length_append, List.length_append, ordT_len fr N j, segD]
    by_cases h : fr N = j
    · rw [if_pos h, if_neg (by omega), if_pos (by omega), List.length_cons]; omega
    · rw [if_neg h]
      by_cases h2 : fr N < j
      · rw [if_pos h2, if_pos (by omega)]; omega
      · rw [if_neg h2, if_neg (by omega)]; omega
theorem ordT_0 (fr : Nat → Nat) : ∀ j, ordT 0 fr j = []
  | 0 => rfl
  | j + 1 => by rw [ordT, ordT_0 fr j]; rfl
theorem ordL_len {fr : Nat → Nat} : ∀ {N : Nat}, (∀ c, c < N → fr c < 6) → (ordL N fr).length = N
  | 0, _ => by rw [ordL, ordT_0]; rfl
  | N + 1, h => by
    have ih := ordL_len (N := N) (fun c hc => h c (by omega))
    rw [ordL] at ih ⊢
    rw [ordT_len, ih, if_pos (h N (Nat.lt_succ_self N))]
theorem segD_lt {fr : Nat → Nat} {p : Nat} : ∀ {N x : Nat}, x ∈ segD fr p N → x < N ∧ fr x = p
  | 0, x, h => by cases h
  | N + 1, x, h => by
    rw [segD] at h
    split at h
    · rename_i e
      rcases List.mem_cons.mp h with h | h
      · subst h; exact ⟨Nat.lt_succ_self _, e⟩
      · have := segD_lt h; exact ⟨by omega, this.2⟩
    · have := segD_lt h; exact ⟨by omega, this.2⟩
theorem ordT_lt {fr : Nat → Nat} {N x : Nat} : ∀ {j : Nat}, x ∈ ordT N fr j → x < N
  | 0, h => by cases h
  | j + 1, h => by
    rw [ordT] at h
    rcases List.mem_append.mp h with h | h
    · exact (segD_lt h).1
    · exact ordT_lt h
theorem getD_app_lt {l l2 : List Nat} {x : Nat} (h : x < l.length) : (l ++ l2).getD x 0 = l.getD x 0 := by
  rw [List.getD_eq_getElem?_getD, List.getD_eq_getElem?_getD, List.getElem?_append_left h]
theorem getD_app_at (l : List Nat) (c : Nat) : (l ++ [c]).getD l.length 0 = c := by
  rw [List.getD_eq_getElem?_getD, List.getElem?_append_right (Nat.le_refl _), Nat.sub_self]; rfl
theorem pio15 {N : Nat} {fc : Nat → Nat → Nat} {M : Mem} (hC : CF N fc M) (hN : N ≤ 16) (kk : Int32 → Int32 → Mem → Option (Unit × Mem)) (p : Nat) (hp : p < 6) (pre : List Nat) (hlen : (pre ++ segD (fun c => fc c 0) p N).length ≤ 16) (hpre : ∀ x, x < pre.length → M 4 x = nI (pre.getD x 0)) (hwf : ∀ c, c < N → fc c 0 < 6) :
    ∃ M', fX0_putInOrder_15 kk 1000 (nI pre.length) (nI p) (nI N - 1) M = kk (nI (pre ++ segD (fun c => fc c 0) p N).length) (nI p + -1) M' ∧ (∀ a, ¬ a = 4 → M' a = M a) ∧ ∀ x, x < (pre ++ segD (fun c => fc c 0) p N).length → M' 4 x = nI ((pre ++ segD (fun c => fc c 0) p N).getD x 0) := by
  refine loop_dn (σ := List Nat × Mem) (fun k i s => fX0_putInOrder_15 kk k (nI s.1.length) (nI p) (nI i - 1) s.2) (fun i s => i ≤ N ∧ s.1 ++ segD (fun c => fc c 0) p i = pre ++ segD (fun c => fc c 0) p N ∧ (∀ a, ¬ a = 4 → s.2 a = M a) ∧ ∀ x, x < s.1.length → s.2 4 x = nI (s.1.getD x 0))
    (fun o => ∃ M', o = kk (nI (pre ++ segD (fun c => fc c 0) p N).length) (nI p + -1) M' ∧ (∀ a, ¬ a = 4 → M' a = M a) ∧ ∀ x, x < (pre ++ segD (fun c => fc c 0) p N).length → M' 4 x = nI ((pre ++ segD (fun c => fc c 0) p N).getD x 0)) (fun k i s hI => ?_) (fun k s hI => ?_) 1000 N (pre, M) (by omega) ⟨Nat.le_refl _, rfl, fun _ _ => rfl, hpre⟩
  · obtain ⟨l, S⟩ := s
    obtain ⟨hi, he, hf, hx⟩ := hI
    dsimp only at he hf hx ⊢
    left
    have hCS : CF N fc S := ⟨by rw [hf 1 (by decide)]; exact hC.1, fun c hc k hk => by rw [hf 3 (by decide)]; exact hC.2 c hc k hk⟩
    rw [fX0_putInOrder_15, pz_s1, if_neg (nI_pos (by omega)), fact_0 hCS hN (show i < N by omega), bP_s]
    rw [segD] at he
    by_cases q : fc i 0 = p
    · rw [if_pos q] at he
      have hl : l.length < 16 := by
        have := congrArg List.length he
        rw [List.length_append, List.length_cons] at this
        omega
      rw [if_pos (by rw [q]), pi4 hl, bW_s]
      refine ⟨(l ++ [i], up S 4 l.length (nI i)), ⟨by omega, by rw [← he]; simp, fun a ha => (up_id ha).trans (hf a ha), fun x hxl => ?_⟩, ?_⟩
      · rw [List.length_append, List.length_singleton] at hxl
        (try dsimp only)
        by_cases e : x = l.length
        · rw [e, up_eq, getD_app_at]
        · rw [up_ix e, getD_app_lt (by omega)]; exact hx x (by omega)
      · (try dsimp only)
        rw [List.length_append, List.length_singleton, nI_1, pz_m1]
    · rw [if_neg q] at he
      rw [if_neg (fun z => q ((nI_eq (by have := hwf i (by omega); omega) (by omega)).mp z))]
      exact ⟨(l, S), ⟨by omega, he, hf, hx⟩, by dsimp only; rw [pz_m1]⟩
  · obtain ⟨l, S⟩ := s
    obtain ⟨hi, he, hf, hx⟩ := hI
    dsimp only at he hf hx ⊢
    rw [segD, List.append_nil] at he
    subst he
    rw [fX0_putInOrder_15, if_pos pz_z1lt]
    exact ⟨S, rfl, hf, hx⟩
def OF (N : Nat) (fr : Nat → Nat) (M : Mem) : Prop := ∀ x, x < N → M 4 x = nI ((ordL N fr).getD x 0)
theorem putInOrder_s {N : Nat} {fc : Nat → Nat → Nat} {M : Mem} (hC : CF N fc M) (hW : WF N fc) : ∃ M', fX0_putInOrder M = some ((), M') ∧ (∀ a, ¬ a = 4 → M' a = M a) ∧ OF N (fun c => fc c 0) M' := by
  have hN := hW.1
  have hfr : ∀ c, c < N → fc c 0 < 6 := fun c hc => by have := hW.2 c hc; omega
  have hlen := ordL_len hfr
  unfold fX0_putInOrder
  refine loop_dn (σ := List Nat × Mem) (fun k j s => fX0_putInOrder_4 k (nI s.1.length) (nI j - 1) s.2) (fun j s => j ≤ 6 ∧ s.1 ++ ordT N (fun c => fc c 0) j = ordL N (fun c => fc c 0) ∧ (∀ a, ¬ a = 4 → s.2 a = M a) ∧ ∀ x, x < s.1.length → s.2 4 x = nI (s.1.getD x 0))
    (fun o => ∃ M', o = some ((), M') ∧ (∀ a, ¬ a = 4 → M' a = M a) ∧ OF N (fun c => fc c 0) M') (fun k j s hI => ?_) (fun k s hI => ?_) 1000 6 ([], M) (by omega) ⟨Nat.le_refl _, rfl, fun _ _ => rfl, fun x hx => absurd hx (Nat.not_lt_zero _)⟩
  · obtain ⟨l, S⟩ := s
    obtain ⟨hj, he, hf, hx⟩ := hI
    dsimp only at he hf hx ⊢
    left
    have hCS : CF N fc S := ⟨by rw [hf 1 (by decide)]; exact hC.1, fun c hc k hk => by rw [hf 3 (by decide)]; exact hC.2 c hc k hk⟩
    rw [ordT, ← List.append_assoc] at he
    have hl : (l ++ segD (fun c => fc c 0) j N).length ≤ 16 := by
      have := congrArg List.length he
      rw [List.length_append, hlen] at this
      omega
    obtain ⟨M', e1, e2, e3⟩ := pio15 hCS hN (fX0_putInOrder_4 k) j (by omega) l hl hx hfr
    rw [fX0_putInOrder_4, pz_s1, if_neg (nI_pos (by omega)), hCS.1]
    refine ⟨(l ++ segD (fun c => fc c 0) j N, M'), ⟨by omega, he, fun a ha => (e2 a ha).trans (hf a ha), e3⟩, ?_⟩
    (try dsimp only)
    rw [e1, pz_m1]
  · obtain ⟨l, S⟩ := s
    obtain ⟨hj, he, hf, hx⟩ := hI
    dsimp only at he hf hx ⊢
    rw [ordT, List.append_nil] at he
    subst he
    rw [fX0_putInOrder_4, if_pos pz_z1lt]
    exact ⟨S, rfl, hf, fun x h => hx x (by rw [hlen]; exact h)⟩
theorem understand_s {M : Mem} {t : Nat → Nat} {n : Nat} (hT : Txt M t n) : ∃ M', fX0_understand M = some ((), M') ∧ (∀ a, ¬ a = 1 → ¬ a = 3 → ¬ a = 4 → M' a = M a) ∧ (∀ k, ¬ k = 2 → ¬ k = 3 → M' 1 k = M 1 k) ∧ M' 1 2 = faultI t n ∧ CF (chN t n) (fcN t) M' ∧ OF (chN t n) (fun c => fcN t c 0) M' := by
  have hn := hT.2.1
  have hW := wf_text (t := t) hn
  have h16 := hW.1
  unfold fX0_understand
  rw [firstFault_s hT, bP_s, ltl_s, up_eq]
  have main : ∀ S : Mem, S 1 2 = faultI t n → S 1 3 = nI (chN t n) → (∀ a, ¬ a = 1 → S a = M a) → (∀ k, ¬ k = 2 → ¬ k = 3 → S 1 k = M 1 k) → ∃ M', fX0_understand_35 1000 0 S = some ((), M') ∧ (∀ a, ¬ a = 1 → ¬ a = 3 → ¬ a = 4 → M' a = M a) ∧ (∀ k, ¬ k = 2 → ¬ k = 3 → M' 1 k = M 1 k) ∧ M' 1 2 = faultI t n ∧ CF (chN t n) (fcN t) M' ∧ OF (chN t n) (fun c => fcN t c 0) M' := by
    intro S s1 s2 s3 s4
    refine loop_up (σ := Mem) (fun k i s => fX0_understand_35 k (nI i) s) (fun i s => (∀ a, ¬ a = 3 → s a = S a) ∧ ∀ c, c < i → ∀ k, k < 5 → s 3 (c * 5 + k) = nI (fcN t c k)) (fun o => ∃ M', o = some ((), M') ∧ (∀ a, ¬ a = 1 → ¬ a = 3 → ¬ a = 4 → M' a = M a) ∧ (∀ k, ¬ k = 2 → ¬ k = 3 → M' 1 k = M 1 k) ∧ M' 1 2 = faultI t n ∧ CF (chN t n) (fcN t) M' ∧ OF (chN t n) (fun c => fcN t c 0) M') (chN t n) (fun k i s hi hI => ?_) (fun k s hI => ?_) 1000 0 S (by omega) (by omega) ⟨fun _ _ => rfl, fun c hc => absurd hc (Nat.not_lt_zero _)⟩
    · left
      obtain ⟨h1, h2⟩ := hI
      have hTs : Txt s t n := ⟨by rw [h1 1 (by decide), s4 1 (by decide) (by decide)]; exact hT.1, hn, fun x hx => by rw [h1 2 (by decide), s3 2 (by decide)]; exact hT.2.2 x hx⟩
      obtain ⟨M', e1, e2, e3, e4⟩ := learn_s hTs hi
      rw [fX0_understand_35, h1 1 (by decide), s2, if_neg (fun q => by have := (nI_leI (by omega) (by omega)).mp q; omega), e1, bW_s]
      refine ⟨M', ⟨fun a ha => by rw [e2 a ha]; exact h1 a ha, fun c hc x hx => ?_⟩, by rw [nI_1]⟩
      rcases Nat.lt_or_ge c i with h | h
      · rw [e4 _ (by omega)]; exact h2 c h x hx
      · rw [show c = i by omega]; exact e3 x hx
    · obtain ⟨h1, h2⟩ := hI
      have hCs : CF (chN t n) (fcN t) s := ⟨by rw [h1 1 (by decide)]; exact s2, h2⟩
      obtain ⟨M', e1, e2, e3⟩ := putInOrder_s hCs hW
      rw [fX0_understand_35, h1 1 (by decide), s2, if_pos ((nI_leI (by omega) (by omega)).mpr (Nat.le_refl _)), e1, bW_s]
      exact ⟨M', rfl, fun a a1 a3 a4 => by rw [e2 a a4, h1 a a3, s3 a a1], fun x x2 x3 => by rw [e2 1 (by decide), h1 1 (by decide), s4 x x2 x3], by rw [e2 1 (by decide), h1 1 (by decide), s1], ⟨by rw [e2 1 (by decide)]; exact hCs.1, fun c hc x hx => by rw [e2 3 (by decide)]; exact hCs.2 c hc x hx⟩, e3⟩
  have hb := bad_le t n
  by_cases q : wellT t n = true
  · have e : faultI t n = -1 := if_pos q
    have e2 : chN t n = (n + 1) / 6 := if_pos q
    rw [if_pos e, ltl_s]
    refine main _ (by rw [up_ix (by decide), up_eq]) ?_ (fun a ha => by rw [up_id ha, up_id ha]) (fun x x2 x3 => by rw [up_ix x3, up_ix x2])
    rw [up_eq, up_ix (by decide), hT.1, e2, nI_1, pL6, pk_div (by omega) (by omega) (by omega)]
  · have e : faultI t n = nI (badAt t n) := if_neg q
    have e2 : chN t n = 0 := if_neg q
    rw [if_neg (by rw [e]; exact fun z => by rw [pz_eq, pz_ti (by omega)] at z; have : (-1 : Int32).toInt = -1 := rfl; omega), ltl_s]
    exact main _ (by rw [up_ix (by decide), up_eq]) (by rw [up_eq, e2]; rfl) (fun a ha => by rw [up_id ha, up_id ha]) (fun x x2 x3 => by rw [up_ix x3, up_ix x2])
