/-! SOUNDINGS, AND THE LAWS THAT FIT THEM. -/
def ldp (tl i q : Nat) : Nat := dep (i / 9) tl (i % 9 + 1) q false
theorem ldp_le {tl i q : Nat} (h : tl ≤ 9) : ldp tl i q ≤ 9 := dep_le h
theorem depthBy_s {tl i q : Nat} (ht : tl ≤ 9) (hi : i < 36) (hq : q ≤ 99) : fX3_depthBy (nI i) (nI tl) (nI q) = some (nI (ldp tl i q)) := by
  unfold fX3_depthBy
  rw [pL9, pz_rm (by omega) (by omega) (by omega), nI_1, ltl_s, pk_div (by omega) (by omega) (by omega), shifted_s (by omega) ht (by omega) (by omega) hq, bP_s]
  rfl
theorem deepBy5_s {tl i q : Nat} (ht : tl ≤ 9) (hi : i < 36) (hq : q ≤ 99) : fX5_deepBy (nI i / 9) (rmI (nI i) 9 + 1) (nI tl) (nI q) = some (nI (ldp tl i q)) := by
  rw [pL9, pz_rm (by omega) (by omega) (by omega), nI_1, pk_div (by omega) (by omega) (by omega), deepBy_s (by omega) ht (by omega) (by omega) hq]
  rfl
/-- sounding k fits the law i of channel c -/
def tst (sd : Nat → Nat → Nat) (tl c i k : Nat) : Bool := !decide (sd k 1 = c) || decide (ldp tl i (sd k 0) = sd k 2)
def fts (sd : Nat → Nat → Nat) (tl c i : Nat) : Nat → Bool
  | 0 => true
  | n + 1 => fts sd tl c i n && tst sd tl c i n
theorem fts_f {sd : Nat → Nat → Nat} {tl c i k : Nat} (h : tst sd tl c i k = false) : ∀ {n : Nat}, k < n → fts sd tl c i n = false
  | 0, hk => absurd hk (Nat.not_lt_zero _)
  | n + 1, hk => by
    rw [fts]
    by_cases e : k = n
    · rw [← e, h, Bool.and_false]
    · rw [fts_f h (by omega), Bool.false_and]
def ZR (sz : Nat) (sd : Nat → Nat → Nat) : Prop := sz ≤ 12 ∧ ∀ k, k < sz → sd k 0 ≤ 99 ∧ sd k 1 ≤ 15 ∧ sd k 2 ≤ 9
def ZC (sz : Nat) (sd : Nat → Nat → Nat) (M : Mem) : Prop := M 6 4 = nI sz ∧ ∀ k, k < sz → M 7 k = nI (sd k 0) ∧ M 8 k = nI (sd k 1) ∧ M 9 k = nI (sd k 2)
def ZM (sz : Nat) (sd : Nat → Nat → Nat) (M : Mem) : Prop := M 26 16 = nI sz ∧ ∀ k, k < sz → ∀ j, j < 3 → M 36 (3 * k + j) = nI (sd k j)
theorem isFitting_s {sz : Nat} {sd : Nat → Nat → Nat} {M : Mem} (hZ : ZC sz sd M) (hR : ZR sz sd) {c tl i : Nat} (hc : c < 16) (ht : tl ≤ 9) (hi : i < 36) : fX3_isFitting M (nI c) (nI tl) (nI i) = some (fts sd tl c i sz) := by
  have hsz := hR.1
  unfold fX3_isFitting
  refine loop_up (σ := Unit) (fun k n _ => fX3_isFitting_3 M k (nI c) (nI tl) (nI i) (nI n)) (fun n _ => fts sd tl c i n = true) (fun o => o = some (fts sd tl c i sz)) sz (fun k n s hn hI => ?_) (fun k s hI => ?_) 1000 0 () (by omega) (by omega) rfl
  · obtain ⟨z1, z2, z3⟩ := hZ.2 n hn
    obtain ⟨r1, r2, r3⟩ := hR.2 n hn
    have hl := ldp_le (i := i) (q := sd n 0) ht
    show (∃ s' : Unit, fts sd tl c i (n + 1) = true ∧ fX3_isFitting_3 M (k + 1) (nI c) (nI tl) (nI i) (nI n) = fX3_isFitting_3 M k (nI c) (nI tl) (nI i) (nI (n + 1))) ∨ fX3_isFitting_3 M (k + 1) (nI c) (nI tl) (nI i) (nI n) = some (fts sd tl c i sz)
    have hf : ∀ b, tst sd tl c i n = b → fts sd tl c i (n + 1) = b := fun b hb => by rw [fts, hI, hb, Bool.true_and]
    rw [fX3_isFitting_3, hZ.1, if_neg (fun z => by have := (nI_leI (by omega) (by omega)).mp z; omega), it8 (by omega), bP_s, z2]
    unfold fX3_isFitting_30
    by_cases e : sd n 1 = c
    · rw [if_pos (by rw [e]), if_pos rfl, it7 (by omega), bP_s, z1, depthBy_s ht hi r1, bP_s, it9 (by omega), bP_s, z3]
      by_cases d : ldp tl i (sd n 0) = sd n 2
      · rw [if_pos (by rw [d]), nI_1]
        exact Or.inl ⟨(), hf true (by unfold tst; rw [decide_eq_true d, Bool.or_true]), rfl⟩
      · rw [if_neg (fun z => d ((nI_eq (by omega) (by omega)).mp z))]
        exact Or.inr (by rw [fts_f (k := n) (by unfold tst; rw [decide_eq_false d, decide_eq_true e]; rfl) hn])
    · rw [if_neg (fun z => e ((nI_eq (by omega) (by omega)).mp z)), if_neg Bool.false_ne_true, nI_1]
      exact Or.inl ⟨(), hf true (by unfold tst; rw [decide_eq_false e]; rfl), rfl⟩
  · show fX3_isFitting_3 M (k + 1) (nI c) (nI tl) (nI i) (nI sz) = some (fts sd tl c i sz)
    rw [fX3_isFitting_3, hZ.1, if_pos ((nI_leI (by omega) (by omega)).mpr (Nat.le_refl _)), hI]
theorem told_2 {N : Nat} {fc : Nat → Nat → Nat} {M : Mem} (hC : MF N fc M) (hN : N ≤ 16) {α : Type} {c : Nat} (hc : c < N) (x : Option α) : gd (inb (5 * nI c + 2) 80) x = x ∧ M 32 (5 * nI c + 2).toNatClampNeg = nI (fc c 2) := told_i hC hN hc (show 2 < 5 by omega) x
theorem s36 {sz : Nat} {sd : Nat → Nat → Nat} {M : Mem} (hZ : ZM sz sd M) (hsz : sz ≤ 12) {α : Type} {k : Nat} (hk : k < sz) (x : Option α) : (gd (inb (3 * nI k) 36) x = x ∧ M 36 (3 * nI k).toNatClampNeg = nI (sd k 0)) ∧ (gd (inb (3 * nI k + 1) 36) x = x ∧ M 36 (3 * nI k + 1).toNatClampNeg = nI (sd k 1)) ∧ (gd (inb (3 * nI k + 2) 36) x = x ∧ M 36 (3 * nI k + 2).toNatClampNeg = nI (sd k 2)) := by
  have e : (3 : Int32) * nI k = nI (3 * k) := pk_mul 3 k
  have e1 : nI (3 * k) + 1 = nI (3 * k + 1) := nI_1 _
  have e2 : nI (3 * k) + 2 = nI (3 * k + 2) := nI_add _ 2
  rw [e, e1, e2, nI_clamp (by omega), nI_clamp (by omega), nI_clamp (by omega)]
  exact ⟨⟨pz_gd (by omega) (by omega), hZ.2 k hk 0 (by omega)⟩, ⟨pz_gd (by omega) (by omega), hZ.2 k hk 1 (by omega)⟩, ⟨pz_gd (by omega) (by omega), hZ.2 k hk 2 (by omega)⟩⟩
theorem fits_s {N : Nat} {fc : Nat → Nat → Nat} {M : Mem} (hC : MF N fc M) (hW : WF N fc) {sz : Nat} {sd : Nat → Nat → Nat} (hZ : ZM sz sd M) (hR : ZR sz sd) {c i : Nat} (hc : c < N) (hi : i < 36) : fX5_fits M (nI c) (nI i) = some (fts sd (fc c 2) c i sz) := by
  have hsz := hR.1
  have hN := hW.1
  have ht := (hW.2 c hc).2.2.1
  unfold fX5_fits
  refine loop_up (σ := Unit) (fun k n _ => fX5_fits_5 M k (nI c) (nI i) (fts sd (fc c 2) c i n) (nI n)) (fun _ _ => True) (fun o => o = some (fts sd (fc c 2) c i sz)) sz (fun k n s hn hI => ?_) (fun k s hI => ?_) 1000 0 () (by omega) (by omega) trivial
  · left
    refine ⟨(), trivial, ?_⟩
    obtain ⟨r1, r2, r3⟩ := hR.2 n hn
    have hl := ldp_le (i := i) (q := sd n 0) ht
    obtain ⟨⟨_, q0⟩, ⟨_, q1⟩, ⟨_, q2⟩⟩ := s36 hZ hsz hn (none : Option Bool)
    (try dsimp only)
    rw [fX5_fits_5, hZ.1, if_neg (fun z => by have := (nI_leI (by omega) (by omega)).mp z; omega), (told_2 hC hN hc _).1, (told_2 hC hN hc (none : Option Int32)).2, (s36 hZ hsz hn _).1.1, q0, deepBy5_s ht hi r1, bP_s, fts]
    cases b : fts sd (fc c 2) c i n with
    | false => rw [if_neg Bool.false_ne_true, Bool.false_and, nI_1]
    | true =>
      rw [if_pos rfl, (s36 hZ hsz hn _).2.1.1, q1, Bool.true_and]
      unfold tst
      by_cases e : sd n 1 = c
      · rw [if_pos (by rw [e]), (s36 hZ hsz hn _).2.2.1, q2, decide_eq_true e]
        by_cases d : ldp (fc c 2) i (sd n 0) = sd n 2
        · rw [if_pos (by rw [d]), decide_eq_true d, nI_1]; rfl
        · rw [if_neg (fun z => d ((nI_eq (by omega) (by omega)).mp z)), decide_eq_false d, nI_1]; rfl
      · rw [if_neg (fun z => e ((nI_eq (by omega) (by omega)).mp z)), decide_eq_false e, nI_1]; rfl
  · (try dsimp only)
    rw [fX5_fits_5, hZ.1, if_pos ((nI_leI (by omega) (by omega)).mpr (Nat.le_refl _))]
/-- the laws that fit channel c -/
def lwp (fc : Nat → Nat → Nat) (sz : Nat) (sd : Nat → Nat → Nat) (c i : Nat) : Bool := fts sd (fc c 2) c i sz
theorem fitting_s {N : Nat} {fc : Nat → Nat → Nat} {M : Mem} (hW : WF N fc) {sz : Nat} {sd : Nat → Nat → Nat} (hZ : ZC sz sd M) (hR : ZR sz sd) {c : Nat} (hc : c < N) : ∃ m, fX3_fitting M (nI c) (nI (fc c 2)) = some (lN m) ∧ MskL m 36 (lwp fc sz sd c) := by
  have hN := hW.1
  have ht := (hW.2 c hc).2.2.1
  unfold fX3_fitting
  refine loop_up (σ := Nat) (fun k i m => fX3_fitting_5 M k (nI c) (nI (fc c 2)) (lN m) (nI i)) (fun i m => MskL m i (lwp fc sz sd c)) (fun o => ∃ m, o = some (lN m) ∧ MskL m 36 (lwp fc sz sd c)) 36 (fun k i m hi hI => ?_) (fun k m hI => ?_) 1000 0 0 (by omega) (by omega) ⟨by decide, fun i hi => absurd hi (Nat.not_lt_zero _)⟩
  · left
    have h1 : (2 : Nat) ^ i < 2 ^ 36 := Nat.pow_lt_pow_right (by decide) hi
    have h2 := hI.1
    refine ⟨_, mkL_step hI, ?_⟩
    (try dsimp only)
    rw [fX3_fitting_5, pL36, if_neg (fun z => by have := (nI_leI (by omega) (by omega)).mp z; omega), isFitting_s hZ hR (by omega) ht hi, bP_s]
    unfold lwp
    cases b : fts sd (fc c 2) c i sz with
    | true => rw [if_pos rfl, if_pos rfl, show (1 : Int64) = lN 1 from rfl, lw_shl _ (by omega), Nat.one_mul, lw_or (by omega) (by omega), nI_1]
    | false => rw [if_neg Bool.false_ne_true, if_neg Bool.false_ne_true, nI_1]
  · (try dsimp only)
    rw [fX3_fitting_5, pL36, if_pos ((nI_leI (by omega) (by omega)).mpr (Nat.le_refl _))]
    exact ⟨m, rfl, hI⟩
/-- the n-th law; -1: none -/
def lwF (P : Nat → Bool) (x : Int32) : Nat → Nat → Int32
  | 0, _ => -1
  | j + 1, n => if P (35 - j) = true then (if nI n = x then nI (10 * ((35 - j) / 9) + (35 - j) % 9 + 1) else lwF P x j (n + 1)) else lwF P x j n
def cntP (P : Nat → Bool) (n : Nat) : Nat := sumN n (fun i => if P i = true then 1 else 0)
def vLaws (P : Nat → Bool) (x : Int32) : Int32 := if x = -1 then nI (cntP P 36) else lwF P x 36 0
theorem cntP_le (P : Nat → Bool) : ∀ n, cntP P n ≤ n
  | 0 => Nat.le_refl _
  | n + 1 => by
    have := cntP_le P n
    unfold cntP at this ⊢
    rw [sumN]
    by_cases e : P n = true
    · rw [if_pos e]; omega
    · rw [if_neg e]; omega
theorem code_s {i : Nat} (h : i < 36) : nI i / 9 * 10 + rmI (nI i) 9 + 1 = nI (10 * (i / 9) + i % 9 + 1) ∧ 10 * (nI i / 9) + rmI (nI i) 9 + 1 = nI (10 * (i / 9) + i % 9 + 1) := by
  rw [pL9, pz_rm (by omega) (by omega) (by omega), pk_div (by omega) (by omega) (by omega), pL10, pk_mul, pk_mul, nI_add, nI_add, nI_1, nI_1, Nat.mul_comm]
  exact ⟨rfl, rfl⟩
theorem lawAt_s {m : Nat} {P : Nat → Bool} (hm : MskL m 36 P) (x : Int32) : fX3_lawAt (lN m) x = some (lwF P x 36 0) := by
  unfold fX3_lawAt
  refine loop_up (σ := Nat) (fun k i n => fX3_lawAt_5 k (lN m) x (nI n) (nI i)) (fun i n => lwF P x (36 - i) n = lwF P x 36 0) (fun o => o = some (lwF P x 36 0)) 36 (fun k i n hi hI => ?_) (fun k n hI => ?_) 1000 0 0 (by omega) (by omega) rfl
  · rw [show 36 - i = (35 - i) + 1 by omega, lwF, show 35 - (35 - i) = i by omega] at hI
    (try dsimp only)
    rw [fX3_lawAt_5, pL36, if_neg (fun z => by have := (nI_leI (by omega) (by omega)).mp z; omega), among_s hm hi, show 36 - (i + 1) = 35 - i by omega]
    cases e : P i with
    | true =>
      rw [e, if_pos rfl] at hI
      rw [if_pos rfl]
      by_cases q : nI n = x
      · rw [if_pos q] at hI
        right
        rw [if_pos q, (code_s hi).1, hI]
      · rw [if_neg q] at hI
        left
        rw [if_neg q, nI_1, nI_1]
        exact ⟨n + 1, hI, rfl⟩
    | false =>
      rw [e, if_neg Bool.false_ne_true] at hI
      left
      rw [if_neg Bool.false_ne_true, nI_1]
      exact ⟨n, hI, rfl⟩
  · (try dsimp only)
    rw [fX3_lawAt_5, pL36, if_pos ((nI_leI (by omega) (by omega)).mpr (Nat.le_refl _)), ← hI]
    rfl
theorem lawsOf_s {N : Nat} {fc : Nat → Nat → Nat} {M : Mem} (hC : MF N fc M) (hW : WF N fc) {sz : Nat} {sd : Nat → Nat → Nat} (hZ : ZM sz sd M) (hR : ZR sz sd) {c : Nat} (hc : c < N) (x : Int32) : fX5_lawsOf M (nI c) x = some (vLaws (lwp fc sz sd c) x) := by
  unfold fX5_lawsOf vLaws
  by_cases y : x = -1
  · subst y
    rw [if_pos rfl]
    refine loop_up (σ := Unit) (fun k i _ => fX5_lawsOf_5 M k (nI c) (-1) (nI (cntP (lwp fc sz sd c) i)) (nI i)) (fun _ _ => True) (fun o => o = some (nI (cntP (lwp fc sz sd c) 36))) 36 (fun k i n hi hI => ?_) (fun k n hI => ?_) 1000 0 () (by omega) (by omega) trivial
    · left
      refine ⟨(), trivial, ?_⟩
      have hle := cntP_le (lwp fc sz sd c) i
      (try dsimp only)
      rw [fX5_lawsOf_5, pL36, if_neg (fun z => by have := (nI_leI (by omega) (by omega)).mp z; omega), fits_s hC hW hZ hR hc hi, bP_s, show cntP (lwp fc sz sd c) (i + 1) = cntP (lwp fc sz sd c) i + if fts sd (fc c 2) c i sz = true then 1 else 0 from rfl]
      cases e : fts sd (fc c 2) c i sz with
      | true => rw [if_pos rfl, if_pos rfl, if_neg (nI_ne_m1 (by omega)), nI_1, nI_1]
      | false => rw [if_neg Bool.false_ne_true, if_neg Bool.false_ne_true, nI_1]; rfl
    · (try dsimp only)
      rw [fX5_lawsOf_5, pL36, if_pos ((nI_leI (by omega) (by omega)).mpr (Nat.le_refl _)), if_pos rfl]
  · rw [if_neg y]
    refine loop_up (σ := Nat) (fun k i n => fX5_lawsOf_5 M k (nI c) x (nI n) (nI i)) (fun i n => lwF (lwp fc sz sd c) x (36 - i) n = lwF (lwp fc sz sd c) x 36 0) (fun o => o = some (lwF (lwp fc sz sd c) x 36 0)) 36 (fun k i n hi hI => ?_) (fun k n hI => ?_) 1000 0 0 (by omega) (by omega) rfl
    · rw [show 36 - i = (35 - i) + 1 by omega, lwF, show 35 - (35 - i) = i by omega] at hI
      (try dsimp only)
      rw [fX5_lawsOf_5, pL36, if_neg (fun z => by have := (nI_leI (by omega) (by omega)).mp z; omega), fits_s hC hW hZ hR hc hi, bP_s, show 36 - (i + 1) = 35 - i by omega]
      have hP : lwp fc sz sd c i = fts sd (fc c 2) c i sz := rfl
      rw [hP] at hI
      cases e : fts sd (fc c 2) c i sz with
      | true =>
        rw [e, if_pos rfl] at hI
        rw [if_pos rfl]
        by_cases q : nI n = x
        · rw [if_pos q] at hI
          right
          rw [if_pos q, (code_s hi).2, hI]
        · rw [if_neg q] at hI
          left
          rw [if_neg q, nI_1, nI_1]
          exact ⟨n + 1, hI, rfl⟩
      | false =>
        rw [e, if_neg Bool.false_ne_true] at hI
        left
        rw [if_neg Bool.false_ne_true, nI_1]
        exact ⟨n, hI, rfl⟩
    · (try dsimp only)
      rw [fX5_lawsOf_5, pL36, if_pos ((nI_leI (by omega) (by omega)).mpr (Nat.le_refl _)), if_neg y, ← hI]
      rfl
/-- the count of the bits -/
theorem b8_s (n : Nat) : bits8 (n % 256) = n % 2 + n / 2 % 2 + n / 4 % 2 + n / 8 % 2 + n / 16 % 2 + n / 32 % 2 + n / 64 % 2 + n / 128 % 2 := by
  unfold bits8; omega
theorem b4_s {n : Nat} (h : n < 16) : bits8 n = n % 2 + n / 2 % 2 + n / 4 % 2 + n / 8 % 2 := by
  unfold bits8; omega
theorem cnt_s {m : Nat} {P : Nat → Bool} (h : MskL m 36 P) : fJ13_bitCount_95d88 (lN m) = nI (cntP P 36) := by
  have hm := h.1
  have hp : cntP P 36 = sumN 36 (fun i => m / 2 ^ i % 2) := by
    unfold cntP
    refine sumN_congr (fun i hi => ?_)
    rw [← h.2 i hi, Nat.testBit_eq_decide_div_mod_eq]
    by_cases q : m / 2 ^ i % 2 = 1
    · rw [decide_eq_true q, if_pos rfl, q]
    · rw [decide_eq_false q, if_neg Bool.false_ne_true]; omega
  rw [bitCount_s hm, hp, b8_s, b8_s, b8_s, b8_s, b4_s (show m / 4294967296 < 16 by omega)]
  congr 1
  simp only [sumN, Nat.div_div_eq_div_mul, Nat.reducePow, Nat.reduceMul, Nat.div_one, Nat.zero_add, Nat.add_assoc]
theorem laws4_s {N : Nat} {fc : Nat → Nat → Nat} {ns : Nat} {sn : Nat → Nat} {od : Nat} {M : Mem} (hK : KC N fc ns sn od M) (hW : WF N fc) {sz : Nat} {sd : Nat → Nat → Nat} (hZ : ZC sz sd M) (hR : ZR sz sd) {c : Nat} (hc : c < N) (x : Int32) : fX4_laws M (nI c) x = some (if okR x (-1) 35 = true then vLaws (lwp fc sz sd c) x else -2) := by
  have hN := hW.1
  unfold fX4_laws
  obtain ⟨m, m1, m2⟩ := fitting_s hW hZ hR hc
  rw [if_pos (by unfold fX0_hasChannel; rw [hK.1.1.1, if_neg (nI_pos (by omega)), if_neg (fun z => by have := (nI_leI (by omega) (by omega)).mp z; omega)]), rng_2 x (-1) 36 _ _ (-1) 35 (by decide) (by decide), fact_2 hK.1.1 hN hc, bP_s, m1, bP_s]
  cases e : okR x (-1) 35 with
  | false => rw [if_neg Bool.false_ne_true, if_neg Bool.false_ne_true]
  | true =>
    rw [if_pos rfl, if_pos rfl]
    unfold vLaws
    by_cases y : x = -1
    · rw [if_pos y, if_pos y, cnt_s m2]
    · rw [if_neg y, if_neg y, lawAt_s m2, bP_s]
/-- the depths that the laws foretell -/
def nxb (P : Nat → Bool) (tl q i : Nat) (s : Int32) : Int32 := if P i = true then s ||| shlI 1 (nI (ldp tl i q)) else s
def vNext (P : Nat → Bool) (tl q : Nat) : Int32 := run (nxb P tl q) 0 0 36
theorem next4_s {N : Nat} {fc : Nat → Nat → Nat} {ns : Nat} {sn : Nat → Nat} {od : Nat} {M : Mem} (hK : KC N fc ns sn od M) (hW : WF N fc) {sz : Nat} {sd : Nat → Nat → Nat} (hZ : ZC sz sd M) (hR : ZR sz sd) {c q : Nat} (hc : c < N) (hq : q ≤ 99) : fX4_next M (nI c) (nI q) = some (vNext (lwp fc sz sd c) (fc c 2) q) := by
  have hN := hW.1
  have ht := (hW.2 c hc).2.2.1
  unfold fX4_next fX3_depthBits
  obtain ⟨m, m1, m2⟩ := fitting_s hW hZ hR hc
  rw [if_pos (by unfold fX0_hasChannel; rw [hK.1.1.1, if_neg (nI_pos (by omega)), if_neg (fun z => by have := (nI_leI (by omega) (by omega)).mp z; omega)]), if_pos (night_in hq), fact_2 hK.1.1 hN hc, bP_s, m1, bP_s]
  have hL : fX3_depthBits_6 1000 (lN m) (nI (fc c 2)) (nI q) 0 0 = some (vNext (lwp fc sz sd c) (fc c 2) q) := by
    refine loop_up (σ := Int32) (fun k i s => fX3_depthBits_6 k (lN m) (nI (fc c 2)) (nI q) s (nI i)) (fun i s => s = run (nxb (lwp fc sz sd c) (fc c 2) q) 0 0 i) (fun o => o = some (vNext (lwp fc sz sd c) (fc c 2) q)) 36 (fun k i s hi hI => ?_) (fun k s hI => ?_) 1000 0 0 (by omega) (by omega) rfl
    · left
      refine ⟨nxb (lwp fc sz sd c) (fc c 2) q i s, by rw [run_s _ _ (Nat.zero_le _), hI], ?_⟩
      (try dsimp only)
      rw [fX3_depthBits_6, pL36, if_neg (fun z => by have := (nI_leI (by omega) (by omega)).mp z; omega), among_s m2 hi]
      unfold nxb
      cases e : lwp fc sz sd c i with
      | true => rw [if_pos rfl, if_pos rfl, depthBy_s ht hi hq, bP_s, nI_1]
      | false => rw [if_neg Bool.false_ne_true, if_neg Bool.false_ne_true, nI_1]
    · (try dsimp only)
      rw [fX3_depthBits_6, pL36, if_pos ((nI_leI (by omega) (by omega)).mpr (Nat.le_refl _)), hI]
      rfl
  rw [hL, bP_s]
theorem nextOf_s {N : Nat} {fc : Nat → Nat → Nat} {M : Mem} (hC : MF N fc M) (hW : WF N fc) {sz : Nat} {sd : Nat → Nat → Nat} (hZ : ZM sz sd M) (hR : ZR sz sd) {c q : Nat} (hc : c < N) (hq : q ≤ 99) : fX5_nextOf M (nI c) (nI q) = some (vNext (lwp fc sz sd c) (fc c 2) q) := by
  have hN := hW.1
  have ht := (hW.2 c hc).2.2.1
  unfold fX5_nextOf
  refine loop_up (σ := Int32) (fun k i s => fX5_nextOf_5 M k (nI c) (nI q) s (nI i)) (fun i s => s = run (nxb (lwp fc sz sd c) (fc c 2) q) 0 0 i) (fun o => o = some (vNext (lwp fc sz sd c) (fc c 2) q)) 36 (fun k i s hi hI => ?_) (fun k s hI => ?_) 1000 0 0 (by omega) (by omega) rfl
  · left
    refine ⟨nxb (lwp fc sz sd c) (fc c 2) q i s, by rw [run_s _ _ (Nat.zero_le _), hI], ?_⟩
    (try dsimp only)
    rw [fX5_nextOf_5, pL36, if_neg (fun z => by have := (nI_leI (by omega) (by omega)).mp z; omega), fits_s hC hW hZ hR hc hi, bP_s]
    unfold nxb lwp
    cases e : fts sd (fc c 2) c i sz with
    | true => rw [if_pos rfl, if_pos rfl, (told_2 hC hN hc _).1, (told_2 hC hN hc (none : Option Int32)).2, deepBy5_s ht hi hq, bP_s, nI_1]
    | false => rw [if_neg Bool.false_ne_true, if_neg Bool.false_ne_true, nI_1, Int32.or_zero]
  · (try dsimp only)
    rw [fX5_nextOf_5, pL36, if_pos ((nI_leI (by omega) (by omega)).mpr (Nat.le_refl _)), hI]
    rfl
