/-! THE REFERENCE'S WAYS. (mk_and, mk_or began as the kit's fa_and, fa_or.) -/
theorem told_1 {N : Nat} {fc : Nat → Nat → Nat} {M : Mem} (hC : MF N fc M) (hN : N ≤ 16) {α : Type} {c : Nat} (hc : c < N) (x : Option α) : gd (inb (5 * nI c + 1) 80) x = x ∧ M 32 (5 * nI c + 1).toNatClampNeg = nI (fc c 1) := told_i hC hN hc (show 1 < 5 by omega) x
theorem mk_and (a b : Nat) : nI a &&& nI b = nI (a &&& b) := by
  apply Int32.toBitVec_inj.1
  show BitVec.ofNat 32 a &&& BitVec.ofNat 32 b = BitVec.ofNat 32 (a &&& b)
  apply BitVec.eq_of_getLsbD_eq
  intro i hi
  simp [hi]
theorem mk_or (a b : Nat) : nI a ||| nI b = nI (a ||| b) := by
  apply Int32.toBitVec_inj.1
  show BitVec.ofNat 32 a ||| BitVec.ofNat 32 b = BitVec.ofNat 32 (a ||| b)
  apply BitVec.eq_of_getLsbD_eq
  intro i hi
  simp [hi]
theorem mk_s : ∀ n, n < 32 → ((nI n &&& 31).toBitVec.smod 32).toNat = n := by decide +kernel
theorem mk_bit {c : Nat} (h : c < 31) : shlI 1 (nI c) = nI (2 ^ c) := by
  unfold shlI
  have h2 : (2 : Nat) ^ c < 2 ^ 31 := Nat.pow_lt_pow_right (by decide) h
  rw [pL1, pk_shlN _ c (mk_s c (by omega)) (by omega), Nat.one_mul]
theorem mk_in {m c : Nat} (hm : m < 2 ^ 31) (hc : c < 31) : fX5_isIn (nI m) (nI c) = m.testBit c := by
  unfold fX5_isIn shrI
  rw [pk_shrN hm _ c (mk_s c (by omega)), show (1 : Int32) = nI 1 from rfl, mk_and]
  have e : m / 2 ^ c &&& 1 = m / 2 ^ c % 2 := by have := Nat.and_two_pow_sub_one_eq_mod (m / 2 ^ c) 1; exact this
  rw [e, Nat.testBit_eq_decide_div_mod_eq]
  by_cases q : m / 2 ^ c % 2 = 1
  · rw [q, if_pos rfl]; rfl
  · rw [show m / 2 ^ c % 2 = 0 by omega, if_neg (by decide)]; rfl
def Msk (m N : Nat) (ok : Nat → Bool) : Prop := m < 65536 ∧ ∀ c, c < N → m.testBit c = ok c
theorem mk_in' {m N : Nat} {ok : Nat → Bool} (h : Msk m N ok) (hN : N ≤ 16) {c : Nat} (hc : c < N) : fX5_isIn (nI m) (nI c) = ok c := by
  rw [mk_in (by have := h.1; omega) (by omega), h.2 c hc]
/-- one bit more -/
theorem mk_step {m i : Nat} (hm : m < 2 ^ i) (b : Bool) : (if b = true then m ||| 2 ^ i else m) < 2 ^ (i + 1) ∧ ∀ c, c < i + 1 → (if b = true then m ||| 2 ^ i else m).testBit c = if c < i then m.testBit c else b := by
  have hz : m.testBit i = false := Nat.testBit_lt_two_pow hm
  cases b with
  | true =>
    rw [if_pos rfl]
    refine ⟨Nat.or_lt_two_pow (by rw [Nat.pow_succ]; omega) (by rw [Nat.pow_succ]; have := Nat.pow_le_pow_right (show 0 < 2 by omega) (Nat.zero_le i); omega), fun c hc => ?_⟩
    rw [Nat.testBit_or, Nat.testBit_two_pow]
    by_cases e : c < i
    · rw [if_pos e, decide_eq_false (by omega), Bool.or_false]
    · rw [if_neg e, decide_eq_true (by omega), Bool.or_true]
  | false =>
    rw [if_neg (by decide)]
    refine ⟨by rw [Nat.pow_succ]; omega, fun c hc => ?_⟩
    by_cases e : c < i
    · rw [if_pos e]
    · rw [if_neg e, show c = i by omega, hz]
theorem enoughIn_s {N : Nat} {fc : Nat → Nat → Nat} {M : Mem} (hC : MF N fc M) (hW : WF N fc) {d q : Nat} {st : Bool} (hd : d ≤ 9) (hq : q ≤ 99) : ∃ m, fX5_enoughIn M (nI d) (nI q) st = some (nI m) ∧ Msk m N (fun c => decide (d ≤ dpt fc c q st)) := by
  have hN := hW.1
  unfold fX5_enoughIn
  refine loop_up (σ := Nat) (fun k i m => fX5_enoughIn_6 M k (nI d) (nI q) st (nI m) (nI i)) (fun i m => m < 2 ^ i ∧ ∀ c, c < i → m.testBit c = decide (d ≤ dpt fc c q st)) (fun o => ∃ m, o = some (nI m) ∧ Msk m N (fun c => decide (d ≤ dpt fc c q st))) N (fun k i m hi hI => ?_) (fun k m hI => ?_) 1000 0 0 (by omega) (by omega) ⟨by decide, fun c hc => absurd hc (Nat.not_lt_zero _)⟩
  · left
    have hp := dpt_le hW hi q st
    obtain ⟨s1, s2⟩ := mk_step hI.1 (decide (d ≤ dpt fc i q st))
    refine ⟨if decide (d ≤ dpt fc i q st) = true then m ||| 2 ^ i else m, ⟨s1, fun c hc => ?_⟩, ?_⟩
    · rw [s2 c hc]
      by_cases e : c < i
      · rw [if_pos e]; exact hI.2 c e
      · rw [if_neg e, show c = i by omega]
    · (try dsimp only)
      rw [fX5_enoughIn_6, hC.1, if_neg (fun z => by have := (nI_leI (by omega) (by omega)).mp z; omega), deepIn_s hC hW hi hq, bP_s]
      by_cases e : d ≤ dpt fc i q st
      · rw [if_neg (fun z => by have := (nI_ltI (by omega) (by omega)).mp z; omega), if_pos (decide_eq_true e), mk_bit (by omega), mk_or, nI_1]
      · rw [if_pos ((nI_ltI (by omega) (by omega)).mpr (by omega)), if_neg (by simp [e]), pL0, mk_or, Nat.or_zero, nI_1]
  · (try dsimp only)
    rw [fX5_enoughIn_6, hC.1, if_pos ((nI_leI (by omega) (by omega)).mpr (Nat.le_refl _))]
    exact ⟨m, rfl, Nat.lt_of_lt_of_le hI.1 (Nat.pow_le_pow_right (show 0 < 2 by omega) hN), hI.2⟩
def RowM (M : Mem) (l : List Nat) : Prop := M 26 15 = nI l.length ∧ ∀ x, x < l.length → M 35 x = nI (l.getD x 0)
/-- but for the reference's ways nothing has changed -/
def FrM (M S : Mem) : Prop := (∀ a, ¬ a = 26 → ¬ a = 34 → ¬ a = 35 → S a = M a) ∧ ∀ k, ¬ k = 15 → S 26 k = M 26 k
theorem MF.keep {N : Nat} {fc : Nat → Nat → Nat} {M S : Mem} (h : MF N fc M) (h8 : S 26 8 = M 26 8) (h32 : S 32 = M 32) : MF N fc S := ⟨h8.trans h.1, fun c hc k hk => by rw [h32]; exact h.2 c hc k hk⟩
theorem fw22 {N : Nat} {fc : Nat → Nat → Nat} {M : Mem} (hC : MF N fc M) (hW : WF N fc) {m : Nat} {ok : Nat → Bool} (hm : Msk m N ok) (kk : Int32 → Int32 → Mem → Option (Int32 × Mem)) {p : Nat} (hp : p < 5) (g : Nat → Int32) : fX5_findWays_22 kk 1000 (nI m) (nI p) 0 (upf M 34 (upd g p 0)) = kk (nI m) (nI p + -1) (upf M 34 (upd g p (sumI N (fun c => if (decide (fc c 0 = p) && ok c) = true then g (fc c 1) else 0)))) := by
  have hN := hW.1
  refine loop_up (σ := Unit) (fun k i _ => fX5_findWays_22 kk k (nI m) (nI p) (nI i) (upf M 34 (upd g p (sumI i (fun c => if (decide (fc c 0 = p) && ok c) = true then g (fc c 1) else 0))))) (fun _ _ => True) (fun o => o = kk (nI m) (nI p + -1) (upf M 34 (upd g p (sumI N (fun c => if (decide (fc c 0 = p) && ok c) = true then g (fc c 1) else 0))))) N (fun k i s hi _ => ?_) (fun k s _ => ?_) 1000 0 () (by omega) (by omega) trivial
  · left
    refine ⟨(), trivial, ?_⟩
    have hw := hW.2 i hi
    have hS : MF N fc (upf M 34 (upd g p (sumI i (fun c => if (decide (fc c 0 = p) && ok c) = true then g (fc c 1) else 0)))) := hC.keep (by rw [upf_id (by decide)]) (upf_id (by decide))
    (try dsimp only)
    rw [fX5_findWays_22, hS.1, if_neg (fun z => by have := (nI_leI (by omega) (by omega)).mp z; omega), pz_gd (by omega) (by omega), mk_in' hm hN hi]
    have step0 : ∀ (z : Int32), z = (if (decide (fc i 0 = p) && ok i) = true then g (fc i 1) else 0) → gd (inb (nI p) 6) (lt (up (upf M 34 (upd g p (sumI i (fun c => if (decide (fc c 0 = p) && ok c) = true then g (fc c 1) else 0)))) 34 (nI p).toNatClampNeg ((upf M 34 (upd g p (sumI i (fun c => if (decide (fc c 0 = p) && ok c) = true then g (fc c 1) else 0)))) 34 (nI p).toNatClampNeg + z)) fun M20 => fX5_findWays_22 kk k (nI m) (nI p) (nI i + 1) M20) = fX5_findWays_22 kk k (nI m) (nI p) (nI (i + 1)) (upf M 34 (upd g p (sumI (i + 1) (fun c => if (decide (fc c 0 = p) && ok c) = true then g (fc c 1) else 0)))) := by
      intro z hz
      rw [pz_gd (by omega) (by omega), ltl_s, nI_clamp (by omega), upf_up, upf_eq, upf_upf, upd_upd, upd_at, nI_1, sumI, hz]
    cases e : ok i with
    | false =>
      rw [if_neg (by decide)]
      exact step0 0 (by rw [e, Bool.and_false, if_neg (by decide)])
    | true =>
      rw [if_pos rfl, (told_0 hS hN hi _).1, (told_0 hS hN hi (none : Option Int32)).2]
      by_cases q : fc i 0 = p
      · rw [if_pos (by rw [q]), (told_1 hS hN hi _).1, (told_1 hS hN hi (none : Option Int32)).2, pz_gd (by omega) (by omega)]
        refine step0 _ ?_
        rw [e, decide_eq_true q, Bool.true_and, if_pos rfl, nI_clamp (by omega), upf_eq, upd_ne (by omega)]
      · rw [if_neg (fun z => q ((nI_eq (by omega) (by omega)).mp z))]
        exact step0 0 (by rw [decide_eq_false q, Bool.false_and, if_neg (by decide)])
  · (try dsimp only)
    rw [fX5_findWays_22, upf_id (by decide), hC.1, if_pos ((nI_leI (by omega) (by omega)).mpr (Nat.le_refl _))]
/-- the way on, as the reference seeks it -/
theorem fw125 {N : Nat} {fc : Nat → Nat → Nat} {M : Mem} (hC : MF N fc M) (hW : WF N fc) {m : Nat} {ok : Nat → Bool} (hm : Msk m N ok) (kk : Int32 → Int32 → Mem → Option (Int32 × Mem)) {p : Nat} (hp : p < 5) (hg : ∀ p, p ≤ 5 → M 34 p = nI (cn N (fun c => fc c 0) (fun c => fc c 1) ok p)) {c len : Nat} (hnx : nx N (fun c => fc c 0) (fun c => fc c 1) ok p = nI c) (hc : c < N) (hl : M 26 15 = nI len) (hl5 : len < 5) : fX5_findWays_125 kk 1000 (nI m) (nI p) (-1) (M 26 8 - 1) M = kk (nI m) (nI (fc c 1)) (up (up M 35 len (nI c)) 26 15 (nI (len + 1))) := by
  have hN := hW.1
  have hU := wf_up hW
  rw [hC.1]
  refine loop_dn (σ := Int32) (fun k i b => fX5_findWays_125 kk k (nI m) (nI p) b (nI i - 1) M) (fun i b => i ≤ N ∧ lst i (fun c => decide (fc c 0 = p) && (ok c && decide (¬ nx N (fun c => fc c 0) (fun c => fc c 1) ok (fc c 1) = -1))) b = nI c) (fun o => o = kk (nI m) (nI (fc c 1)) (up (up M 35 len (nI c)) 26 15 (nI (len + 1)))) (fun k i b hI => ?_) (fun k b hI => ?_) 1000 N (-1) (by omega) ⟨Nat.le_refl _, by rw [← nx_eq hU hp]; exact hnx⟩
  · left
    obtain ⟨hi, he⟩ := hI
    have hi' : i < N := by omega
    have hw := hW.2 i hi'
    rw [lst] at he
    refine ⟨_, ⟨by omega, he⟩, ?_⟩
    (try dsimp only)
    rw [fX5_findWays_125, pz_s1, if_neg (nI_pos (by omega)), mk_in' hm hN hi', pz_m1]
    cases e : ok i with
    | false => rw [if_neg (by decide), Bool.false_and, Bool.and_false, if_neg (by decide)]
    | true =>
      rw [if_pos rfl, (told_0 hC hN hi' _).1, (told_0 hC hN hi' (none : Option Int32)).2, Bool.true_and]
      by_cases q : fc i 0 = p
      · have hcl := cn_lt (ok := ok) hU (fc i 1)
        have hcn := cn_nx (ok := ok) hU 5 (fc i 1) (by omega) hw.2.1
        rw [if_pos (by rw [q]), (told_1 hC hN hi' _).1, (told_1 hC hN hi' (none : Option Int32)).2, pz_gd (by omega) (by omega), nI_clamp (by omega), hg _ hw.2.1, decide_eq_true q, Bool.true_and]
        by_cases y : 0 < cn N (fun c => fc c 0) (fun c => fc c 1) ok (fc i 1)
        · rw [if_neg (fun z => by rw [pL0] at z; have := (nI_leI hcl (by omega)).mp z; omega), if_pos (decide_eq_true (hcn.mp y))]
        · rw [if_pos (by rw [pL0]; exact (nI_leI hcl (by omega)).mpr (by omega)), if_neg (fun z => y (hcn.mpr (of_decide_eq_true z)))]
      · rw [if_neg (fun z => q ((nI_eq (by omega) (by omega)).mp z)), decide_eq_false q, Bool.false_and, if_neg (by decide)]
  · obtain ⟨hi, he⟩ := hI
    rw [lst] at he
    subst he
    (try dsimp only)
    rw [fX5_findWays_125, if_pos pz_z1lt, hl, pz_gd (by omega) (by omega), ltl_s, nI_clamp (by omega), ltl_s, up_id (show ¬26 = 35 by decide), hl, nI_1]
    have hS : MF N fc (up (up M 35 len (nI c)) 26 15 (nI (len + 1))) := hC.keep (by rw [up_ix (by decide), up_id (by decide)]) (by rw [up_id (by decide), up_id (by decide)])
    rw [(told_1 hS hN hc _).1, ltl_s, (told_1 hS hN hc (none : Option Int32)).2]
theorem fw110 {N : Nat} {fc : Nat → Nat → Nat} {M : Mem} (hC : MF N fc M) (hW : WF N fc) {m : Nat} {ok : Nat → Bool} (hm : Msk m N ok) (hg : ∀ p, p ≤ 5 → M 34 p = nI (cn N (fun c => fc c 0) (fun c => fc c 1) ok p)) : ∀ (d p : Nat) (pre : List Nat) (S : Mem) (fuel : Nat), 5 - p ≤ d → d < fuel → p ≤ 5 → ¬ nx N (fun c => fc c 0) (fun c => fc c 1) ok p = -1 → pre.length ≤ p → RowM S pre → (∀ a, ¬ a = 26 → ¬ a = 35 → S a = M a) → (∀ k, ¬ k = 15 → S 26 k = M 26 k) →
    ∃ M', fX5_findWays_110 fuel (nI m) (nI p) S = some (nI (cn N (fun c => fc c 0) (fun c => fc c 1) ok 0), M') ∧ (∀ a, ¬ a = 26 → ¬ a = 35 → M' a = M a) ∧ (∀ k, ¬ k = 15 → M' 26 k = M 26 k) ∧ RowM M' (pre ++ rowF (nx N (fun c => fc c 0) (fun c => fc c 1) ok) (fun c => fc c 1) d p) := by
  intro d
  have hend : ∀ (S : Mem), (∀ a, ¬ a = 26 → ¬ a = 35 → S a = M a) → S 34 (0 : Int32).toNatClampNeg = nI (cn N (fun c => fc c 0) (fun c => fc c 1) ok 0) := fun S f1 => by rw [show (0 : Int32).toNatClampNeg = 0 from rfl, f1 34 (by decide) (by decide)]; exact hg 0 (by omega)
  induction d with
  | zero =>
    intro p pre S fuel h1 h2 h5 hn hl hR f1 f2
    have : p = 5 := by omega
    subst this
    obtain ⟨k, rfl⟩ : ∃ k, fuel = k + 1 := ⟨fuel - 1, by omega⟩
    rw [fX5_findWays_110, if_pos (show (5 : Int32) ≤ nI 5 by decide), rowF, List.append_nil, hend S f1]
    exact ⟨S, rfl, f1, f2, hR⟩
  | succ d ih =>
    intro p pre S fuel h1 h2 h5 hn hl hR f1 f2
    obtain ⟨k, rfl⟩ : ∃ k, fuel = k + 1 := ⟨fuel - 1, by omega⟩
    rw [fX5_findWays_110]
    by_cases e : p = 5
    · subst e
      rw [if_pos (show (5 : Int32) ≤ nI 5 by decide), rowF, if_pos rfl, List.append_nil, hend S f1]
      exact ⟨S, rfl, f1, f2, hR⟩
    · obtain ⟨c, c1, c2, c3, c4, c5⟩ := nx_some (wf_up hW) (by omega) hn
      have hw := hW.2 c c1
      have hN := hW.1
      have hCS : MF N fc S := hC.keep (f2 8 (by decide)) (f1 32 (by decide) (by decide))
      rw [if_neg (fun z => by rw [pL5] at z; have := (nI_leI (by omega) (by omega)).mp z; omega), fw125 hCS hW hm _ (by omega) (fun x hx => by rw [f1 34 (by decide) (by decide)]; exact hg x hx) c5 c1 hR.1 (by omega)]
      obtain ⟨M', g1, g2, g3, g4⟩ := ih (fc c 1) (pre ++ [c]) (up (up S 35 pre.length (nI c)) 26 15 (nI (pre.length + 1))) k (by omega) (by omega) hw.2.1 c4 (by rw [List.length_append, List.length_singleton]; omega) ⟨by rw [up_eq, List.length_append, List.length_singleton], fun x hx => by
        rw [List.length_append, List.length_singleton] at hx
        rw [up_id (by decide)]
        by_cases q : x = pre.length
        · rw [q, up_eq, getD_app_at]
        · rw [up_ix q, getD_app_lt (by omega)]; exact hR.2 x (by omega)⟩ (fun a a1 a2 => by rw [up_id a1, up_id a2]; exact f1 a a1 a2) (fun x hx => by rw [up_ix hx, up_id (by decide)]; exact f2 x hx)
      refine ⟨M', g1, g2, g3, ?_⟩
      rw [rowF, if_neg e, c5, nI_clamp (by omega)]
      rw [List.append_assoc] at g4
      exact g4
theorem findWays_s {N : Nat} {fc : Nat → Nat → Nat} {M : Mem} (hC : MF N fc M) (hW : WF N fc) {m : Nat} {ok : Nat → Bool} (hm : Msk m N ok) : ∃ M', fX5_findWays (nI m) M = some (nI (cn N (fun c => fc c 0) (fun c => fc c 1) ok 0), M') ∧ FrM M M' ∧ RowM M' (row N (fun c => fc c 0) (fun c => fc c 1) ok) := by
  have hU := wf_up hW
  unfold fX5_findWays
  rw [ltl_s, show (5 : Int32).toNatClampNeg = 5 from rfl, upf_up]
  refine loop_dn (σ := Nat → Int32) (fun k j g => fX5_findWays_9 k (nI m) (nI j - 1) (upf M 34 g)) (fun j g => j ≤ 5 ∧ g 5 = 1 ∧ ∀ p, j ≤ p → p < 5 → g p = sumI N (fun c => if (decide (fc c 0 = p) && ok c) = true then g (fc c 1) else 0)) (fun o => ∃ M', o = some (nI (cn N (fun c => fc c 0) (fun c => fc c 1) ok 0), M') ∧ FrM M M' ∧ RowM M' (row N (fun c => fc c 0) (fun c => fc c 1) ok)) (fun k j g hI => ?_) (fun k g hI => ?_) 1000 5 (upd (M 34) 5 1) (by omega) ⟨Nat.le_refl _, upd_at _ _ _, fun p h1 h2 => by omega⟩
  · left
    obtain ⟨hj, h5, hp⟩ := hI
    (try dsimp only)
    rw [fX5_findWays_9, pz_s1, if_neg (nI_pos (by omega)), pz_gd (by omega) (by omega), ltl_s, nI_clamp (by omega), upf_up, upf_eq, upf_upf, fw22 hC hW hm _ (by omega), pz_m1]
    refine ⟨_, ⟨by omega, by rw [upd_ne (by omega)]; exact h5, fun p h1 h2 => ?_⟩, rfl⟩
    by_cases e : p = j
    · subst e
      rw [upd_at]
      refine sumI_congr (fun c hc => ?_)
      by_cases q : fc c 0 = p
      · have := hW.2 c hc
        rw [upd_ne (by omega)]
      · rw [decide_eq_false q, Bool.false_and, if_neg (by decide), if_neg (by decide)]
    · rw [upd_ne e, hp p (by omega) h2]
      refine sumI_congr (fun c hc => ?_)
      by_cases q : fc c 0 = p
      · have := hW.2 c hc
        rw [upd_ne (by omega)]
      · rw [decide_eq_false q, Bool.false_and, if_neg (by decide), if_neg (by decide)]
  · obtain ⟨hj, h5, hp⟩ := hI
    have hg : ∀ p, p ≤ 5 → g p = nI (cn N (fun c => fc c 0) (fun c => fc c 1) ok p) := fun p h => cn_uniq hU h5 (fun p h => hp p (Nat.zero_le _) h) 5 p (by omega) h
    have hcl := cn_lt (ok := ok) hU 0
    have hcn := cn_nx (ok := ok) hU 5 0 (by omega) (by omega)
    have hCS : MF N fc (up (upf M 34 g) 26 15 0) := hC.keep (by rw [up_ix (by decide), upf_id (by decide)]) (by rw [up_id (by decide), upf_id (by decide)])
    (try dsimp only)
    rw [fX5_findWays_9, if_pos pz_z1lt, ltl_s, show (0 : Int32).toNatClampNeg = 0 from rfl, up_id (by decide), upf_eq, hg 0 (by omega)]
    unfold row
    by_cases y : 0 < cn N (fun c => fc c 0) (fun c => fc c 1) ok 0
    · rw [if_neg (fun z => by rw [pL0] at z; have := (nI_leI hcl (by omega)).mp z; omega), if_neg (hcn.mp y)]
      obtain ⟨M', m1, m2, m3, m4⟩ := fw110 hCS hW hm (fun p h => by rw [up_id (by decide), upf_eq]; exact hg p h) 5 0 [] (up (upf M 34 g) 26 15 0) 1000 (by omega) (by omega) (by omega) (hcn.mp y) (Nat.le_refl _) ⟨up_eq _ _ _ _, fun x hx => absurd hx (Nat.not_lt_zero _)⟩ (fun _ _ _ => rfl) (fun _ _ => rfl)
      exact ⟨M', m1, ⟨fun a a1 a2 a3 => by rw [m2 a a1 a3, up_id a1, upf_id a2], fun x hx => by rw [m3 x hx, up_ix hx, upf_id (by decide)]⟩, m4⟩
    · rw [if_pos (by rw [pL0]; exact (nI_leI hcl (by omega)).mpr (by omega)), if_pos (Classical.byContradiction (fun z => y (hcn.mpr z))), fX5_findWays_110, if_pos (show (5 : Int32) ≤ 5 by decide), show (0 : Int32).toNatClampNeg = 0 from rfl, up_id (by decide), upf_eq, hg 0 (by omega)]
      exact ⟨_, rfl, ⟨fun a a1 a2 a3 => by rw [up_id a1, upf_id a2], fun x hx => by rw [up_ix hx, upf_id (by decide)]⟩, up_eq _ _ _ _, fun x hx => absurd hx (Nat.not_lt_zero _)⟩
/-- where a ship runs aground -/
def agr (ok : Nat → Bool) : List Nat → Int32
  | [] => -1
  | c :: l => if ok c = true then agr ok l else nI c
theorem agr_drop (ok : Nat → Bool) {l : List Nat} {i : Nat} (h : i < l.length) : agr ok (l.drop i) = if ok (l.getD i 0) = true then agr ok (l.drop (i + 1)) else nI (l.getD i 0) := by
  rw [List.drop_eq_getElem_cons h, agr, List.getD_eq_getElem?_getD, List.getElem?_eq_getElem h, Option.getD_some]
theorem getD_mem {l : List Nat} {i : Nat} (h : i < l.length) : l.getD i 0 ∈ l := by
  rw [List.getD_eq_getElem?_getD, List.getElem?_eq_getElem h, Option.getD_some]
  exact List.getElem_mem h
theorem aground5_s {N : Nat} {M : Mem} {l : List Nat} (hR : RowM M l) (hl : l.length ≤ 5) (hN : N ≤ 16) (hi : ∀ c ∈ l, c < N) {m : Nat} {ok : Nat → Bool} (hm : Msk m N ok) : fX5_aground M (nI m) = some (agr ok l) := by
  unfold fX5_aground
  refine loop_up (σ := Unit) (fun k i _ => fX5_aground_2 M k (nI m) (nI i)) (fun i _ => agr ok (l.drop i) = agr ok l) (fun o => o = some (agr ok l)) l.length (fun k i s h hI => ?_) (fun k s hI => ?_) 1000 0 () (by omega) (by omega) rfl
  · have hc := hi _ (getD_mem h)
    rw [agr_drop ok h] at hI
    show (∃ s' : Unit, agr ok (l.drop (i + 1)) = agr ok l ∧ fX5_aground_2 M (k + 1) (nI m) (nI i) = fX5_aground_2 M k (nI m) (nI (i + 1))) ∨ fX5_aground_2 M (k + 1) (nI m) (nI i) = some (agr ok l)
    rw [fX5_aground_2, hR.1, if_neg (fun z => by have := (nI_leI (by omega) (by omega)).mp z; omega), pz_gd (by omega) (by omega), nI_clamp (by omega), hR.2 i h, mk_in' hm hN hc, pz_gd (by omega) (by omega), nI_1]
    cases e : ok (l.getD i 0) with
    | true => rw [e, if_pos rfl] at hI; exact Or.inl ⟨(), hI, by rw [if_pos rfl]⟩
    | false => rw [e, if_neg (by decide)] at hI; exact Or.inr (by rw [if_neg (by decide), hI])
  · rw [List.drop_length] at hI
    show fX5_aground_2 M (k + 1) (nI m) (nI l.length) = some (agr ok l)
    rw [fX5_aground_2, hR.1, if_pos ((nI_leI (by omega) (by omega)).mpr (Nat.le_refl _)), ← hI]; rfl
theorem aground4_s {N : Nat} {fc : Nat → Nat → Nat} {M : Mem} (hC : CF N fc M) (hW : WF N fc) {l : List Nat} (hR : RowIs M l) (hl : l.length ≤ 5) (hi : ∀ c ∈ l, c < N) {d q : Nat} {st : Bool} (hd : d ≤ 9) (hq : q ≤ 99) : fX4_aground M (nI d) (nI q) st = some (agr (fun c => decide (d ≤ dpt fc c q st)) l) := by
  have hN := hW.1
  unfold fX4_aground
  refine loop_up (σ := Unit) (fun k i _ => fX4_aground_3 M k (nI d) (nI q) st (nI i)) (fun i _ => agr (fun c => decide (d ≤ dpt fc c q st)) (l.drop i) = agr (fun c => decide (d ≤ dpt fc c q st)) l) (fun o => o = some (agr (fun c => decide (d ≤ dpt fc c q st)) l)) l.length (fun k i s h hI => ?_) (fun k s hI => ?_) 1000 0 () (by omega) (by omega) rfl
  · have hc := hi _ (getD_mem h)
    have hp := dpt_le hW hc q st
    rw [agr_drop _ h] at hI
    show (∃ s' : Unit, agr (fun c => decide (d ≤ dpt fc c q st)) (l.drop (i + 1)) = agr (fun c => decide (d ≤ dpt fc c q st)) l ∧ fX4_aground_3 M (k + 1) (nI d) (nI q) st (nI i) = fX4_aground_3 M k (nI d) (nI q) st (nI (i + 1))) ∨ fX4_aground_3 M (k + 1) (nI d) (nI q) st (nI i) = some (agr (fun c => decide (d ≤ dpt fc c q st)) l)
    rw [fX4_aground_3, hR.1, if_neg (fun z => by have := (nI_leI (by omega) (by omega)).mp z; omega), step_s hR hl (by omega), bP_s, if_pos h, depth_s hC hW hc hq, bP_s, nI_1]
    by_cases e : d ≤ dpt fc (l.getD i 0) q st
    · rw [if_pos (decide_eq_true e)] at hI
      exact Or.inl ⟨(), hI, by rw [if_pos ((nI_leI (by omega) (by omega)).mpr e)]⟩
    · rw [if_neg (fun z => e (of_decide_eq_true z))] at hI
      exact Or.inr (by rw [if_neg (fun z => e ((nI_leI (by omega) (by omega)).mp z)), hI])
  · rw [List.drop_length] at hI
    show fX4_aground_3 M (k + 1) (nI d) (nI q) st (nI l.length) = some _
    rw [fX4_aground_3, hR.1, if_pos ((nI_leI (by omega) (by omega)).mpr (Nat.le_refl _)), ← hI]; rfl
/-- where a ship comes to that goes by the least row of 'ok', when 'ok2' is deep enough -/
def goS (N : Nat) (fr to : Nat → Nat) (ok ok2 : Nat → Bool) : Int32 := if nx N fr to ok 0 = -1 then -3 else agr ok2 (row N fr to ok)
theorem goes_s {N : Nat} {fc : Nat → Nat → Nat} {M : Mem} (hC : MF N fc M) (hW : WF N fc) {m m2 : Nat} {ok ok2 : Nat → Bool} (hm : Msk m N ok) (hm2 : Msk m2 N ok2) : ∃ M', fX5_goes (nI m) (nI m2) M = some (goS N (fun c => fc c 0) (fun c => fc c 1) ok ok2, M') ∧ FrM M M' := by
  have hU := wf_up hW
  obtain ⟨M', m1, m2', m3⟩ := findWays_s hC hW hm
  have hcl := cn_lt (ok := ok) hU 0
  have hcn := cn_nx (ok := ok) hU 5 0 (by omega) (by omega)
  obtain ⟨r1, r2⟩ := row_in (ok := ok) hU
  unfold fX5_goes goS
  rw [m1, bW_s]
  by_cases y : 0 < cn N (fun c => fc c 0) (fun c => fc c 1) ok 0
  · rw [if_neg (fun z => by rw [pL0] at z; have := (nI_eq hcl (by omega)).mp z; omega), if_neg (hcn.mp y), aground5_s m3 r2 hW.1 (fun c hc => (r1 c hc).1) hm2, bP_s]
    exact ⟨M', rfl, m2'⟩
  · rw [if_pos (by rw [show cn N (fun c => fc c 0) (fun c => fc c 1) ok 0 = 0 by omega]; rfl), if_pos (Classical.byContradiction (fun z => y (hcn.mpr z)))]
    exact ⟨M', rfl, m2'⟩
