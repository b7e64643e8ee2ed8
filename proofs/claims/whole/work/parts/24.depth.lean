/-- how deep: kind, told, each so many nights, the night, a storm -/
def dep (k tl e q : Nat) (st : Bool) : Nat := if k = 4 then (if st = true then 9 - tl else tl) else if k = 0 then (tl + q / e) % 10 else if k = 1 then (if q % e = 0 then tl else 0) else if k = 2 then tl - q / e else (if q / e % 2 = 0 then tl else 9 - tl)
theorem dep_0 (tl e q : Nat) (st : Bool) : dep 0 tl e q st = (tl + q / e) % 10 := rfl
theorem dep_1 (tl e q : Nat) (st : Bool) : dep 1 tl e q st = if q % e = 0 then tl else 0 := rfl
theorem dep_2 (tl e q : Nat) (st : Bool) : dep 2 tl e q st = tl - q / e := rfl
theorem dep_3 (tl e q : Nat) (st : Bool) : dep 3 tl e q st = if q / e % 2 = 0 then tl else 9 - tl := rfl
theorem dep_4 (tl e q : Nat) (st : Bool) : dep 4 tl e q st = if st = true then 9 - tl else tl := rfl
theorem dep_le {k tl e q : Nat} {st : Bool} (h : tl ≤ 9) : dep k tl e q st ≤ 9 := by
  unfold dep
  by_cases h4 : k = 4
  · rw [if_pos h4]; cases st
    · rw [if_neg (by decide)]; exact h
    · rw [if_pos rfl]; omega
  · rw [if_neg h4]
    by_cases h0 : k = 0
    · rw [if_pos h0]; omega
    · rw [if_neg h0]
      by_cases h1 : k = 1
      · rw [if_pos h1]; by_cases z : q % e = 0
        · rw [if_pos z]; exact h
        · rw [if_neg z]; omega
      · rw [if_neg h1]
        by_cases h2 : k = 2
        · rw [if_pos h2]; exact Nat.le_trans (Nat.sub_le _ _) h
        · rw [if_neg h2]; by_cases z : q / e % 2 = 0
          · rw [if_pos z]; exact h
          · rw [if_neg z]; omega
theorem div_le_q (q e : Nat) : q / e ≤ q := Nat.div_le_self q e
theorem shifted_s {k tl e q : Nat} {st : Bool} (hk : k ≤ 4) (ht : tl ≤ 9) (he : 1 ≤ e) (he2 : e ≤ 9) (hq : q ≤ 99) : fX4_shifted (nI k) (nI tl) (nI e) (nI q) st = some (nI (dep k tl e q st)) := by
  have hd := div_le_q q e
  have ediv : nI q / nI e = nI (q / e) := pk_div (by omega) (by omega) (by omega)
  have emod : rmI (nI q) (nI e) = nI (q % e) := pz_rm (by omega) (by omega) (by omega)
  have hm : q % e < 9 := Nat.lt_of_lt_of_le (Nat.mod_lt _ (by omega)) he2
  have s9 : 9 - nI tl = nI (9 - tl) := by rw [pL9]; exact pk_sub ht
  have g0 : ∀ {x : Option Int32}, gd (decide (¬ nI e = 0)) x = x := pz_gd0 (by omega) (by omega)
  unfold fX4_shifted
  rcases (show k = 0 ∨ k = 1 ∨ k = 2 ∨ k = 3 ∨ k = 4 by omega) with rfl | rfl | rfl | rfl | rfl
  · rw [if_neg (show ¬ nI 0 = 4 by decide), if_pos (by rw [pL1]; exact (nI_leI (by omega) (by omega)).mpr he), g0, if_pos (show nI 0 = 0 from rfl), dep_0, ediv, nI_add, show (10 : Int32) = nI 10 from rfl, pz_rm (by omega) (by omega) (by omega)]
  · rw [if_neg (show ¬ nI 1 = 4 by decide), if_pos (by rw [pL1]; exact (nI_leI (by omega) (by omega)).mpr he), g0, if_neg (show ¬ nI 1 = 0 by decide), if_pos (show nI 1 = 1 from rfl), g0, dep_1, emod]
    by_cases z : q % e = 0
    · rw [if_pos z, if_pos (by rw [z]; rfl)]
    · rw [if_neg z, if_neg (fun y => by rw [pL0] at y; have := (nI_eq (by omega) (by omega)).mp y; omega)]; rfl
  · rw [if_neg (show ¬ nI 2 = 4 by decide), if_pos (by rw [pL1]; exact (nI_leI (by omega) (by omega)).mpr he), g0, if_neg (show ¬ nI 2 = 0 by decide), if_neg (show ¬ nI 2 = 1 by decide), if_pos (show nI 2 = 2 from rfl), dep_2, ediv]
    by_cases z : tl ≤ q / e
    · rw [if_pos ((nI_leI (by omega) (by omega)).mpr z), show tl - q / e = 0 by omega]; rfl
    · rw [if_neg (fun y => z ((nI_leI (by omega) (by omega)).mp y)), pk_sub (by omega)]
  · rw [if_neg (show ¬ nI 3 = 4 by decide), if_pos (by rw [pL1]; exact (nI_leI (by omega) (by omega)).mpr he), g0, if_neg (show ¬ nI 3 = 0 by decide), if_neg (show ¬ nI 3 = 1 by decide), if_neg (show ¬ nI 3 = 2 by decide), if_pos (show nI 3 = 3 from rfl), dep_3, ediv, show (2 : Int32) = nI 2 from rfl, pz_rm (by omega) (by omega) (by omega), s9]
    by_cases z : q / e % 2 = 0
    · rw [if_pos z, if_pos (by rw [z]; rfl)]
    · rw [if_neg z, if_neg (fun y => by rw [pL0] at y; have := (nI_eq (by omega) (by omega)).mp y; omega)]
  · rw [if_pos (show nI 4 = 4 from rfl), dep_4, s9]
    cases st
    · rw [if_neg (by decide), if_neg (by decide)]
    · rw [if_pos rfl, if_pos rfl]
theorem within_s {a b : Nat} (ha : a ≤ 9) (hb : b ≤ 99) : fX5_within (nI a - nI b) = nI (a - b) := by
  unfold fX5_within fX5_lesser
  by_cases z : b ≤ a
  · rw [pk_sub z, if_pos (by rw [pL0]; exact (nI_leI (by omega) (by omega)).mpr (by omega))]
    by_cases y : a - b = 9
    · rw [y]; decide
    · rw [if_neg (fun w => by rw [pL9] at w; have := (nI_leI (by omega) (by omega)).mp w; omega)]
  · rw [if_neg (fun w => by have := pk_sneg (a := a) (b := b) (by omega) (by omega); rw [pz_le] at w; rw [pz_lt] at this; omega), show a - b = 0 by omega]; rfl
theorem deepBy_s {k tl e q : Nat} (hk : k < 4) (ht : tl ≤ 9) (he : 1 ≤ e) (he2 : e ≤ 9) (hq : q ≤ 99) : fX5_deepBy (nI k) (nI e) (nI tl) (nI q) = some (nI (dep k tl e q false)) := by
  have hd := div_le_q q e
  have ediv : nI q / nI e = nI (q / e) := pk_div (by omega) (by omega) (by omega)
  have emod : rmI (nI q) (nI e) = nI (q % e) := pz_rm (by omega) (by omega) (by omega)
  have hm : q % e < 9 := Nat.lt_of_lt_of_le (Nat.mod_lt _ (by omega)) he2
  have s9 : 9 - nI tl = nI (9 - tl) := by rw [pL9]; exact pk_sub ht
  have g0 : ∀ {x : Option Int32}, gd (decide (¬ nI e = 0)) x = x := pz_gd0 (by omega) (by omega)
  unfold fX5_deepBy
  rw [g0]
  rcases (show k = 0 ∨ k = 1 ∨ k = 2 ∨ k = 3 by omega) with rfl | rfl | rfl | rfl
  · rw [if_pos (show nI 0 = 0 from rfl), dep_0, ediv, nI_add, show (10 : Int32) = nI 10 from rfl, pz_rm (by omega) (by omega) (by omega)]
  · rw [if_neg (show ¬ nI 1 = 0 by decide), if_pos (show nI 1 = 1 from rfl), g0, dep_1, emod]
    by_cases z : q % e = 0
    · rw [if_pos z, if_pos (by rw [z]; rfl)]
    · rw [if_neg z, if_neg (fun y => by rw [pL0] at y; have := (nI_eq (by omega) (by omega)).mp y; omega)]; rfl
  · rw [if_neg (show ¬ nI 2 = 0 by decide), if_neg (show ¬ nI 2 = 1 by decide), if_pos (show nI 2 = 2 from rfl), dep_2, ediv, within_s ht (by omega)]
  · rw [if_neg (show ¬ nI 3 = 0 by decide), if_neg (show ¬ nI 3 = 1 by decide), if_neg (show ¬ nI 3 = 2 by decide), dep_3, ediv, show (2 : Int32) = nI 2 from rfl, pz_rm (by omega) (by omega) (by omega), s9]
    by_cases z : q / e % 2 = 0
    · rw [if_pos z, if_neg (by rw [z]; decide)]
    · rw [if_neg z, if_pos (by rw [show q / e % 2 = 1 by omega]; rfl)]
/-- how deep a channel is -/
def dpt (fc : Nat → Nat → Nat) (c q : Nat) (st : Bool) : Nat := dep (fc c 3) (fc c 2) (fc c 4) q st
theorem dpt_le {N : Nat} {fc : Nat → Nat → Nat} (hW : WF N fc) {c : Nat} (hc : c < N) (q : Nat) (st : Bool) : dpt fc c q st ≤ 9 := dep_le (hW.2 c hc).2.2.1
theorem depth_s {N : Nat} {fc : Nat → Nat → Nat} {M : Mem} (hC : CF N fc M) (hW : WF N fc) {c q : Nat} {st : Bool} (hc : c < N) (hq : q ≤ 99) : fX0_depth M (nI c) (nI q) st = some (nI (dpt fc c q st)) := by
  have h := hW.2 c hc
  unfold fX0_depth
  rw [fact_3 hC hW.1 hc, bP_s, fact_2 hC hW.1 hc, bP_s, fact_4 hC hW.1 hc, bP_s, shifted_s (by omega) (by omega) (by omega) (by omega) hq, bP_s]
  rfl
theorem told_i {N : Nat} {fc : Nat → Nat → Nat} {M : Mem} (hC : MF N fc M) (hN : N ≤ 16) {α : Type} {c k : Nat} (hc : c < N) (hk : k < 5) (x : Option α) : gd (inb (5 * nI c + nI k) 80) x = x ∧ M 32 (5 * nI c + nI k).toNatClampNeg = nI (fc c k) := by
  have e : 5 * nI c + nI k = nI (5 * c + k) := by rw [pL5, pk_mul, nI_add]
  rw [e, nI_clamp (by omega)]
  exact ⟨pz_gd (by omega) (by omega), hC.2 c hc k hk⟩
theorem told_0 {N : Nat} {fc : Nat → Nat → Nat} {M : Mem} (hC : MF N fc M) (hN : N ≤ 16) {α : Type} {c : Nat} (hc : c < N) (x : Option α) : gd (inb (5 * nI c) 80) x = x ∧ M 32 (5 * nI c).toNatClampNeg = nI (fc c 0) := by
  have e : 5 * nI c = nI (5 * c) := by rw [pL5, pk_mul]
  rw [e, nI_clamp (by omega)]
  exact ⟨pz_gd (by omega) (by omega), hC.2 c hc 0 (by omega)⟩
theorem deepIn_s {N : Nat} {fc : Nat → Nat → Nat} {M : Mem} (hC : MF N fc M) (hW : WF N fc) {c q : Nat} {st : Bool} (hc : c < N) (hq : q ≤ 99) : fX5_deepIn M (nI c) (nI q) st = some (nI (dpt fc c q st)) := by
  have h := hW.2 c hc
  unfold fX5_deepIn
  rw [show (2 : Int32) = nI 2 from rfl, show (3 : Int32) = nI 3 from rfl, pL4, (told_i hC hW.1 hc (show 2 < 5 by omega) _).1, (told_i hC hW.1 hc (show 2 < 5 by omega) (none : Option Int32)).2, ltl_s, (told_i hC hW.1 hc (show 3 < 5 by omega) _).1, (told_i hC hW.1 hc (show 3 < 5 by omega) (none : Option Int32)).2, ltl_s]
  unfold dpt
  by_cases z : fc c 3 = 4
  · rw [z, if_pos rfl]
    have s9 : 9 - nI (fc c 2) = nI (9 - fc c 2) := by rw [pL9]; exact pk_sub (by omega)
    unfold dep
    rw [if_pos rfl, s9]
    cases st
    · rw [if_neg (by decide), if_neg (by decide)]
    · rw [if_pos rfl, if_pos rfl]
  · rw [if_neg (fun y => z ((nI_eq (by omega) (by omega)).mp y)), (told_i hC hW.1 hc (show 4 < 5 by omega) _).1, (told_i hC hW.1 hc (show 4 < 5 by omega) (none : Option Int32)).2, deepBy_s (by omega) (by omega) (by omega) (by omega) hq, bP_s]
    unfold dep
    rw [if_neg z, if_neg z]
/-- storms -/
def stm (ns : Nat) (sn : Nat → Nat) (q : Nat) : Bool := (List.range ns).any (fun k => decide (sn k = q))
theorem stm_t {ns : Nat} {sn : Nat → Nat} {q : Nat} : stm ns sn q = true ↔ ∃ k, k < ns ∧ sn k = q := by
  unfold stm
  simp only [List.any_eq_true, List.mem_range, decide_eq_true_eq]
def SC (ns : Nat) (sn : Nat → Nat) (M : Mem) : Prop := M 1 7 = nI ns ∧ ns ≤ 8 ∧ ∀ k, k < ns → M 5 k = nI (sn k) ∧ sn k ≤ 99
def SM (ns : Nat) (sn : Nat → Nat) (M : Mem) : Prop := M 26 10 = nI ns ∧ ns ≤ 8 ∧ ∀ k, k < ns → M 33 k = nI (sn k) ∧ sn k ≤ 99
theorem isStormy_s {ns : Nat} {sn : Nat → Nat} {M : Mem} (h : SC ns sn M) {q : Nat} (hq : q ≤ 99) : fX0_isStormy M (nI q) = some (stm ns sn q) := by
  obtain ⟨h1, h2, h3⟩ := h
  unfold fX0_isStormy
  refine loop_up (σ := Unit) (fun k i _ => fX0_isStormy_2 M k (nI q) (nI i)) (fun i _ => ∀ j, j < i → ¬ sn j = q) (fun o => o = some (stm ns sn q)) ns (fun k i s hi hI => ?_) (fun k s hI => ?_) 1000 0 () (by omega) (by omega) (fun j hj => absurd hj (Nat.not_lt_zero _))
  · show (∃ s' : Unit, (∀ j, j < i + 1 → ¬ sn j = q) ∧ fX0_isStormy_2 M (k + 1) (nI q) (nI i) = fX0_isStormy_2 M k (nI q) (nI (i + 1))) ∨ fX0_isStormy_2 M (k + 1) (nI q) (nI i) = some (stm ns sn q)
    rw [fX0_isStormy_2, h1, if_neg (fun z => by have := (nI_leI (by omega) (by omega)).mp z; omega), if_neg (fun z => by rw [pL8] at z; have := (nI_leI (by omega) (by omega)).mp z; omega), pz_gd (by omega) (by omega), nI_clamp (by omega), (h3 i hi).1]
    have := (h3 i hi).2
    by_cases z : sn i = q
    · right
      rw [if_pos (by rw [z]), stm_t.mpr ⟨i, hi, z⟩]
    · left
      rw [if_neg (fun y => z ((nI_eq (by omega) (by omega)).mp y)), nI_1]
      exact ⟨(), fun j hj => by rcases Nat.lt_or_ge j i with a | a; exact hI j a; rw [show j = i by omega]; exact z, rfl⟩
  · show fX0_isStormy_2 M (k + 1) (nI q) (nI ns) = some (stm ns sn q)
    rw [fX0_isStormy_2, h1, if_pos ((nI_leI (by omega) (by omega)).mpr (Nat.le_refl _))]
    cases e : stm ns sn q with
    | false => rfl
    | true => obtain ⟨j, hj, z⟩ := stm_t.mp e; exact absurd z (hI j hj)
theorem isStorm_s {ns : Nat} {sn : Nat → Nat} {M : Mem} (h : SM ns sn M) {q : Nat} (hq : q ≤ 99) : fX5_isStorm M (nI q) = some (stm ns sn q) := by
  obtain ⟨h1, h2, h3⟩ := h
  unfold fX5_isStorm
  refine loop_up (σ := Bool) (fun k i b => fX5_isStorm_4 M k (nI q) b (nI i)) (fun i b => (b = true ↔ ∃ j, j < i ∧ sn j = q)) (fun o => o = some (stm ns sn q)) ns (fun k i b hi hI => ?_) (fun k b hI => ?_) 1000 0 false (by omega) (by omega) ⟨fun h => (by cases h), fun ⟨j, hj, _⟩ => absurd hj (Nat.not_lt_zero _)⟩
  · left
    (try dsimp only)
    rw [fX5_isStorm_4, h1, if_neg (fun z => by have := (nI_leI (by omega) (by omega)).mp z; omega)]
    cases b with
    | true =>
      obtain ⟨j, hj, z⟩ := hI.mp rfl
      rw [if_pos rfl, nI_1]
      exact ⟨true, ⟨fun _ => ⟨j, by omega, z⟩, fun _ => rfl⟩, rfl⟩
    | false =>
      have hno : ∀ j, j < i → ¬ sn j = q := fun j hj z => by have := hI.mpr ⟨j, hj, z⟩; cases this
      rw [if_neg (by decide), pz_gd (by omega) (by omega), nI_clamp (by omega), (h3 i hi).1, nI_1]
      have := (h3 i hi).2
      by_cases z : sn i = q
      · rw [if_pos (by rw [z])]
        exact ⟨true, ⟨fun _ => ⟨i, by omega, z⟩, fun _ => rfl⟩, rfl⟩
      · rw [if_neg (fun y => z ((nI_eq (by omega) (by omega)).mp y))]
        refine ⟨false, ⟨fun h => (by cases h), fun ⟨j, hj, y⟩ => ?_⟩, rfl⟩
        rcases Nat.lt_or_ge j i with a | a
        · exact absurd y (hno j a)
        · rw [show j = i by omega] at y; exact absurd y z
  · (try dsimp only)
    rw [fX5_isStorm_4, h1, if_pos ((nI_leI (by omega) (by omega)).mpr (Nat.le_refl _))]
    congr 1
    cases b with
    | true => exact (stm_t.mpr (hI.mp rfl)).symm
    | false =>
      cases e : stm ns sn q with
      | false => rfl
      | true => have := hI.mpr (stm_t.mp e); cases this
