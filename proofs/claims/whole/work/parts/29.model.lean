/-! THE REFERENCE: WHERE A SHIP GOES. -/
theorem nI_s1 {a : Nat} (h : 1 ≤ a) : nI a - 1 = nI (a - 1) := by rw [pL1]; exact pk_sub h
theorem nI_z {a : Nat} (h : a < 2 ^ 31) : nI a = 0 ↔ a = 0 := by rw [pL0]; exact nI_eq h (by omega)
def FrW (M S : Mem) : Prop := (∀ a, ¬ a = 26 → ¬ a = 34 → ¬ a = 35 → ¬ a = 37 → ¬ a = 38 → ¬ a = 39 → S a = M a) ∧ ∀ k, ¬ k = 15 → S 26 k = M 26 k
theorem FrW.rfl (M : Mem) : FrW M M := ⟨fun _ _ _ _ _ _ _ => Eq.refl _, fun _ _ => Eq.refl _⟩
theorem FrW.trans {M S T : Mem} (h : FrW M S) (g : FrW S T) : FrW M T := ⟨fun a a1 a2 a3 a4 a5 a6 => (g.1 a a1 a2 a3 a4 a5 a6).trans (h.1 a a1 a2 a3 a4 a5 a6), fun k hk => (g.2 k hk).trans (h.2 k hk)⟩
theorem FrW.of {M S : Mem} (h : FrM M S) : FrW M S := ⟨fun a a1 a2 a3 _ _ _ => h.1 a a1 a2 a3, h.2⟩
def KM (N : Nat) (fc : Nat → Nat → Nat) (ns : Nat) (sn : Nat → Nat) (od : Nat) (M : Mem) : Prop := MF N fc M ∧ SM ns sn M ∧ M 26 12 = nI od
theorem KM.keep {N : Nat} {fc : Nat → Nat → Nat} {ns : Nat} {sn : Nat → Nat} {od : Nat} {M S : Mem} (h : KM N fc ns sn od M) (f : FrW M S) : KM N fc ns sn od S := by
  have e : ∀ a, a = 32 ∨ a = 33 → S a = M a := fun a ha => f.1 a (by omega) (by omega) (by omega) (by omega) (by omega) (by omega)
  exact ⟨h.1.keep (f.2 8 (by decide)) (e 32 (by decide)), ⟨by rw [f.2 10 (by decide)]; exact h.2.1.1, h.2.1.2.1, fun k hk => by rw [e 33 (by decide)]; exact h.2.1.2.2 k hk⟩, by rw [f.2 12 (by decide)]; exact h.2.2⟩
theorem enough_s {N : Nat} {fc : Nat → Nat → Nat} {ns : Nat} {sn : Nat → Nat} {od : Nat} {M : Mem} (hK : KM N fc ns sn od M) (hW : WF N fc) {d q : Nat} (hd : d ≤ 9) (hq : q ≤ 99) : ∃ m, fX5_enough M (nI d) (nI q) = some (nI m) ∧ Msk m N (okD fc d q (stm ns sn q)) := by
  obtain ⟨m, m1, m2⟩ := enoughIn_s hK.1 hW (st := stm ns sn q) hd hq
  refine ⟨m, ?_, m2⟩
  unfold fX5_enough
  rw [isStorm_s hK.2.1 hq, bP_s, m1, bP_s]
theorem mapped_s {N : Nat} {fc : Nat → Nat → Nat} {ns : Nat} {sn : Nat → Nat} {od : Nat} {M : Mem} (hK : KM N fc ns sn od M) (hW : WF N fc) {d q : Nat} (hd : d ≤ 9) (hq : q ≤ 99) : ∃ m, fX5_mapped M (nI d) (nI q) = some (nI m) ∧ Msk m N (okD fc d (q - 1) (stm ns sn (q - 1))) := by
  obtain ⟨m, m1, m2⟩ := enough_s hK hW hd (show q - 1 ≤ 99 by omega)
  refine ⟨m, ?_, m2⟩
  unfold fX5_mapped fX5_mapped_13
  by_cases e : q = 0
  · subst e
    rw [if_pos (show nI 0 = 0 from rfl)]
    rw [show (0 : Int32) = nI (0 - 1) from rfl, m1, bP_s]
  · rw [if_neg (fun z => e ((nI_z (by omega)).mp z)), nI_s1 (show 1 ≤ q by omega), m1, bP_s]
theorem deepOf_s {N : Nat} {fc : Nat → Nat → Nat} {ns : Nat} {sn : Nat → Nat} {od : Nat} {M : Mem} (hK : KM N fc ns sn od M) (hW : WF N fc) {c q : Nat} (hc : c < N) (hq : q ≤ 99) : fX5_deepOf M (nI c) (nI q) = some (nI (dpt fc c q (stm ns sn q))) := by
  unfold fX5_deepOf
  rw [isStorm_s hK.2.1 hq, bP_s, deepIn_s hK.1 hW hc hq, bP_s]
theorem mapOf_s {N : Nat} {fc : Nat → Nat → Nat} {ns : Nat} {sn : Nat → Nat} {od : Nat} {M : Mem} (hK : KM N fc ns sn od M) (hW : WF N fc) {c q : Nat} (hc : c < N) (hq : q ≤ 99) : fX5_mapOf M (nI c) (nI q) = some (nI (dpt fc c (q - 1) (stm ns sn (q - 1)))) := by
  have h := deepOf_s hK hW hc (show q - 1 ≤ 99 by omega)
  unfold fX5_mapOf fX5_mapOf_13
  by_cases e : q = 0
  · subst e
    rw [if_pos (show nI 0 = 0 from rfl)]
    rw [show (0 : Int32) = nI (0 - 1) from rfl, h, bP_s]
  · rw [if_neg (fun z => e ((nI_z (by omega)).mp z)), nI_s1 (show 1 ≤ q by omega), h, bP_s]
theorem wi2_s {a b : Nat} (ha : a ≤ 9) (hb : b ≤ 9) : fX5_within (2 * nI a - nI b) = nI (min 9 (2 * a - b)) := by
  rw [show (2 : Int32) = nI 2 from rfl, pk_mul]
  unfold fX5_within fX5_lesser
  by_cases z : b ≤ 2 * a
  · rw [pk_sub z, if_pos (by rw [pL0]; exact (nI_leI (by omega) (by omega)).mpr (by omega))]
    by_cases y : 9 ≤ 2 * a - b
    · rw [if_pos (by rw [pL9]; exact (nI_leI (by omega) (by omega)).mpr y), show min 9 (2 * a - b) = 9 by omega]; rfl
    · rw [if_neg (fun w => by rw [pL9] at w; have := (nI_leI (by omega) (by omega)).mp w; omega), show min 9 (2 * a - b) = 2 * a - b by omega]
  · rw [if_neg (fun w => by have := pk_sneg (a := 2 * a) (b := b) (by omega) (by omega); rw [pz_le] at w; rw [pz_lt] at this; omega), show min 9 (2 * a - b) = 0 by omega]; rfl
theorem changed_s {N : Nat} {fc : Nat → Nat → Nat} {ns : Nat} {sn : Nat → Nat} {od : Nat} {M : Mem} (hK : KM N fc ns sn od M) (hW : WF N fc) {d q : Nat} (hd : d ≤ 9) (hq : q ≤ 99) : ∃ m, fX5_changed M (nI d) (nI q) = some (nI m) ∧ Msk m N (okH fc ns sn d q) := by
  have hN := hW.1
  unfold fX5_changed
  refine loop_up (σ := Nat) (fun k i m => fX5_changed_5 M k (nI d) (nI q) (nI m) (nI i)) (fun i m => m < 2 ^ i ∧ ∀ c, c < i → m.testBit c = okH fc ns sn d q c) (fun o => ∃ m, o = some (nI m) ∧ Msk m N (okH fc ns sn d q)) N (fun k i m hi hI => ?_) (fun k m hI => ?_) 1000 0 0 (by omega) (by omega) ⟨by decide, fun c hc => absurd hc (Nat.not_lt_zero _)⟩
  · left
    have hp : chd fc ns sn q i ≤ 9 := Nat.min_le_left _ _
    have p1 := dpt_le hW hi (q - 1) (stm ns sn (q - 1))
    have p2 := dpt_le hW hi (q - 1 - 1) (stm ns sn (q - 1 - 1))
    obtain ⟨s1, s2⟩ := mk_step hI.1 (okH fc ns sn d q i)
    have step0 : fX5_changed_41 M (fX5_changed_5 M k) (nI d) (nI q) (nI m) (nI i) (nI (dpt fc i (q - 1) (stm ns sn (q - 1)))) (nI (dpt fc i (q - 1 - 1) (stm ns sn (q - 1 - 1)))) = fX5_changed_5 M k (nI d) (nI q) (nI (if okH fc ns sn d q i = true then m ||| 2 ^ i else m)) (nI (i + 1)) := by
      unfold fX5_changed_41
      rw [wi2_s p1 p2]
      by_cases e : d ≤ chd fc ns sn q i
      · rw [if_neg (fun z => by have := (nI_ltI (by omega) (by omega)).mp z; unfold chd at e; omega), if_pos (show okH fc ns sn d q i = true from decide_eq_true e), mk_bit (by omega), mk_or, nI_1]
      · rw [if_pos ((nI_ltI (by omega) (by omega)).mpr (by unfold chd at e; omega)), if_neg (show ¬ okH fc ns sn d q i = true from fun z => e (of_decide_eq_true z)), pL0, mk_or, Nat.or_zero, nI_1]
    refine ⟨if okH fc ns sn d q i = true then m ||| 2 ^ i else m, ⟨s1, fun c hc => ?_⟩, ?_⟩
    · rw [s2 c hc]
      by_cases e : c < i
      · rw [if_pos e]; exact hI.2 c e
      · rw [if_neg e, show c = i by omega]
    · (try dsimp only)
      rw [fX5_changed_5, hK.1.1, if_neg (fun z => by have := (nI_leI (by omega) (by omega)).mp z; omega), mapOf_s hK hW hi hq, bP_s]
      by_cases e : q = 0
      · subst e
        rw [if_pos (show nI 0 = 0 from rfl)]
        exact step0
      · rw [if_neg (fun z => e ((nI_z (by omega)).mp z)), nI_s1 (show 1 ≤ q by omega), mapOf_s hK hW hi (show q - 1 ≤ 99 by omega), bP_s]
        exact step0
  · (try dsimp only)
    rw [fX5_changed_5, hK.1.1, if_pos ((nI_leI (by omega) (by omega)).mpr (Nat.le_refl _))]
    exact ⟨m, rfl, Nat.lt_of_lt_of_le hI.1 (Nat.pow_le_pow_right (show 0 < 2 by omega) hN), hI.2⟩
theorem byMapOf_s {N : Nat} {fc : Nat → Nat → Nat} {ns : Nat} {sn : Nat → Nat} {od : Nat} {M : Mem} (hK : KM N fc ns sn od M) (hW : WF N fc) {d q : Nat} (hd : d ≤ 9) (hq : q ≤ 99) : ∃ M', fX5_byMapOf (nI d) (nI q) M = some (vMap N fc ns sn d q, M') ∧ FrW M M' := by
  obtain ⟨m, m1, m2⟩ := mapped_s hK hW hd hq
  obtain ⟨w, w1, w2⟩ := enough_s hK hW hd hq
  obtain ⟨M', g1, g2⟩ := goes_s hK.1 hW m2 w2
  refine ⟨M', ?_, .of g2⟩
  unfold fX5_byMapOf
  rw [m1, bP_s, w1, bP_s, g1, bW_s]
  rfl
theorem byChangeOf_s {N : Nat} {fc : Nat → Nat → Nat} {ns : Nat} {sn : Nat → Nat} {od : Nat} {M : Mem} (hK : KM N fc ns sn od M) (hW : WF N fc) {d q : Nat} (hd : d ≤ 9) (hq : q ≤ 99) : ∃ M', fX5_byChangeOf (nI d) (nI q) M = some (vChg N fc ns sn d q, M') ∧ FrW M M' := by
  obtain ⟨m, m1, m2⟩ := changed_s hK hW hd hq
  obtain ⟨w, w1, w2⟩ := enough_s hK hW hd hq
  obtain ⟨M', g1, g2⟩ := goes_s hK.1 hW m2 w2
  refine ⟨M', ?_, .of g2⟩
  unfold fX5_byChangeOf
  rw [m1, bP_s, w1, bP_s, g1, bW_s]
  rfl
theorem goesOf_s {N : Nat} {fc : Nat → Nat → Nat} {ns : Nat} {sn : Nat → Nat} {od : Nat} {M : Mem} (hK : KM N fc ns sn od M) (hW : WF N fc) {m m2 : Nat} {ok ok2 : Nat → Bool} (hm : Msk m N ok) (hm2 : Msk m2 N ok2) : ∃ M', fX5_goes (nI m) (nI m2) M = some (gos N fc ok ok2, M') ∧ FrW M M' := by
  obtain ⟨M', g1, g2⟩ := goes_s hK.1 hW hm hm2
  exact ⟨M', g1, .of g2⟩
/-- the reference's count of the ways -/
theorem fways_s {N : Nat} {fc : Nat → Nat → Nat} {ns : Nat} {sn : Nat → Nat} {od : Nat} {M : Mem} (hK : KM N fc ns sn od M) (hW : WF N fc) {m : Nat} {ok : Nat → Bool} (hm : Msk m N ok) : ∃ M' n, fX5_findWays (nI m) M = some (nI n, M') ∧ n = cn N (fun c => fc c 0) (fun c => fc c 1) ok 0 ∧ n < 2 ^ 31 ∧ (0 < n ↔ opn N fc ok = true) ∧ FrW M M' ∧ RowM M' (rws N fc ok) := by
  obtain ⟨M', g1, g2, g3⟩ := findWays_s hK.1 hW hm
  refine ⟨M', _, g1, rfl, cn_lt (wf_up hW) 0, ?_, .of g2, g3⟩
  rw [cn_nx (wf_up hW) 5 0 (by omega) (by omega)]
  unfold opn
  rw [decide_eq_true_eq]
