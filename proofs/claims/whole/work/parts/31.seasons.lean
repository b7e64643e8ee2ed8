/-! WRECKS, WORTH, SEASONS, CHANCES. -/
theorem gos_m3 {N : Nat} {fc : Nat → Nat → Nat} {ok : Nat → Bool} (h : opn N fc ok = false) (ok2 : Nat → Bool) : gos N fc ok ok2 = -3 := by rw [gos_of, h, if_neg (by decide)]
theorem gos_op {N : Nat} {fc : Nat → Nat → Nat} {ok : Nat → Bool} (h : opn N fc ok = true) (ok2 : Nat → Bool) : gos N fc ok ok2 = agr ok2 (rws N fc ok) := by rw [gos_of, h, if_pos rfl]
theorem nI_ne_m3 {a : Nat} (h : a < 2 ^ 31) : ¬ (-3 : Int32) = nI a := fun z => by
  have := congrArg Int32.toInt z
  rw [pz_ti h, show (-3 : Int32).toInt = -3 by decide] at this
  omega
/-- the nights whose map wrecks the ship in channel c on the night q -/
def wrk (N : Nat) (fc : Nat → Nat → Nat) (ns : Nat) (sn : Nat → Nat) (d c q b : Nat) (s : Int32) : Int32 := if gos N fc (okD fc d (q - b - 1) (stm ns sn (q - b - 1))) (okD fc d q (stm ns sn q)) = nI c then s ||| shlI 1 (nI b) else s
def vWreck (N : Nat) (fc : Nat → Nat → Nat) (ns : Nat) (sn : Nat → Nat) (d c q : Nat) : Int32 := run (wrk N fc ns sn d c q) 0 0 (min 31 (q + 1))
theorem wreck4_s {N : Nat} {fc : Nat → Nat → Nat} {ns : Nat} {sn : Nat → Nat} {od : Nat} {M : Mem} (hK : KC N fc ns sn od M) (hW : WF N fc) {d c q : Nat} (hd1 : 1 ≤ d) (hd : d ≤ 9) (hc : c < N) (hq : q ≤ 99) : ∃ M', fX4_wreck (nI d) (nI c) (nI q) M = some (vWreck N fc ns sn d c q, M') ∧ FrC M M' := by
  have hN := hW.1
  unfold fX4_wreck
  rw [if_pos (ship_in hd1 hd hq), if_pos (by unfold fX0_hasChannel; rw [hK.1.1.1, if_neg (nI_pos (by omega)), if_neg (fun z => by have := (nI_leI (by omega) (by omega)).mp z; omega)]), isStormy_s hK.2.1 hq, bP_s]
  refine loop_up (σ := Int32 × Mem) (fun k i S => fX4_wreck_38 k (nI d) (nI c) (nI q) (stm ns sn q) S.1 (nI i) S.2) (fun i S => FrC M S.2 ∧ S.1 = run (wrk N fc ns sn d c q) 0 0 i) (fun o => ∃ M', o = some (vWreck N fc ns sn d c q, M') ∧ FrC M M') (min 31 (q + 1)) (fun k i S hi hI => ?_) (fun k S hI => ?_) 1000 0 (0, M) (by omega) (by omega) ⟨.rfl M, rfl⟩
  · left
    obtain ⟨hF, hs⟩ := hI
    have hK' := hK.keep hF
    obtain ⟨M', f1, f2, f3⟩ := findByMap_s hK' hW (show d < 2 ^ 31 by omega) (show q - i ≤ 99 by omega)
    refine ⟨(wrk N fc ns sn d c q i S.1, M'), ⟨hF.trans f2, by rw [run_s _ _ (Nat.zero_le _), hs]⟩, ?_⟩
    (try dsimp only)
    rw [fX4_wreck_38, if_neg (fun z => by rw [pL30] at z; have := (nI_ltI (by omega) (by omega)).mp z; omega), if_neg (fun z => by have := (nI_ltI (by omega) (by omega)).mp z; omega), pk_sub (by omega), f1, bW_s]
    unfold wrk
    cases e : opn N fc (okD fc d (q - i - 1) (stm ns sn (q - i - 1))) with
    | true =>
      rw [if_pos rfl, agd_s (hK'.keep f2).1 hW f3 hd hq, bP_s, gos_op e]
      by_cases z : agr (okD fc d q (stm ns sn q)) (rws N fc (okD fc d (q - i - 1) (stm ns sn (q - i - 1)))) = nI c
      · rw [if_pos z, if_pos z, nI_1]
      · rw [if_neg z, if_neg z, nI_1]
    | false => rw [if_neg (by decide), gos_m3 e, if_neg (nI_ne_m3 (by omega)), nI_1]
  · obtain ⟨hF, hs⟩ := hI
    (try dsimp only)
    rw [fX4_wreck_38]
    by_cases e : q + 1 ≤ 30
    · rw [show min 31 (q + 1) = q + 1 by omega] at hs ⊢
      rw [if_neg (fun z => by rw [pL30] at z; have := (nI_ltI (by omega) (by omega)).mp z; omega), if_pos ((nI_ltI (by omega) (by omega)).mpr (by omega)), hs]
      refine ⟨S.2, ?_, hF⟩
      unfold vWreck
      rw [show min 31 (q + 1) = q + 1 by omega]
    · rw [if_pos (by rw [pL30]; exact (nI_ltI (by omega) (by omega)).mpr (by omega)), hs]
      exact ⟨S.2, rfl, hF⟩
theorem wreckOf_s {N : Nat} {fc : Nat → Nat → Nat} {ns : Nat} {sn : Nat → Nat} {od : Nat} {M : Mem} (hK : KM N fc ns sn od M) (hW : WF N fc) {d c q : Nat} (hd : d ≤ 9) (hc : c < N) (hq : q ≤ 99) : ∃ M', fX5_wreckOf (nI d) (nI c) (nI q) M = some (vWreck N fc ns sn d c q, M') ∧ FrW M M' := by
  have hN := hW.1
  obtain ⟨w, w1, w2⟩ := enough_s hK hW hd hq
  unfold fX5_wreckOf
  rw [w1, bP_s]
  refine loop_up (σ := Int32 × Mem) (fun k i S => fX5_wreckOf_14 k (nI d) (nI c) (nI q) (nI w) S.1 (nI i) S.2) (fun i S => FrW M S.2 ∧ S.1 = run (wrk N fc ns sn d c q) 0 0 i) (fun o => ∃ M', o = some (vWreck N fc ns sn d c q, M') ∧ FrW M M') (min 31 (q + 1)) (fun k i S hi hI => ?_) (fun k S hI => ?_) 1000 0 (0, M) (by omega) (by omega) ⟨.rfl M, rfl⟩
  · left
    obtain ⟨hF, hs⟩ := hI
    have hK' := hK.keep hF
    obtain ⟨m, m1, m2⟩ := mapped_s hK' hW hd (show q - i ≤ 99 by omega)
    obtain ⟨M', g1, g2⟩ := goesOf_s hK' hW m2 w2
    refine ⟨(wrk N fc ns sn d c q i S.1, M'), ⟨hF.trans g2, by rw [run_s _ _ (Nat.zero_le _), hs]⟩, ?_⟩
    (try dsimp only)
    rw [fX5_wreckOf_14, if_neg (fun z => by rw [pL31] at z; have := (nI_leI (by omega) (by omega)).mp z; omega), if_neg (fun z => by have := (nI_ltI (by omega) (by omega)).mp z; omega), pk_sub (by omega), m1, bP_s, g1, bW_s]
    unfold wrk
    by_cases z : gos N fc (okD fc d (q - i - 1) (stm ns sn (q - i - 1))) (okD fc d q (stm ns sn q)) = nI c
    · rw [if_pos z, if_pos z, nI_1]
    · rw [if_neg z, if_neg z, nI_1, Int32.or_zero]
  · obtain ⟨hF, hs⟩ := hI
    (try dsimp only)
    rw [fX5_wreckOf_14]
    by_cases e : q + 1 ≤ 30
    · rw [show min 31 (q + 1) = q + 1 by omega] at hs ⊢
      rw [if_neg (fun z => by rw [pL31] at z; have := (nI_leI (by omega) (by omega)).mp z; omega), if_pos ((nI_ltI (by omega) (by omega)).mpr (by omega)), hs]
      refine ⟨S.2, ?_, hF⟩
      unfold vWreck
      rw [show min 31 (q + 1) = q + 1 by omega]
    · rw [if_pos (by rw [pL31]; exact (nI_leI (by omega) (by omega)).mpr (by omega)), hs]
      exact ⟨S.2, rfl, hF⟩
/-- what the map is worth -/
def wth (N : Nat) (fc : Nat → Nat → Nat) (ns : Nat) (sn : Nat → Nat) (d j : Nat) (s : Int32) : Int32 := if vMap N fc ns sn d j = -1 then s + 1 else s
def wtl (N : Nat) (fc : Nat → Nat → Nat) (ns : Nat) (sn : Nat → Nat) (d q j : Nat) (s : Int32) : Int32 := if gos N fc (okD fc d (q - 1) (stm ns sn (q - 1))) (okD fc d j (stm ns sn j)) = -1 then s + 1 else s
def vWorth (N : Nat) (fc : Nat → Nat → Nat) (ns : Nat) (sn : Nat → Nat) (d q : Nat) : Int32 := run (wth N fc ns sn d) 0 q (min 100 (q + 10)) - run (wtl N fc ns sn d q) 0 q (min 100 (q + 10))
theorem worth4_s {N : Nat} {fc : Nat → Nat → Nat} {ns : Nat} {sn : Nat → Nat} {od : Nat} {M : Mem} (hK : KC N fc ns sn od M) (hW : WF N fc) {d q : Nat} (hd1 : 1 ≤ d) (hd : d ≤ 9) (hq : q ≤ 99) : ∃ M', fX4_worth (nI d) (nI q) M = some (vWorth N fc ns sn d q, M') ∧ FrC M M' := by
  unfold fX4_worth
  rw [if_pos (ship_in hd1 hd hq)]
  have h10 : nI q + 10 = nI (q + 10) := by rw [pL10, nI_add]
  have stop : ∀ {α : Type} (a b : α), (if nI q + 10 ≤ nI (min 100 (q + 10)) then a else if (99 : Int32) < nI (min 100 (q + 10)) then a else b) = a := by
    intro α a b
    rw [h10]
    by_cases e : q + 10 ≤ 100
    · rw [if_pos ((nI_leI (by omega) (by omega)).mpr (by omega))]
    · rw [if_neg (fun z => by have := (nI_leI (by omega) (by omega)).mp z; omega), if_pos (by rw [pL99]; exact (nI_ltI (by omega) (by omega)).mpr (by omega))]
  have go : ∀ {α : Type} (a b : α) (i : Nat), i < min 100 (q + 10) → (if nI q + 10 ≤ nI i then a else if (99 : Int32) < nI i then a else b) = b := by
    intro α a b i hi
    rw [h10, if_neg (fun z => by have := (nI_leI (by omega) (by omega)).mp z; omega), if_neg (fun z => by rw [pL99] at z; have := (nI_ltI (by omega) (by omega)).mp z; omega)]
  refine loop_up (σ := Int32 × Mem) (fun k i S => fX4_worth_19 k (nI d) (nI q) S.1 (nI i) S.2) (fun i S => q ≤ i ∧ FrC M S.2 ∧ S.1 = run (wth N fc ns sn d) 0 q i) (fun o => ∃ M', o = some (vWorth N fc ns sn d q, M') ∧ FrC M M') (min 100 (q + 10)) (fun k i S hi hI => ?_) (fun k S hI => ?_) 1000 q (0, M) (by omega) (by omega) ⟨Nat.le_refl _, .rfl M, (run_0 _ _ _).symm⟩
  · left
    obtain ⟨hqi, hF, hs⟩ := hI
    have hK' := hK.keep hF
    obtain ⟨M', f1, f2, f3⟩ := findByMap_s hK' hW (show d < 2 ^ 31 by omega) (show i ≤ 99 by omega)
    refine ⟨(wth N fc ns sn d i S.1, M'), ⟨by omega, hF.trans f2, by rw [run_s _ _ hqi, hs]⟩, ?_⟩
    (try dsimp only)
    rw [fX4_worth_19, go _ _ i hi, isStormy_s hK'.2.1 (show i ≤ 99 by omega), bP_s, f1, bW_s]
    unfold wth vMap
    cases e : opn N fc (okD fc d (i - 1) (stm ns sn (i - 1))) with
    | true =>
      rw [if_pos rfl, agd_s (hK'.keep f2).1 hW f3 hd (show i ≤ 99 by omega), bP_s, gos_op e]
      by_cases z : agr (okD fc d i (stm ns sn i)) (rws N fc (okD fc d (i - 1) (stm ns sn (i - 1)))) = -1
      · rw [if_pos z, if_pos z, nI_1]
      · rw [if_neg z, if_neg z, nI_1]
    | false => rw [if_neg (by decide), gos_m3 e, if_neg (by decide), nI_1]
  · obtain ⟨hqi, hF, hs⟩ := hI
    have hK' := hK.keep hF
    obtain ⟨M', f1, f2, f3⟩ := findByMap_s hK' hW (show d < 2 ^ 31 by omega) (show q ≤ 99 by omega)
    (try dsimp only)
    rw [fX4_worth_19, stop]
    unfold fX4_worth_78
    rw [f1, bW_s]
    cases e : opn N fc (okD fc d (q - 1) (stm ns sn (q - 1))) with
    | false =>
      rw [if_neg (by decide), hs]
      refine ⟨M', ?_, hF.trans f2⟩
      unfold vWorth
      rw [run_id (h := wtl N fc ns sn d q) (s := 0) (fun j => by unfold wtl; rw [gos_m3 e, if_neg (by decide)]), Int32.sub_zero]
    | true =>
      rw [if_pos rfl]
      have hK2 := hK'.keep f2
      refine loop_up (σ := Int32) (fun k i s => fX4_worth_92 k (nI d) (nI q) S.1 s (nI i) M') (fun i s => q ≤ i ∧ s = run (wtl N fc ns sn d q) 0 q i) (fun o => ∃ M', o = some (vWorth N fc ns sn d q, M') ∧ FrC M M') (min 100 (q + 10)) (fun k i s hi hI => ?_) (fun k s hI => ?_) 1000 q 0 (by omega) (by omega) ⟨Nat.le_refl _, (run_0 _ _ _).symm⟩
      · left
        obtain ⟨hqi, hs'⟩ := hI
        refine ⟨wtl N fc ns sn d q i s, ⟨by omega, by rw [run_s _ _ hqi, hs']⟩, ?_⟩
        (try dsimp only)
        rw [fX4_worth_92, go _ _ i hi, isStormy_s hK2.2.1 (show i ≤ 99 by omega), bP_s, agd_s hK2.1 hW f3 hd (show i ≤ 99 by omega), bP_s]
        unfold wtl
        rw [gos_op e]
        by_cases z : agr (okD fc d i (stm ns sn i)) (rws N fc (okD fc d (q - 1) (stm ns sn (q - 1)))) = -1
        · rw [if_pos z, if_pos z, nI_1]
        · rw [if_neg z, if_neg z, nI_1]
      · obtain ⟨hqi, hs'⟩ := hI
        (try dsimp only)
        rw [fX4_worth_92, stop, hs, hs']
        exact ⟨M', rfl, hF.trans f2⟩
theorem i32_ac (a b c d : Int32) : a - b + c - d = a + c - (b + d) := by
  simp only [Int32.sub_eq_add_neg, Int32.neg_add]
  ac_rfl
theorem worthOf_s {N : Nat} {fc : Nat → Nat → Nat} {ns : Nat} {sn : Nat → Nat} {od : Nat} {M : Mem} (hK : KM N fc ns sn od M) (hW : WF N fc) {d q : Nat} (hd : d ≤ 9) (hq : q ≤ 99) : ∃ M', fX5_worthOf (nI d) (nI q) M = some (vWorth N fc ns sn d q, M') ∧ FrW M M' := by
  obtain ⟨w, w1, w2⟩ := mapped_s hK hW hd hq
  unfold fX5_worthOf
  rw [w1, bP_s]
  have h10 : nI q + 10 = nI (q + 10) := by rw [pL10, nI_add]
  refine loop_up (σ := Int32 × Mem) (fun k i S => fX5_worthOf_13 k (nI d) (nI q) S.1 (nI w) (nI i) S.2) (fun i S => q ≤ i ∧ FrW M S.2 ∧ S.1 = run (wth N fc ns sn d) 0 q i - run (wtl N fc ns sn d q) 0 q i) (fun o => ∃ M', o = some (vWorth N fc ns sn d q, M') ∧ FrW M M') (min 100 (q + 10)) (fun k i S hi hI => ?_) (fun k S hI => ?_) 1000 q (0, M) (by omega) (by omega) ⟨Nat.le_refl _, .rfl M, by rw [run_0, run_0]; rfl⟩
  · left
    obtain ⟨hqi, hF, hs⟩ := hI
    obtain ⟨M1, a1, a2⟩ := byMapOf_s (hK.keep hF) hW hd (show i ≤ 99 by omega)
    have hK1 := hK.keep (hF.trans a2)
    obtain ⟨v, v1, v2⟩ := enough_s hK1 hW hd (show i ≤ 99 by omega)
    obtain ⟨M2, b1, b2⟩ := goesOf_s hK1 hW w2 v2
    refine ⟨(run (wth N fc ns sn d) 0 q (i + 1) - run (wtl N fc ns sn d q) 0 q (i + 1), M2), ⟨by omega, (hF.trans a2).trans b2, rfl⟩, ?_⟩
    (try dsimp only)
    rw [fX5_worthOf_13, h10, if_neg (fun z => by have := (nI_leI (by omega) (by omega)).mp z; omega), if_neg (fun z => by rw [pL100] at z; have := (nI_leI (by omega) (by omega)).mp z; omega), a1, bW_s, run_s _ _ hqi, run_s _ _ hqi, hs]
    unfold fX5_worthOf_46
    rw [v1]
    unfold wth wtl
    by_cases y1 : vMap N fc ns sn d i = -1
    · rw [if_pos y1, if_pos y1, bP_s, b1, bW_s]
      by_cases y2 : gos N fc (okD fc d (q - 1) (stm ns sn (q - 1))) (okD fc d i (stm ns sn i)) = -1
      · rw [if_pos y2, if_pos y2, ltl_s, show b2i true = 1 from rfl, i32_ac, nI_1]
      · rw [if_neg y2, if_neg y2, ltl_s, show b2i true = 1 from rfl, i32_ac, nI_1, Int32.add_zero]
    · rw [if_neg y1, if_neg y1, bP_s, b1, bW_s]
      by_cases y2 : gos N fc (okD fc d (q - 1) (stm ns sn (q - 1))) (okD fc d i (stm ns sn i)) = -1
      · rw [if_pos y2, if_pos y2, ltl_s, show b2i false = 0 from rfl, i32_ac, nI_1, Int32.add_zero]
      · rw [if_neg y2, if_neg y2, ltl_s, show b2i false = 0 from rfl, i32_ac, nI_1, Int32.add_zero, Int32.add_zero]
  · obtain ⟨hqi, hF, hs⟩ := hI
    (try dsimp only)
    rw [fX5_worthOf_13, h10]
    refine ⟨S.2, ?_, hF⟩
    by_cases e : q + 10 ≤ 100
    · rw [if_pos ((nI_leI (by omega) (by omega)).mpr (by omega)), hs]; rfl
    · rw [if_neg (fun z => by have := (nI_leI (by omega) (by omega)).mp z; omega), if_pos (by rw [pL100]; exact (nI_leI (by omega) (by omega)).mpr (by omega)), hs]; rfl
