/-! SEASONS AND CHANCES. -/
/-- one night of a season -/
def ssn (N : Nat) (fc : Nat → Nat → Nat) (ns : Nat) (sn : Nat → Nat) (od d j : Nat) (s : Int32 × Int32) : Int32 × Int32 := (1103515245 * s.1 + 12345, if gos N fc (okD fc d (j - 1) (stm ns sn (j - 1))) (okD fc d j (decide (rmI (ushrI (1103515245 * s.1 + 12345) 16) 16 < nI od) || stm ns sn j)) = -1 then s.2 + 1 else s.2)
def vSeason (N : Nat) (fc : Nat → Nat → Nat) (ns : Nat) (sn : Nat → Nat) (od : Nat) (seed : Int32) (d q l : Nat) : Int32 := (run (ssn N fc ns sn od d) (seed, 0) q (min 100 (q + l))).2
theorem season4_s {N : Nat} {fc : Nat → Nat → Nat} {ns : Nat} {sn : Nat → Nat} {od : Nat} {M : Mem} (hK : KC N fc ns sn od M) (hW : WF N fc) {d q l : Nat} (hd1 : 1 ≤ d) (hd : d ≤ 9) (hq : q ≤ 99) (hl : l ≤ 40) (seed : Int32) : ∃ M', fX4_season seed (nI d) (nI q) (nI l) M = some (vSeason N fc ns sn od seed d q l, M') ∧ FrC M M' := by
  unfold fX4_season
  rw [if_pos (ship_in hd1 hd hq), if_neg (nI_pos (by omega)), if_pos (by rw [pL40]; exact (nI_leI (by omega) (by omega)).mpr hl)]
  have hql : nI q + nI l = nI (q + l) := nI_add _ _
  refine loop_up (σ := (Int32 × Int32) × Mem) (fun k i S => fX4_season_32 k (nI d) (nI q) (nI l) S.1.1 S.1.2 (nI i) S.2) (fun i S => q ≤ i ∧ FrC M S.2 ∧ S.1 = run (ssn N fc ns sn od d) (seed, 0) q i) (fun o => ∃ M', o = some (vSeason N fc ns sn od seed d q l, M') ∧ FrC M M') (min 100 (q + l)) (fun k i S hi hI => ?_) (fun k S hI => ?_) 1000 q ((seed, 0), M) (by omega) (by omega) ⟨Nat.le_refl _, .rfl M, (run_0 _ _ _).symm⟩
  · left
    obtain ⟨hqi, hF, hs⟩ := hI
    have hK' := hK.keep hF
    obtain ⟨M', f1, f2, f3⟩ := findByMap_s hK' hW (show d < 2 ^ 31 by omega) (show i ≤ 99 by omega)
    have kk : ∀ (b : Bool), fX4_season_103 (fX4_season_32 k) (nI d) (nI q) (nI l) (1103515245 * S.1.1 + 12345) S.1.2 (nI i) b S.2 = fX4_season_32 k (nI d) (nI q) (nI l) (1103515245 * S.1.1 + 12345) (if gos N fc (okD fc d (i - 1) (stm ns sn (i - 1))) (okD fc d i b) = -1 then S.1.2 + 1 else S.1.2) (nI (i + 1)) M' := by
      intro b
      unfold fX4_season_103
      rw [f1, bW_s]
      cases e : opn N fc (okD fc d (i - 1) (stm ns sn (i - 1))) with
      | true =>
        rw [if_pos rfl, agd_s (hK'.keep f2).1 hW f3 hd (show i ≤ 99 by omega), bP_s, gos_op e]
        by_cases z : agr (okD fc d i b) (rws N fc (okD fc d (i - 1) (stm ns sn (i - 1)))) = -1
        · rw [if_pos z, if_pos z, nI_1]
        · rw [if_neg z, if_neg z, nI_1]
      | false => rw [if_neg (by decide), gos_m3 e, if_neg (by decide), nI_1]
    refine ⟨(ssn N fc ns sn od d i S.1, M'), ⟨by omega, hF.trans f2, by rw [run_s _ _ hqi, hs]⟩, ?_⟩
    (try dsimp only)
    rw [fX4_season_32, hql, if_neg (fun z => by have := (nI_leI (by omega) (by omega)).mp z; omega), if_neg (fun z => by rw [pL99] at z; have := (nI_ltI (by omega) (by omega)).mp z; omega), ltl_s, hK'.2.2]
    unfold ssn fX4_season_79
    by_cases y : rmI (ushrI (1103515245 * S.1.1 + 12345) 16) 16 < nI od
    · rw [if_neg (fun z => by rw [pz_le] at z; rw [pz_lt] at y; omega), if_pos rfl, kk, decide_eq_true y, Bool.true_or]
    · rw [if_pos (by rw [pz_le]; rw [pz_lt] at y; omega), if_neg (by decide), isStormy_s hK'.2.1 (show i ≤ 99 by omega), bP_s, decide_eq_false y, Bool.false_or]
      cases e : stm ns sn i with
      | true => rw [if_pos rfl, kk]
      | false => rw [if_neg (by decide), kk]
  · obtain ⟨hqi, hF, hs⟩ := hI
    (try dsimp only)
    rw [fX4_season_32, hql]
    refine ⟨S.2, ?_, hF⟩
    unfold vSeason
    rw [← hs]
    by_cases e : q + l ≤ 100
    · rw [if_pos ((nI_leI (by omega) (by omega)).mpr (by omega))]
    · rw [if_neg (fun z => by have := (nI_leI (by omega) (by omega)).mp z; omega), if_pos (by rw [pL99]; exact (nI_ltI (by omega) (by omega)).mpr (by omega))]
theorem seasonOf_s {N : Nat} {fc : Nat → Nat → Nat} {ns : Nat} {sn : Nat → Nat} {od : Nat} {M : Mem} (hK : KM N fc ns sn od M) (hW : WF N fc) {d q l : Nat} (hd : d ≤ 9) (hq : q ≤ 99) (hl : l ≤ 40) (seed : Int32) : ∃ M', fX5_seasonOf seed (nI d) (nI q) (nI l) M = some (vSeason N fc ns sn od seed d q l, M') ∧ FrW M M' := by
  unfold fX5_seasonOf
  have hql : nI q + nI l = nI (q + l) := nI_add _ _
  refine loop_up (σ := (Int32 × Int32) × Mem) (fun k i S => fX5_seasonOf_9 k (nI d) (nI q) (nI l) S.1.1 S.1.2 (nI i) S.2) (fun i S => q ≤ i ∧ FrW M S.2 ∧ S.1 = run (ssn N fc ns sn od d) (seed, 0) q i) (fun o => ∃ M', o = some (vSeason N fc ns sn od seed d q l, M') ∧ FrW M M') (min 100 (q + l)) (fun k i S hi hI => ?_) (fun k S hI => ?_) 1000 q ((seed, 0), M) (by omega) (by omega) ⟨Nat.le_refl _, .rfl M, (run_0 _ _ _).symm⟩
  · left
    obtain ⟨hqi, hF, hs⟩ := hI
    have hK' := hK.keep hF
    have kk : ∀ (b : Bool), ∃ M', fX5_seasonOf_66 (fX5_seasonOf_9 k) (nI d) (nI q) (nI l) (1103515245 * S.1.1 + 12345) S.1.2 (nI i) b S.2 = fX5_seasonOf_9 k (nI d) (nI q) (nI l) (1103515245 * S.1.1 + 12345) (if gos N fc (okD fc d (i - 1) (stm ns sn (i - 1))) (okD fc d i b) = -1 then S.1.2 + 1 else S.1.2) (nI (i + 1)) M' ∧ FrW S.2 M' := by
      intro b
      obtain ⟨m, m1, m2⟩ := mapped_s hK' hW hd (show i ≤ 99 by omega)
      obtain ⟨v, v1, v2⟩ := enoughIn_s hK'.1 hW (st := b) hd (show i ≤ 99 by omega)
      obtain ⟨M', g1, g2⟩ := goesOf_s hK' hW m2 (show Msk v N (okD fc d i b) from v2)
      refine ⟨M', ?_, g2⟩
      unfold fX5_seasonOf_66
      rw [m1, bP_s, v1, bP_s, g1, bW_s]
      by_cases z : gos N fc (okD fc d (i - 1) (stm ns sn (i - 1))) (okD fc d i b) = -1
      · rw [if_pos z, if_pos z, nI_1]
      · rw [if_neg z, if_neg z, nI_1, Int32.add_zero]
    obtain ⟨M', k1, k2⟩ := kk (decide (rmI (ushrI (1103515245 * S.1.1 + 12345) 16) 16 < nI od) || stm ns sn i)
    refine ⟨(ssn N fc ns sn od d i S.1, M'), ⟨by omega, hF.trans k2, by rw [run_s _ _ hqi, hs]⟩, ?_⟩
    (try dsimp only)
    rw [fX5_seasonOf_9, hql, if_neg (fun z => by have := (nI_leI (by omega) (by omega)).mp z; omega), if_neg (fun z => by rw [pL100] at z; have := (nI_leI (by omega) (by omega)).mp z; omega), ltl_s, hK'.2.2]
    unfold ssn
    by_cases y : rmI (ushrI (1103515245 * S.1.1 + 12345) 16) 16 < nI od
    · rw [decide_eq_true y, Bool.true_or] at k1
      rw [if_pos y, k1, decide_eq_true y, Bool.true_or]
    · rw [decide_eq_false y, Bool.false_or] at k1
      rw [if_neg y, isStorm_s hK'.2.1 (show i ≤ 99 by omega), bP_s, decide_eq_false y, Bool.false_or]
      cases e : stm ns sn i with
      | true => rw [e] at k1; rw [if_pos rfl, k1]
      | false => rw [e] at k1; rw [if_neg (by decide), k1]
  · obtain ⟨hqi, hF, hs⟩ := hI
    (try dsimp only)
    rw [fX5_seasonOf_9, hql]
    refine ⟨S.2, ?_, hF⟩
    unfold vSeason
    rw [← hs]
    by_cases e : q + l ≤ 100
    · rw [if_pos ((nI_leI (by omega) (by omega)).mpr (by omega))]
    · rw [if_neg (fun z => by have := (nI_leI (by omega) (by omega)).mp z; omega), if_pos (by rw [pL100]; exact (nI_leI (by omega) (by omega)).mpr (by omega))]
/-- a chance of sixteen, in its lowest terms -/
def rat16 (a w : Nat) : Int32 := nI (if w = 0 then a / Nat.gcd a 16 else 16 / Nat.gcd a 16)
set_option maxRecDepth 100000 in
theorem low16_s : ∀ a, a < 17 → ∀ w, w < 2 → fX4_inLowestTerms (nI a) 16 (nI w) = some (rat16 a w) := by decide +kernel
set_option maxRecDepth 100000 in
theorem com16_s : ∀ a, a < 17 → fX5_common (nI a) 16 = some (nI (Nat.gcd a 16)) := by decide +kernel
/-- the chance that a ship gets through -/
def chN6 (N : Nat) (fc : Nat → Nat → Nat) (od d q : Nat) : Nat := (if opn N fc (okD fc d q true) = true then od else 0) + (if opn N fc (okD fc d q false) = true then 16 - od else 0)
theorem chN6_le {N : Nat} {fc : Nat → Nat → Nat} {od d q : Nat} (h : od ≤ 16) : chN6 N fc od d q < 17 := by
  unfold chN6
  cases opn N fc (okD fc d q true) <;> cases opn N fc (okD fc d q false) <;> simp only [Bool.false_eq_true, if_true, if_false] <;> omega
theorem through4_s {N : Nat} {fc : Nat → Nat → Nat} {ns : Nat} {sn : Nat → Nat} {od : Nat} {M : Mem} (hK : KC N fc ns sn od M) (hW : WF N fc) (ho : od ≤ 16) {d q w : Nat} (hd1 : 1 ≤ d) (hd : d ≤ 9) (hq : q ≤ 99) (hw : w < 2) : ∃ M', fX4_through (nI d) (nI q) (nI w) M = some (rat16 (chN6 N fc od d q) w, M') ∧ FrC M M' := by
  have hle := chN6_le (N := N) (fc := fc) (d := d) (q := q) ho
  obtain ⟨M1, a1, a2, _⟩ := isOpen_s (st := true) hK.1 hW (show d < 2 ^ 31 by omega) hq
  have hK1 := hK.keep a2
  obtain ⟨M2, b1, b2, _⟩ := isOpen_s (st := false) hK1.1 hW (show d < 2 ^ 31 by omega) hq
  have hK2 := hK1.keep b2
  refine ⟨M2, ?_, a2.trans b2⟩
  have s16 : (16 : Int32) - nI od = nI (16 - od) := by rw [pL16]; exact pk_sub ho
  unfold fX4_through
  rw [if_pos (ship_in hd1 hd hq), if_neg (nI_pos (by omega)), if_pos (by rw [pL1]; exact (nI_leI (by omega) (by omega)).mpr (by omega)), a1, bW_s, hK1.2.2]
  unfold fX4_through_42 fX4_through_64
  rw [b1]
  have fin : ∀ (x : Int32), x = nI (chN6 N fc od d q) → (bP (fX4_inLowestTerms x 16 (nI w)) fun z5 => some (z5, M2)) = some (rat16 (chN6 N fc od d q) w, M2) := by
    intro x hx
    rw [hx, low16_s _ hle w hw, bP_s]
  unfold chN6 at fin ⊢
  cases e1 : opn N fc (okD fc d q true) <;> cases e2 : opn N fc (okD fc d q false) <;> simp only [e1, e2, bW_s, Bool.false_eq_true, if_true, if_false, ltl_s, hK2.2.2, s16] at fin ⊢
  · exact fin _ rfl
  · exact fin _ (by rw [show (0 : Int32) = nI 0 from rfl, nI_add])
  · exact fin _ (by rw [show (0 : Int32) = nI 0 from rfl, nI_add, Nat.add_comm])
  · exact fin _ (by rw [show (0 : Int32) = nI 0 from rfl, nI_add, nI_add, Nat.zero_add])
theorem throughOf_s {N : Nat} {fc : Nat → Nat → Nat} {ns : Nat} {sn : Nat → Nat} {od : Nat} {M : Mem} (hK : KM N fc ns sn od M) (hW : WF N fc) (ho : od ≤ 16) {d q w : Nat} (hd : d ≤ 9) (hq : q ≤ 99) (hw : w < 2) : ∃ M', fX5_throughOf (nI d) (nI q) (nI w) M = some (rat16 (chN6 N fc od d q) w, M') ∧ FrW M M' := by
  have hle := chN6_le (N := N) (fc := fc) (d := d) (q := q) ho
  obtain ⟨m, m1, m2⟩ := enoughIn_s hK.1 hW (st := true) hd hq
  obtain ⟨M1, n, g1, g2, g3, g4, g5, g6⟩ := fways_s hK hW m2
  have hK1 := hK.keep g5
  obtain ⟨v, v1, v2⟩ := enoughIn_s hK1.1 hW (st := false) hd hq
  obtain ⟨M2, u, h1, h2, h3, h4, h5, h6⟩ := fways_s hK1 hW v2
  have hK2 := hK1.keep h5
  refine ⟨M2, ?_, g5.trans h5⟩
  have s16 : (16 : Int32) - nI od = nI (16 - od) := by rw [pL16]; exact pk_sub ho
  have gp : ∀ a, 0 < Nat.gcd a 16 ∧ Nat.gcd a 16 ≤ 16 := fun a => ⟨Nat.gcd_pos_of_pos_right _ (by decide), Nat.gcd_le_right _ (by decide)⟩
  have fin : ∀ (x : Int32), x = nI (chN6 N fc od d q) → (if nI w = 0 then fX5_throughOf_65 x x M2 else fX5_throughOf_65 x 16 M2) = some (rat16 (chN6 N fc od d q) w, M2) := by
    intro x hx
    have gp' := gp (chN6 N fc od d q)
    unfold fX5_throughOf_65 rat16
    rw [hx, com16_s _ hle, bP_s, bP_s, pz_gd0 gp'.1 (by omega), pz_gd0 gp'.1 (by omega)]
    rcases (show w = 0 ∨ w = 1 by omega) with rfl | rfl
    · rw [if_pos (show nI 0 = 0 from rfl), if_pos rfl, pk_div (by omega) gp'.1 (by omega)]
    · rw [if_neg (show ¬ nI 1 = 0 by decide), if_neg (show ¬ (1 : Nat) = 0 by decide), pL16, pk_div (by omega) gp'.1 (by omega)]
  have p1 : (nI n ≤ 0) ↔ ¬ opn N fc (okD fc d q true) = true := by
    rw [pL0, nI_leI g3 (by omega)]
    exact ⟨fun z y => by have := g4.mpr y; omega, fun z => by have := mt g4.mp z; omega⟩
  have p2 : (nI u ≤ 0) ↔ ¬ opn N fc (okD fc d q false) = true := by
    rw [pL0, nI_leI h3 (by omega)]
    exact ⟨fun z y => by have := h4.mpr y; omega, fun z => by have := mt h4.mp z; omega⟩
  unfold fX5_throughOf
  rw [m1, bP_s, g1, bW_s]
  unfold fX5_throughOf_22 fX5_throughOf_51
  rw [v1, bP_s, bP_s, h1, bW_s, bW_s, hK1.2.2, hK2.2.2, s16]
  unfold chN6 at fin ⊢
  cases e1 : opn N fc (okD fc d q true) <;> cases e2 : opn N fc (okD fc d q false) <;> simp only [e1, e2, Bool.false_eq_true, not_true_eq_false, not_false_eq_true, iff_true, iff_false, if_true, if_false] at fin p1 p2 ⊢
  · rw [if_pos p1, if_pos p2]; exact fin _ rfl
  · rw [if_pos p1, if_neg p2]; exact fin _ (by rw [show (0 : Int32) = nI 0 from rfl, nI_add])
  · rw [if_neg p1, if_pos p2]; exact fin _ (by rw [show (0 : Int32) = nI 0 from rfl, nI_add])
  · rw [if_neg p1, if_neg p2]; exact fin _ (by rw [nI_add])
