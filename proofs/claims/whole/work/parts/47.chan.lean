/-! QUESTIONS ABOUT A CHANNEL, BOTH SIDES. -/
def BthP (f : Mem → Option Int32) (g : Mem → Option (Int32 × Mem)) (M : Mem) : Prop := ∃ v M2, f M = some v ∧ g M = some (v, M2) ∧ Inv M2
theorem bthP_q {f : Mem → Option Int32} {g : Mem → Option (Int32 × Mem)} {M : Mem} (h : Inv M) (hq : ∀ t n ns sn od, IT t n ns sn od M → ∃ v, f M = some v ∧ (∀ M2, fX5_reads M = some (faultI t n, M2) → KM (chN t n) (fcN t) ns sn od M2 → FrQ M M2 → ∃ M3, g M = some (v, M3) ∧ FrQ M2 M3)) : BthP f g M := by
  have h' := h
  obtain ⟨⟨t, n, ns, sn, od, h1⟩, _⟩ := h'
  obtain ⟨v, e1, e3⟩ := hq t n ns sn od h1
  obtain ⟨M2, m1, m2, m3⟩ := rd_s h1
  obtain ⟨M3, n1, n2⟩ := e3 M2 m1 m2 m3
  exact ⟨v, M3, e1, n1, h.Q (m3.trans n2)⟩
theorem FrQ.zm {sz : Nat} {sd : Nat → Nat → Nat} {M S : Mem} (h : FrQ M S) (z : ZM sz sd M) : ZM sz sd S := z.keep (h.2 16 (by decide) (by decide) (by decide)) (h.1 36 (by decide) (by decide) (by decide) (by decide) (by decide) (by decide) (by decide))
theorem FrE.zm {sz : Nat} {sd : Nat → Nat → Nat} {M S : Mem} (h : FrE M S) (z : ZM sz sd M) : ZM sz sd S := z.keep (by rw [h 26 (by decide) (by decide) (by decide)]) (h 36 (by decide) (by decide) (by decide))
theorem laws_q {M : Mem} (h : Inv M) (x1 x2 : Int32) : BthP (fun M => fX4_laws M x1 x2) (fX5_laws x1 x2) M := by
  obtain ⟨sz, sd, z1, z2, z3⟩ := h.2.2.1
  refine bthP_q h (fun t n ns sn od hI => ?_)
  have hW := hI.wf
  have hK := hI.1.2.2
  cases e1 : chB (chN t n) x1 with
  | false => exact ⟨-2, by unfold fX4_laws; rw [has_s hK.1.1 hW, e1, if_neg Bool.false_ne_true], fun M2 m1 hKM _ => ⟨M2, by unfold fX5_laws; rw [m1, bW_s, isCh_s hKM.1 hW, e1, if_neg Bool.false_ne_true], .rfl M2⟩⟩
  | true =>
    obtain ⟨c, rfl, hc⟩ := chB_t e1
    refine ⟨_, laws4_s hK hW z1 z3 hc x2, fun M2 m1 hKM hF => ⟨M2, ?_, .rfl M2⟩⟩
    unfold fX5_laws
    rw [m1, bW_s, isCh_s hKM.1 hW, e1, if_pos rfl, show fX5_in x2.toInt64 (-1) 35 = okR x2 (-1) 35 from x5_inR x2 (-1) 35]
    cases e2 : okR x2 (-1) 35 with
    | false => rw [if_neg Bool.false_ne_true, if_neg Bool.false_ne_true]
    | true => rw [if_pos rfl, if_pos rfl, lawsOf_s hKM.1 hW (hF.zm z2) z3 hc x2, bP_s]
theorem next_q {M : Mem} (h : Inv M) (x1 x2 : Int32) : BthP (fun M => fX4_next M x1 x2) (fX5_next x1 x2) M := by
  obtain ⟨sz, sd, z1, z2, z3⟩ := h.2.2.1
  refine bthP_q h (fun t n ns sn od hI => ?_)
  have hW := hI.wf
  have hK := hI.1.2.2
  cases e1 : chB (chN t n) x1 with
  | false => exact ⟨-2, by unfold fX4_next; rw [has_s hK.1.1 hW, e1, if_neg Bool.false_ne_true], fun M2 m1 hKM _ => ⟨M2, by unfold fX5_next; rw [m1, bW_s, isCh_s hKM.1 hW, e1, if_neg Bool.false_ne_true], .rfl M2⟩⟩
  | true =>
    obtain ⟨c, rfl, hc⟩ := chB_t e1
    cases e2 : okR x2 0 99 with
    | false => exact ⟨-2, by unfold fX4_next; rw [has_s hK.1.1 hW, e1, if_pos rfl, x4_isNight, e2, if_neg Bool.false_ne_true], fun M2 m1 hKM _ => ⟨M2, by unfold fX5_next; rw [m1, bW_s, isCh_s hKM.1 hW, e1, if_pos rfl, x5_isNight, e2, if_neg Bool.false_ne_true], .rfl M2⟩⟩
    | true =>
      obtain ⟨q, rfl, hq⟩ := okR_0 e2
      refine ⟨_, next4_s hK hW z1 z3 hc (show q ≤ 99 by omega), fun M2 m1 hKM hF => ⟨M2, ?_, .rfl M2⟩⟩
      unfold fX5_next
      rw [m1, bW_s, isCh_s hKM.1 hW, e1, if_pos rfl, x5_isNight, e2, if_pos rfl, nextOf_s hKM.1 hW (hF.zm z2) z3 hc (show q ≤ 99 by omega), bP_s]
theorem tells_q {M : Mem} (h : Inv M) (x1 x2 : Int32) : Bth (fX4_tells x1 x2) (fX5_tells x1 x2) M := by
  obtain ⟨sz, sd, z1, z2, z3⟩ := h.2.2.1
  refine bth_q h (fun t n ns sn od hI => ?_)
  have hW := hI.wf
  have hK := hI.1.2.2
  cases e1 : chB (chN t n) x1 with
  | false => exact ⟨-2, M, by unfold fX4_tells; rw [has_s hK.1.1 hW, e1, if_neg Bool.false_ne_true], .rfl M, fun _ M2 m1 hKM _ => ⟨M2, by unfold fX5_tells; rw [m1, bW_s, isCh_s hKM.1 hW, e1, if_neg Bool.false_ne_true], .rfl M2⟩⟩
  | true =>
    obtain ⟨c, rfl, hc⟩ := chB_t e1
    cases e2 : okR x2 0 99 with
    | false => exact ⟨-2, M, by unfold fX4_tells; rw [has_s hK.1.1 hW, e1, if_pos rfl, x4_isNight, e2, if_neg Bool.false_ne_true], .rfl M, fun _ M2 m1 hKM _ => ⟨M2, by unfold fX5_tells; rw [m1, bW_s, isCh_s hKM.1 hW, e1, if_pos rfl, x5_isNight, e2, if_neg Bool.false_ne_true], .rfl M2⟩⟩
    | true =>
      obtain ⟨q, rfl, hq⟩ := okR_0 e2
      obtain ⟨M1, c1, c2⟩ := tells4_s hK hW z1 z3 hc (show q ≤ 99 by omega)
      refine ⟨_, M1, c1, .o10 c2, fun hI1 M2 m1 hKM hF => ?_⟩
      obtain ⟨M3, n1, n2⟩ := tellsNight_s hKM.1 hW (hF.zm ((FrE.o10 c2).zm z2)) z3 hc (show q ≤ 99 by omega)
      refine ⟨M3, ?_, .o78 n2⟩
      unfold fX5_tells
      rw [m1, bW_s, isCh_s hKM.1 hW, e1, if_pos rfl, x5_isNight, e2, if_pos rfl, n1, bW_s]
theorem deep4_s {N : Nat} {fc : Nat → Nat → Nat} {ns : Nat} {sn : Nat → Nat} {od : Nat} {M : Mem} (hK : KC N fc ns sn od M) (hW : WF N fc) (x1 x2 : Int32) : fX4_deep M x1 x2 = some (if (chB N x1 && okR x2 0 99) = true then nI (dpt fc x1.toNatClampNeg x2.toNatClampNeg (stm ns sn x2.toNatClampNeg)) else -2) := by
  have hN := hW.1
  unfold fX4_deep
  rw [has_s hK.1.1 hW]
  cases e1 : chB N x1 with
  | false => rw [if_neg Bool.false_ne_true, Bool.false_and, if_neg Bool.false_ne_true]
  | true =>
    obtain ⟨c, rfl, hc⟩ := chB_t e1
    rw [if_pos rfl, x4_isNight, Bool.true_and]
    cases e2 : okR x2 0 99 with
    | false => rw [if_neg Bool.false_ne_true, if_neg Bool.false_ne_true]
    | true =>
      obtain ⟨q, rfl, hq⟩ := okR_0 e2
      rw [if_pos rfl, if_pos rfl, isStormy_s hK.2.1 (show q ≤ 99 by omega), bP_s, depth_s hK.1.1 hW hc (show q ≤ 99 by omega), bP_s, nI_clamp (by omega), nI_clamp (by omega)]
theorem deep_q {M : Mem} (h : Inv M) (x1 x2 : Int32) : BthP (fun M => fX4_deep M x1 x2) (fX5_deep x1 x2) M := by
  refine bthP_q h (fun t n ns sn od hI => ?_)
  have hW := hI.wf
  have hN := hW.1
  have hK := hI.1.2.2
  refine ⟨_, deep4_s hK hW x1 x2, fun M2 m1 hKM hF => ⟨M2, ?_, .rfl M2⟩⟩
  unfold fX5_deep
  rw [m1, bW_s, isCh_s hKM.1 hW]
  cases e1 : chB (chN t n) x1 with
  | false => rw [if_neg Bool.false_ne_true, Bool.false_and, if_neg Bool.false_ne_true]
  | true =>
    obtain ⟨c, rfl, hc⟩ := chB_t e1
    rw [if_pos rfl, x5_isNight, Bool.true_and]
    cases e2 : okR x2 0 99 with
    | false => rw [if_neg Bool.false_ne_true, if_neg Bool.false_ne_true]
    | true =>
      obtain ⟨q, rfl, hq⟩ := okR_0 e2
      rw [if_pos rfl, if_pos rfl, deepOf_s hKM hW hc (show q ≤ 99 by omega), bP_s, nI_clamp (by omega), nI_clamp (by omega)]
theorem map4_s {N : Nat} {fc : Nat → Nat → Nat} {ns : Nat} {sn : Nat → Nat} {od : Nat} {M : Mem} (hK : KC N fc ns sn od M) (hW : WF N fc) {q : Nat} (hq : q ≤ 99) {c : Nat} (hc : c < N) : fX4_map M (nI c) (nI q) = some (nI (dpt fc c (q - 1) (stm ns sn (q - 1)))) := by
  have hN := hW.1
  unfold fX4_map
  rw [night_in hq, if_pos rfl, night_s (by omega), deep4_s hK hW, show chB N (nI c) = true from decide_eq_true (by rw [pz_ti (by omega)]; omega), okR_nI (by omega), decide_eq_true (by omega), Bool.true_and, if_pos rfl, bP_s, nI_clamp (by omega), nI_clamp (by omega)]
theorem map_q {M : Mem} (h : Inv M) (x1 x2 : Int32) : BthP (fun M => fX4_map M x1 x2) (fX5_map x1 x2) M := by
  refine bthP_q h (fun t n ns sn od hI => ?_)
  have hW := hI.wf
  have hN := hW.1
  have hK := hI.1.2.2
  cases e2 : okR x2 0 99 with
  | false =>
    refine ⟨-2, by unfold fX4_map; rw [x4_isNight, e2, if_neg Bool.false_ne_true], fun M2 m1 hKM _ => ⟨M2, ?_, .rfl M2⟩⟩
    unfold fX5_map
    rw [m1, bW_s, x5_isNight, e2]
    cases fX5_isChannel M2 x1 with
    | false => rw [if_neg Bool.false_ne_true]
    | true => rw [if_pos rfl, if_neg Bool.false_ne_true]
  | true =>
    obtain ⟨q, rfl, hq⟩ := okR_0 e2
    cases e1 : chB (chN t n) x1 with
    | false =>
      refine ⟨-2, ?_, fun M2 m1 hKM _ => ⟨M2, ?_, .rfl M2⟩⟩
      · unfold fX4_map
        rw [x4_isNight, e2, if_pos rfl, deep4_s hK hW, e1, Bool.false_and, if_neg Bool.false_ne_true, bP_s]
      · unfold fX5_map
        rw [m1, bW_s, isCh_s hKM.1 hW, e1, if_neg Bool.false_ne_true]
    | true =>
      obtain ⟨c, rfl, hc⟩ := chB_t e1
      refine ⟨_, map4_s hK hW (show q ≤ 99 by omega) hc, fun M2 m1 hKM hF => ⟨M2, ?_, .rfl M2⟩⟩
      unfold fX5_map
      rw [m1, bW_s, isCh_s hKM.1 hW, e1, if_pos rfl, x5_isNight, e2, if_pos rfl, mapOf_s hKM hW hc (show q ≤ 99 by omega), bP_s]
