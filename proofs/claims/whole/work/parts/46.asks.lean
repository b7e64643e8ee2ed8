/-! THE QUESTIONS, BOTH SIDES. (written by mk46.py) -/
def chB (N : Nat) (x : Int32) : Bool := decide (0 ≤ x.toInt ∧ x.toInt < N)
theorem chB_t {N : Nat} {x : Int32} (h : chB N x = true) : ∃ c, x = nI c ∧ c < N := by
  unfold chB at h
  have h' := of_decide_eq_true h
  exact ⟨x.toInt.toNat, pz_of h'.1, by omega⟩
theorem has_s {N : Nat} {fc : Nat → Nat → Nat} {M : Mem} (hC : CF N fc M) (hW : WF N fc) (x : Int32) : fX0_hasChannel M x = chB N x := by
  have hN := hW.1
  unfold fX0_hasChannel chB
  rw [hC.1]
  by_cases h1 : x < 0
  · rw [if_pos h1, decide_eq_false]; rw [pz_lt, show (0 : Int32).toInt = 0 by decide] at h1; omega
  · rw [if_neg h1]
    rw [pz_lt, show (0 : Int32).toInt = 0 by decide] at h1
    by_cases h2 : nI N ≤ x
    · rw [if_pos h2, decide_eq_false]; rw [pz_le, pz_ti (by omega)] at h2; omega
    · rw [if_neg h2, decide_eq_true]; rw [pz_le, pz_ti (by omega)] at h2; omega
theorem isCh_s {N : Nat} {fc : Nat → Nat → Nat} {M : Mem} (hC : MF N fc M) (hW : WF N fc) (x : Int32) : fX5_isChannel M x = chB N x := by
  have hN := hW.1
  unfold fX5_isChannel chB
  have hz : (Int32.toInt64 (nI N - 1)).toInt = (N : Int) - 1 := by rw [i64_ti, pL1, pk_sub_toInt (by omega) (by omega)]; rfl
  rw [hC.1, x5_in, hz, i64_ti, show (0 : Int64).toInt = 0 by decide]
  exact decide_eq_decide.mpr (by omega)
theorem two_s (x : Int32) : fX5_isTwo x = okR x 0 1 := x5_inR x 0 1

theorem waits_q {M : Mem} (h : Inv M) (x1 x2 : Int32) : Bth (fX4_waits x1 x2) (fX5_waits x1 x2) M := by
  refine bth_q h (fun t n ns sn od hI => ?_)
  have hW := hI.wf
  have hK := hI.1.2.2
  have ho := hI.2.2
  cases e1 : okR x1 1 9 with
  | false => exact ⟨-2, M, by unfold fX4_waits; rw [x4_isShip, e1, Bool.false_and, if_neg Bool.false_ne_true], .rfl M, fun _ M2 m1 _ _ => ⟨M2, by unfold fX5_waits; rw [m1, bW_s, x5_isDraught, e1, if_neg Bool.false_ne_true], .rfl M2⟩⟩
  | true =>
    cases e2 : okR x2 0 99 with
    | false => exact ⟨-2, M, by unfold fX4_waits; rw [x4_isShip, e1, e2, Bool.true_and, if_neg Bool.false_ne_true], .rfl M, fun _ M2 m1 _ _ => ⟨M2, by unfold fX5_waits; rw [m1, bW_s, x5_isDraught, e1, if_pos rfl, x5_isNight, e2, if_neg Bool.false_ne_true], .rfl M2⟩⟩
    | true =>
      obtain ⟨d, rfl, hd1, hd⟩ := okR_t e1 (by decide)
      obtain ⟨q, rfl, hq⟩ := okR_0 e2
      obtain ⟨M1, c1, c2⟩ := waits4_s hK hW (d := d) (q := q) (by omega) (by omega) (by omega)
      refine ⟨_, M1, c1, .of c2, fun hI1 M2 m1 hKM _ => ?_⟩
      obtain ⟨M3, n1, n2⟩ := waitsOf_s hKM hW (d := d) (q := q) (by omega) (by omega)
      refine ⟨M3, ?_, .of n2⟩
      unfold fX5_waits
      rw [m1, bW_s, x5_isDraught, e1, if_pos rfl, x5_isNight, e2, if_pos rfl, n1, bW_s]

theorem byMap_q {M : Mem} (h : Inv M) (x1 x2 : Int32) : Bth (fX4_byMap x1 x2) (fX5_byMap x1 x2) M := by
  refine bth_q h (fun t n ns sn od hI => ?_)
  have hW := hI.wf
  have hK := hI.1.2.2
  have ho := hI.2.2
  cases e1 : okR x1 1 9 with
  | false => exact ⟨-2, M, by unfold fX4_byMap; rw [x4_isShip, e1, Bool.false_and, if_neg Bool.false_ne_true], .rfl M, fun _ M2 m1 _ _ => ⟨M2, by unfold fX5_byMap; rw [m1, bW_s, x5_isDraught, e1, if_neg Bool.false_ne_true], .rfl M2⟩⟩
  | true =>
    cases e2 : okR x2 0 99 with
    | false => exact ⟨-2, M, by unfold fX4_byMap; rw [x4_isShip, e1, e2, Bool.true_and, if_neg Bool.false_ne_true], .rfl M, fun _ M2 m1 _ _ => ⟨M2, by unfold fX5_byMap; rw [m1, bW_s, x5_isDraught, e1, if_pos rfl, x5_isNight, e2, if_neg Bool.false_ne_true], .rfl M2⟩⟩
    | true =>
      obtain ⟨d, rfl, hd1, hd⟩ := okR_t e1 (by decide)
      obtain ⟨q, rfl, hq⟩ := okR_0 e2
      obtain ⟨M1, c1, c2⟩ := byMap4_s hK hW (d := d) (q := q) (by omega) (by omega) (by omega)
      refine ⟨_, M1, c1, .of c2, fun hI1 M2 m1 hKM _ => ?_⟩
      obtain ⟨M3, n1, n2⟩ := byMapOf_s hKM hW (d := d) (q := q) (by omega) (by omega)
      refine ⟨M3, ?_, .of n2⟩
      unfold fX5_byMap
      rw [m1, bW_s, x5_isDraught, e1, if_pos rfl, x5_isNight, e2, if_pos rfl, n1, bW_s]

theorem byChange_q {M : Mem} (h : Inv M) (x1 x2 : Int32) : Bth (fX4_byChange x1 x2) (fX5_byChange x1 x2) M := by
  refine bth_q h (fun t n ns sn od hI => ?_)
  have hW := hI.wf
  have hK := hI.1.2.2
  have ho := hI.2.2
  cases e1 : okR x1 1 9 with
  | false => exact ⟨-2, M, by unfold fX4_byChange; rw [x4_isShip, e1, Bool.false_and, if_neg Bool.false_ne_true], .rfl M, fun _ M2 m1 _ _ => ⟨M2, by unfold fX5_byChange; rw [m1, bW_s, x5_isDraught, e1, if_neg Bool.false_ne_true], .rfl M2⟩⟩
  | true =>
    cases e2 : okR x2 0 99 with
    | false => exact ⟨-2, M, by unfold fX4_byChange; rw [x4_isShip, e1, e2, Bool.true_and, if_neg Bool.false_ne_true], .rfl M, fun _ M2 m1 _ _ => ⟨M2, by unfold fX5_byChange; rw [m1, bW_s, x5_isDraught, e1, if_pos rfl, x5_isNight, e2, if_neg Bool.false_ne_true], .rfl M2⟩⟩
    | true =>
      obtain ⟨d, rfl, hd1, hd⟩ := okR_t e1 (by decide)
      obtain ⟨q, rfl, hq⟩ := okR_0 e2
      obtain ⟨M1, c1, c2⟩ := byChange4_s hK hW (d := d) (q := q) (by omega) (by omega) (by omega)
      refine ⟨_, M1, c1, .of c2, fun hI1 M2 m1 hKM _ => ?_⟩
      obtain ⟨M3, n1, n2⟩ := byChangeOf_s hKM hW (d := d) (q := q) (by omega) (by omega)
      refine ⟨M3, ?_, .of n2⟩
      unfold fX5_byChange
      rw [m1, bW_s, x5_isDraught, e1, if_pos rfl, x5_isNight, e2, if_pos rfl, n1, bW_s]

theorem worth_q {M : Mem} (h : Inv M) (x1 x2 : Int32) : Bth (fX4_worth x1 x2) (fX5_worth x1 x2) M := by
  refine bth_q h (fun t n ns sn od hI => ?_)
  have hW := hI.wf
  have hK := hI.1.2.2
  have ho := hI.2.2
  cases e1 : okR x1 1 9 with
  | false => exact ⟨-102, M, by unfold fX4_worth; rw [x4_isShip, e1, Bool.false_and, if_neg Bool.false_ne_true], .rfl M, fun _ M2 m1 _ _ => ⟨M2, by unfold fX5_worth; rw [m1, bW_s, x5_isDraught, e1, if_neg Bool.false_ne_true], .rfl M2⟩⟩
  | true =>
    cases e2 : okR x2 0 99 with
    | false => exact ⟨-102, M, by unfold fX4_worth; rw [x4_isShip, e1, e2, Bool.true_and, if_neg Bool.false_ne_true], .rfl M, fun _ M2 m1 _ _ => ⟨M2, by unfold fX5_worth; rw [m1, bW_s, x5_isDraught, e1, if_pos rfl, x5_isNight, e2, if_neg Bool.false_ne_true], .rfl M2⟩⟩
    | true =>
      obtain ⟨d, rfl, hd1, hd⟩ := okR_t e1 (by decide)
      obtain ⟨q, rfl, hq⟩ := okR_0 e2
      obtain ⟨M1, c1, c2⟩ := worth4_s hK hW (d := d) (q := q) (by omega) (by omega) (by omega)
      refine ⟨_, M1, c1, .of c2, fun hI1 M2 m1 hKM _ => ?_⟩
      obtain ⟨M3, n1, n2⟩ := worthOf_s hKM hW (d := d) (q := q) (by omega) (by omega)
      refine ⟨M3, ?_, .of n2⟩
      unfold fX5_worth
      rw [m1, bW_s, x5_isDraught, e1, if_pos rfl, x5_isNight, e2, if_pos rfl, n1, bW_s]

theorem ways_q {M : Mem} (h : Inv M) (x1 x2 x3 : Int32) : Bth (fX4_ways x1 x2 x3) (fX5_ways x1 x2 x3) M := by
  refine bth_q h (fun t n ns sn od hI => ?_)
  have hW := hI.wf
  have hK := hI.1.2.2
  have ho := hI.2.2
  cases e1 : okR x1 1 9 with
  | false => exact ⟨-2, M, by unfold fX4_ways; rw [x4_isShip, e1, Bool.false_and, if_neg Bool.false_ne_true], .rfl M, fun _ M2 m1 _ _ => ⟨M2, by unfold fX5_ways; rw [m1, bW_s, x5_isDraught, e1, if_neg Bool.false_ne_true], .rfl M2⟩⟩
  | true =>
    cases e2 : okR x2 0 99 with
    | false => exact ⟨-2, M, by unfold fX4_ways; rw [x4_isShip, e1, e2, Bool.true_and, if_neg Bool.false_ne_true], .rfl M, fun _ M2 m1 _ _ => ⟨M2, by unfold fX5_ways; rw [m1, bW_s, x5_isDraught, e1, if_pos rfl, x5_isNight, e2, if_neg Bool.false_ne_true], .rfl M2⟩⟩
    | true =>
      obtain ⟨d, rfl, hd1, hd⟩ := okR_t e1 (by decide)
      obtain ⟨q, rfl, hq⟩ := okR_0 e2
      obtain ⟨M1, c1, c2⟩ := ways4_s hK hW (d := d) (q := q) (by omega) (by omega) (by omega) x3
      refine ⟨_, M1, c1, .of c2, fun hI1 M2 m1 hKM _ => ?_⟩
      cases e3 : okR x3 (-1) 4 with
      | false =>
        refine ⟨M2, ?_, .rfl M2⟩
        unfold fX5_ways
        rw [m1, bW_s, x5_isDraught, e1, if_pos rfl, x5_isNight, e2, if_pos rfl, show fX5_in x3.toInt64 (-1) 4 = okR x3 (-1) 4 from x5_inR x3 (-1) 4, e3, if_neg Bool.false_ne_true, if_neg Bool.false_ne_true]
      | true =>
        obtain ⟨M3, n1, n2⟩ := waysOf_s hKM hW (d := d) (q := q) (by omega) (by omega) e3
        refine ⟨M3, ?_, .of n2⟩
        unfold fX5_ways
        rw [m1, bW_s, x5_isDraught, e1, if_pos rfl, x5_isNight, e2, if_pos rfl, show fX5_in x3.toInt64 (-1) 4 = okR x3 (-1) 4 from x5_inR x3 (-1) 4, e3, if_pos rfl, if_pos rfl, n1, bW_s]

theorem safest_q {M : Mem} (h : Inv M) (x1 x2 x3 : Int32) : Bth (fX4_safest x1 x2 x3) (fX5_safest x1 x2 x3) M := by
  refine bth_q h (fun t n ns sn od hI => ?_)
  have hW := hI.wf
  have hK := hI.1.2.2
  have ho := hI.2.2
  cases e1 : okR x1 1 9 with
  | false => exact ⟨-2, M, by unfold fX4_safest; rw [x4_isShip, e1, Bool.false_and, if_neg Bool.false_ne_true], .rfl M, fun _ M2 m1 _ _ => ⟨M2, by unfold fX5_safest; rw [m1, bW_s, x5_isDraught, e1, if_neg Bool.false_ne_true], .rfl M2⟩⟩
  | true =>
    cases e2 : okR x2 0 99 with
    | false => exact ⟨-2, M, by unfold fX4_safest; rw [x4_isShip, e1, e2, Bool.true_and, if_neg Bool.false_ne_true], .rfl M, fun _ M2 m1 _ _ => ⟨M2, by unfold fX5_safest; rw [m1, bW_s, x5_isDraught, e1, if_pos rfl, x5_isNight, e2, if_neg Bool.false_ne_true], .rfl M2⟩⟩
    | true =>
      obtain ⟨d, rfl, hd1, hd⟩ := okR_t e1 (by decide)
      obtain ⟨q, rfl, hq⟩ := okR_0 e2
      obtain ⟨M1, c1, c2⟩ := safest4_s hK hW ho (d := d) (q := q) (by omega) (by omega) (by omega) x3
      refine ⟨_, M1, c1, .of c2, fun hI1 M2 m1 hKM _ => ?_⟩
      cases e3 : okR x3 (-2) 4 with
      | false =>
        refine ⟨M2, ?_, .rfl M2⟩
        unfold fX5_safest
        rw [m1, bW_s, x5_isDraught, e1, if_pos rfl, x5_isNight, e2, if_pos rfl, show fX5_in x3.toInt64 (-2) 4 = okR x3 (-2) 4 from x5_inR x3 (-2) 4, e3, if_neg Bool.false_ne_true, if_neg Bool.false_ne_true]
      | true =>
        obtain ⟨M3, n1, n2⟩ := safestOf_s hKM hW ho (d := d) (q := q) (by omega) (by omega) e3
        refine ⟨M3, ?_, .of n2⟩
        unfold fX5_safest
        rw [m1, bW_s, x5_isDraught, e1, if_pos rfl, x5_isNight, e2, if_pos rfl, show fX5_in x3.toInt64 (-2) 4 = okR x3 (-2) 4 from x5_inR x3 (-2) 4, e3, if_pos rfl, if_pos rfl, n1, bW_s]

theorem through_q {M : Mem} (h : Inv M) (x1 x2 x3 : Int32) : Bth (fX4_through x1 x2 x3) (fX5_through x1 x2 x3) M := by
  refine bth_q h (fun t n ns sn od hI => ?_)
  have hW := hI.wf
  have hK := hI.1.2.2
  have ho := hI.2.2
  cases e1 : okR x1 1 9 with
  | false => exact ⟨-2, M, by unfold fX4_through; rw [x4_isShip, e1, Bool.false_and, if_neg Bool.false_ne_true], .rfl M, fun _ M2 m1 _ _ => ⟨M2, by unfold fX5_through; rw [m1, bW_s, x5_isDraught, e1, if_neg Bool.false_ne_true], .rfl M2⟩⟩
  | true =>
    cases e2 : okR x2 0 99 with
    | false => exact ⟨-2, M, by unfold fX4_through; rw [x4_isShip, e1, e2, Bool.true_and, if_neg Bool.false_ne_true], .rfl M, fun _ M2 m1 _ _ => ⟨M2, by unfold fX5_through; rw [m1, bW_s, x5_isDraught, e1, if_pos rfl, x5_isNight, e2, if_neg Bool.false_ne_true], .rfl M2⟩⟩
    | true =>
      obtain ⟨d, rfl, hd1, hd⟩ := okR_t e1 (by decide)
      obtain ⟨q, rfl, hq⟩ := okR_0 e2
      cases e3 : okR x3 0 1 with
      | false =>
        refine ⟨-2, M, ?_, .rfl M, fun _ M2 m1 _ _ => ⟨M2, ?_, .rfl M2⟩⟩
        · unfold fX4_through
          rw [ship_in (by omega) (by omega) (by omega), if_pos rfl, rng_3 x3 0 1 _ _ 0 1 (by decide) (by decide), e3, if_neg Bool.false_ne_true]
        · unfold fX5_through
          rw [m1, bW_s, x5_isDraught, e1, if_pos rfl, x5_isNight, e2, if_pos rfl, two_s, e3, if_neg Bool.false_ne_true]
      | true =>
        obtain ⟨w, rfl, hw⟩ := okR_0 e3
        obtain ⟨M1, c1, c2⟩ := through4_s hK hW ho (d := d) (q := q) (w := w) (by omega) (by omega) (by omega) (by omega)
        refine ⟨_, M1, c1, .of c2, fun hI1 M2 m1 hKM _ => ?_⟩
        obtain ⟨M3, n1, n2⟩ := throughOf_s hKM hW ho (d := d) (q := q) (w := w) (by omega) (by omega) (by omega)
        refine ⟨M3, ?_, .of n2⟩
        unfold fX5_through
        rw [m1, bW_s, x5_isDraught, e1, if_pos rfl, x5_isNight, e2, if_pos rfl, two_s, e3, if_pos rfl, n1, bW_s]

theorem sure_q {M : Mem} (h : Inv M) (x1 x2 x3 : Int32) : Bth (fX4_sure x1 x2 x3) (fX5_sure x1 x2 x3) M := by
  refine bth_q h (fun t n ns sn od hI => ?_)
  have hW := hI.wf
  have hK := hI.1.2.2
  have ho := hI.2.2
  cases e1 : okR x1 1 9 with
  | false => exact ⟨-2, M, by unfold fX4_sure; rw [x4_isShip, e1, Bool.false_and, if_neg Bool.false_ne_true], .rfl M, fun _ M2 m1 _ _ => ⟨M2, by unfold fX5_sure; rw [m1, bW_s, x5_isDraught, e1, if_neg Bool.false_ne_true], .rfl M2⟩⟩
  | true =>
    cases e2 : okR x2 0 99 with
    | false => exact ⟨-2, M, by unfold fX4_sure; rw [x4_isShip, e1, e2, Bool.true_and, if_neg Bool.false_ne_true], .rfl M, fun _ M2 m1 _ _ => ⟨M2, by unfold fX5_sure; rw [m1, bW_s, x5_isDraught, e1, if_pos rfl, x5_isNight, e2, if_neg Bool.false_ne_true], .rfl M2⟩⟩
    | true =>
      obtain ⟨d, rfl, hd1, hd⟩ := okR_t e1 (by decide)
      obtain ⟨q, rfl, hq⟩ := okR_0 e2
      cases e3 : okR x3 0 4 with
      | false =>
        refine ⟨-2, M, ?_, .rfl M, fun _ M2 m1 _ _ => ⟨M2, ?_, .rfl M2⟩⟩
        · unfold fX4_sure
          rw [ship_in (by omega) (by omega) (by omega), if_pos rfl, rng_2 x3 0 5 _ _ 0 4 (by decide) (by decide), e3, if_neg Bool.false_ne_true]
        · unfold fX5_sure
          rw [m1, bW_s, x5_isDraught, e1, if_pos rfl, x5_isNight, e2, if_pos rfl, show fX5_in x3.toInt64 0 4 = okR x3 0 4 from x5_inR x3 0 4, e3, if_neg Bool.false_ne_true]
      | true =>
        obtain ⟨w, rfl, hw⟩ := okR_0 e3
        obtain ⟨M1, c1, c2⟩ := sure4_s hK hW (d := d) (q := q) (w := w) (by omega) (by omega) (by omega) (by omega)
        refine ⟨_, M1, c1, .of c2, fun hI1 M2 m1 hKM _ => ?_⟩
        obtain ⟨M3, n1, n2⟩ := sureOf_s hKM hW (d := d) (q := q) (w := w) (by omega) (by omega) (by omega)
        refine ⟨M3, ?_, .of n2⟩
        unfold fX5_sure
        rw [m1, bW_s, x5_isDraught, e1, if_pos rfl, x5_isNight, e2, if_pos rfl, show fX5_in (nI w).toInt64 0 4 = okR (nI w) 0 4 from x5_inR (nI w) 0 4, e3, if_pos rfl, n1, bW_s]

theorem draft_q {M : Mem} (h : Inv M) (x1 : Int32) : Bth (fX4_draft x1) (fX5_draft x1) M := by
  refine bth_q h (fun t n ns sn od hI => ?_)
  have hW := hI.wf
  have hK := hI.1.2.2
  cases e1 : okR x1 0 99 with
  | false => exact ⟨-2, M, by unfold fX4_draft; rw [x4_isNight, e1, if_neg Bool.false_ne_true], .rfl M, fun _ M2 m1 _ _ => ⟨M2, by unfold fX5_draft; rw [m1, bW_s, x5_isNight, e1, if_neg Bool.false_ne_true], .rfl M2⟩⟩
  | true =>
    obtain ⟨q, rfl, hq⟩ := okR_0 e1
    obtain ⟨M1, c1, c2⟩ := draft4_s hK hW (q := q) (by omega)
    refine ⟨_, M1, c1, .of c2, fun hI1 M2 m1 hKM _ => ?_⟩
    obtain ⟨M3, n1, n2⟩ := draftOf_s hKM hW (q := q) (by omega)
    refine ⟨M3, ?_, .of n2⟩
    unfold fX5_draft
    rw [m1, bW_s, x5_isNight, e1, if_pos rfl, n1, bW_s]
theorem saved_q {M : Mem} (h : Inv M) (x1 x2 : Int32) : Bth (fX4_saved x1 x2) (fX5_saved x1 x2) M := by
  refine bth_q h (fun t n ns sn od hI => ?_)
  have hW := hI.wf
  have hK := hI.1.2.2
  cases e1 : okR x1 1 9 with
  | false => exact ⟨-2, M, by unfold fX4_saved; rw [x4_isDraught, e1, if_neg Bool.false_ne_true], .rfl M, fun _ M2 m1 _ _ => ⟨M2, by unfold fX5_saved; rw [m1, bW_s, x5_isDraught, e1, if_neg Bool.false_ne_true], .rfl M2⟩⟩
  | true =>
    cases e2 : okR x2 0 1 with
    | false => exact ⟨-2, M, by unfold fX4_saved; rw [x4_isDraught, e1, if_pos rfl, rng_3 x2 0 1 _ _ 0 1 (by decide) (by decide), e2, if_neg Bool.false_ne_true], .rfl M, fun _ M2 m1 _ _ => ⟨M2, by unfold fX5_saved; rw [m1, bW_s, x5_isDraught, e1, if_pos rfl, two_s, e2, if_neg Bool.false_ne_true], .rfl M2⟩⟩
    | true =>
      obtain ⟨d, rfl, hd1, hd⟩ := okR_t e1 (by decide)
      obtain ⟨w, rfl, hw⟩ := okR_0 e2
      obtain ⟨M1, c1, c2⟩ := saved4_s hK hW (d := d) (w := w) (by omega) (by omega) (by omega)
      refine ⟨_, M1, c1, .of c2, fun hI1 M2 m1 hKM _ => ?_⟩
      obtain ⟨M3, n1, n2⟩ := savedOf_s hKM hW (d := d) (w := w) (by omega) (by omega)
      refine ⟨M3, ?_, .of n2⟩
      unfold fX5_saved
      rw [m1, bW_s, x5_isDraught, e1, if_pos rfl, two_s, e2, if_pos rfl, n1, bW_s]
theorem season_q {M : Mem} (h : Inv M) (x1 x2 x3 x4 : Int32) : Bth (fX4_season x1 x2 x3 x4) (fX5_season x1 x2 x3 x4) M := by
  refine bth_q h (fun t n ns sn od hI => ?_)
  have hW := hI.wf
  have hK := hI.1.2.2
  cases e1 : okR x2 1 9 with
  | false => exact ⟨-2, M, by unfold fX4_season; rw [x4_isShip, e1, Bool.false_and, if_neg Bool.false_ne_true], .rfl M, fun _ M2 m1 _ _ => ⟨M2, by unfold fX5_season; rw [m1, bW_s, x5_isDraught, e1, if_neg Bool.false_ne_true], .rfl M2⟩⟩
  | true =>
    cases e2 : okR x3 0 99 with
    | false => exact ⟨-2, M, by unfold fX4_season; rw [x4_isShip, e1, e2, Bool.true_and, if_neg Bool.false_ne_true], .rfl M, fun _ M2 m1 _ _ => ⟨M2, by unfold fX5_season; rw [m1, bW_s, x5_isDraught, e1, if_pos rfl, x5_isNight, e2, if_neg Bool.false_ne_true], .rfl M2⟩⟩
    | true =>
      obtain ⟨d, rfl, hd1, hd⟩ := okR_t e1 (by decide)
      obtain ⟨q, rfl, hq⟩ := okR_0 e2
      have i5 : fX5_in x4.toInt64 0 40 = okR x4 0 40 := x5_inR x4 0 40
      cases e3 : okR x4 0 40 with
      | false =>
        refine ⟨-2, M, ?_, .rfl M, fun _ M2 m1 _ _ => ⟨M2, ?_, .rfl M2⟩⟩
        · unfold fX4_season
          rw [ship_in (by omega) (by omega) (by omega), if_pos rfl, rng_3 x4 0 40 _ _ 0 40 (by decide) (by decide), e3, if_neg Bool.false_ne_true]
        · unfold fX5_season
          rw [m1, bW_s, x5_isDraught, e1, if_pos rfl, x5_isNight, e2, if_pos rfl, i5, e3, if_neg Bool.false_ne_true]
      | true =>
        obtain ⟨l, rfl, hl⟩ := okR_0 e3
        obtain ⟨M1, c1, c2⟩ := season4_s hK hW (d := d) (q := q) (l := l) (by omega) (by omega) (by omega) (by omega) x1
        refine ⟨_, M1, c1, .of c2, fun hI1 M2 m1 hKM _ => ?_⟩
        obtain ⟨M3, n1, n2⟩ := seasonOf_s hKM hW (d := d) (q := q) (l := l) (by omega) (by omega) (by omega) x1
        refine ⟨M3, ?_, .of n2⟩
        unfold fX5_season
        rw [m1, bW_s, x5_isDraught, e1, if_pos rfl, x5_isNight, e2, if_pos rfl, i5, e3, if_pos rfl, n1, bW_s]
theorem wreck_q {M : Mem} (h : Inv M) (x1 x2 x3 : Int32) : Bth (fX4_wreck x1 x2 x3) (fX5_wreck x1 x2 x3) M := by
  refine bth_q h (fun t n ns sn od hI => ?_)
  have hW := hI.wf
  have hK := hI.1.2.2
  cases e1 : okR x1 1 9 with
  | false => exact ⟨-2, M, by unfold fX4_wreck; rw [x4_isShip, e1, Bool.false_and, if_neg Bool.false_ne_true], .rfl M, fun _ M2 m1 _ _ => ⟨M2, by unfold fX5_wreck; rw [m1, bW_s, x5_isDraught, e1, if_neg Bool.false_ne_true], .rfl M2⟩⟩
  | true =>
    cases e2 : okR x3 0 99 with
    | false =>
      refine ⟨-2, M, by unfold fX4_wreck; rw [x4_isShip, e1, e2, Bool.true_and, if_neg Bool.false_ne_true], .rfl M, fun _ M2 m1 _ _ => ⟨M2, ?_, .rfl M2⟩⟩
      unfold fX5_wreck
      rw [m1, bW_s, x5_isDraught, e1, if_pos rfl, x5_isNight, e2]
      cases fX5_isChannel M2 x2 with
      | false => rw [if_neg Bool.false_ne_true]
      | true => rw [if_pos rfl, if_neg Bool.false_ne_true]
    | true =>
      obtain ⟨d, rfl, hd1, hd⟩ := okR_t e1 (by decide)
      obtain ⟨q, rfl, hq⟩ := okR_0 e2
      cases e3 : chB (chN t n) x2 with
      | false =>
        refine ⟨-2, M, ?_, .rfl M, fun _ M2 m1 hKM _ => ⟨M2, ?_, .rfl M2⟩⟩
        · unfold fX4_wreck
          rw [ship_in (by omega) (by omega) (by omega), if_pos rfl, has_s hK.1.1 hW, e3, if_neg Bool.false_ne_true]
        · unfold fX5_wreck
          rw [m1, bW_s, x5_isDraught, e1, if_pos rfl, isCh_s hKM.1 hW, e3, if_neg Bool.false_ne_true]
      | true =>
        obtain ⟨c, rfl, hc⟩ := chB_t e3
        obtain ⟨M1, c1, c2⟩ := wreck4_s hK hW (d := d) (c := c) (q := q) (by omega) (by omega) hc (by omega)
        refine ⟨_, M1, c1, .of c2, fun hI1 M2 m1 hKM _ => ?_⟩
        obtain ⟨M3, n1, n2⟩ := wreckOf_s hKM hW (d := d) (c := c) (q := q) (by omega) hc (by omega)
        refine ⟨M3, ?_, .of n2⟩
        unfold fX5_wreck
        rw [m1, bW_s, x5_isDraught, e1, if_pos rfl, isCh_s hKM.1 hW, e3, if_pos rfl, x5_isNight, e2, if_pos rfl, n1, bW_s]
theorem fault_q {M : Mem} (h : Inv M) : Bth (fun M => some (fX4_fault M, M)) fX5_fault M := by
  refine bth_q h (fun t n ns sn od hI => ?_)
  refine ⟨faultI t n, M, by unfold fX4_fault; rw [hI.1.2.1], .rfl M, fun _ M2 m1 _ _ => ⟨M2, by unfold fX5_fault; rw [m1, bW_s], .rfl M2⟩⟩
