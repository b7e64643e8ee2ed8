/-! DRAUGHTS AND NIGHTS. -/
def run {σ : Type} (h : Nat → σ → σ) (s : σ) (lo : Nat) : Nat → σ
  | 0 => s
  | n + 1 => if lo ≤ n then h n (run h s lo n) else s
theorem run_0 {σ : Type} (h : Nat → σ → σ) (s : σ) (lo : Nat) : run h s lo lo = s := by
  cases lo with
  | zero => rfl
  | succ n => rw [run, if_neg (by omega)]
theorem run_s {σ : Type} (h : Nat → σ → σ) (s : σ) {lo i : Nat} (hi : lo ≤ i) : run h s lo (i + 1) = h i (run h s lo i) := by
  rw [run, if_pos hi]
theorem run_id {σ : Type} {h : Nat → σ → σ} {s : σ} {lo : Nat} (hh : ∀ j, h j s = s) : ∀ n, run h s lo n = s
  | 0 => rfl
  | n + 1 => by
    rw [run, run_id hh n, hh]
    by_cases e : lo ≤ n
    · rw [if_pos e]
    · rw [if_neg e]
theorem lst_hit {P : Nat → Bool} {N i : Nat} {d : Int32} (hi : i < N) (h : P i = true) (hn : ∀ x, x < i → P x = false) : lst N P d = nI i := by
  obtain ⟨c, c1, c2, c3, c4⟩ := lst_yes (d := d) ⟨i, hi, h⟩
  rcases Nat.lt_trichotomy c i with a | a | a
  · rw [hn c a] at c2; cases c2
  · rw [c3, a]
  · rw [c4 i a] at h; cases h
theorem okR_m1 {x : Int32} {hi : Int} (h : okR x (-1) hi = true) : x = -1 ∨ ∃ q : Nat, x = nI q ∧ (q : Int) ≤ hi := by
  simp only [okR, decide_eq_true_eq] at h
  by_cases e : x.toInt = -1
  · left; rw [pz_eq, e]; decide
  · right; exact ⟨x.toInt.toNat, pz_of (by omega), by omega⟩
theorem rng_2 {α : Type} (x l h : Int32) (a b : α) (lo hi : Int) (hl : l.toInt = lo) (hh : h.toInt = hi + 1) : (if x < l then a else if x < h then b else a) = if okR x lo hi = true then b else a := by
  by_cases e : x < l
  · rw [if_pos e, if_neg]; simp only [okR, decide_eq_true_eq]; rw [pz_lt] at e; omega
  · rw [if_neg e]
    by_cases e2 : x < h
    · rw [if_pos e2, if_pos]; simp only [okR, decide_eq_true_eq]; rw [pz_lt] at e e2; omega
    · rw [if_neg e2, if_neg]; simp only [okR, decide_eq_true_eq]; rw [pz_lt] at e e2; omega
theorem rng_3 {α : Type} (x l h : Int32) (a b : α) (lo hi : Int) (hl : l.toInt = lo) (hh : h.toInt = hi) : (if x < l then a else if x ≤ h then b else a) = if okR x lo hi = true then b else a := by
  by_cases e : x < l
  · rw [if_pos e, if_neg]; simp only [okR, decide_eq_true_eq]; rw [pz_lt] at e; omega
  · rw [if_neg e]
    by_cases e2 : x ≤ h
    · rw [if_pos e2, if_pos]; simp only [okR, decide_eq_true_eq]; rw [pz_lt] at e; rw [pz_le] at e2; omega
    · rw [if_neg e2, if_neg]; simp only [okR, decide_eq_true_eq]; rw [pz_lt] at e; rw [pz_le] at e2; omega
theorem ship_in {d q : Nat} (hd1 : 1 ≤ d) (hd : d ≤ 9) (hq : q ≤ 99) : fX4_isShip (nI d) (nI q) = true := by
  rw [x4_isShip, okR_nI (by omega), okR_nI (by omega)]; simp only [Bool.and_eq_true, decide_eq_true_eq]; omega
theorem night_in {q : Nat} (hq : q ≤ 99) : fX4_isNight (nI q) = true := by
  rw [x4_isNight, okR_nI (by omega)]; simp only [decide_eq_true_eq]; omega
/-- one step of a row of channels, and no channel after the last -/
def stepOf (l : List Nat) (i : Nat) : Int32 := if i < l.length then nI (l.getD i 0) else -1
theorem leastR_s {N : Nat} {fc : Nat → Nat → Nat} {M : Mem} (hCh : Chart N fc M) (hW : WF N fc) {d : Nat} (hd : d < 2 ^ 31) {f : Nat → Nat} (hf : ∀ c, c < N → M 24 c = nI (f c) ∧ f c < 2 ^ 31) : ∃ M', fX1_findLeast 24 (nI d) M = some (opn N fc (fun c => decide (d ≤ f c)), M') ∧ FrR M M' ∧ RowIs M' (rws N fc (fun c => decide (d ≤ f c))) :=
  findLeast_s hCh hW (r2 := 24) (d := nI d) (show 16 ≤ 16 by decide) (show 16 < 2 ^ 31 by decide) (by decide) (by decide) (by decide) (ok := fun c => decide (d ≤ f c)) (fun c hc => by rw [(hf c hc).1, nlt_s (hf c hc).2 hd])
theorem rws_len {N : Nat} {fc : Nat → Nat → Nat} (hW : WF N fc) (ok : Nat → Bool) : (rws N fc ok).length ≤ 5 := (row_in (wf_up hW)).2
theorem tellM_s {M : Mem} {l : List Nat} (h : RowM M l) (hl : l.length ≤ 5) {w : Nat} (hw : w ≤ 4) : (if M 26 15 ≤ nI w then some ((-1 : Int32), M) else gd (inb (nI w) 5) (some (M 35 (nI w).toNatClampNeg, M))) = some (stepOf l w, M) := by
  unfold stepOf
  rw [h.1]
  by_cases e : w < l.length
  · rw [if_neg (fun z => by have := (nI_leI (by omega) (by omega)).mp z; omega), if_pos e, pz_gd (by omega) (by omega), nI_clamp (by omega), h.2 w e]
  · rw [if_pos ((nI_leI (by omega) (by omega)).mpr (by omega)), if_neg e]
def vWays (N : Nat) (fc : Nat → Nat → Nat) (ns : Nat) (sn : Nat → Nat) (d q : Nat) (x : Int32) : Int32 := if x = -1 then nI (cn N (fun c => fc c 0) (fun c => fc c 1) (okD fc d q (stm ns sn q)) 0) else stepOf (rws N fc (okD fc d q (stm ns sn q))) x.toNatClampNeg
theorem ways4_s {N : Nat} {fc : Nat → Nat → Nat} {ns : Nat} {sn : Nat → Nat} {od : Nat} {M : Mem} (hK : KC N fc ns sn od M) (hW : WF N fc) {d q : Nat} (hd1 : 1 ≤ d) (hd : d ≤ 9) (hq : q ≤ 99) (x : Int32) : ∃ M', fX4_ways (nI d) (nI q) x M = some (if okR x (-1) 4 = true then vWays N fc ns sn d q x else -2, M') ∧ FrC M M' := by
  unfold fX4_ways
  rw [if_pos (ship_in hd1 hd hq), rng_2 x (-1) 5 _ _ (-1) 4 (by decide) (by decide)]
  cases e : okR x (-1) 4 with
  | false => rw [if_neg (by decide), if_neg (by decide)]; exact ⟨M, rfl, .rfl M⟩
  | true =>
    rw [if_pos rfl, if_pos rfl, isStormy_s hK.2.1 hq, bP_s]
    obtain ⟨g, g1, g2⟩ := dfill_s (r := 24) hK.1.1 hW (st := stm ns sn q) (show 16 ≤ 16 by decide) (show 16 < 2 ^ 31 by decide) (by decide) (by decide) hq
    have hF := FrC.u24 M g
    have hK1 := hK.keep hF
    have hg : ∀ c, c < N → (upf M 24 g) 24 c = nI (dpt fc c q (stm ns sn q)) ∧ dpt fc c q (stm ns sn q) < 2 ^ 31 := fun c hc => ⟨by rw [upf_eq, g2 c hc], by have := dpt_le hW hc q (stm ns sn q); omega⟩
    rw [g1, bW_s]
    unfold vWays
    rcases okR_m1 e with rfl | ⟨w, rfl, hw⟩
    · obtain ⟨M', t1, t2⟩ := tally_s hK1.1 hW (r2 := 24) (d := nI d) (show 16 ≤ 16 by decide) (show 16 < 2 ^ 31 by decide) (by decide) (ok := okD fc d q (stm ns sn q)) (fun c hc => by rw [(hg c hc).1]; unfold okD; exact decide_eq_decide.mpr (nI_leI (by omega) (hg c hc).2).symm)
      rw [if_pos rfl, if_pos rfl, t1, bW_s]
      exact ⟨M', rfl, hF.trans (.t13 t2)⟩
    · have hw' : w ≤ 4 := by omega
      obtain ⟨M', l1, l2, l3⟩ := least_s hK1.1 hW (show d < 2 ^ 31 by omega) hg
      rw [if_neg (nI_ne_m1 (by omega)), if_neg (nI_ne_m1 (by omega)), l1, bW_s, step_s l3 (rws_len hW _) (by omega), bP_s, nI_clamp (by omega)]
      exact ⟨M', rfl, hF.trans l2⟩
theorem waysOf_s {N : Nat} {fc : Nat → Nat → Nat} {ns : Nat} {sn : Nat → Nat} {od : Nat} {M : Mem} (hK : KM N fc ns sn od M) (hW : WF N fc) {d q : Nat} (hd : d ≤ 9) (hq : q ≤ 99) {x : Int32} (hx : okR x (-1) 4 = true) : ∃ M', fX5_waysOf (nI d) (nI q) x M = some (vWays N fc ns sn d q x, M') ∧ FrW M M' := by
  obtain ⟨m, m1, m2⟩ := enough_s hK hW hd hq
  obtain ⟨M', n, g1, g2, g3, g4, g5, g6⟩ := fways_s hK hW m2
  refine ⟨M', ?_, g5⟩
  unfold fX5_waysOf vWays
  rw [m1, bP_s, g1, bW_s]
  rcases okR_m1 hx with rfl | ⟨w, rfl, hw⟩
  · rw [if_pos rfl, if_pos rfl, g2]
  · rw [if_neg (nI_ne_m1 (by omega)), if_neg (nI_ne_m1 (by omega)), tellM_s g6 (rws_len hW _) (by omega), nI_clamp (by omega)]
/-- the greatest draught -/
def drf (P : Nat → Bool) : Nat → Int32
  | 0 => -1
  | n + 1 => if P (n + 1) = true then nI (n + 1) else drf P n
def vDraft (N : Nat) (fc : Nat → Nat → Nat) (ns : Nat) (sn : Nat → Nat) (q : Nat) : Int32 := drf (fun d => opn N fc (okD fc d q (stm ns sn q))) 9
theorem draft4_s {N : Nat} {fc : Nat → Nat → Nat} {ns : Nat} {sn : Nat → Nat} {od : Nat} {M : Mem} (hK : KC N fc ns sn od M) (hW : WF N fc) {q : Nat} (hq : q ≤ 99) : ∃ M', fX4_draft (nI q) M = some (vDraft N fc ns sn q, M') ∧ FrC M M' := by
  unfold fX4_draft
  obtain ⟨g, g1, g2⟩ := dfill_s (r := 24) hK.1.1 hW (st := stm ns sn q) (show 16 ≤ 16 by decide) (show 16 < 2 ^ 31 by decide) (by decide) (by decide) hq
  rw [if_pos (night_in hq), isStormy_s hK.2.1 hq, bP_s, g1, bW_s]
  refine loop_dn (σ := Mem) (fun k j S => fX4_draft_33 k (nI j) S) (fun j S => j ≤ 9 ∧ FrC M S ∧ (∀ c, c < N → S 24 c = nI (dpt fc c q (stm ns sn q))) ∧ drf (fun d => opn N fc (okD fc d q (stm ns sn q))) j = vDraft N fc ns sn q) (fun o => ∃ M', o = some (vDraft N fc ns sn q, M') ∧ FrC M M') (fun k j S hI => ?_) (fun k S hI => ?_) 1000 9 (upf M 24 g) (by omega) ⟨Nat.le_refl _, FrC.u24 M g, fun c hc => by rw [upf_eq, g2 c hc], rfl⟩
  · obtain ⟨hj, hF, hg, hv⟩ := hI
    obtain ⟨M', l1, l2, l3⟩ := leastR_s (hK.keep hF).1 hW (show j + 1 < 2 ^ 31 by omega) (f := fun c => dpt fc c q (stm ns sn q)) (fun c hc => ⟨hg c hc, by have := dpt_le hW hc q (stm ns sn q); omega⟩)
    (try dsimp only)
    rw [fX4_draft_33, if_neg (fun z => by rw [pL0] at z; have := (nI_leI (by omega) (by omega)).mp z; omega), l1, bW_s]
    rw [drf] at hv
    cases e : opn N fc (okD fc (j + 1) q (stm ns sn q)) with
    | true =>
      right
      rw [e, if_pos rfl] at hv
      rw [if_pos (show opn N fc (fun c => decide (j + 1 ≤ dpt fc c q (stm ns sn q))) = true from e), hv]
      exact ⟨M', rfl, hF.trans (.of l2)⟩
    | false =>
      left
      rw [e, if_neg (by decide)] at hv
      rw [if_neg (show ¬ opn N fc (fun c => decide (j + 1 ≤ dpt fc c q (stm ns sn q))) = true from fun z => Bool.false_ne_true (e.symm.trans z)), pz_m1, pz_s1]
      exact ⟨M', ⟨by omega, hF.trans (.of l2), fun c hc => by rw [l2.1 24 (by decide) (by decide) (by decide)]; exact hg c hc, hv⟩, rfl⟩
  · obtain ⟨hj, hF, hg, hv⟩ := hI
    (try dsimp only)
    rw [fX4_draft_33, if_pos (show nI 0 ≤ 0 by decide)]
    rw [drf] at hv
    rw [← hv]
    exact ⟨S, rfl, hF⟩
theorem draftOf_s {N : Nat} {fc : Nat → Nat → Nat} {ns : Nat} {sn : Nat → Nat} {od : Nat} {M : Mem} (hK : KM N fc ns sn od M) (hW : WF N fc) {q : Nat} (hq : q ≤ 99) : ∃ M', fX5_draftOf (nI q) M = some (vDraft N fc ns sn q, M') ∧ FrW M M' := by
  unfold fX5_draftOf
  refine loop_dn (σ := Mem) (fun k j S => fX5_draftOf_3 k (nI q) (nI j) S) (fun j S => j ≤ 9 ∧ FrW M S ∧ drf (fun d => opn N fc (okD fc d q (stm ns sn q))) j = vDraft N fc ns sn q) (fun o => ∃ M', o = some (vDraft N fc ns sn q, M') ∧ FrW M M') (fun k j S hI => ?_) (fun k S hI => ?_) 1000 9 M (by omega) ⟨Nat.le_refl _, .rfl M, rfl⟩
  · obtain ⟨hj, hF, hv⟩ := hI
    have hK' := hK.keep hF
    obtain ⟨m, m1, m2⟩ := enough_s hK' hW (show j + 1 ≤ 9 by omega) hq
    obtain ⟨M', n, g1, g2, g3, g4, g5, g6⟩ := fways_s hK' hW m2
    (try dsimp only)
    rw [fX5_draftOf_3, if_neg (fun z => by rw [pL0] at z; have := (nI_leI (by omega) (by omega)).mp z; omega), m1, bP_s, g1, bW_s]
    rw [drf] at hv
    cases e : opn N fc (okD fc (j + 1) q (stm ns sn q)) with
    | true =>
      right
      have := g4.mpr e
      rw [e, if_pos rfl] at hv
      rw [if_neg (fun z => by rw [pL0] at z; have := (nI_leI (by omega) (by omega)).mp z; omega), hv]
      exact ⟨M', rfl, hF.trans g5⟩
    | false =>
      left
      have : ¬ 0 < n := fun z => Bool.false_ne_true (e.symm.trans (g4.mp z))
      rw [e, if_neg (by decide)] at hv
      rw [if_pos (by rw [pL0]; exact (nI_leI (by omega) (by omega)).mpr (by omega)), pz_m1, pz_s1]
      exact ⟨M', ⟨by omega, hF.trans g5, hv⟩, rfl⟩
  · obtain ⟨hj, hF, hv⟩ := hI
    (try dsimp only)
    rw [fX5_draftOf_3, if_pos (show nI 0 ≤ 0 by decide)]
    rw [drf] at hv
    rw [← hv]
    exact ⟨S, rfl, hF⟩
/-- the first night -/
def vWaits (N : Nat) (fc : Nat → Nat → Nat) (ns : Nat) (sn : Nat → Nat) (d q : Nat) : Int32 := lst 100 (fun j => decide (q ≤ j) && opn N fc (okD fc d j (stm ns sn j))) (-1)
theorem waits4_s {N : Nat} {fc : Nat → Nat → Nat} {ns : Nat} {sn : Nat → Nat} {od : Nat} {M : Mem} (hK : KC N fc ns sn od M) (hW : WF N fc) {d q : Nat} (hd1 : 1 ≤ d) (hd : d ≤ 9) (hq : q ≤ 99) : ∃ M', fX4_waits (nI d) (nI q) M = some (vWaits N fc ns sn d q, M') ∧ FrC M M' := by
  unfold fX4_waits
  rw [if_pos (ship_in hd1 hd hq)]
  refine loop_up (σ := Mem) (fun k i S => fX4_waits_13 k (nI d) (nI i) S) (fun i S => q ≤ i ∧ FrC M S ∧ ∀ j, q ≤ j → j < i → opn N fc (okD fc d j (stm ns sn j)) = false) (fun o => ∃ M', o = some (vWaits N fc ns sn d q, M') ∧ FrC M M') 100 (fun k i S hi hI => ?_) (fun k S hI => ?_) 1000 q M (by omega) (by omega) ⟨Nat.le_refl _, .rfl M, fun j h1 h2 => by omega⟩
  · obtain ⟨hqi, hF, hn⟩ := hI
    have hK' := hK.keep hF
    obtain ⟨M', o1, o2, _⟩ := isOpen_s (st := stm ns sn i) hK'.1 hW (show d < 2 ^ 31 by omega) (show i ≤ 99 by omega)
    (try dsimp only)
    rw [fX4_waits_13, if_neg (fun z => by rw [pL99] at z; have := (nI_ltI (by omega) (by omega)).mp z; omega), isStormy_s hK'.2.1 (show i ≤ 99 by omega), bP_s, o1, bW_s]
    cases e : opn N fc (okD fc d i (stm ns sn i)) with
    | true =>
      right
      rw [if_pos rfl]
      refine ⟨M', ?_, hF.trans o2⟩
      unfold vWaits
      rw [lst_hit hi (by simp only [Bool.and_eq_true, decide_eq_true_eq]; exact ⟨hqi, e⟩) (fun x hx => ?_)]
      by_cases y : q ≤ x
      · simp only [hn x y hx, Bool.and_false]
      · rw [decide_eq_false y, Bool.false_and]
    | false =>
      left
      rw [if_neg (by decide), nI_1]
      refine ⟨M', ⟨by omega, hF.trans o2, fun j h1 h2 => ?_⟩, rfl⟩
      by_cases y : j = i
      · rw [y]; exact e
      · exact hn j h1 (by omega)
  · obtain ⟨hqi, hF, hn⟩ := hI
    (try dsimp only)
    rw [fX4_waits_13, if_pos (show (99 : Int32) < nI 100 by decide)]
    refine ⟨S, ?_, hF⟩
    unfold vWaits
    rw [lst_no (fun c hc => ?_)]
    by_cases y : q ≤ c
    · simp only [hn c y hc, Bool.and_false]
    · rw [decide_eq_false y, Bool.false_and]
theorem waitsOf_s {N : Nat} {fc : Nat → Nat → Nat} {ns : Nat} {sn : Nat → Nat} {od : Nat} {M : Mem} (hK : KM N fc ns sn od M) (hW : WF N fc) {d q : Nat} (hd : d ≤ 9) (hq : q ≤ 99) : ∃ M', fX5_waitsOf (nI d) (nI q) M = some (vWaits N fc ns sn d q, M') ∧ FrW M M' := by
  unfold fX5_waitsOf
  refine loop_up (σ := Mem) (fun k i S => fX5_waitsOf_2 k (nI d) (nI i) S) (fun i S => q ≤ i ∧ FrW M S ∧ ∀ j, q ≤ j → j < i → opn N fc (okD fc d j (stm ns sn j)) = false) (fun o => ∃ M', o = some (vWaits N fc ns sn d q, M') ∧ FrW M M') 100 (fun k i S hi hI => ?_) (fun k S hI => ?_) 1000 q M (by omega) (by omega) ⟨Nat.le_refl _, .rfl M, fun j h1 h2 => by omega⟩
  · obtain ⟨hqi, hF, hn⟩ := hI
    have hK' := hK.keep hF
    obtain ⟨m, m1, m2⟩ := enough_s hK' hW hd (show i ≤ 99 by omega)
    obtain ⟨M', n, g1, g2, g3, g4, g5, g6⟩ := fways_s hK' hW m2
    (try dsimp only)
    rw [fX5_waitsOf_2, if_neg (fun z => by rw [pL100] at z; have := (nI_leI (by omega) (by omega)).mp z; omega), m1, bP_s, g1, bW_s]
    cases e : opn N fc (okD fc d i (stm ns sn i)) with
    | true =>
      right
      have := g4.mpr e
      rw [if_neg (fun z => by rw [pL0] at z; have := (nI_leI (by omega) (by omega)).mp z; omega)]
      refine ⟨M', ?_, hF.trans g5⟩
      unfold vWaits
      rw [lst_hit hi (by simp only [Bool.and_eq_true, decide_eq_true_eq]; exact ⟨hqi, e⟩) (fun x hx => ?_)]
      by_cases y : q ≤ x
      · simp only [hn x y hx, Bool.and_false]
      · rw [decide_eq_false y, Bool.false_and]
    | false =>
      left
      have : ¬ 0 < n := fun z => Bool.false_ne_true (e.symm.trans (g4.mp z))
      rw [if_pos (by rw [pL0]; exact (nI_leI (by omega) (by omega)).mpr (by omega)), nI_1]
      refine ⟨M', ⟨by omega, hF.trans g5, fun j h1 h2 => ?_⟩, rfl⟩
      by_cases y : j = i
      · rw [y]; exact e
      · exact hn j h1 (by omega)
  · obtain ⟨hqi, hF, hn⟩ := hI
    (try dsimp only)
    rw [fX5_waitsOf_2, if_pos (show (100 : Int32) ≤ nI 100 by decide)]
    refine ⟨S, ?_, hF⟩
    unfold vWaits
    rw [lst_no (fun c hc => ?_)]
    by_cases y : q ≤ c
    · simp only [hn c y hc, Bool.and_false]
    · rw [decide_eq_false y, Bool.false_and]
/-- how many nights the one way of going saves -/
def svd (w : Nat) (mp ch : Bool) : Int32 := if w = 0 then (if (ch && !mp) = true then 1 else 0) else (if (mp && !ch) = true then 1 else 0)
def vSaved (N : Nat) (fc : Nat → Nat → Nat) (ns : Nat) (sn : Nat → Nat) (d w : Nat) : Int32 := run (fun j s => s + svd w (decide (vMap N fc ns sn d j = -1)) (decide (vChg N fc ns sn d j = -1))) 0 2 100
theorem saved4_s {N : Nat} {fc : Nat → Nat → Nat} {ns : Nat} {sn : Nat → Nat} {od : Nat} {M : Mem} (hK : KC N fc ns sn od M) (hW : WF N fc) {d w : Nat} (hd1 : 1 ≤ d) (hd : d ≤ 9) (hw : w < 2) : ∃ M', fX4_saved (nI d) (nI w) M = some (vSaved N fc ns sn d w, M') ∧ FrC M M' := by
  unfold fX4_saved
  rw [if_pos (by rw [x4_isDraught, okR_nI (by omega)]; simp only [decide_eq_true_eq]; omega), if_neg (nI_pos (by omega)), if_pos (by rw [pL1]; exact (nI_leI (by omega) (by omega)).mpr (by omega))]
  refine loop_up (σ := Int32 × Mem) (fun k i S => fX4_saved_24 k (nI d) (nI w) S.1 (nI i) S.2) (fun i S => 2 ≤ i ∧ FrC M S.2 ∧ S.1 = run (fun j s => s + svd w (decide (vMap N fc ns sn d j = -1)) (decide (vChg N fc ns sn d j = -1))) 0 2 i) (fun o => ∃ M', o = some (vSaved N fc ns sn d w, M') ∧ FrC M M') 100 (fun k i S hi hI => ?_) (fun k S hI => ?_) 1000 2 (0, M) (by omega) (by omega) ⟨Nat.le_refl _, .rfl M, (run_0 _ _ _).symm⟩
  · left
    obtain ⟨h2, hF, hs⟩ := hI
    obtain ⟨M1, a1, a2⟩ := passM_s (hK.keep hF) hW hd (show i ≤ 99 by omega)
    obtain ⟨M2, b1, b2⟩ := passC_s (hK.keep (hF.trans a2)) hW hd (show i ≤ 99 by omega)
    refine ⟨(S.1 + svd w (decide (vMap N fc ns sn d i = -1)) (decide (vChg N fc ns sn d i = -1)), M2), ⟨by omega, (hF.trans a2).trans b2, by rw [run_s _ _ h2, hs]⟩, ?_⟩
    (try dsimp only)
    rw [fX4_saved_24, if_neg (fun z => by rw [pL99] at z; have := (nI_ltI (by omega) (by omega)).mp z; omega), a1, bW_s, b1, bW_s]
    unfold svd
    rcases (show w = 0 ∨ w = 1 by omega) with rfl | rfl
    · rw [if_pos (show nI 0 = 0 from rfl), if_pos rfl]
      cases decide (vMap N fc ns sn d i = -1) <;> cases decide (vChg N fc ns sn d i = -1) <;> simp [nI_1, Int32.add_zero]
    · rw [if_neg (show ¬ nI 1 = 0 by decide), if_neg (show ¬ (1 : Nat) = 0 by decide)]
      cases decide (vMap N fc ns sn d i = -1) <;> cases decide (vChg N fc ns sn d i = -1) <;> simp [nI_1, Int32.add_zero]
  · obtain ⟨h2, hF, hs⟩ := hI
    (try dsimp only)
    rw [fX4_saved_24, if_pos (show (99 : Int32) < nI 100 by decide), hs]
    exact ⟨S.2, rfl, hF⟩
theorem savedOf_s {N : Nat} {fc : Nat → Nat → Nat} {ns : Nat} {sn : Nat → Nat} {od : Nat} {M : Mem} (hK : KM N fc ns sn od M) (hW : WF N fc) {d w : Nat} (hd : d ≤ 9) (hw : w < 2) : ∃ M', fX5_savedOf (nI d) (nI w) M = some (vSaved N fc ns sn d w, M') ∧ FrW M M' := by
  unfold fX5_savedOf
  refine loop_up (σ := Int32 × Mem) (fun k i S => fX5_savedOf_5 k (nI d) (nI w) S.1 (nI i) S.2) (fun i S => 2 ≤ i ∧ FrW M S.2 ∧ S.1 = run (fun j s => s + svd w (decide (vMap N fc ns sn d j = -1)) (decide (vChg N fc ns sn d j = -1))) 0 2 i) (fun o => ∃ M', o = some (vSaved N fc ns sn d w, M') ∧ FrW M M') 100 (fun k i S hi hI => ?_) (fun k S hI => ?_) 1000 2 (0, M) (by omega) (by omega) ⟨Nat.le_refl _, .rfl M, (run_0 _ _ _).symm⟩
  · left
    obtain ⟨h2, hF, hs⟩ := hI
    obtain ⟨M1, a1, a2⟩ := byMapOf_s (hK.keep hF) hW hd (show i ≤ 99 by omega)
    obtain ⟨M2, b1, b2⟩ := byChangeOf_s (hK.keep (hF.trans a2)) hW hd (show i ≤ 99 by omega)
    refine ⟨(S.1 + svd w (decide (vMap N fc ns sn d i = -1)) (decide (vChg N fc ns sn d i = -1)), M2), ⟨by omega, (hF.trans a2).trans b2, by rw [run_s _ _ h2, hs]⟩, ?_⟩
    (try dsimp only)
    rw [fX5_savedOf_5, if_neg (fun z => by rw [pL100] at z; have := (nI_leI (by omega) (by omega)).mp z; omega), a1, bW_s]
    unfold svd fX5_savedOf_28 fX5_savedOf_46 fX5_savedOf_67
    rw [b1, bW_s]
    rcases (show w = 0 ∨ w = 1 by omega) with rfl | rfl
    · by_cases y1 : vMap N fc ns sn d i = -1 <;> by_cases y2 : vChg N fc ns sn d i = -1 <;> simp [y1, y2, nI_1, Int32.add_zero, b2i, bW_s, show nI 0 = 0 from rfl]
    · by_cases y1 : vMap N fc ns sn d i = -1 <;> by_cases y2 : vChg N fc ns sn d i = -1 <;> simp [y1, y2, nI_1, Int32.add_zero, b2i, bW_s, show ¬ nI 1 = 0 by decide]
  · obtain ⟨h2, hF, hs⟩ := hI
    (try dsimp only)
    rw [fX5_savedOf_5, if_pos (show (100 : Int32) ≤ nI 100 by decide), hs]
    exact ⟨S.2, rfl, hF⟩
