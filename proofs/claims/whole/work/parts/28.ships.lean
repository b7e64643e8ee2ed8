/-! THE CLASS: WHICH CHANNELS ARE DEEP ENOUGH, AND WHERE A SHIP GOES. -/
def FrC (M S : Mem) : Prop := (∀ a, ¬ a = 11 → ¬ a = 12 → ¬ a = 13 → ¬ a = 14 → ¬ a = 24 → ¬ a = 25 → S a = M a) ∧ ∀ k, ¬ k = 3 → S 11 k = M 11 k
theorem FrC.rfl (M : Mem) : FrC M M := ⟨fun _ _ _ _ _ _ _ => Eq.refl _, fun _ _ => Eq.refl _⟩
theorem FrC.trans {M S T : Mem} (h : FrC M S) (g : FrC S T) : FrC M T := ⟨fun a a1 a2 a3 a4 a5 a6 => (g.1 a a1 a2 a3 a4 a5 a6).trans (h.1 a a1 a2 a3 a4 a5 a6), fun k hk => (g.2 k hk).trans (h.2 k hk)⟩
theorem FrC.of {M S : Mem} (h : FrR M S) : FrC M S := ⟨fun a a1 a2 _ a4 _ _ => h.1 a a1 a2 a4, h.2⟩
theorem FrC.u24 (M : Mem) (f : Nat → Int32) : FrC M (upf M 24 f) := ⟨fun a _ _ _ _ a5 _ => upf_id a5, fun k _ => by rw [upf_id (by decide)]⟩
theorem FrC.u25 (M : Mem) (f : Nat → Int32) : FrC M (upf M 25 f) := ⟨fun a _ _ _ _ _ a6 => upf_id a6, fun k _ => by rw [upf_id (by decide)]⟩
theorem FrC.t13 {M S : Mem} (h : ∀ a, ¬ a = 13 → S a = M a) : FrC M S := ⟨fun a _ _ a3 _ _ _ => h a a3, fun k _ => by rw [h 11 (by decide)]⟩
/-- what the class holds of a text -/
def KC (N : Nat) (fc : Nat → Nat → Nat) (ns : Nat) (sn : Nat → Nat) (od : Nat) (M : Mem) : Prop := Chart N fc M ∧ SC ns sn M ∧ M 0 6 = nI od
theorem KC.keep {N : Nat} {fc : Nat → Nat → Nat} {ns : Nat} {sn : Nat → Nat} {od : Nat} {M S : Mem} (h : KC N fc ns sn od M) (f : FrC M S) : KC N fc ns sn od S := by
  have e : ∀ a, a < 11 → S a = M a := fun a ha => f.1 a (by omega) (by omega) (by omega) (by omega) (by omega) (by omega)
  exact ⟨h.1.keep (by rw [e 1 (by decide)]) (e 3 (by decide)) (e 4 (by decide)), ⟨by rw [e 1 (by decide)]; exact h.2.1.1, h.2.1.2.1, fun k hk => by rw [e 5 (by decide)]; exact h.2.1.2.2 k hk⟩, by rw [e 0 (by decide)]; exact h.2.2⟩
theorem dfill_s {N : Nat} {fc : Nat → Nat → Nat} {M : Mem} (hC : CF N fc M) (hW : WF N fc) {r q : Nat} {st : Bool} (hr : 16 ≤ aln r) (hr1 : aln r < 2 ^ 31) (r1 : ¬ 1 = r) (r3 : ¬ 3 = r) (hq : q ≤ 99) : ∃ g, fX0_fill r (nI q) st M = some ((), upf M r g) ∧ ∀ c, c < N → g c = nI (dpt fc c q st) := by
  have hN := hW.1
  unfold fX0_fill
  rw [← upf_self M r]
  refine loop_up (σ := Nat → Int32) (fun k i g => fX0_fill_3 r k (nI q) st (nI i) (upf M r g)) (fun i g => ∀ c, c < i → g c = nI (dpt fc c q st)) (fun o => ∃ g, o = some ((), upf (upf M r (M r)) r g) ∧ ∀ c, c < N → g c = nI (dpt fc c q st)) N (fun k i g hi hI => ?_) (fun k g hI => ?_) 1000 0 (M r) (by omega) (by omega) (fun c hc => absurd hc (Nat.not_lt_zero _))
  · left
    have hS : CF N fc (upf M r g) := ⟨by rw [upf_id r1]; exact hC.1, fun c hc k hk => by rw [upf_id r3]; exact hC.2 c hc k hk⟩
    refine ⟨upd g i (nI (dpt fc i q st)), fun c hc => ?_, ?_⟩
    · by_cases e : c = i
      · rw [e, upd_at]
      · rw [upd_ne e]; exact hI c (by omega)
    · (try dsimp only)
      rw [fX0_fill_3, hS.1, if_neg (fun z => by have := (nI_leI (by omega) (by omega)).mp z; omega), if_neg (fun z => by have := (nI_leI hr1 (by omega)).mp z; omega), depth_s hS hW hi hq, bP_s, pz_gd (by omega) hr1, ltl_s, nI_clamp (by omega), upf_up, upf_eq, upf_upf, nI_1]
  · (try dsimp only)
    rw [fX0_fill_3, upf_id r1, hC.1, if_pos ((nI_leI (by omega) (by omega)).mpr (Nat.le_refl _))]
    exact ⟨g, by rw [upf_upf], hI⟩
theorem nlt_s {a b : Nat} (ha : a < 2 ^ 31) (hb : b < 2 ^ 31) : (!decide (nI a < nI b)) = decide (b ≤ a) := by
  by_cases e : b ≤ a
  · rw [decide_eq_true e, decide_eq_false (fun z => by have := (nI_ltI ha hb).mp z; omega)]; rfl
  · rw [decide_eq_false e, decide_eq_true ((nI_ltI ha hb).mpr (by omega))]; rfl
theorem mx_s (x : Int32) {a b : Nat} (h : x = nI a - nI b) (ha : a < 2 ^ 30) (hb : b < 2 ^ 30) : mx 0 x = nI (a - b) := by
  subst h
  unfold mx
  by_cases z : b < a
  · rw [pk_sub (by omega), if_pos (by rw [pL0]; exact (nI_ltI (by omega) (by omega)).mpr (by omega))]
  · rw [if_neg (fun w => ?_), show a - b = 0 by omega, pL0]
    rw [pz_lt, pL0, pz_ti (by omega), pk_sub_toInt ha hb] at w
    omega
theorem night_s {q : Nat} (hq : q < 2 ^ 30) : fX4_nightShown (nI q) = nI (q - 1) := mx_s _ (by rw [pL1]) hq (by omega)
def okD (fc : Nat → Nat → Nat) (d q : Nat) (st : Bool) (c : Nat) : Bool := decide (d ≤ dpt fc c q st)
/-- the deep that the change of the map shows -/
def chd (fc : Nat → Nat → Nat) (ns : Nat) (sn : Nat → Nat) (q c : Nat) : Nat := min 9 (2 * dpt fc c (q - 1) (stm ns sn (q - 1)) - dpt fc c (q - 1 - 1) (stm ns sn (q - 1 - 1)))
def okH (fc : Nat → Nat → Nat) (ns : Nat) (sn : Nat → Nat) (d q c : Nat) : Bool := decide (d ≤ chd fc ns sn q c)
def opn (N : Nat) (fc : Nat → Nat → Nat) (ok : Nat → Bool) : Bool := decide (¬ nx N (fun c => fc c 0) (fun c => fc c 1) ok 0 = -1)
def rws (N : Nat) (fc : Nat → Nat → Nat) (ok : Nat → Bool) : List Nat := row N (fun c => fc c 0) (fun c => fc c 1) ok
theorem least_s {N : Nat} {fc : Nat → Nat → Nat} {M : Mem} (hCh : Chart N fc M) (hW : WF N fc) {d : Nat} (hd : d < 2 ^ 31) {f : Nat → Nat} (hf : ∀ c, c < N → M 24 c = nI (f c) ∧ f c < 2 ^ 31) : ∃ M', fX1_findLeast 24 (nI d) M = some (opn N fc (fun c => decide (d ≤ f c)), M') ∧ FrC M M' ∧ RowIs M' (rws N fc (fun c => decide (d ≤ f c))) := by
  obtain ⟨M', m1, m2, m3⟩ := findLeast_s hCh hW (r2 := 24) (d := nI d) (show 16 ≤ 16 by decide) (show 16 < 2 ^ 31 by decide) (by decide) (by decide) (by decide) (ok := fun c => decide (d ≤ f c)) (fun c hc => by rw [(hf c hc).1, nlt_s (hf c hc).2 hd])
  exact ⟨M', m1, .of m2, m3⟩
theorem isOpen_s {N : Nat} {fc : Nat → Nat → Nat} {M : Mem} (hCh : Chart N fc M) (hW : WF N fc) {d q : Nat} {st : Bool} (hd : d < 2 ^ 31) (hq : q ≤ 99) : ∃ M', fX4_isOpen (nI d) (nI q) st M = some (opn N fc (okD fc d q st), M') ∧ FrC M M' ∧ RowIs M' (rws N fc (okD fc d q st)) := by
  obtain ⟨g, g1, g2⟩ := dfill_s (r := 24) hCh.1 hW (st := st) (show 16 ≤ 16 by decide) (show 16 < 2 ^ 31 by decide) (by decide) (by decide) hq
  have hS : Chart N fc (upf M 24 g) := hCh.keep (by rw [upf_id (by decide)]) (upf_id (by decide)) (upf_id (by decide))
  obtain ⟨M', m1, m2, m3⟩ := least_s hS hW hd (f := fun c => dpt fc c q st) (fun c hc => ⟨by rw [upf_eq, g2 c hc], by have := dpt_le hW hc q st; omega⟩)
  refine ⟨M', ?_, (FrC.u24 M g).trans m2, m3⟩
  unfold fX4_isOpen
  rw [g1, bW_s, m1, bW_s]
  rfl
theorem findByMap_s {N : Nat} {fc : Nat → Nat → Nat} {ns : Nat} {sn : Nat → Nat} {od : Nat} {M : Mem} (hK : KC N fc ns sn od M) (hW : WF N fc) {d q : Nat} (hd : d < 2 ^ 31) (hq : q ≤ 99) : ∃ M', fX4_findByMap (nI d) (nI q) M = some (opn N fc (okD fc d (q - 1) (stm ns sn (q - 1))), M') ∧ FrC M M' ∧ RowIs M' (rws N fc (okD fc d (q - 1) (stm ns sn (q - 1)))) := by
  have h := isOpen_s (st := stm ns sn (q - 1)) hK.1 hW hd (show q - 1 ≤ 99 by omega)
  unfold fX4_findByMap
  rw [night_s (by omega), isStormy_s hK.2.1 (by omega), bP_s]
  exact h
theorem clamp_s {a b : Nat} (ha : a ≤ 9) (hb : b ≤ 9) : mx 0 (mn 9 ((nI a + nI a) - nI b)) = nI (min 9 (2 * a - b)) := by
  rw [nI_add]
  unfold mn
  by_cases z : a + a - b < 9
  · rw [if_pos (by rw [pz_lt, pk_sub_toInt (by omega) (by omega), pL9, pz_ti (by omega)]; omega), mx_s _ rfl (by omega) (by omega)]
    congr 1
    omega
  · rw [if_neg (fun w => by rw [pz_lt, pk_sub_toInt (by omega) (by omega), pL9, pz_ti (by omega)] at w; omega), show min 9 (2 * a - b) = 9 by omega]
    decide
theorem findByChange_s {N : Nat} {fc : Nat → Nat → Nat} {ns : Nat} {sn : Nat → Nat} {od : Nat} {M : Mem} (hK : KC N fc ns sn od M) (hW : WF N fc) {d q : Nat} (hd : d < 2 ^ 31) (hq : q ≤ 99) : ∃ M', fX4_findByChange (nI d) (nI q) M = some (opn N fc (okH fc ns sn d q), M') ∧ FrC M M' ∧ RowIs M' (rws N fc (okH fc ns sn d q)) := by
  have hN := hW.1
  unfold fX4_findByChange
  rw [ltl_s, mx_s (nI q - 1) (by rw [pL1]) (show q < 2 ^ 30 by omega) (show 1 < 2 ^ 30 by omega), night_s (by omega), night_s (by omega), isStormy_s hK.2.1 (by omega), bP_s]
  obtain ⟨g, g1, g2⟩ := dfill_s (r := 24) hK.1.1 hW (st := stm ns sn (q - 1)) (show 16 ≤ 16 by decide) (show 16 < 2 ^ 31 by decide) (by decide) (by decide) (show q - 1 ≤ 99 by omega)
  rw [g1, bW_s]
  have hK1 := hK.keep (FrC.u24 M g)
  rw [isStormy_s hK1.2.1 (by omega), bP_s]
  obtain ⟨g', g3, g4⟩ := dfill_s (r := 25) hK1.1.1 hW (st := stm ns sn (q - 1 - 1)) (show 16 ≤ 16 by decide) (show 16 < 2 ^ 31 by decide) (by decide) (by decide) (show q - 1 - 1 ≤ 99 by omega)
  rw [g3, bW_s]
  have e0 : upf (upf M 24 g) 25 g' = upf (upf M 25 g') 24 g := by
    funext a
    by_cases h1 : a = 24
    · rw [h1, upf_id (show ¬ 24 = 25 by decide), upf_eq, upf_eq]
    · by_cases h2 : a = 25
      · rw [h2, upf_eq, upf_id (show ¬ 25 = 24 by decide), upf_eq]
      · rw [upf_id h2, upf_id h1, upf_id h1, upf_id h2]
  rw [e0]
  refine loop_up (σ := Nat → Int32) (fun k i f => fX4_findByChange_62 k (nI d) (nI i) (upf (upf M 25 g') 24 f)) (fun i f => ∀ c, c < N → f c = if c < i then nI (chd fc ns sn q c) else g c) (fun o => ∃ M', o = some (opn N fc (okH fc ns sn d q), M') ∧ FrC M M' ∧ RowIs M' (rws N fc (okH fc ns sn d q))) 16 (fun k i f hi hI => ?_) (fun k f hI => ?_) 1000 0 g (by omega) (by omega) (fun c _ => by rw [if_neg (Nat.not_lt_zero _)])
  · left
    refine ⟨upd f i (mx 0 (mn 9 ((f i + f i) - g' i))), fun c hc => ?_, ?_⟩
    · by_cases e : c = i
      · subst e
        rw [upd_at, if_pos (by omega), hI c hc, if_neg (by omega), g2 c hc, g4 c hc, clamp_s (dpt_le hW hc _ _) (dpt_le hW hc _ _)]
        rfl
      · rw [upd_ne e, hI c hc]
        by_cases e2 : c < i
        · rw [if_pos e2, if_pos (by omega)]
        · rw [if_neg e2, if_neg (by omega)]
    · (try dsimp only)
      rw [fX4_findByChange_62, if_neg (fun z => by rw [pL16] at z; have := (nI_leI (by omega) (by omega)).mp z; omega), if_neg (fun z => by rw [pL16] at z; have := (nI_leI (by omega) (by omega)).mp z; omega), pz_gd (by omega) (by omega), pz_gd (by omega) (by omega), pz_gd (by omega) (by omega), ltl_s, pz_gd (by omega) (by omega), ltl_s, nI_clamp (by omega), upf_up, upf_eq, upf_id (show ¬ 25 = 24 by decide), upf_eq, upf_upf, nI_1]
  · (try dsimp only)
    rw [fX4_findByChange_62, if_pos (show (16 : Int32) ≤ nI 16 by decide)]
    unfold fX4_findByChange_131
    have hF : FrC M (upf (upf M 25 g') 24 f) := (FrC.u25 M g').trans (FrC.u24 _ f)
    obtain ⟨M', m1, m2, m3⟩ := least_s (hK.keep hF).1 hW hd (f := fun c => chd fc ns sn q c) (fun c hc => ⟨by rw [upf_eq, hI c hc, if_pos (by omega)], by have : chd fc ns sn q c ≤ 9 := Nat.min_le_left _ _; omega⟩)
    rw [m1, bW_s]
    exact ⟨M', rfl, hF.trans m2, m3⟩
/-- what becomes of a ship -/
def gos (N : Nat) (fc : Nat → Nat → Nat) (ok ok2 : Nat → Bool) : Int32 := goS N (fun c => fc c 0) (fun c => fc c 1) ok ok2
theorem gos_of {N : Nat} {fc : Nat → Nat → Nat} {ok ok2 : Nat → Bool} : gos N fc ok ok2 = if opn N fc ok = true then agr ok2 (rws N fc ok) else -3 := by
  unfold gos goS opn rws
  by_cases e : nx N (fun c => fc c 0) (fun c => fc c 1) ok 0 = -1
  · rw [if_pos e, if_neg (by simp [e])]
  · rw [if_neg e, if_pos (decide_eq_true e)]
theorem agd_s {N : Nat} {fc : Nat → Nat → Nat} {M : Mem} (hCh : Chart N fc M) (hW : WF N fc) {ok : Nat → Bool} (hR : RowIs M (rws N fc ok)) {d q : Nat} {st : Bool} (hd : d ≤ 9) (hq : q ≤ 99) : fX4_aground M (nI d) (nI q) st = some (agr (okD fc d q st) (rws N fc ok)) := by
  obtain ⟨r1, r2⟩ := row_in (ok := ok) (wf_up hW)
  exact aground4_s hCh.1 hW hR r2 (fun c hc => (r1 c hc).1) hd hq
/-- the ship of draught d that goes by the map, by the change, on the night q -/
def vMap (N : Nat) (fc : Nat → Nat → Nat) (ns : Nat) (sn : Nat → Nat) (d q : Nat) : Int32 := gos N fc (okD fc d (q - 1) (stm ns sn (q - 1))) (okD fc d q (stm ns sn q))
def vChg (N : Nat) (fc : Nat → Nat → Nat) (ns : Nat) (sn : Nat → Nat) (d q : Nat) : Int32 := gos N fc (okH fc ns sn d q) (okD fc d q (stm ns sn q))
theorem byMap4_s {N : Nat} {fc : Nat → Nat → Nat} {ns : Nat} {sn : Nat → Nat} {od : Nat} {M : Mem} (hK : KC N fc ns sn od M) (hW : WF N fc) {d q : Nat} (hd1 : 1 ≤ d) (hd : d ≤ 9) (hq : q ≤ 99) : ∃ M', fX4_byMap (nI d) (nI q) M = some (vMap N fc ns sn d q, M') ∧ FrC M M' := by
  obtain ⟨M', m1, m2, m3⟩ := findByMap_s hK hW (show d < 2 ^ 31 by omega) hq
  have hK' := hK.keep m2
  refine ⟨M', ?_, m2⟩
  unfold fX4_byMap vMap
  rw [if_pos (by rw [x4_isShip, okR_nI (by omega), okR_nI (by omega)]; simp only [Bool.and_eq_true, decide_eq_true_eq]; omega), m1, bW_s, gos_of]
  cases e : opn N fc (okD fc d (q - 1) (stm ns sn (q - 1))) with
  | true => rw [if_pos rfl, if_pos rfl, isStormy_s hK'.2.1 hq, bP_s, agd_s hK'.1 hW m3 hd hq, bP_s]
  | false => rw [if_neg (by decide), if_neg (by decide)]
theorem byChange4_s {N : Nat} {fc : Nat → Nat → Nat} {ns : Nat} {sn : Nat → Nat} {od : Nat} {M : Mem} (hK : KC N fc ns sn od M) (hW : WF N fc) {d q : Nat} (hd1 : 1 ≤ d) (hd : d ≤ 9) (hq : q ≤ 99) : ∃ M', fX4_byChange (nI d) (nI q) M = some (vChg N fc ns sn d q, M') ∧ FrC M M' := by
  obtain ⟨M', m1, m2, m3⟩ := findByChange_s hK hW (show d < 2 ^ 31 by omega) hq
  have hK' := hK.keep m2
  refine ⟨M', ?_, m2⟩
  unfold fX4_byChange vChg
  rw [if_pos (by rw [x4_isShip, okR_nI (by omega), okR_nI (by omega)]; simp only [Bool.and_eq_true, decide_eq_true_eq]; omega), m1, bW_s, gos_of]
  cases e : opn N fc (okH fc ns sn d q) with
  | true => rw [if_pos rfl, if_pos rfl, isStormy_s hK'.2.1 hq, bP_s, agd_s hK'.1 hW m3 hd hq, bP_s]
  | false => rw [if_neg (by decide), if_neg (by decide)]
theorem passM_s {N : Nat} {fc : Nat → Nat → Nat} {ns : Nat} {sn : Nat → Nat} {od : Nat} {M : Mem} (hK : KC N fc ns sn od M) (hW : WF N fc) {d q : Nat} (hd : d ≤ 9) (hq : q ≤ 99) : ∃ M', fX4_passesByMap (nI d) (nI q) M = some (decide (vMap N fc ns sn d q = -1), M') ∧ FrC M M' := by
  obtain ⟨M', m1, m2, m3⟩ := findByMap_s hK hW (show d < 2 ^ 31 by omega) hq
  have hK' := hK.keep m2
  refine ⟨M', ?_, m2⟩
  unfold fX4_passesByMap vMap
  rw [m1, bW_s, gos_of]
  cases e : opn N fc (okD fc d (q - 1) (stm ns sn (q - 1))) with
  | true =>
    rw [if_pos rfl, if_pos rfl, isStormy_s hK'.2.1 hq, bP_s, agd_s hK'.1 hW m3 hd hq, bP_s]
    by_cases z : agr (okD fc d q (stm ns sn q)) (rws N fc (okD fc d (q - 1) (stm ns sn (q - 1)))) = -1
    · rw [if_pos z, decide_eq_true z]
    · rw [if_neg z, decide_eq_false z]
  | false => rw [if_neg (by decide), if_neg (by decide)]; rfl
theorem passC_s {N : Nat} {fc : Nat → Nat → Nat} {ns : Nat} {sn : Nat → Nat} {od : Nat} {M : Mem} (hK : KC N fc ns sn od M) (hW : WF N fc) {d q : Nat} (hd : d ≤ 9) (hq : q ≤ 99) : ∃ M', fX4_passesByChange (nI d) (nI q) M = some (decide (vChg N fc ns sn d q = -1), M') ∧ FrC M M' := by
  obtain ⟨M', m1, m2, m3⟩ := findByChange_s hK hW (show d < 2 ^ 31 by omega) hq
  have hK' := hK.keep m2
  refine ⟨M', ?_, m2⟩
  unfold fX4_passesByChange vChg
  rw [m1, bW_s, gos_of]
  cases e : opn N fc (okH fc ns sn d q) with
  | true =>
    rw [if_pos rfl, if_pos rfl, isStormy_s hK'.2.1 hq, bP_s, agd_s hK'.1 hW m3 hd hq, bP_s]
    by_cases z : agr (okD fc d q (stm ns sn q)) (rws N fc (okH fc ns sn d q)) = -1
    · rw [if_pos z, decide_eq_true z]
    · rw [if_neg z, decide_eq_false z]
  | false => rw [if_neg (by decide), if_neg (by decide)]; rfl
