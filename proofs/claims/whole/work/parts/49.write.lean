/-! WRITE. -/
def wvl (b : Nat) (N : Nat) (fc : Nat → Nat → Nat) (ns : Nat) (sn : Nat → Nat) (q c : Nat) : Nat := if b = 0 then dpt fc c q (stm ns sn q) else dpt fc c (q - 1) (stm ns sn (q - 1))
theorem KC.k5 {N : Nat} {fc : Nat → Nat → Nat} {ns : Nat} {sn : Nat → Nat} {od : Nat} {M : Mem} {S : Mem} (h : KC N fc ns sn od M) (h1 : ∀ a, 1 ≤ a → a ≤ 5 → S a = M a) (h0 : S 0 6 = M 0 6) : KC N fc ns sn od S := ⟨h.1.keep (by rw [h1 1 (by decide) (by decide)]) (h1 3 (by decide) (by decide)) (h1 4 (by decide) (by decide)), ⟨by rw [h1 1 (by decide) (by decide)]; exact h.2.1.1, h.2.1.2.1, fun k hk => by rw [h1 5 (by decide) (by decide)]; exact h.2.1.2.2 k hk⟩, h0.trans h.2.2⟩
theorem KM.k3 {N : Nat} {fc : Nat → Nat → Nat} {ns : Nat} {sn : Nat → Nat} {od : Nat} {M : Mem} {S : Mem} (h : KM N fc ns sn od M) (h32 : S 32 = M 32) (h33 : S 33 = M 33) (h8 : S 26 8 = M 26 8) (h10 : S 26 10 = M 26 10) (h12 : S 26 12 = M 26 12) : KM N fc ns sn od S := ⟨h.1.keep h8 h32, ⟨h10.trans h.2.1.1, h.2.1.2.1, fun k hk => by rw [h33]; exact h.2.1.2.2 k hk⟩, h12.trans h.2.2⟩
theorem write4_s {N : Nat} {fc : Nat → Nat → Nat} {ns : Nat} {sn : Nat → Nat} {od : Nat} {M : Mem} (hK : KC N fc ns sn od M) (hW : WF N fc) {k f z b q : Nat} (hk : k < 4) (hf : M (16 + k) 1 = nI f) (hf2 : f ≤ 2) (hz : z ≤ 60) (h2 : M (16 + k) 2 = nI z) (hb : b < 2) (hq : q ≤ 99) : ∃ g, fX4_write_51 1000 (nI b) (nI q) (16 + k) 0 0 M = some (nI (min N z), upf M (20 + k) g) ∧ ∀ i, g i = if i < min N z then fX5_cut (nI f) (nI (wvl b N fc ns sn q i)) else M (20 + k) i := by
  have hN := hW.1
  rw [← upf_self M (20 + k)]
  refine loop_up (σ := Nat → Int32) (fun j i g => fX4_write_51 j (nI b) (nI q) (16 + k) (nI i) (nI i) (upf M (20 + k) g)) (fun i g => ∀ y, g y = if y < i then fX5_cut (nI f) (nI (wvl b N fc ns sn q y)) else M (20 + k) y) (fun o => ∃ g, o = some (nI (min N z), upf (upf M (20 + k) (M (20 + k))) (20 + k) g) ∧ ∀ i, g i = if i < min N z then fX5_cut (nI f) (nI (wvl b N fc ns sn q i)) else (upf M (20 + k) (M (20 + k))) (20 + k) i) (min N z) (fun j i g hi hI => ?_) (fun j g hI => ?_) 1000 0 (M (20 + k)) (by omega) (by omega) (fun y => by rw [if_neg (Nat.not_lt_zero _)])
  · left
    have hS : KC N fc ns sn od (upf M (20 + k) g) := hK.k5 (fun a a1 a2 => upf_id (by omega)) (by rw [upf_id (by omega)])
    have hp : ∀ v, fX2_put (16 + k) (nI i) v (upf M (20 + k) g) = some ((), upf M (20 + k) (upd g i (fX5_cut (nI f) v))) := fun v => by
      rw [put_s hk (by rw [upf_id (by omega)]; exact hf) hf2 (show i < 60 by omega), upf_up, upf_eq, upf_upf]
    refine ⟨upd g i (fX5_cut (nI f) (nI (wvl b N fc ns sn q i))), fun y => ?_, ?_⟩
    · by_cases e : y = i
      · rw [e, upd_at, if_pos (by omega)]
      · rw [upd_ne e, hI y]
        by_cases e2 : y < i
        · rw [if_pos e2, if_pos (by omega)]
        · rw [if_neg e2, if_neg (by omega)]
    · (try dsimp only)
      rw [fX4_write_51, hS.1.1.1, if_neg (fun y => by have := (nI_leI (by omega) (by omega)).mp y; omega), upf_id (show ¬ 16 + k = 20 + k by omega), h2, if_neg (fun y => by have := (nI_leI (by omega) (by omega)).mp y; omega)]
      unfold fX4_write_98 wvl
      rcases (show b = 0 ∨ b = 1 by omega) with rfl | rfl
      · rw [if_pos (show nI 0 = 0 from rfl), if_pos rfl, deep4_s hS hW, show chB N (nI i) = true from decide_eq_true (by rw [pz_ti (by omega)]; omega), okR_nI (by omega), decide_eq_true (by omega), Bool.true_and, if_pos rfl, bP_s, nI_clamp (by omega), nI_clamp (by omega), hp, bW_s, nI_1]
      · rw [if_neg (show ¬ nI 1 = 0 by decide), if_neg (show ¬ (1 : Nat) = 0 by decide), map4_s hS hW hq (show i < N by omega), bP_s, hp, bW_s, nI_1]
  · (try dsimp only)
    rw [fX4_write_51, upf_id (show ¬ 1 = 20 + k by omega), hK.1.1.1, upf_id (show ¬ 16 + k = 20 + k by omega), h2]
    refine ⟨g, ?_, fun i => by rw [hI i, upf_eq]⟩
    rw [upf_upf]
    by_cases e : N ≤ z
    · rw [if_pos ((nI_leI (by omega) (by omega)).mpr (by omega))]
    · rw [if_neg (fun y => by have := (nI_leI (by omega) (by omega)).mp y; omega), if_pos ((nI_leI (by omega) (by omega)).mpr (by omega))]
theorem write5_s {N : Nat} {fc : Nat → Nat → Nat} {ns : Nat} {sn : Nat → Nat} {od : Nat} {M : Mem} (hK : KM N fc ns sn od M) (hW : WF N fc) {k f z b q : Nat} (hk : k < 4) (hf : M 27 k = nI f) (hz : z ≤ 60) (hb : b < 2) (hq : q ≤ 99) : ∃ g, fX5_write_62 1000 (nI b) (nI q) (nI k) (nI (min N z)) 0 M = some (nI (min N z), upf M 29 g) ∧ ∀ x, g x = if 60 * k ≤ x ∧ x < 60 * k + min N z then fX5_cut (nI f) (nI (wvl b N fc ns sn q (x - 60 * k))) else M 29 x := by
  have hN := hW.1
  rw [← upf_self M 29]
  refine loop_up (σ := Nat → Int32) (fun j i g => fX5_write_62 j (nI b) (nI q) (nI k) (nI (min N z)) (nI i) (upf M 29 g)) (fun i g => ∀ x, g x = if 60 * k ≤ x ∧ x < 60 * k + i then fX5_cut (nI f) (nI (wvl b N fc ns sn q (x - 60 * k))) else M 29 x) (fun o => ∃ g, o = some (nI (min N z), upf (upf M 29 (M 29)) 29 g) ∧ ∀ x, g x = if 60 * k ≤ x ∧ x < 60 * k + min N z then fX5_cut (nI f) (nI (wvl b N fc ns sn q (x - 60 * k))) else (upf M 29 (M 29)) 29 x) (min N z) (fun j i g hi hI => ?_) (fun j g hI => ?_) 1000 0 (M 29) (by omega) (by omega) (fun x => by rw [if_neg (by omega)])
  · left
    have hS : KM N fc ns sn od (upf M 29 g) := hK.k3 (upf_id (by omega)) (upf_id (by omega)) (by rw [upf_id (by omega)]) (by rw [upf_id (by omega)]) (by rw [upf_id (by omega)])
    have ad : (60 : Int32) * nI k + nI i = nI (60 * k + i) := by rw [show (60 : Int32) = nI 60 from rfl, pk_mul, nI_add]
    refine ⟨upd g (60 * k + i) (fX5_cut (nI f) (nI (wvl b N fc ns sn q i))), fun x => ?_, ?_⟩
    · by_cases e : x = 60 * k + i
      · rw [e, upd_at, if_pos (by omega), show 60 * k + i - 60 * k = i by omega]
      · rw [upd_ne e, hI x]
        by_cases e2 : 60 * k ≤ x ∧ x < 60 * k + i
        · rw [if_pos e2, if_pos (by omega)]
        · rw [if_neg e2, if_neg (by omega)]
    · (try dsimp only)
      rw [fX5_write_62, if_neg (fun y => by have := (nI_leI (by omega) (by omega)).mp y; omega), pz_gd (by omega) (by omega), nI_clamp (show k < 2 ^ 31 by omega), upf_id (show ¬ 27 = 29 by omega), hf]
      unfold fX5_write_107 wvl
      rcases (show b = 0 ∨ b = 1 by omega) with rfl | rfl
      · rw [if_pos (show nI 0 = 0 from rfl), if_pos rfl, deepOf_s hS hW (show i < N by omega) hq, bP_s, ad, pz_gd (by omega) (by omega), ltl_s, nI_clamp (by omega), upf_up, upf_eq, upf_upf, nI_1]
      · rw [if_neg (show ¬ nI 1 = 0 by decide), if_neg (show ¬ (1 : Nat) = 0 by decide), mapOf_s hS hW (show i < N by omega) hq, bP_s, ad, pz_gd (by omega) (by omega), ltl_s, nI_clamp (by omega), upf_up, upf_eq, upf_upf, nI_1]
  · (try dsimp only)
    rw [fX5_write_62, if_pos ((nI_leI (by omega) (by omega)).mpr (Nat.le_refl _))]
    exact ⟨g, by rw [upf_upf], fun x => by rw [hI x, upf_eq]⟩
/-- the sheets' calls keep the invariant -/
theorem Inv.S {M S : Mem} (h : Inv M) (q : SQ M S) : Inv S := by
  obtain ⟨⟨t, n, ns, sn, od, h1⟩, h2, h3, h4⟩ := h
  obtain ⟨q1, q2, q3, q4, q5⟩ := q
  exact ⟨⟨t, n, ns, sn, od, h1.keep (fun a a1 a2 => q3 a (by omega) (by omega) (by omega) (by omega)) (q4 6 (by decide)) (q3 31 (by omega) (by omega) (by omega) (by omega)) (q3 33 (by omega) (by omega) (by omega) (by omega)) (q5 6 (by decide)) (q5 10 (by decide)) (q5 12 (by decide))⟩, q1, h3.keep (fun a a1 a2 => q3 a (by omega) (by omega) (by omega) (by omega)) (q5 16 (by decide)) (q3 36 (by omega) (by omega) (by omega) (by omega)), q2⟩
theorem Inv.X {M S : Mem} (h : Inv M) (z : ZS S) (q : FrX M S) : Inv S := by
  obtain ⟨⟨t, n, ns, sn, od, h1⟩, h2, h3, h4⟩ := h
  obtain ⟨q1, q2⟩ := q
  exact ⟨⟨t, n, ns, sn, od, h1.keep (fun a a1 a2 => q1 a (by omega) (by omega) (by omega)) (by rw [q1 0 (by omega) (by omega) (by omega)]) (q1 31 (by omega) (by omega) (by omega)) (q1 33 (by omega) (by omega) (by omega)) (q2 6 (by decide)) (q2 10 (by decide)) (q2 12 (by decide))⟩, HS_keep h2 (fun a a1 a2 => q1 a (by omega) (by omega) (by omega)) (fun a a1 a2 => q1 a (by omega) (by omega) (by omega)), z, by rw [q1 0 (by omega) (by omega) (by omega), q2 4 (by decide)]; exact h4⟩
theorem write_b {M : Mem} (h : Inv M) (x1 x2 x3 : Int32) : Bth (fX4_write x1 x2 x3) (fX5_write x1 x2 x3) M := by
  have hh := h
  obtain ⟨⟨t, n, ns, sn, od, hI⟩, hS, hZ, hf⟩ := h
  have hW := hI.wf
  have hN := hW.1
  have hK := hI.1.2.2
  cases e1 : okR x1 0 1 with
  | false =>
    have hx : ¬ x1 < 0 → (1 : Int32) < x1 := fun a => by
      have := of_decide_eq_false e1
      rw [pz_lt, show (0 : Int32).toInt = 0 by decide] at a
      rw [pz_lt, show (1 : Int32).toInt = 1 by decide]; omega
    refine ⟨-2, M, M, ?_, ?_, hh⟩
    · unfold fX4_write
      cases e3 : okR x3 0 3 with
      | false =>
        rw [sheetAt_n x3 e3, bP_s]
        by_cases a : x1 < 0
        · rw [if_pos a]
        · rw [if_neg a, if_pos (hx a)]
      | true =>
        obtain ⟨k, rfl, hk'⟩ := okR_0 e3
        rw [sheetAt_k k (by omega), bP_s]
        by_cases a : x1 < 0
        · rw [if_pos a]
        · rw [if_neg a, if_pos (hx a)]
    · unfold fX5_write; rw [two_s, e1, if_neg Bool.false_ne_true]
  | true =>
    obtain ⟨b, rfl, hb'⟩ := okR_0 e1
    have hb : b < 2 := by omega
    have b1 : ¬ nI b < 0 := nI_pos (by omega)
    have b2 : ¬ (1 : Int32) < nI b := fun z => by rw [pL1] at z; have := (nI_ltI (by omega) (by omega)).mp z; omega
    cases e2 : okR x2 0 99 with
    | false =>
      refine ⟨-2, M, M, ?_, ?_, hh⟩
      · unfold fX4_write
        cases e3 : okR x3 0 3 with
        | false => rw [sheetAt_n x3 e3, bP_s, if_neg b1, if_neg b2, x4_isNight, e2, if_neg Bool.false_ne_true]
        | true =>
          obtain ⟨k, rfl, hk'⟩ := okR_0 e3
          rw [sheetAt_k k (by omega), bP_s, if_neg b1, if_neg b2, x4_isNight, e2, if_neg Bool.false_ne_true]
      · unfold fX5_write; rw [two_s, e1, if_pos rfl, x5_isNight, e2, if_neg Bool.false_ne_true]
    | true =>
      obtain ⟨q, rfl, hq'⟩ := okR_0 e2
      have hq : q ≤ 99 := by omega
      cases e3 : okR x3 0 3 with
      | false =>
        refine ⟨-2, M, M, ?_, ?_, hh⟩
        · unfold fX4_write; rw [sheetAt_n x3 e3, bP_s, if_neg b1, if_neg b2, x4_isNight, e2, if_pos rfl, qm_0]
        · unfold fX5_write; rw [two_s, e1, if_pos rfl, x5_isNight, e2, if_pos rfl, isSheet_s, e3, if_neg Bool.false_ne_true]
      | true =>
        obtain ⟨k, rfl, hk'⟩ := okR_0 e3
        have hk : k < 4 := by omega
        obtain ⟨h1, h2⟩ := hS k hk
        rcases h2 with h2 | ⟨f, z, c1, c2, c3, c4, c5, c6⟩
        · refine ⟨-10 - 1, up M 0 7 1, _, ?_, ?_, hh.S (fm_s hS 1)⟩
          · unfold fX4_write fX4_found; rw [sheetAt_k k hk, bP_s, if_neg b1, if_neg b2, x4_isNight, e2, if_pos rfl, qm_1, isS_k k hk, gd_true, lost_s, h1, decide_eq_true h2, if_pos rfl, ltl_s, bW_s]
          · unfold fX5_write fX5_met; rw [two_s, e1, if_pos rfl, x5_isNight, e2, if_pos rfl, isSheet_s, e3, if_pos rfl, pz_gd (by omega) (by omega), nI_clamp (by omega), up_id (by omega), h2, if_neg (by decide), ltl_s, bW_s]
        · have hm : ¬ M 27 k = -1 := by rw [c3]; exact nI_ne_m1 (by omega)
          obtain ⟨g, g1, g2⟩ := write4_s hK hW (k := k) (f := f) (z := z) (b := b) (q := q) hk (h1.trans c3) c1 c2 c4 hb hq
          have i1 : IT t n ns sn od (upf M (20 + k) g) := hI.keep (fun a a1 a2 => upf_id (by omega)) (by rw [upf_id (by omega)]) (upf_id (by omega)) (upf_id (by omega)) (by rw [upf_id (by omega)]) (by rw [upf_id (by omega)]) (by rw [upf_id (by omega)])
          obtain ⟨M2, m1, hKM, hF⟩ := rd_s i1
          have m27 : M2 27 = M 27 := by rw [hF.1 27 (by decide) (by decide) (by decide) (by decide) (by decide) (by decide) (by decide), upf_id (by omega)]
          have m28 : M2 28 = M 28 := by rw [hF.1 28 (by decide) (by decide) (by decide) (by decide) (by decide) (by decide) (by decide), upf_id (by omega)]
          have m29 : M2 29 = M 29 := by rw [hF.1 29 (by decide) (by decide) (by decide) (by decide) (by decide) (by decide) (by decide), upf_id (by omega)]
          obtain ⟨y, y1, y2⟩ := write5_s hKM hW (k := k) (f := f) (z := z) (b := b) (q := q) hk (by rw [m27]; exact c3) c2 hb hq
          have hlow : ∀ a, a < 24 → M2 a = (upf M (20 + k) g) a := fun a ha => hF.1 a (by omega) (by omega) (by omega) (by omega) (by omega) (by omega) (by omega)
          refine ⟨nI (min (chN t n) z), upf M (20 + k) g, upf M2 29 y, ?_, ?_, ⟨⟨t, n, ns, sn, od, ?_⟩, ?_, ?_, ?_⟩⟩
          · unfold fX4_write
            rw [sheetAt_k k hk, bP_s, if_neg b1, if_neg b2, x4_isNight, e2, if_pos rfl, qm_1, isS_k k hk, gd_true, lost_s, h1, decide_eq_false hm, if_neg Bool.false_ne_true, g1]
          · unfold fX5_write
            have hl : fX5_lesser (nI z) (nI (chN t n)) = nI (min (chN t n) z) := by
              unfold fX5_lesser
              by_cases w : chN t n ≤ z
              · rw [if_pos ((nI_leI (by omega) (by omega)).mpr w), show min (chN t n) z = chN t n by omega]
              · rw [if_neg (fun v => w ((nI_leI (by omega) (by omega)).mp v)), show min (chN t n) z = z by omega]
            rw [two_s, e1, if_pos rfl, x5_isNight, e2, if_pos rfl, isSheet_s, e3, if_pos rfl, pz_gd (by omega) (by omega), nI_clamp (by omega), upf_id (show ¬ 27 = 20 + k by omega), c3, if_pos (nI_pos' (by omega)), m1, bW_s, pz_gd (by omega) (by omega), ltl_s, m28, c5, hKM.1.1, hl, y1]
          · exact (i1.Q hF).keep (fun a a1 a2 => upf_id (by omega)) (by rw [upf_id (by omega)]) (upf_id (by omega)) (upf_id (by omega)) (by rw [upf_id (by omega)]) (by rw [upf_id (by omega)]) (by rw [upf_id (by omega)])
          · refine HS_set hS hk (fun j hj hjk => ⟨?_, ?_, ?_, ?_, fun i hi => ?_⟩) ⟨?_, Or.inr ⟨f, z, c1, c2, ?_, ?_, ?_, fun i hi => ?_⟩⟩
            · rw [upf_id (by omega), hlow _ (by omega), upf_id (by omega)]
            · rw [upf_id (by omega), hlow _ (by omega), upf_id (by omega)]
            · rw [upf_id (by omega), m27]
            · rw [upf_id (by omega), m28]
            · rw [upf_eq, y2, if_neg (by omega), m29]
            · rw [upf_id (by omega), hlow _ (by omega), upf_id (by omega), upf_id (by omega), m27]; exact h1
            · rw [upf_id (by omega), m27]; exact c3
            · rw [upf_id (by omega), hlow _ (by omega), upf_id (by omega)]; exact c4
            · rw [upf_id (by omega), m28]; exact c5
            · rw [upf_id (by omega), hlow _ (by omega), upf_eq, upf_eq, g2 i, y2 (60 * k + i)]
              by_cases w : i < min (chN t n) z
              · rw [if_pos w, if_pos (by omega), show 60 * k + i - 60 * k = i by omega]
              · rw [if_neg w, if_neg (by omega), m29]; exact c6 i hi
          · exact hZ.keep (fun a a1 a2 => by rw [upf_id (by omega), hlow a (by omega), upf_id (by omega)]) (by rw [upf_id (by omega), hF.2 16 (by decide) (by decide) (by decide), upf_id (by omega)]) (by rw [upf_id (by omega), hF.1 36 (by decide) (by decide) (by decide) (by decide) (by decide) (by decide) (by decide), upf_id (by omega)])
          · rw [upf_id (by omega), hlow 0 (by omega), upf_id (by omega), upf_id (by omega), hF.2 4 (by decide) (by decide) (by decide), upf_id (by omega)]; exact hf
