/-! type, wipe, undo. -/
theorem Inv.text {t : Nat → Nat} {n ns : Nat} {sn : Nat → Nat} {od : Nat} {M S : Mem} {t' : Nat → Nat} {n' : Nat} (hI : IT t n ns sn od M) (hS : HS M) (hZ : ZS M) (hf : M 0 7 = M 26 4) (h1 : ∀ a, ¬ a = 1 → ¬ a = 2 → ¬ a = 3 → ¬ a = 4 → ¬ a = 26 → ¬ a = 31 → ¬ a = 32 → S a = M a) (h2 : ∀ k, ¬ k = 1 → ¬ k = 2 → ¬ k = 3 → S 1 k = M 1 k) (h3 : ∀ k, ¬ k = 6 → ¬ k = 7 → ¬ k = 8 → S 26 k = M 26 k) (hT : Txt S t' n') (hF : S 1 2 = faultI t' n') (hC : CF (chN t' n') (fcN t') S) (hO : OF (chN t' n') (fun c => fcN t' c 0) S) (hM : TxM S t' n') : Inv S := by
  obtain ⟨⟨a1, a2, a3⟩, ⟨b1, b2, b3⟩, c⟩ := hI
  have e : ∀ a, a = 0 ∨ a = 5 ∨ (6 ≤ a ∧ a < 26) ∨ (27 ≤ a ∧ a ≤ 29) ∨ a = 33 ∨ a = 36 → S a = M a := fun a ha => h1 a (by omega) (by omega) (by omega) (by omega) (by omega) (by omega) (by omega)
  refine ⟨⟨t', n', ns, sn, od, ⟨hT, hF, ⟨hC, hO⟩, ⟨(h2 7 (by decide) (by decide) (by decide)).trans a3.2.1.1, a3.2.1.2.1, fun k hk => by rw [e 5 (by omega)]; exact a3.2.1.2.2 k hk⟩, by rw [e 0 (by omega)]; exact a3.2.2⟩, ⟨hM, ⟨(h3 10 (by decide) (by decide) (by decide)).trans b2.1, b2.2.1, fun k hk => by rw [e 33 (by omega)]; exact b2.2.2 k hk⟩, (h3 12 (by decide) (by decide) (by decide)).trans b3⟩, c⟩, HS_keep hS (fun a _ _ => e a (by omega)) (fun a _ _ => e a (by omega)), hZ.keep (fun a _ _ => e a (by omega)) (h3 16 (by decide) (by decide) (by decide)) (e 36 (by omega)), by rw [e 0 (by omega), h3 4 (by decide) (by decide) (by decide)]; exact hf⟩
theorem type_b {M : Mem} (h : Inv M) (x : Int32) : Bth (fX4_type x) (fX5_type x) M := by
  have hh := h
  obtain ⟨⟨t, n, ns, sn, od, hI⟩, hS, hZ, hf⟩ := h
  have hII := hI
  obtain ⟨⟨a1, a2, a3⟩, ⟨b1, b2, b3⟩, c⟩ := hI
  have hn := a1.2.1
  have i5 : fX5_in x.toInt64 0 255 = okR x 0 255 := x5_inR x 0 255
  cases e : okR x 0 255 with
  | false =>
    refine ⟨-2, M, M, ?_, ?_, hh⟩
    · unfold fX4_type; rw [rng_3 x 0 255 _ _ 0 255 (by decide) (by decide), e, if_neg Bool.false_ne_true]
    · unfold fX5_type; rw [i5, e, if_neg Bool.false_ne_true]
  | true =>
    obtain ⟨b, rfl, hb⟩ := okR_0 e
    by_cases f8 : n = 95
    · refine ⟨-4, M, M, ?_, ?_, hh⟩
      · unfold fX4_type fX0_addByte; rw [rng_3 (nI b) 0 255 _ _ 0 255 (by decide) (by decide), e, if_pos rfl, a1.1, if_neg (nI_pos (by omega)), if_neg (fun z => by rw [pL95] at z; have := (nI_ltI (by omega) (by omega)).mp z; omega), bW_s, if_neg Bool.false_ne_true]
      · unfold fX5_type; rw [i5, e, if_pos rfl, b1.1, f8, if_pos (show nI 95 = 95 from rfl)]
    · obtain ⟨t', ht'⟩ : ∃ t' : Nat → Nat, t' n = b ∧ ∀ k, k < n → t' k = t k := ⟨fun k => if k = n then b else t k, if_pos rfl, fun k hk => if_neg (by omega)⟩
      have hT : Txt (up (up M 2 n (nI b)) 1 1 (nI (n + 1))) t' (n + 1) := by
        refine ⟨up_eq _ _ _ _, by omega, fun k hk => ?_⟩
        rw [up_id (by decide)]
        by_cases w : k = n
        · rw [w, up_eq, ht'.1]; exact ⟨rfl, by omega⟩
        · rw [up_ix w, ht'.2 k (by omega)]; exact a1.2.2 k (by omega)
      obtain ⟨M1, m1, m2, m3, m4, m5, m6⟩ := understand_s hT
      have hM1 : ∀ a, ¬ a = 1 → ¬ a = 2 → ¬ a = 3 → ¬ a = 4 → M1 a = M a := fun a x1 x2 x3 x4 => by rw [m2 a x1 x3 x4, up_id x1, up_id x2]
      refine ⟨nI (n + 1), M1, up (up M1 31 n (nI b)) 26 6 (nI (n + 1)), ?_, ?_, Inv.text (t' := t') (n' := n + 1) hII hS hZ hf (fun a x1 x2 x3 x4 x5 x6 _ => by rw [up_id x5, up_id x6]; exact hM1 a x1 x2 x3 x4) (fun k x1 x2 x3 => by rw [up_id (by decide), up_id (by decide), m3 k x2 x3, up_ix x1, up_id (by decide)]) (fun k x6 x7 x8 => by rw [up_ix x6, up_id (by decide), hM1 26 (by decide) (by decide) (by decide) (by decide)]) ⟨?_, by omega, fun k hk => ?_⟩ ?_ ⟨?_, fun cc hc k hk => ?_⟩ (fun xx hx => ?_) ⟨up_eq _ _ _ _, by omega, fun k hk => ?_⟩⟩
      · unfold fX4_type fX0_addByte
        rw [rng_3 (nI b) 0 255 _ _ 0 255 (by decide) (by decide), e, if_pos rfl, a1.1, if_neg (nI_pos (by omega)), if_pos (by rw [pL95]; exact (nI_ltI (by omega) (by omega)).mpr (by omega)), pz_gd (by omega) (by omega), ltl_s, ltl_s, nI_clamp (by omega), up_id (show ¬ 1 = 2 by decide), a1.1, nI_1, m1, bW_s, bW_s, if_pos rfl, m3 1 (by decide) (by decide), up_eq]
      · unfold fX5_type
        rw [i5, e, if_pos rfl, hM1 26 (by decide) (by decide) (by decide) (by decide), b1.1, if_neg (fun z => by rw [pL95] at z; have := (nI_eq (by omega) (by omega)).mp z; omega), pz_gd (by omega) (by omega), ltl_s, ltl_s, nI_clamp (by omega), up_eq, up_id (show ¬ 26 = 31 by decide), hM1 26 (by decide) (by decide) (by decide) (by decide), b1.1, nI_1]
      · rw [up_id (by decide), up_id (by decide), m3 1 (by decide) (by decide), up_eq]
      · rw [up_id (by decide), up_id (by decide), m2 2 (by decide) (by decide) (by decide)]; exact hT.2.2 k hk
      · rw [up_id (by decide), up_id (by decide)]; exact m4
      · rw [up_id (by decide), up_id (by decide)]; exact m5.1
      · rw [up_id (by decide), up_id (by decide)]; exact m5.2 cc hc k hk
      · rw [up_id (by decide), up_id (by decide)]; exact m6 xx hx
      · rw [up_id (by decide)]
        by_cases w : k = n
        · rw [w, up_eq, ht'.1]; exact ⟨rfl, by omega⟩
        · rw [up_ix w, hM1 31 (by decide) (by decide) (by decide) (by decide), ht'.2 k (by omega)]; exact b1.2.2 k (by omega)
/-- the text cut to n' bytes, read anew by the class, then cut by the reference -/
theorem cut_s {t : Nat → Nat} {n ns : Nat} {sn : Nat → Nat} {od : Nat} {M : Mem} (hII : IT t n ns sn od M) (hS : HS M) (hZ : ZS M) (hf : M 0 7 = M 26 4) {n' : Nat} (hle : n' ≤ n) : ∃ M1, fX0_cutTo (nI n') M = some ((), M1) ∧ M1 1 3 = nI (chN t n') ∧ (∀ a, ¬ a = 1 → ¬ a = 3 → ¬ a = 4 → M1 a = M a) ∧ ∀ M2, FrQ M1 M2 → Inv (up M2 26 6 (nI n')) := by
  have hI := hII
  obtain ⟨⟨a1, a2, a3⟩, ⟨b1, b2, b3⟩, c⟩ := hI
  have hn := a1.2.1
  have hT : Txt (up M 1 1 (nI n')) t n' := ⟨up_eq _ _ _ _, by omega, fun k hk => by rw [up_id (by decide)]; exact a1.2.2 k (by omega)⟩
  obtain ⟨M1, m1, m2, m3, m4, m5, m6⟩ := understand_s hT
  have hM1 : ∀ a, ¬ a = 1 → ¬ a = 3 → ¬ a = 4 → M1 a = M a := fun a x1 x3 x4 => by rw [m2 a x1 x3 x4, up_id x1]
  refine ⟨M1, ?_, m5.1, hM1, fun M2 hF => ?_⟩
  · unfold fX0_cutTo
    rw [ltl_s, m1, bW_s]
  · have e : ∀ a, a < 26 ∨ (27 ≤ a ∧ a ≤ 31) ∨ a = 33 ∨ a = 36 → (up M2 26 6 (nI n')) a = M1 a := fun a ha => by rw [up_id (by omega)]; exact hF.1 a (by omega) (by omega) (by omega) (by omega) (by omega) (by omega) (by omega)
    -- the scratch of the reference is taken as it is in M2
    have hII2 : IT t n ns sn od (fun a => if a < 26 then M a else M2 a) := by
      refine hII.keep (fun a _ _ => if_pos (by omega)) (by (try dsimp only); rw [if_pos (by omega)]) ?_ ?_ ?_ ?_ ?_
      · show M2 31 = M 31
        rw [hF.1 31 (by decide) (by decide) (by decide) (by decide) (by decide) (by decide) (by decide)]; exact hM1 31 (by decide) (by decide) (by decide)
      · show M2 33 = M 33
        rw [hF.1 33 (by decide) (by decide) (by decide) (by decide) (by decide) (by decide) (by decide)]; exact hM1 33 (by decide) (by decide) (by decide)
      · show M2 26 6 = M 26 6
        rw [hF.2 6 (by decide) (by decide) (by decide), hM1 26 (by decide) (by decide) (by decide)]
      · show M2 26 10 = M 26 10
        rw [hF.2 10 (by decide) (by decide) (by decide), hM1 26 (by decide) (by decide) (by decide)]
      · show M2 26 12 = M 26 12
        rw [hF.2 12 (by decide) (by decide) (by decide), hM1 26 (by decide) (by decide) (by decide)]
    have k26 : ∀ k, ¬ k = 7 → ¬ k = 8 → ¬ k = 15 → M2 26 k = M 26 k := fun k x1 x2 x3 => by rw [hF.2 k x1 x2 x3, hM1 26 (by decide) (by decide) (by decide)]
    have kk : ∀ a, (27 ≤ a ∧ a ≤ 31) ∨ a = 33 ∨ a = 36 → M2 a = M a := fun a ha => by rw [hF.1 a (by omega) (by omega) (by omega) (by omega) (by omega) (by omega) (by omega)]; exact hM1 a (by omega) (by omega) (by omega)
    refine Inv.text (t' := t) (n' := n') hII2 (HS_keep hS (fun a _ _ => if_pos (by omega)) (fun a _ _ => by rw [if_neg (by omega)]; exact kk a (by omega))) (hZ.keep (fun a _ _ => if_pos (by omega)) (by (try dsimp only); rw [if_neg (by omega)]; exact k26 16 (by decide) (by decide) (by decide)) (by rw [if_neg (by omega)]; exact kk 36 (by omega))) (by (try dsimp only); rw [if_pos (by omega), if_neg (by omega), k26 4 (by decide) (by decide) (by decide)]; exact hf) (fun a x1 x2 x3 x4 x5 x6 x7 => ?_) (fun k x1 x2 x3 => ?_) (fun k x6 x7 x8 => ?_) ⟨?_, by omega, fun k hk => ?_⟩ ?_ ⟨?_, fun cc hc k hk => ?_⟩ (fun xx hx => ?_) ⟨up_eq _ _ _ _, by omega, fun k hk => ?_⟩
    · by_cases w : a < 26
      · rw [if_pos w, e a (by omega)]; exact hM1 a x1 x3 x4
      · rw [if_neg w, up_id x5]
    · rw [e 1 (by omega), m3 k x2 x3, up_ix x1, if_pos (by omega)]
    · rw [up_ix x6, if_neg (by omega)]
    · rw [e 1 (by omega), m3 1 (by decide) (by decide), up_eq]
    · rw [e 2 (by omega), hM1 2 (by decide) (by decide) (by decide)]; exact a1.2.2 k (by omega)
    · rw [e 1 (by omega)]; exact m4
    · rw [e 1 (by omega)]; exact m5.1
    · rw [e 3 (by omega)]; exact m5.2 cc hc k hk
    · rw [e 4 (by omega)]; exact m6 xx hx
    · rw [e 31 (by omega), hM1 31 (by decide) (by decide) (by decide)]; exact b1.2.2 k (by omega)
theorem wipe_b {M : Mem} (h : Inv M) : Bth fX4_wipe fX5_wipe M := by
  obtain ⟨⟨t, n, ns, sn, od, hI⟩, hS, hZ, hf⟩ := h
  obtain ⟨M1, m1, _, m3, m4⟩ := cut_s hI hS hZ hf (Nat.zero_le n)
  refine ⟨nI n, M1, up M1 26 6 (nI 0), ?_, ?_, m4 M1 (.rfl M1)⟩
  · unfold fX4_wipe; rw [show (0 : Int32) = nI 0 from rfl, m1, bW_s, hI.1.1.1]
  · unfold fX5_wipe; rw [ltl_s, m3 26 (by decide) (by decide) (by decide), hI.2.1.1.1]; rfl
theorem ch_pre {t : Nat → Nat} {n : Nat} (h : 0 < chN t n) : chN t (n - 6) = chN t n - 1 := by
  obtain ⟨h1, h2⟩ := ch_len h
  have hw := well_all h2
  by_cases e : chN t n = 1
  · have : n - 6 = 0 := by omega
    rw [this, e]
    unfold chN
    by_cases w : wellT t 0 = true
    · rw [if_pos w]
    · rw [if_neg w]
  · have hwt : wellT t (n - 6) = true := by
      unfold wellT
      rw [bad_no (fun j hj => hw j (by omega)), decide_eq_true rfl, decide_eq_true (show (n - 6) % 6 = 5 by omega), Bool.or_true]; rfl
    rw [show chN t (n - 6) = (n - 6 + 1) / 6 from if_pos hwt]
    omega
theorem undo_b {M : Mem} (h : Inv M) : Bth fX4_undo fX5_undo M := by
  have hh := h
  obtain ⟨⟨t, n, ns, sn, od, hI⟩, hS, hZ, hf⟩ := h
  have hn := hI.1.1.2.1
  have hN := hI.wf.1
  by_cases f0 : chN t n = 0
  · obtain ⟨M2, m1, hKM, hF⟩ := rd_s hI
    refine ⟨-3, M, M2, ?_, ?_, hh.Q hF⟩
    · unfold fX4_undo; rw [hI.1.2.2.1.1.1, f0, if_pos (show nI 0 = 0 from rfl)]
    · unfold fX5_undo; rw [m1, bW_s, hKM.1.1, f0, if_pos (show nI 0 = 0 from rfl)]
  · obtain ⟨l1, _⟩ := ch_len (show 0 < chN t n by omega)
    have hpre := ch_pre (t := t) (n := n) (by omega)
    obtain ⟨M1, m1, m2, m3, m4⟩ := cut_s hI hS hZ hf (n' := n - 6) (by omega)
    have hT1 : TxM M1 t n := ⟨by rw [m3 26 (by decide) (by decide) (by decide)]; exact hI.2.1.1.1, hn, fun k hk => by rw [m3 31 (by decide) (by decide) (by decide)]; exact hI.2.1.1.2.2 k hk⟩
    obtain ⟨M2, r1, r2, r3, r4⟩ := reads_s hT1
    have hF : FrQ M1 M2 := ⟨fun a x1 x2 _ _ _ _ _ => r2 a x1 x2, fun k x1 x2 _ => r3 k x1 x2⟩
    have h6 : M2 26 6 = nI n := by rw [r3 6 (by decide) (by decide)]; exact hT1.1
    refine ⟨nI (chN t n - 1), M1, up M2 26 6 (nI (n - 6)), ?_, ?_, m4 M2 hF⟩
    · unfold fX4_undo fX0_dropLastChannel
      have hmx : mx 0 ((nI (chN t n) - 1) * 6 - 1) = nI (n - 6) := by
        rw [nI_s1 (by omega), pL6, pk_mul, mx_s _ (by rw [pL1]) (by omega) (by omega)]
        congr 1
        omega
      rw [hI.1.2.2.1.1.1, if_neg (fun z => f0 ((nI_z (by omega)).mp z)), hmx, m1, bW_s, bW_s, m2, hpre]
    · unfold fX5_undo
      rw [r1, bW_s, r4.1, if_neg (fun z => f0 ((nI_z (by omega)).mp z)), h6]
      by_cases e : chN t n = 1
      · rw [if_pos (by rw [e]; rfl), ltl_s, pL5, pk_sub (by omega), up_ix (by decide), r4.1, nI_s1 (by omega), show n - 5 = n - 6 by omega]
      · rw [if_neg (show ¬ nI (chN t n) = 1 from fun z => e ((nI_eq (by omega) (by omega)).mp (show nI (chN t n) = nI 1 from z))), ltl_s, pL6, pk_sub (by omega), up_ix (by decide), r4.1, nI_s1 (by omega)]
