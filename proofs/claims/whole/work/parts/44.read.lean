/-! SOUNDINGS READ FROM A SHEET. -/
def vld (it : Nat → Int32) (i : Nat) : Bool := okR (it (3 * i)) 0 99 && (okR (it (3 * i + 1)) 0 15 && okR (it (3 * i + 2)) 0 9)
/-- the i-th triple can be read -/
def rdb (it : Nat → Int32) (z sz i : Nat) : Bool := decide (3 * i + 3 ≤ z) && (vld it i && decide (sz + i < 12))
theorem vld_s {it : Nat → Int32} {i : Nat} (h : vld it i = true) : ∃ a b c, it (3 * i) = nI a ∧ it (3 * i + 1) = nI b ∧ it (3 * i + 2) = nI c ∧ a ≤ 99 ∧ b ≤ 15 ∧ c ≤ 9 := by
  unfold vld at h
  simp only [Bool.and_eq_true] at h
  obtain ⟨a, h1, h2⟩ := okR_0 h.1
  obtain ⟨b, h3, h4⟩ := okR_0 h.2.1
  obtain ⟨c, h5, h6⟩ := okR_0 h.2.2
  exact ⟨a, b, c, h1, h3, h5, by omega, by omega, by omega⟩
theorem read4_s {M : Mem} {o z sz c : Nat} {s : Nat → Nat → Nat} {it : Nat → Int32} (ho : 10 ≤ o) (hal : aln (o + 4) = 60) (hz : z ≤ 60) (hsz : sz ≤ 12) (h2 : M o 2 = nI z) (hit : ∀ i, i < z → M (o + 4) i = it i) (hZ : ZC sz s M) (hc : c < 21) (hno : rdb it z sz c = false) (hyes : ∀ i, i < c → rdb it z sz i = true ∧ it (3 * i) = nI (s (sz + i) 0) ∧ it (3 * i + 1) = nI (s (sz + i) 1) ∧ it (3 * i + 2) = nI (s (sz + i) 2)) : ∃ M', fX4_read_31 1000 o 0 0 M = some (nI c, M') ∧ ZC (sz + c) s M' ∧ FrZ M M' := by
  have ia : ∀ (S : Mem) (j : Nat), S o 2 = nI z → (∀ i, i < z → S (o + 4) i = it i) → j < z → fX2_itemAt S o (nI j) = some (it j) := fun S j e1 e2 hj => by
    unfold fX2_itemAt
    rw [e1, if_neg (fun y => by have := (nI_leI (by omega) (by omega)).mp y; omega), itemOf_in (by rw [hal]; omega) (by rw [hal]; omega), bP_s, e2 j hj]
  refine loop_up (σ := Mem) (fun k i S => fX4_read_31 k o (nI i) (nI (3 * i)) S) (fun i S => ZC (sz + i) s S ∧ FrZ M S) (fun q => ∃ M', q = some (nI c, M') ∧ ZC (sz + c) s M' ∧ FrZ M M') c (fun k i S hi hI => ?_) (fun k S hI => ?_) 1000 0 M (by omega) (by omega) ⟨hZ, fun _ _ => rfl⟩
  · left
    obtain ⟨q1, q2⟩ := hI
    obtain ⟨y1, y2, y3, y4⟩ := hyes i hi
    have e1 : S o 2 = nI z := by rw [q2 o (by omega)]; exact h2
    have e2 : ∀ j, j < z → S (o + 4) j = it j := fun j hj => by rw [q2 (o + 4) (by omega)]; exact hit j hj
    have y1' := y1
    unfold rdb at y1'
    simp only [Bool.and_eq_true, decide_eq_true_eq] at y1'
    obtain ⟨M', m1, m2, m3⟩ := add_s q1 y1'.2.2
    refine ⟨M', ⟨m2, fun a ha => (m3 a ha).trans (q2 a ha)⟩, ?_⟩
    (try dsimp only)
    rw [fX4_read_31, e1, show nI (3 * i) + 2 = nI (3 * i + 2) from nI_add _ 2, if_neg (fun y => by have := (nI_leI (by omega) (by omega)).mp y; omega), ia S _ e1 e2 (by omega), bP_s, show nI (3 * i) + 1 = nI (3 * i + 1) from nI_1 _, ia S _ e1 e2 (by omega), bP_s, ia S _ e1 e2 (by omega), bP_s, isSnd_s, show (okR (it (3 * i)) 0 99 && (okR (it (3 * i + 1)) 0 15 && okR (it (3 * i + 2)) 0 9)) = true from y1'.2.1, if_pos rfl, y2, y3, y4, m1, bW_s, if_pos rfl, nI_1, show nI (3 * i) + 3 = nI (3 * (i + 1)) from nI_add _ 3]
  · obtain ⟨q1, q2⟩ := hI
    have e1 : S o 2 = nI z := by rw [q2 o (by omega)]; exact h2
    have e2 : ∀ j, j < z → S (o + 4) j = it j := fun j hj => by rw [q2 (o + 4) (by omega)]; exact hit j hj
    refine ⟨S, ?_, q1, q2⟩
    (try dsimp only)
    rw [fX4_read_31, e1, show nI (3 * c) + 2 = nI (3 * c + 2) from nI_add _ 2]
    by_cases t : 3 * c + 3 ≤ z
    · rw [if_neg (fun y => by have := (nI_leI (by omega) (by omega)).mp y; omega), ia S _ e1 e2 (by omega), bP_s, show nI (3 * c) + 1 = nI (3 * c + 1) from nI_1 _, ia S _ e1 e2 (by omega), bP_s, ia S _ e1 e2 (by omega), bP_s, isSnd_s]
      cases v : vld it c with
      | false => rw [show (okR (it (3 * c)) 0 99 && (okR (it (3 * c + 1)) 0 15 && okR (it (3 * c + 2)) 0 9)) = false from v, if_neg Bool.false_ne_true]
      | true =>
        unfold rdb at hno
        rw [decide_eq_true t, v, Bool.true_and, Bool.true_and] at hno
        have := of_decide_eq_false hno
        rw [show (okR (it (3 * c)) 0 99 && (okR (it (3 * c + 1)) 0 15 && okR (it (3 * c + 2)) 0 9)) = true from v, if_pos rfl, add_f q1 (by omega) (by omega), bW_s, if_neg Bool.false_ne_true]
    · rw [if_pos ((nI_leI (by omega) (by omega)).mpr (by omega))]
theorem read5_s {M : Mem} {k z sz c : Nat} {s : Nat → Nat → Nat} {it : Nat → Int32} (hk : k < 4) (hz : z ≤ 60) (hsz : sz ≤ 12) (h2 : M 28 k = nI z) (hit : ∀ i, i < z → M 29 (60 * k + i) = it i) (hZ : ZM sz s M) (hc : c < 21) (hc12 : sz + c ≤ 12) (hr : ∀ i, i < c → s (sz + i) 0 ≤ 99 ∧ s (sz + i) 1 ≤ 15 ∧ s (sz + i) 2 ≤ 9) (hno : rdb it z sz c = false) (hyes : ∀ i, i < c → rdb it z sz i = true ∧ it (3 * i) = nI (s (sz + i) 0) ∧ it (3 * i + 1) = nI (s (sz + i) 1) ∧ it (3 * i + 2) = nI (s (sz + i) 2)) : ∃ M', fX5_read_29 1000 (nI k) 0 true M = some (nI c, M') ∧ ZM (sz + c) s M' ∧ FrY M M' := by
  have ad : ∀ i : Nat, (60 : Int32) * nI k + 3 * nI i = nI (60 * k + 3 * i) := fun i => by rw [show (60 : Int32) = nI 60 from rfl, show (3 : Int32) = nI 3 from rfl, pk_mul, pk_mul, nI_add]
  have a3 : ∀ i : Nat, (3 : Int32) * nI i + 3 = nI (3 * i + 3) := fun i => by rw [show (3 : Int32) = nI 3 from rfl, pk_mul, nI_add]
  refine loop_up (σ := Mem) (fun n i S => fX5_read_29 (n + 1) (nI k) (nI i) true S) (fun i S => ZM (sz + i) s S ∧ FrY M S) (fun q => ∃ M', q = some (nI c, M') ∧ ZM (sz + c) s M' ∧ FrY M M') c (fun n i S hi hI => ?_) (fun n S hI => ?_) 999 0 M (by omega) (by omega) ⟨hZ, fun _ _ _ => rfl, fun _ _ => rfl⟩
  · left
    obtain ⟨q1, q2⟩ := hI
    obtain ⟨y1, y2, y3, y4⟩ := hyes i hi
    have e1 : S 28 k = nI z := by rw [q2.1 28 (by decide) (by decide)]; exact h2
    have e2 : ∀ j, j < z → S 29 (60 * k + j) = it j := fun j hj => by rw [q2.1 29 (by decide) (by decide)]; exact hit j hj
    have y1' := y1
    unfold rdb at y1'
    simp only [Bool.and_eq_true, decide_eq_true_eq] at y1'
    obtain ⟨M', m1, m2, m3⟩ := snd5_s q1 y1'.2.2 (hr i hi)
    refine ⟨M', ⟨m2, fun a a1 a2 => (m3.1 a a1 a2).trans (q2.1 a a1 a2), fun x hx => (m3.2 x hx).trans (q2.2 x hx)⟩, ?_⟩
    (try dsimp only)
    rw [fX5_read_29, if_pos rfl, pz_gd (by omega) (by omega), nI_clamp (by omega), e1, a3, if_neg (fun y => by have := (nI_ltI (by omega) (by omega)).mp y; omega), ltl_s, ad, pz_gd (by omega) (by omega), show nI (60 * k + 3 * i) + 1 = nI (60 * k + 3 * i + 1) from nI_1 _, pz_gd (by omega) (by omega), show nI (60 * k + 3 * i) + 2 = nI (60 * k + 3 * i + 2) from nI_add _ 2, pz_gd (by omega) (by omega), nI_clamp (by omega), nI_clamp (by omega), nI_clamp (by omega), e2 (3 * i) (by omega), show 60 * k + 3 * i + 1 = 60 * k + (3 * i + 1) by omega, e2 (3 * i + 1) (by omega), show 60 * k + 3 * i + 2 = 60 * k + (3 * i + 2) by omega, e2 (3 * i + 2) (by omega), y2, y3, y4, m1, bW_s, if_neg (nI_pos (by omega))]
    unfold fX5_read_94
    rw [if_pos rfl, nI_1]
  · obtain ⟨q1, q2⟩ := hI
    have e1 : S 28 k = nI z := by rw [q2.1 28 (by decide) (by decide)]; exact h2
    have e2 : ∀ j, j < z → S 29 (60 * k + j) = it j := fun j hj => by rw [q2.1 29 (by decide) (by decide)]; exact hit j hj
    refine ⟨S, ?_, q1, q2⟩
    have fin : fX5_read_94 (fX5_read_29 (n + 1)) (nI k) (nI c) false S = some (nI c, S) := by
      unfold fX5_read_94
      rw [if_neg Bool.false_ne_true, fX5_read_29, if_neg Bool.false_ne_true, Int32.add_zero]
    (try dsimp only)
    rw [fX5_read_29, if_pos rfl, pz_gd (by omega) (by omega), nI_clamp (by omega), e1, a3]
    by_cases t : 3 * c + 3 ≤ z
    · rw [if_neg (fun y => by have := (nI_ltI (by omega) (by omega)).mp y; omega), ltl_s, ad, pz_gd (by omega) (by omega), show nI (60 * k + 3 * c) + 1 = nI (60 * k + 3 * c + 1) from nI_1 _, pz_gd (by omega) (by omega), show nI (60 * k + 3 * c) + 2 = nI (60 * k + 3 * c + 2) from nI_add _ 2, pz_gd (by omega) (by omega), nI_clamp (by omega), nI_clamp (by omega), nI_clamp (by omega), e2 (3 * c) (by omega), show 60 * k + 3 * c + 1 = 60 * k + (3 * c + 1) by omega, e2 (3 * c + 1) (by omega), show 60 * k + 3 * c + 2 = 60 * k + (3 * c + 2) by omega, e2 (3 * c + 2) (by omega)]
      cases v : vld it c with
      | false => rw [snd5_n (show (okR (it (3 * c)) 0 99 && (okR (it (3 * c + 1)) 0 15 && okR (it (3 * c + 2)) 0 9)) = false from v), bW_s, if_pos (show (-2 : Int32) < 0 by decide), fin]
      | true =>
        unfold rdb at hno
        rw [decide_eq_true t, v, Bool.true_and, Bool.true_and] at hno
        have h12 := of_decide_eq_false hno
        have q1' : ZM 12 s S := by
          have : sz + c = 12 := by omega
          rw [this] at q1; exact q1
        rw [snd5_12 q1' (show (okR (it (3 * c)) 0 99 && (okR (it (3 * c + 1)) 0 15 && okR (it (3 * c + 2)) 0 9)) = true from v), bW_s, if_pos (show (-4 : Int32) < 0 by decide), fin]
    · rw [if_pos ((nI_ltI (by omega) (by omega)).mpr (by omega))]
theorem read_b {M : Mem} (h : HS M) (hz : ZS M) (hf : M 0 7 = M 26 4) (x : Int32) : ∃ v M1 M2, fX4_read x M = some (v, M1) ∧ fX5_read x M1 = some (v, M2) ∧ ((SQ M M2 ∧ ZS M2) ∨ (ZS M2 ∧ FrX M M2)) := by
  cases e : okR x 0 3 with
  | false =>
    refine ⟨-2, M, M, ?_, ?_, Or.inr ⟨hz, .rfl M⟩⟩
    · unfold fX4_read; rw [sheetAt_n x e, bP_s, qm_0]
    · unfold fX5_read; rw [isSheet_s, e, if_neg Bool.false_ne_true]
  | true =>
    obtain ⟨k, rfl, hk'⟩ := okR_0 e
    have hk : k < 4 := by omega
    obtain ⟨h1, h2⟩ := h k hk
    rcases h2 with h2 | ⟨f, z, c1, c2, c3, c4, c5, c6⟩
    · refine ⟨-10 - 1, up M 0 7 1, _, ?_, ?_, Or.inl ⟨fm_s h 1, ?_⟩⟩
      · unfold fX4_read fX4_found; rw [sheetAt_k k hk, bP_s, qm_1, isS_k k hk, gd_true, lost_s, h1, decide_eq_true h2, if_pos rfl, ltl_s, bW_s]
      · unfold fX5_read fX5_met; rw [isSheet_s, e, if_pos rfl, pz_gd (by omega) (by omega), nI_clamp (by omega), up_id (by omega), h2, if_neg (by decide), ltl_s, bW_s]
      · obtain ⟨sz, sd, z1, z2, z3⟩ := hz
        exact ⟨sz, sd, z1.keep (by rw [up_id (by decide), up_id (by decide)]) (by rw [up_id (by decide), up_id (by decide)]) (by rw [up_id (by decide), up_id (by decide)]) (by rw [up_id (by decide), up_id (by decide)]), z2.keep (by rw [up_ix (by decide), up_id (by decide)]) (by rw [up_id (by decide), up_id (by decide)]), z3⟩
    · have hm : ¬ M 27 k = -1 := by rw [c3]; exact nI_ne_m1 (by omega)
      obtain ⟨sz, sd, z1, z2, z3⟩ := hz
      have hsz := z3.1
      obtain ⟨c, hc, hcb, _, hca⟩ := lst_yes (P := fun i => !rdb (M 29 ∘ fun i => 60 * k + i) z sz i) (N := 21) (d := -1) ⟨20, by omega, by
        unfold rdb
        rw [decide_eq_false (show ¬ 3 * 20 + 3 ≤ z by omega), Bool.false_and]; rfl⟩
      have hno : rdb (M 29 ∘ fun i => 60 * k + i) z sz c = false := by simpa using hcb
      have hya : ∀ i, i < c → rdb (M 29 ∘ fun i => 60 * k + i) z sz i = true := fun i hi => by simpa using hca i hi
      have hc12 : sz + c ≤ 12 := by
        rcases Nat.eq_zero_or_pos c with q | q
        · omega
        · have := hya (c - 1) (by omega)
          unfold rdb at this
          simp only [Bool.and_eq_true, decide_eq_true_eq] at this
          omega
      generalize hit : (M 29 ∘ fun i => 60 * k + i) = it at hno hya
      have hits : ∀ i, M 29 (60 * k + i) = it i := fun i => by rw [← hit]; rfl
      have hs : ∃ s : Nat → Nat → Nat, (∀ j, j < sz → s j = sd j) ∧ ∀ i, s (sz + i) 0 = (it (3 * i)).toNatClampNeg ∧ s (sz + i) 1 = (it (3 * i + 1)).toNatClampNeg ∧ s (sz + i) 2 = (it (3 * i + 2)).toNatClampNeg := ⟨fun j q => if j < sz then sd j q else (it (3 * (j - sz) + q)).toNatClampNeg, fun j hj => by funext q; exact if_pos hj, fun i => by simp [show ¬ sz + i < sz by omega]⟩
      obtain ⟨s, s0, s1⟩ := hs
      have z1' : ZC sz s M := ⟨z1.1, fun k hk => by rw [s0 k hk]; exact z1.2 k hk⟩
      have z2' : ZM sz s M := ⟨z2.1, fun k hk j hj => by rw [s0 k hk]; exact z2.2 k hk j hj⟩
      have hv : ∀ i, i < c → (s (sz + i) 0 ≤ 99 ∧ s (sz + i) 1 ≤ 15 ∧ s (sz + i) 2 ≤ 9) ∧ it (3 * i) = nI (s (sz + i) 0) ∧ it (3 * i + 1) = nI (s (sz + i) 1) ∧ it (3 * i + 2) = nI (s (sz + i) 2) := fun i hi => by
        have hy := hya i hi
        unfold rdb at hy
        simp only [Bool.and_eq_true, decide_eq_true_eq] at hy
        obtain ⟨a, b, d, v1, v2, v3, v4, v5, v6⟩ := vld_s hy.2.1
        obtain ⟨w1, w2, w3⟩ := s1 i
        rw [w1, w2, w3, v1, v2, v3, nI_clamp (by omega), nI_clamp (by omega), nI_clamp (by omega)]
        exact ⟨⟨v4, v5, v6⟩, rfl, rfl, rfl⟩
      obtain ⟨M1, m1, m2, m3⟩ := read4_s (M := M) (o := 16 + k) (z := z) (sz := sz) (c := c) (s := s) (it := it) (by omega) (by rw [show 16 + k + 4 = 20 + k by omega]; exact aln_k k hk) c2 hsz c4 (fun i hi => by rw [show 16 + k + 4 = 20 + k by omega, c6 i hi]; exact hits i) z1' hc hno (fun i hi => ⟨hya i hi, (hv i hi).2⟩)
      obtain ⟨M2, n1, n2, n3⟩ := read5_s (M := M1) (k := k) (z := z) (sz := sz) (c := c) (s := s) (it := it) hk c2 hsz (by rw [m3 28 (by omega)]; exact c5) (fun i hi => by rw [m3 29 (by omega)]; exact hits i) (m3.zm z2') hc hc12 (fun i hi => (hv i hi).1) hno (fun i hi => ⟨hya i hi, (hv i hi).2⟩)
      refine ⟨nI c, M1, M2, ?_, ?_, Or.inr ⟨⟨sz + c, s, n3.zc m2, n2, hc12, fun j hj => ?_⟩, .of m3 n3⟩⟩
      · unfold fX4_read
        rw [sheetAt_k k hk, bP_s, qm_1, isS_k k hk, gd_true, lost_s, h1, decide_eq_false hm, if_neg Bool.false_ne_true, m1]
      · unfold fX5_read
        rw [isSheet_s, e, if_pos rfl, pz_gd (by omega) (by omega), nI_clamp (by omega), m3 27 (by omega), c3, if_pos (nI_pos' (by omega)), n1]
      · by_cases t : j < sz
        · rw [s0 j t]; exact z3.2 j t
        · have := (hv (j - sz) (by omega)).1
          rw [show sz + (j - sz) = j by omega] at this
          exact this
