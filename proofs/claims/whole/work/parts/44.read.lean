/-! SOUNDINGS READ FROM A SHEET. -/
def vld (it : Nat → Int32) (i : Nat) : Bool := okR (it (3 * i)) 0 99 && (okR (it (3 * i + 1)) 0 15 && okR (it (3 * i + 2)) 0 9)
/-- the i-th triple can be read -/
def rdb (it : Nat → Int32) (z sz i : Nat) : Bool := decide (3 * i + 3 ≤ z) && (vld it i && decide (sz + i < 12))
theorem vld_s {it : Nat → Int32} {i : Nat} (h : vld it i = true) : ∃ a b c, it (3 * i) = nI a ∧ it (3 * i + 1) = nI b ∧ it (3 * i + 2) = nI c ∧ a ≤ 99 ∧ b ≤ 15 ∧ c ≤ 9 := by
  unfold vld at h
  simp only [Bool.and_eq_true] at h
  obtain ⟨a, h1, h2⟩ := okR_0 h.1
  obtain ⟨b, h3, h4⟩ := okR_0 h.2.1
  obtain ⟨c, h5, h6⟩ := okR_0 h.2.2
  exact ⟨a, b, c, h1, h3, h5, by omega, by omega, by omega⟩
theorem read4_s {M : Mem} {o z sz c : Nat} {s : Nat → Nat → Nat} {it : Nat → Int32} (ho : 10 ≤ o) (hal : aln (o + 4) = 60) (hz : z ≤ 60) (hsz : sz ≤ 12) (h2 : M o 2 = nI z) (hit : ∀ i, i < z → M (o + 4) i = it i) (hZ : ZC sz s M) (hc : c < 21) (hno : rdb it z sz c = false) (hyes : ∀ i, i < c → rdb it z sz i = true ∧ it (3 * i) = nI (s (sz + i) 0) ∧ it (3 * i + 1) = nI (s (sz + i) 1) ∧ it (3 * i + 2) = nI (s (sz + i) 2)) : ∃ M', fX4_read_31 1000 o 0 0 M = some (nI c, M') ∧ ZC (sz + c) s M' ∧ FrZ M M' := by
  have ia : ∀ (S : Mem) (j : Nat), S o 2 = nI z → (∀ i, i < z → S (o + 4) i = it i) → j < z → fX2_itemAt S o (nI j) = some (it j) := fun S j e1 e2 hj => by
    unfold fX2_itemAt
    rw [e1, if_neg (fun y => by have := (nI_leI (by omega) (by omega)).mp y; omega), itemOf_in (by rw [hal]; omega) (by rw [hal]; omega), bP_s, e2 j hj]
  refine loop_up (σ := Mem) (fun k i S => fX4_read_31 k o (nI i) (nI (3 * i)) S) (fun i S => ZC (sz + i) s S ∧ FrZ M S) (fun q => ∃ M', q = some (nI c, M') ∧ ZC (sz + c) s M' ∧ FrZ M M') c (fun k i S hi hI => ?_) (fun k S hI => ?_) 1000 0 M (by omega) (by omega) ⟨hZ, fun _ _ => rfl⟩
  · left
    obtain ⟨q1, q2⟩ := hI
    obtain ⟨y1, y2, y3, y4⟩ := hyes i hi
    have e1 : S o 2 = nI z := by rw [q2 o (by omega)]; exact h2
    have e2 : ∀ j, j < z → S (o + 4) j = it j := fun j hj => by rw [q2 (o + 4) (by omega)]; exact hit j hj
    have y1' := y1
    unfold rdb at y1'
    simp only [Bool.and_eq_true, decide_eq_true_eq] at y1'
    obtain ⟨M', m1, m2, m3⟩ := add_s q1 y1'.2.2
    refine ⟨M', ⟨m2, fun a ha => (m3 a ha).trans (q2 a ha)⟩, ?_⟩
    (try dsimp only)
    rw [fX4_read_31, e1, show nI (3 * i) + 2 = nI (3 * i + 2) from nI_add _ 2, if_neg (fun y => by have := (nI_leI (by omega) (by omega)).mp y; omega), ia S _ e1 e2 (by omega), bP_s, show nI (3 * i) + 1 = nI (3 * i + 1) from nI_1 _, ia S _ e1 e2 (by omega), bP_s, ia S _ e1 e2 (by omega), bP_s, isSnd_s, show (okR (it (3 * i)) 0 99 && (okR (it (3 * i + 1)) 0 15 && okR (it (3 * i + 2)) 0 9)) = true from y1'.2.1, if_pos rfl, y2, y3, y4, m1, bW_s, if_pos rfl, nI_1, show nI (3 * i) + 3 = nI (3 * (i + 1)) from nI_add _ 3]
  · obtain ⟨q1, q2⟩ := hI
    have e1 : S o 2 = nI z := by rw [q2 o (by omega)]; exact h2
    have e2 : ∀ j, j < z → S (o + 4) j = it j := fun j hj => by rw [q2 (o + 4) (by omega)]; exact hit j hj
    refine ⟨S, ?_, q1, q2⟩
    (try dsimp only)
    rw [fX4_read_31, e1, show nI (3 * c) + 2 = nI (3 * c + 2) from nI_add _ 2]
    by_cases t : 3 * c + 3 ≤ z
    · rw [if_neg (fun y => by have := (nI_leI (by omega) (by omega)).mp y; omega), ia S _ e1 e2 (by omega), bP_s, show nI (3 * c) + 1 = nI (3 * c + 1) from nI_1 _, ia S _ e1 e2 (by omega), bP_s, ia S _ e1 e2 (by omega), bP_s, isSnd_s]
      cases v : vld it c with
      | false => rw [show (okR (it (3 * c)) 0 99 && (okR (it (3 * c + 1)) 0 15 && okR (it (3 * c + 2)) 0 9)) = false from v, if_neg Bool.false_ne_true]
      | true =>
        unfold rdb at hno
        rw [decide_eq_true t, v, Bool.true_and, Bool.true_and] at hno
        have := of_decide_eq_false hno
        rw [show (okR (it (3 * c)) 0 99 && (okR (it (3 * c + 1)) 0 15 && okR (it (3 * c + 2)) 0 9)) = true from v, if_pos rfl, add_f q1 (by omega) (by omega), bW_s, if_neg Bool.false_ne_true]
    · rw [if_pos ((nI_leI (by omega) (by omega)).mpr (by omega))]
theorem read5_s {M : Mem} {k z sz c : Nat} {s : Nat → Nat → Nat} {it : Nat → Int32} (hk : k < 4) (hz : z ≤ 60) (hsz : sz ≤ 12) (h2 : M 28 k = nI z) (hit : ∀ i, i < z → M 29 (60 * k + i) = it i) (hZ : ZM sz s M) (hc : c < 21) (hr : ∀ i, i < c → s (sz + i) 0 ≤ 99 ∧ s (sz + i) 1 ≤ 15 ∧ s (sz + i) 2 ≤ 9) (hno : rdb it z sz c = false) (hyes : ∀ i, i < c → rdb it z sz i = true ∧ it (3 * i) = nI (s (sz + i) 0) ∧ it (3 * i + 1) = nI (s (sz + i) 1) ∧ it (3 * i + 2) = nI (s (sz + i) 2)) : ∃ M', fX5_read_29 1000 (nI k) 0 true M = some (nI c, M') ∧ ZM (sz + c) s M' ∧ FrY M M' := by
  have ad : ∀ i : Nat, (60 : Int32) * nI k + 3 * nI i = nI (60 * k + 3 * i) := fun i => by rw [show (60 : Int32) = nI 60 from rfl, show (3 : Int32) = nI 3 from rfl, pk_mul, pk_mul, nI_add]
  have a3 : ∀ i : Nat, (3 : Int32) * nI i + 3 = nI (3 * i + 3) := fun i => by rw [show (3 : Int32) = nI 3 from rfl, pk_mul, nI_add]
  refine loop_up (σ := Mem) (fun n i S => fX5_read_29 n (nI k) (nI i) true S) (fun i S => ZM (sz + i) s S ∧ FrY M S) (fun q => ∃ M', q = some (nI c, M') ∧ ZM (sz + c) s M' ∧ FrY M M') c (fun n i S hi hI => ?_) (fun n S hI => ?_) 1000 0 M (by omega) (by omega) ⟨hZ, fun _ _ _ => rfl, fun _ _ => rfl⟩
  · left
    obtain ⟨q1, q2⟩ := hI
    obtain ⟨y1, y2, y3, y4⟩ := hyes i hi
    have e1 : S 28 k = nI z := by rw [q2.1 28 (by decide) (by decide)]; exact h2
    have e2 : ∀ j, j < z → S 29 (60 * k + j) = it j := fun j hj => by rw [q2.1 29 (by decide) (by decide)]; exact hit j hj
    have y1' := y1
    unfold rdb at y1'
    simp only [Bool.and_eq_true, decide_eq_true_eq] at y1'
    obtain ⟨M', m1, m2, m3⟩ := snd5_s q1 y1'.2.2 (hr i hi)
    refine ⟨M', ⟨m2, fun a a1 a2 => (m3.1 a a1 a2).trans (q2.1 a a1 a2), fun x hx => (m3.2 x hx).trans (q2.2 x hx)⟩, ?_⟩
    (try dsimp only)
    rw [fX5_read_29, if_pos rfl, pz_gd (by omega) (by omega), nI_clamp (by omega), e1, a3, if_neg (fun y => by have := (nI_ltI (by omega) (by omega)).mp y; omega), ltl_s, ad, pz_gd (by omega) (by omega), show nI (60 * k + 3 * i) + 1 = nI (60 * k + 3 * i + 1) from nI_1 _, pz_gd (by omega) (by omega), show nI (60 * k + 3 * i) + 2 = nI (60 * k + 3 * i + 2) from nI_add _ 2, pz_gd (by omega) (by omega), nI_clamp (by omega), nI_clamp (by omega), nI_clamp (by omega), e2 (3 * i) (by omega), show 60 * k + 3 * i + 1 = 60 * k + (3 * i + 1) by omega, e2 (3 * i + 1) (by omega), show 60 * k + 3 * i + 2 = 60 * k + (3 * i + 2) by omega, e2 (3 * i + 2) (by omega), y2, y3, y4, m1, bW_s, if_neg (nI_pos (by omega))]
    unfold fX5_read_94
    rw [if_pos rfl, nI_1]
  · obtain ⟨q1, q2⟩ := hI
    have e1 : S 28 k = nI z := by rw [q2.1 28 (by decide) (by decide)]; exact h2
    have e2 : ∀ j, j < z → S 29 (60 * k + j) = it j := fun j hj => by rw [q2.1 29 (by decide) (by decide)]; exact hit j hj
    refine ⟨S, ?_, q1, q2⟩
    (try dsimp only)
    sorry
