theorem clL_a : Cond.classLink RL 7 RX4 ∈ KT := KT_in (by decide +kernel) rfl
theorem clL_b : Cond.classLink RL 10 RX5 ∈ KT := KT_in (by decide +kernel) rfl
theorem inX4_n : Cond.instantiable RX4 8 ∈ KT := KT_in (by decide +kernel) rfl
theorem inX5_n : Cond.instantiable RX5 21 ∈ KT := KT_in (by decide +kernel) rfl
theorem inX4_i : Cond.initialized RX4 ∈ KT := KT_in (by decide +kernel) rfl
theorem inX5_i : Cond.initialized RX5 ∈ KT := KT_in (by decide +kernel) rfl
theorem lkL_a : Cond.methodLink RL 9 yX4_init ∈ KT := KT_in (by decide +kernel) rfl
theorem lkL_b : Cond.methodLink RL 12 yX5_init ∈ KT := KT_in (by decide +kernel) rfl
def M00 : Mem := (up (up (up (up (up (up (up (up (up (up (up (fun _ _ => 0) 1 2 (-1)) 16 1 (-1)) 17 1 (-1)) 18 1 (-1)) 19 1 (-1)) 0 6 (4)) 27 0 (-1)) 27 1 (-1)) 27 2 (-1)) 27 3 (-1)) 26 12 (4))
def adF (q0 q2 : Nat) (f1 f3 : Nat → Nat) : Nat → Nat := fun i => if i = 0 then q0 else if i < 26 then f1 (i - 1) else if i = 26 then q2 else f3 (i - 27)
theorem shq_map (q0 q2 : Nat) (f1 f3 : Nat → Nat) : (va_up (va_up (va_up (va_up (fun _ => none) 0 (some (f1 15))) 1 (some (f1 16))) 2 (some (f1 17))) 3 (some (f1 18))) = fun k => (shq k).map (adF q0 q2 f1 f3) := by
  funext k
  match k with
  | 0 => rfl
  | 1 => rfl
  | 2 => rfl
  | 3 => rfl
  | k + 4 =>
    have e : ∀ j, j < 4 → ¬ k + 4 = j := fun j h => by omega
    simp only [va_up, e 0 (by omega), e 1 (by omega), e 2 (by omega), e 3 (by omega), if_false]
    rfl
theorem arrT_of {s : State} {ty : FieldType} {args : Array Value} (hp : ∀ C, ty ≠ .object C) (h : (Cond.arrayClass ty).before args s = true) : ∃ cA, ArrOfT s cA ty ∧ va_RA s cA ty := by
  obtain ⟨cA, k, comp, h1, h2, h3⟩ := Cond.arrayClass_spec (args := args) (first := s) (o := none) (s := s) (idx := []) h
  refine ⟨cA, fun n z => ⟨fun k h => (by cases h), k, h2, comp, h3⟩, ?_⟩
  cases ty with
  | object C => exact absurd rfl (hp C)
  | _ => exact h1
theorem arrO_of {s : State} {C : String} {args : Array Value} (h : (Cond.arrayOver (.object C)).before args s = true) : ∃ cA, ArrOfT s cA (.object C) ∧ va_RA s cA (.object C) := by
  obtain ⟨comp, cA, k, h1, _, h3, h4, h5⟩ := Cond.arrayOver_spec (args := args) (first := s) (o := none) (s := s) (idx := []) h
  exact ⟨cA, fun n z => ⟨fun k h => (by cases h), k, h3, comp, h4⟩, k, comp, h3, h4, h1, h5⟩
set_option maxRecDepth 100000 in
set_option maxHeartbeats 8000000 in
theorem ST_of {s : State} {b : Nat} (hts : ∀ w ∈ lw_tbl, w.before #[Value.ref b] s = true) (hgv : (Jvm.Cond.and given_1 narrow_1).before #[Value.ref b] s = true) : ∃ sd, ST sd (lA s) s s.heap := by
  have hs := flat_of_before _ hgv
  have hA : ∀ a : Nat, a < s.heap.size → ¬ lA s a := fun a h => Nat.not_le.mpr h
  obtain ⟨adK, adV, hS, hE⟩ := vk_Sof (args := #[Value.ref b]) (s := s) (N := 1) (tm := fun _ => Term.string RX0 68) (len := [5]) (byt := [[119, 114, 115, 112, 106]]) (A := lA s) (fun i hi => by obtain rfl : i = 0 := (by omega); decide) (fun i hi => hs _ (by decide +kernel)) (fun i hi => hs _ (by decide +kernel)) (fun i hi => hs _ (by decide +kernel)) (fun i hi => by obtain rfl : i = 0 := (by omega); exact hs _ (by decide +kernel)) (fun i hi j hj => by
    obtain rfl : i = 0 := (by omega)
    have hj' : j < 5 := hj
    rcases (show j = 0 ∨ j = 1 ∨ j = 2 ∨ j = 3 ∨ j = 4 by omega) with rfl | rfl | rfl | rfl | rfl <;> exact hs _ (by decide +kernel)) (fun i j hi hj h => absurd (show i = j by omega) h) hA
  have hR := vk_R.of (hts (.stringRef RX0 68 "wrspj") (by decide +kernel)) (hE 0 Nat.zero_lt_one)
  have hZ := va_Zof (hts (.laysStatic "java/lang/String" "COMPACT_STRINGS" "Z") (by decide +kernel)) (hts (.initialized "java/lang/String") (by decide +kernel)) (va_eqi (hs (Cond.eq (.static "java/lang/String" "COMPACT_STRINGS" "Z") (.int 1)) (by decide +kernel))) hA
  obtain ⟨tN, hN1, hN2⟩ := va_Tof (args := #[Value.ref b]) (s := s) (tm := Term.static "DayOldMaps" "DIGEST_NIGHTS" "[I") (ty := .int) (N := 4) (f := fun j => .int (tabN j)) (A := lA s) (by decide) (hs _ (by decide +kernel)) (va_eqt (hs (Cond.eq (.length (Term.static "DayOldMaps" "DIGEST_NIGHTS" "[I")) (.int 4)) (by decide +kernel))) (fun j hj => by
    rcases (show j = 0 ∨ j = 1 ∨ j = 2 ∨ j = 3 by omega) with rfl | rfl | rfl | rfl
    · exact va_eqt (hs (Cond.eq (.elem (Term.static "DayOldMaps" "DIGEST_NIGHTS" "[I") (.int 0)) (.int 0)) (by decide +kernel))
    · exact va_eqt (hs (Cond.eq (.elem (Term.static "DayOldMaps" "DIGEST_NIGHTS" "[I") (.int 1)) (.int 1)) (by decide +kernel))
    · exact va_eqt (hs (Cond.eq (.elem (Term.static "DayOldMaps" "DIGEST_NIGHTS" "[I") (.int 2)) (.int 7)) (by decide +kernel))
    · exact va_eqt (hs (Cond.eq (.elem (Term.static "DayOldMaps" "DIGEST_NIGHTS" "[I") (.int 3)) (.int 50)) (by decide +kernel))) hA
  obtain ⟨tD, hD1, hD2⟩ := va_Tof (args := #[Value.ref b]) (s := s) (tm := Term.static "DayOldMaps" "DIGEST_DRAUGHTS" "[I") (ty := .int) (N := 2) (f := fun j => .int (tabD j)) (A := lA s) (by decide) (hs _ (by decide +kernel)) (va_eqt (hs (Cond.eq (.length (Term.static "DayOldMaps" "DIGEST_DRAUGHTS" "[I")) (.int 2)) (by decide +kernel))) (fun j hj => by
    rcases (show j = 0 ∨ j = 1 by omega) with rfl | rfl
    · exact va_eqt (hs (Cond.eq (.elem (Term.static "DayOldMaps" "DIGEST_DRAUGHTS" "[I") (.int 0)) (.int 2)) (by decide +kernel))
    · exact va_eqt (hs (Cond.eq (.elem (Term.static "DayOldMaps" "DIGEST_DRAUGHTS" "[I") (.int 1)) (.int 5)) (by decide +kernel))) hA
  have hZN := va_Zref (hts (.laysStatic "DayOldMaps" "DIGEST_NIGHTS" "[I") (by decide +kernel)) (hts (.initialized "DayOldMaps") (by decide +kernel)) hN1 hA
  have hZD := va_Zref (hts (.laysStatic "DayOldMaps" "DIGEST_DRAUGHTS" "[I") (by decide +kernel)) (hts (.initialized "DayOldMaps") (by decide +kernel)) hD1 hA
  refine ⟨fun k => match k with | 0 => adK 0 | 1 => adV 0 | 2 => tN | _ => tD, hR, ⟨fun i hi => ?_, fun i j hi hj _ => by omega⟩, hZ, hZN, hN2, hZD, hD2⟩
  obtain rfl : i = 0 := by omega
  exact hS.1 0 Nat.zero_lt_one
set_option maxRecDepth 100000 in
set_option maxHeartbeats 8000000 in
theorem K_of {s : State} {b : Nat} (hts : ∀ w ∈ lw_tbl, w.before #[Value.ref b] s = true) : ∃ D T3, va_K D vwCl (tys3 T3) s := by
  obtain ⟨c0, i0, k0⟩ := u_known (C := RX0) (T := TX0) (N := 8) (n := 8) hts inX0 (hts (.instantiable RX0 8) (by decide +kernel))
  obtain ⟨c1, i1, k1⟩ := u_known (C := RX1) (T := TX1) (N := 4) (n := 4) hts inX1 (hts (.instantiable RX1 4) (by decide +kernel))
  obtain ⟨c2, i2, k2⟩ := u_known (C := RX2) (T := TX2) (N := 3) (n := 3) hts inX2 (hts (.instantiable RX2 3) (by decide +kernel))
  obtain ⟨c3, i3, k3⟩ := u_known (C := RX3) (T := TX3) (N := 5) (n := 5) hts inX3 (hts (.instantiable RX3 5) (by decide +kernel))
  obtain ⟨c4, i4, k4⟩ := u_known (C := RX4) (T := TX4) (N := 8) (n := 8) hts inX4 (hts (.instantiable RX4 8) (by decide +kernel))
  obtain ⟨c5, i5, k5⟩ := u_known (C := RX5) (T := TX5) (N := 21) (n := 21) hts inX5 (hts (.instantiable RX5 21) (by decide +kernel))
  obtain ⟨cI, a1, a2⟩ := arrT_of (ty := .int) (fun C h => by cases h) (hts (.arrayClass .int) (by decide +kernel))
  obtain ⟨cZ, a3, a4⟩ := arrT_of (ty := .boolean) (fun C h => by cases h) (hts (.arrayClass .boolean) (by decide +kernel))
  obtain ⟨cS, a5, a6⟩ := arrO_of (C := RX2) (hts (.arrayOver (.object RX2)) (by decide +kernel))
  refine ⟨(fun k => match k with | 0 => c0 | 1 => c1 | 2 => c2 | 3 => c3 | 4 => c4 | _ => c5, fun k => match k with | 0 => i0 | 1 => i1 | 2 => i2 | 3 => i3 | 4 => i4 | _ => i5), (cI, cZ, cS), fun k q hq => ?_, fun k q hq => ?_⟩
  · match k, hq with
    | 0, hq => cases hq; exact k0
    | 1, hq => cases hq; exact k1
    | 2, hq => cases hq; exact k2
    | 3, hq => cases hq; exact k3
    | 4, hq => cases hq; exact k4
    | 5, hq => cases hq; exact k5
    | k + 6, hq => simp [vwCl] at hq
  · match k, hq with
    | 0, hq => cases hq; exact ⟨a1, a2⟩
    | 1, hq => cases hq; exact ⟨a3, a4⟩
    | 2, hq => cases hq; exact ⟨a5, a6⟩
    | k + 3, hq => simp [tys3] at hq

set_option maxRecDepth 100000 in
set_option maxHeartbeats 8000000 in
theorem whole_start_of (hT : ∀ (L : Nat) (xs : Nat → Int32), L ≤ 3072 → ∃ M9, fL_law_18 L xs 1000 0 M00 = some (true, M9)) {p : Program} {e : Env} {s : State} {m : MethodId} {below : List Frame} {meth : Method} {c : Code} (l : Launch) {b L : Nat} {xs : Nat → Int32} (hL : L ≤ 3072) (C0 : lw_At p s m meth c b L xs) : W p l e room_1 s m #[Value.ref b] below meth c s.heap [] 0 0 (lw_Z below #[Value.ref b] s) (entryFrame m ([Value.ref b] : List Value).toArray 4) := by
  obtain ⟨M9, h⟩ := hT L xs hL
  obtain ⟨hx, hb, hr, hml, hown, hts, hX, hbl, hlocks, hgv⟩ := id C0
  obtain ⟨D, T3, hK⟩ := K_of hts
  obtain ⟨sd, hST⟩ := ST_of hts hgv
  have hKN : KN s := KN.of hts
  have hbA : ¬ lA s b := Nat.not_le.mpr hbl
  have C : CY p s m #[Value.ref b] c code 4 RL D T3 (lA s) := ⟨hx, hb, hml, hown, hKN.args _, hK, fun q h => h, hKN, va_AO.of (hts (.arrayOver (.object RX2)) (by decide +kernel))⟩
  have hl := lv_entry ([.ref b]) (n := 4) (Nat.le_of_ble_eq_true rfl)
  rw [lg_entry_eq]
  refine (?_ : VX p l e room_1 s m #[Value.ref b] below meth c D (lA s) 4 0 0 (lw_Z below #[Value.ref b] s) [] [(0, .ref b)] 0 []) s.heap [] _ (fun k q h => by simp at h) ⟨fun i j p q h => by simp at h, fun k q h => by simp at h⟩ va_S.rf hl
  refine X_new C (ci := 4) [.null, .null, .null, .null, .null, .null, .int 0, .int 0] dL_law_0 rfl inKX4 tyX4 tyX4_ok clL_a inX4_n inX4_i (fun j hj => by rcases (show j = 0 ∨ j = 1 ∨ j = 2 ∨ j = 3 ∨ j = 4 ∨ j = 5 ∨ j = 6 ∨ j = 7 by omega) with rfl | rfl | rfl | rfl | rfl | rfl | rfl | rfl <;> rfl) (Nat.le_of_ble_eq_true rfl) (Nat.le_of_ble_eq_true rfl) (fun q0 => ?_)
  refine X_dup C dL_law_3 rfl ?_
  refine X_callI C 0 [] [] (mX4_init l) wmX4_init lkL_a dL_law_4 rfl rfl rfl (by decide) ⟨rfl, rfl, (Nat.le_of_ble_eq_true rfl), (Nat.le_of_ble_eq_true rfl)⟩ ⟨(Nat.le_of_ble_eq_true rfl), (Nat.le_of_ble_eq_true rfl)⟩ (Nat.le_of_ble_eq_true rfl) (fun f1 => ?_)
  refine X_ws [(q0, .inr (4, [.ref (f1 0), .ref (f1 5), .ref (f1 10), .ref (f1 14), .ref (f1 23), .ref (f1 24), .int (4 : Int32), .int (0 : Int32)])), ((f1 0), .inr (0, [.ref (f1 1), .int (0 : Int32), .int (-1 : Int32), .int (0 : Int32), .ref (f1 2), .ref (f1 3), .ref (f1 4), .int (0 : Int32)])), ((f1 1), .inl (T3.1, 95, .inl (fun _ => 0))), ((f1 2), .inl (T3.1, 80, .inl (fun _ => 0))), ((f1 3), .inl (T3.1, 16, .inl (fun _ => 0))), ((f1 4), .inl (T3.1, 8, .inl (fun _ => 0))), ((f1 5), .inr (3, [.ref (f1 6), .ref (f1 7), .ref (f1 8), .ref (f1 9), .int (0 : Int32)])), ((f1 6), .inl (T3.1, 12, .inl (fun _ => 0))), ((f1 7), .inl (T3.1, 12, .inl (fun _ => 0))), ((f1 8), .inl (T3.1, 12, .inl (fun _ => 0))), ((f1 9), .inl (T3.1, 10, .inl (fun _ => 0))), ((f1 10), .inr (1, [.ref (f1 11), .ref (f1 12), .ref (f1 13), .int (0 : Int32)])), ((f1 11), .inl (T3.1, 6, .inl (fun _ => 0))), ((f1 12), .inl (T3.1, 6, .inl (fun _ => 0))), ((f1 13), .inl (T3.1, 5, .inl (fun _ => 0))), ((f1 14), .inl (T3.2.2, 4, .inr (.inr (.inr (.inr (va_up (va_up (va_up (va_up (fun _ => none) 0 (some (f1 15))) 1 (some (f1 16))) 2 (some (f1 17))) 3 (some (f1 18)))))))), ((f1 15), .inr (2, [.ref (f1 19), .int (-1 : Int32), .int (0 : Int32)])), ((f1 16), .inr (2, [.ref (f1 20), .int (-1 : Int32), .int (0 : Int32)])), ((f1 17), .inr (2, [.ref (f1 21), .int (-1 : Int32), .int (0 : Int32)])), ((f1 18), .inr (2, [.ref (f1 22), .int (-1 : Int32), .int (0 : Int32)])), ((f1 19), .inl (T3.1, 60, .inl (fun _ => 0))), ((f1 20), .inl (T3.1, 60, .inl (fun _ => 0))), ((f1 21), .inl (T3.1, 60, .inl (fun _ => 0))), ((f1 22), .inl (T3.1, 60, .inl (fun _ => 0))), ((f1 23), .inl (T3.1, 16, .inl (fun _ => 0))), ((f1 24), .inl (T3.1, 16, .inl (fun _ => 0)))] rfl ?_
  refine X_astore_n C [(1, .ref q0), (0, .ref b)] dL_law_7 rfl (by decide) rfl ?_
  refine X_new C (ci := 5) [.null, .null, .null, .null, .int 0, .null, .int 0, .int 0, .int 0, .null, .int 0, .null, .int 0, .null, .null, .int 0, .int 0, .null, .null, .null, .null] dL_law_8 rfl inKX5 tyX5 tyX5_ok clL_b inX5_n inX5_i (fun j hj => by rcases (show j = 0 ∨ j = 1 ∨ j = 2 ∨ j = 3 ∨ j = 4 ∨ j = 5 ∨ j = 6 ∨ j = 7 ∨ j = 8 ∨ j = 9 ∨ j = 10 ∨ j = 11 ∨ j = 12 ∨ j = 13 ∨ j = 14 ∨ j = 15 ∨ j = 16 ∨ j = 17 ∨ j = 18 ∨ j = 19 ∨ j = 20 by omega) with rfl | rfl | rfl | rfl | rfl | rfl | rfl | rfl | rfl | rfl | rfl | rfl | rfl | rfl | rfl | rfl | rfl | rfl | rfl | rfl | rfl <;> rfl) (Nat.le_of_ble_eq_true rfl) (Nat.le_of_ble_eq_true rfl) (fun q2 => ?_)
  refine X_ws [(q0, .inr (4, [.ref (f1 0), .ref (f1 5), .ref (f1 10), .ref (f1 14), .ref (f1 23), .ref (f1 24), .int (4 : Int32), .int (0 : Int32)])), ((f1 0), .inr (0, [.ref (f1 1), .int (0 : Int32), .int (-1 : Int32), .int (0 : Int32), .ref (f1 2), .ref (f1 3), .ref (f1 4), .int (0 : Int32)])), ((f1 1), .inl (T3.1, 95, .inl (fun _ => 0))), ((f1 2), .inl (T3.1, 80, .inl (fun _ => 0))), ((f1 3), .inl (T3.1, 16, .inl (fun _ => 0))), ((f1 4), .inl (T3.1, 8, .inl (fun _ => 0))), ((f1 5), .inr (3, [.ref (f1 6), .ref (f1 7), .ref (f1 8), .ref (f1 9), .int (0 : Int32)])), ((f1 6), .inl (T3.1, 12, .inl (fun _ => 0))), ((f1 7), .inl (T3.1, 12, .inl (fun _ => 0))), ((f1 8), .inl (T3.1, 12, .inl (fun _ => 0))), ((f1 9), .inl (T3.1, 10, .inl (fun _ => 0))), ((f1 10), .inr (1, [.ref (f1 11), .ref (f1 12), .ref (f1 13), .int (0 : Int32)])), ((f1 11), .inl (T3.1, 6, .inl (fun _ => 0))), ((f1 12), .inl (T3.1, 6, .inl (fun _ => 0))), ((f1 13), .inl (T3.1, 5, .inl (fun _ => 0))), ((f1 14), .inl (T3.2.2, 4, .inr (.inr (.inr (.inr (va_up (va_up (va_up (va_up (fun _ => none) 0 (some (f1 15))) 1 (some (f1 16))) 2 (some (f1 17))) 3 (some (f1 18)))))))), ((f1 15), .inr (2, [.ref (f1 19), .int (-1 : Int32), .int (0 : Int32)])), ((f1 16), .inr (2, [.ref (f1 20), .int (-1 : Int32), .int (0 : Int32)])), ((f1 17), .inr (2, [.ref (f1 21), .int (-1 : Int32), .int (0 : Int32)])), ((f1 18), .inr (2, [.ref (f1 22), .int (-1 : Int32), .int (0 : Int32)])), ((f1 19), .inl (T3.1, 60, .inl (fun _ => 0))), ((f1 20), .inl (T3.1, 60, .inl (fun _ => 0))), ((f1 21), .inl (T3.1, 60, .inl (fun _ => 0))), ((f1 22), .inl (T3.1, 60, .inl (fun _ => 0))), ((f1 23), .inl (T3.1, 16, .inl (fun _ => 0))), ((f1 24), .inl (T3.1, 16, .inl (fun _ => 0))), (q2, .inr (5, [.null, .null, .null, .null, .int 0, .null, .int 0, .int 0, .int 0, .null, .int 0, .null, .int 0, .null, .null, .int 0, .int 0, .null, .null, .null, .null]))] rfl ?_
  refine X_dup C dL_law_11 rfl ?_
  refine X_callI C 26 [0, 1, 2, 3, 4, 5, 6, 7, 8, 9, 10, 11, 12, 13, 14, 15, 16, 17, 18, 19, 20, 21, 22, 23, 24, 25] [(q0, .inr (4, [.ref (f1 0), .ref (f1 5), .ref (f1 10), .ref (f1 14), .ref (f1 23), .ref (f1 24), .int (4 : Int32), .int (0 : Int32)])), ((f1 0), .inr (0, [.ref (f1 1), .int (0 : Int32), .int (-1 : Int32), .int (0 : Int32), .ref (f1 2), .ref (f1 3), .ref (f1 4), .int (0 : Int32)])), ((f1 1), .inl (T3.1, 95, .inl (fun _ => 0))), ((f1 2), .inl (T3.1, 80, .inl (fun _ => 0))), ((f1 3), .inl (T3.1, 16, .inl (fun _ => 0))), ((f1 4), .inl (T3.1, 8, .inl (fun _ => 0))), ((f1 5), .inr (3, [.ref (f1 6), .ref (f1 7), .ref (f1 8), .ref (f1 9), .int (0 : Int32)])), ((f1 6), .inl (T3.1, 12, .inl (fun _ => 0))), ((f1 7), .inl (T3.1, 12, .inl (fun _ => 0))), ((f1 8), .inl (T3.1, 12, .inl (fun _ => 0))), ((f1 9), .inl (T3.1, 10, .inl (fun _ => 0))), ((f1 10), .inr (1, [.ref (f1 11), .ref (f1 12), .ref (f1 13), .int (0 : Int32)])), ((f1 11), .inl (T3.1, 6, .inl (fun _ => 0))), ((f1 12), .inl (T3.1, 6, .inl (fun _ => 0))), ((f1 13), .inl (T3.1, 5, .inl (fun _ => 0))), ((f1 14), .inl (T3.2.2, 4, .inr (.inr (.inr (.inr (va_up (va_up (va_up (va_up (fun _ => none) 0 (some (f1 15))) 1 (some (f1 16))) 2 (some (f1 17))) 3 (some (f1 18)))))))), ((f1 15), .inr (2, [.ref (f1 19), .int (-1 : Int32), .int (0 : Int32)])), ((f1 16), .inr (2, [.ref (f1 20), .int (-1 : Int32), .int (0 : Int32)])), ((f1 17), .inr (2, [.ref (f1 21), .int (-1 : Int32), .int (0 : Int32)])), ((f1 18), .inr (2, [.ref (f1 22), .int (-1 : Int32), .int (0 : Int32)])), ((f1 19), .inl (T3.1, 60, .inl (fun _ => 0))), ((f1 20), .inl (T3.1, 60, .inl (fun _ => 0))), ((f1 21), .inl (T3.1, 60, .inl (fun _ => 0))), ((f1 22), .inl (T3.1, 60, .inl (fun _ => 0))), ((f1 23), .inl (T3.1, 16, .inl (fun _ => 0))), ((f1 24), .inl (T3.1, 16, .inl (fun _ => 0)))] (mX5_init l) wmX5_init lkL_b dL_law_12 rfl rfl rfl (by decide) ⟨rfl, rfl, (Nat.le_of_ble_eq_true rfl), (Nat.le_of_ble_eq_true rfl)⟩ ⟨(Nat.le_of_ble_eq_true rfl), (Nat.le_of_ble_eq_true rfl)⟩ (Nat.le_of_ble_eq_true rfl) (fun f3 => ?_)
  refine X_ws [(q0, .inr (4, [.ref (f1 0), .ref (f1 5), .ref (f1 10), .ref (f1 14), .ref (f1 23), .ref (f1 24), .int (4 : Int32), .int (0 : Int32)])), ((f1 0), .inr (0, [.ref (f1 1), .int (0 : Int32), .int (-1 : Int32), .int (0 : Int32), .ref (f1 2), .ref (f1 3), .ref (f1 4), .int (0 : Int32)])), ((f1 1), .inl (T3.1, 95, .inl (fun _ => 0))), ((f1 2), .inl (T3.1, 80, .inl (fun _ => 0))), ((f1 3), .inl (T3.1, 16, .inl (fun _ => 0))), ((f1 4), .inl (T3.1, 8, .inl (fun _ => 0))), ((f1 5), .inr (3, [.ref (f1 6), .ref (f1 7), .ref (f1 8), .ref (f1 9), .int (0 : Int32)])), ((f1 6), .inl (T3.1, 12, .inl (fun _ => 0))), ((f1 7), .inl (T3.1, 12, .inl (fun _ => 0))), ((f1 8), .inl (T3.1, 12, .inl (fun _ => 0))), ((f1 9), .inl (T3.1, 10, .inl (fun _ => 0))), ((f1 10), .inr (1, [.ref (f1 11), .ref (f1 12), .ref (f1 13), .int (0 : Int32)])), ((f1 11), .inl (T3.1, 6, .inl (fun _ => 0))), ((f1 12), .inl (T3.1, 6, .inl (fun _ => 0))), ((f1 13), .inl (T3.1, 5, .inl (fun _ => 0))), ((f1 14), .inl (T3.2.2, 4, .inr (.inr (.inr (.inr (va_up (va_up (va_up (va_up (fun _ => none) 0 (some (f1 15))) 1 (some (f1 16))) 2 (some (f1 17))) 3 (some (f1 18)))))))), ((f1 15), .inr (2, [.ref (f1 19), .int (-1 : Int32), .int (0 : Int32)])), ((f1 16), .inr (2, [.ref (f1 20), .int (-1 : Int32), .int (0 : Int32)])), ((f1 17), .inr (2, [.ref (f1 21), .int (-1 : Int32), .int (0 : Int32)])), ((f1 18), .inr (2, [.ref (f1 22), .int (-1 : Int32), .int (0 : Int32)])), ((f1 19), .inl (T3.1, 60, .inl (fun _ => 0))), ((f1 20), .inl (T3.1, 60, .inl (fun _ => 0))), ((f1 21), .inl (T3.1, 60, .inl (fun _ => 0))), ((f1 22), .inl (T3.1, 60, .inl (fun _ => 0))), ((f1 23), .inl (T3.1, 16, .inl (fun _ => 0))), ((f1 24), .inl (T3.1, 16, .inl (fun _ => 0))), (q2, .inr (5, [.ref (f3 0), .ref (f3 1), .ref (f3 2), .ref (f3 3), .int 0, .ref (f3 4), .int 0, .int 0, .int 0, .ref (f3 5), .int 0, .ref (f3 6), .int (4 : Int32), .ref (f3 7), .ref (f3 8), .int 0, .int 0, .ref (f3 9), .ref (f3 10), .ref (f3 11), .ref (f3 12)])), ((f3 0), .inl (T3.1, 4, .inl (upd (upd (upd (upd (fun _ => 0) 0 (-1 : Int32)) 1 (-1 : Int32)) 2 (-1 : Int32)) 3 (-1 : Int32)))), ((f3 1), .inl (T3.1, 4, .inl (fun _ => 0))), ((f3 2), .inl (T3.1, 240, .inl (fun _ => 0))), ((f3 3), .inl (T3.1, 60, .inl (fun _ => 0))), ((f3 4), .inl (T3.1, 95, .inl (fun _ => 0))), ((f3 5), .inl (T3.1, 80, .inl (fun _ => 0))), ((f3 6), .inl (T3.1, 8, .inl (fun _ => 0))), ((f3 7), .inl (T3.1, 6, .inl (fun _ => 0))), ((f3 8), .inl (T3.1, 5, .inl (fun _ => 0))), ((f3 9), .inl (T3.1, 36, .inl (fun _ => 0))), ((f3 10), .inl (T3.2.1, 36, .inl (fun _ => 0))), ((f3 11), .inl (T3.1, 10, .inl (fun _ => 0))), ((f3 12), .inl (T3.1, 6, .inl (fun _ => 0)))] rfl ?_
  refine X_astore_n C [(2, .ref q2), (1, .ref q0), (0, .ref b)] dL_law_15 rfl (by decide) rfl ?_
  rw [shq_map q0 q2 f1 f3]
  refine X_ws (wld T3 (adF q0 q2 f1 f3) M00) rfl ?_
  refine (?_ : VV p l e room_1 s m #[Value.ref b] below meth c D T3 (adF q0 q2 f1 f3) (lA s) 4 40 1186 (lw_Z below #[Value.ref b] s) M00 [(2, .ref ((adF q0 q2 f1 f3) 26)), (1, .ref ((adF q0 q2 f1 f3) 0)), (0, .ref b)] 16 [])
  have C : CX p s m #[Value.ref b] meth c code 4 RL ret D T3 (adF q0 q2 f1 f3) sd (lA s) := ⟨hx, hb, hml, hown, hKN.args _, hr, hlocks, hK, fun q h => h, hST, hKN⟩
  refine V_iconst C (0 : Int32) dL_law_16 (by decide) ?_
  refine V_istore_n C [(3, .int (0 : Int32)), (2, .ref ((adF q0 q2 f1 f3) 26)), (1, .ref ((adF q0 q2 f1 f3) 0)), (0, .ref b)] dL_law_17 rfl (by decide) rfl ?_
  refine V_sub (lv' := [(0, .ref b), (1, .ref ((adF q0 q2 f1 f3) 0)), (2, .ref ((adF q0 q2 f1 f3) 26)), (3, .int (0 : Int32))]) [3, 2, 1, 0] rfl ?_
  exact vL_law_18 C L xs hX hbl hbA 1000 (0 : Int32) M00 h
