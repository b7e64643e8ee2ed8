abbrev rmX4_type : Room := { frames := 8, cells := 0, slots := 0, locals := 176 }
def fX4_type (x1 : Int32) (M : Mem) : Option (Int32 × Mem) := if x1 < 0 then some ((-2 : Int32), M) else if x1 ≤ (255 : Int32) then bW (fX0_addByte x1 M) fun z1 M2 => if z1 = true then some ((M2 1 1), M2) else some ((-4 : Int32), M2) else some ((-2 : Int32), M)
set_option maxHeartbeats 4000000 in
set_option maxRecDepth 100000 in
theorem mX4_type (l : Launch) (x1 : Int32) (M : Mem) {r : Int32} {M9 : Mem} (h : fX4_type x1 M = some (r, M9)) : MC l yX4_type cX4_type 2 (some .int) rmX4_type (fun ad sd => [.ref (ad 0), .int x1]) M (fun _ => some (.int r)) M9 := by
  refine MC_start (by decide) (fun ad sd => [(0, .ref (ad 0)), (1, .int x1)]) (fun _ _ => rfl) (fun _ _ => Nat.le_of_ble_eq_true rfl) ?_
  intro p e s m args below meth c D T3 ad sd A C
  unfold fX4_type at h
  refine V_iload_n C 1 dX4_type_0 rfl ?_
  refine V_if_lt C 11 dX4_type_1 (by decide) (fun q5 => ?_) (fun q5 => ?_)
  · replace h := ite_p q5 h
    refine V_bipush C (-2 : Int32) dX4_type_11 (by decide) ?_
    obtain ⟨rfl, rfl⟩ := ret_W h
    exact V_iret C dX4_type_13
  · replace h := ite_n q5 h
    refine V_iload_n C 1 dX4_type_4 rfl ?_
    refine V_sipush C (255 : Int32) dX4_type_5 (by decide) ?_
    refine V_icmp_le C 14 dX4_type_8 (by decide) (fun q4 => ?_) (fun q4 => ?_)
    · replace h := ite_p q4 h
      refine V_aload_n C 0 dX4_type_14 rfl ?_
      refine V_get C 0 dX4_type_15 (wo_0 T3 ad _) rfl inKX4 (by decide) flX4_10 rfl rfl ?_
      refine V_iload_n C 1 dX4_type_18 rfl ?_
      obtain ⟨z1, M2, hz1, h⟩ := bW_t h
      refine V_callV C (st := []) (st' := [.int (b2i z1)]) (mX0_addByte l x1 M hz1) wmX0_addByte lkX4_51 dX4_type_19 (wo_1 T3 ad _) rfl rfl rfl rfl rfl rfl ⟨rfl, rfl, (Nat.le_of_ble_eq_true rfl), (Nat.le_of_ble_eq_true rfl)⟩ ⟨Nat.zero_le _, Nat.zero_le _⟩ (Nat.le_of_ble_eq_true rfl) ?_
      refine V_ifB_ne C 28 dX4_type_22 (by decide) (fun q3 => ?_) (fun q3 => ?_)
      · replace h := ite_p q3 h
        refine V_aload_n C 0 dX4_type_28 rfl ?_
        refine V_get C 0 dX4_type_29 (wo_0 T3 ad _) rfl inKX4 (by decide) flX4_10 rfl rfl ?_
        refine V_getN C 1 dX4_type_32 (wo_1 T3 ad _) rfl inKX0 (by decide) flX4_55 rfl rfl ?_
        obtain ⟨rfl, rfl⟩ := ret_W h
        exact V_iret C dX4_type_35
      · replace h := ite_n q3 h
        refine V_bipush C (-4 : Int32) dX4_type_25 (by decide) ?_
        obtain ⟨rfl, rfl⟩ := ret_W h
        exact V_iret C dX4_type_27
    · replace h := ite_n q4 h
      refine V_bipush C (-2 : Int32) dX4_type_11 (by decide) ?_
      obtain ⟨rfl, rfl⟩ := ret_W h
      exact V_iret C dX4_type_13
abbrev rmX4_wipe : Room := { frames := 8, cells := 0, slots := 0, locals := 176 }
def fX4_wipe (M : Mem) : Option (Int32 × Mem) := bW (fX0_cutTo (0 : Int32) M) fun z1 M2 => some ((M 1 1), M2)
set_option maxHeartbeats 4000000 in
set_option maxRecDepth 100000 in
theorem mX4_wipe (l : Launch) (M : Mem) {r : Int32} {M9 : Mem} (h : fX4_wipe M = some (r, M9)) : MC l yX4_wipe cX4_wipe 2 (some .int) rmX4_wipe (fun ad sd => [.ref (ad 0)]) M (fun _ => some (.int r)) M9 := by
  refine MC_start (by decide) (fun ad sd => [(0, .ref (ad 0))]) (fun _ _ => rfl) (fun _ _ => Nat.le_of_ble_eq_true rfl) ?_
  intro p e s m args below meth c D T3 ad sd A C
  unfold fX4_wipe at h
  refine V_aload_n C 0 dX4_wipe_0 rfl ?_
  refine V_get C 0 dX4_wipe_1 (wo_0 T3 ad _) rfl inKX4 (by decide) flX4_10 rfl rfl ?_
  refine V_getN C 1 dX4_wipe_4 (wo_1 T3 ad _) rfl inKX0 (by decide) flX4_55 rfl rfl ?_
  refine V_istore_n C [(1, .int (M 1 1)), (0, .ref (ad 0))] dX4_wipe_7 rfl (by decide) rfl ?_
  refine V_aload_n C 1 dX4_wipe_8 rfl ?_
  refine V_get C 0 dX4_wipe_9 (wo_0 T3 ad _) rfl inKX4 (by decide) flX4_10 rfl rfl ?_
  refine V_iconst C (0 : Int32) dX4_wipe_12 (by decide) ?_
  obtain ⟨z1, M2, hz1, h⟩ := bW_t h
  refine V_callV C (st := []) (st' := []) (mX0_cutTo l (0 : Int32) M hz1) wmX0_cutTo lkX4_58 dX4_wipe_13 (wo_1 T3 ad _) rfl rfl rfl rfl rfl rfl ⟨rfl, rfl, (Nat.le_of_ble_eq_true rfl), (Nat.le_of_ble_eq_true rfl)⟩ ⟨Nat.zero_le _, Nat.zero_le _⟩ (Nat.le_of_ble_eq_true rfl) ?_
  refine V_iload_n C 0 dX4_wipe_16 rfl ?_
  obtain ⟨rfl, rfl⟩ := ret_W h
  exact V_iret C dX4_wipe_17
abbrev rmX4_undo : Room := { frames := 9, cells := 0, slots := 0, locals := 196 }
def fX4_undo (M : Mem) : Option (Int32 × Mem) := if (M 1 3) = 0 then some ((-3 : Int32), M) else bW (fX0_dropLastChannel M) fun z1 M2 => some ((M2 1 3), M2)
set_option maxHeartbeats 4000000 in
set_option maxRecDepth 100000 in
theorem mX4_undo (l : Launch) (M : Mem) {r : Int32} {M9 : Mem} (h : fX4_undo M = some (r, M9)) : MC l yX4_undo cX4_undo 1 (some .int) rmX4_undo (fun ad sd => [.ref (ad 0)]) M (fun _ => some (.int r)) M9 := by
  refine MC_start (by decide) (fun ad sd => [(0, .ref (ad 0))]) (fun _ _ => rfl) (fun _ _ => Nat.le_of_ble_eq_true rfl) ?_
  intro p e s m args below meth c D T3 ad sd A C
  unfold fX4_undo at h
  refine V_aload_n C 0 dX4_undo_0 rfl ?_
  refine V_get C 0 dX4_undo_1 (wo_0 T3 ad _) rfl inKX4 (by decide) flX4_10 rfl rfl ?_
  refine V_getN C 3 dX4_undo_4 (wo_1 T3 ad _) rfl inKX0 (by decide) flX4_62 rfl rfl ?_
  refine V_if_ne C 13 dX4_undo_7 (by decide) (fun q3 => ?_) (fun q3 => ?_)
  · replace h := ite_n q3 h
    refine V_aload_n C 0 dX4_undo_13 rfl ?_
    refine V_get C 0 dX4_undo_14 (wo_0 T3 ad _) rfl inKX4 (by decide) flX4_10 rfl rfl ?_
    obtain ⟨z1, M2, hz1, h⟩ := bW_t h
    refine V_callV C (st := []) (st' := []) (mX0_dropLastChannel l M hz1) wmX0_dropLastChannel lkX4_65 dX4_undo_17 (wo_1 T3 ad _) rfl rfl rfl rfl rfl rfl ⟨rfl, rfl, (Nat.le_of_ble_eq_true rfl), (Nat.le_of_ble_eq_true rfl)⟩ ⟨Nat.zero_le _, Nat.zero_le _⟩ (Nat.le_of_ble_eq_true rfl) ?_
    refine V_aload_n C 0 dX4_undo_20 rfl ?_
    refine V_get C 0 dX4_undo_21 (wo_0 T3 ad _) rfl inKX4 (by decide) flX4_10 rfl rfl ?_
    refine V_getN C 3 dX4_undo_24 (wo_1 T3 ad _) rfl inKX0 (by decide) flX4_62 rfl rfl ?_
    obtain ⟨rfl, rfl⟩ := ret_W h
    exact V_iret C dX4_undo_27
  · replace h := ite_p q3 h
    refine V_bipush C (-3 : Int32) dX4_undo_10 (by decide) ?_
    obtain ⟨rfl, rfl⟩ := ret_W h
    exact V_iret C dX4_undo_12
abbrev rmX4_fault : Room := { frames := 0, cells := 0, slots := 0, locals := 0 }
def fX4_fault (M : Mem) : Int32 := (M 1 2)
set_option maxHeartbeats 4000000 in
set_option maxRecDepth 100000 in
theorem mX4_fault (l : Launch) (M : Mem) {r : Int32} (h : fX4_fault M = r) : MC l yX4_fault cX4_fault 1 (some .int) rmX4_fault (fun ad sd => [.ref (ad 0)]) M (fun _ => some (.int r)) M := by
  refine MC_start (by decide) (fun ad sd => [(0, .ref (ad 0))]) (fun _ _ => rfl) (fun _ _ => Nat.le_of_ble_eq_true rfl) ?_
  intro p e s m args below meth c D T3 ad sd A C
  unfold fX4_fault at h
  refine V_aload_n C 0 dX4_fault_0 rfl ?_
  refine V_get C 0 dX4_fault_1 (wo_0 T3 ad _) rfl inKX4 (by decide) flX4_10 rfl rfl ?_
  refine V_getN C 2 dX4_fault_4 (wo_1 T3 ad _) rfl inKX0 (by decide) flX4_68 rfl rfl ?_
  subst h
  exact V_iret C dX4_fault_7
abbrev rmX4_channel : Room := { frames := 1, cells := 0, slots := 0, locals := 23 }
def fX4_channel (M : Mem) (x1 : Int32) (x2 : Int32) : Option Int32 := bP (fX0_fact M x1 x2) fun z1 => some z1
set_option maxHeartbeats 4000000 in
set_option maxRecDepth 100000 in
theorem mX4_channel (l : Launch) (x1 : Int32) (x2 : Int32) (M : Mem) {r : Int32} (h : fX4_channel M x1 x2 = some r) : MC l yX4_channel cX4_channel 3 (some .int) rmX4_channel (fun ad sd => [.ref (ad 0), .int x1, .int x2]) M (fun _ => some (.int r)) M := by
  refine MC_start (by decide) (fun ad sd => [(0, .ref (ad 0)), (1, .int x1), (2, .int x2)]) (fun _ _ => rfl) (fun _ _ => Nat.le_of_ble_eq_true rfl) ?_
  intro p e s m args below meth c D T3 ad sd A C
  unfold fX4_channel at h
  refine V_aload_n C 0 dX4_channel_0 rfl ?_
  refine V_get C 0 dX4_channel_1 (wo_0 T3 ad _) rfl inKX4 (by decide) flX4_10 rfl rfl ?_
  refine V_iload_n C 1 dX4_channel_4 rfl ?_
  refine V_iload_n C 2 dX4_channel_5 rfl ?_
  obtain ⟨z1, hz1, h⟩ := bP_t h
  refine V_callV C (st := []) (st' := [.int z1]) (mX0_fact l x1 x2 M hz1) wmX0_fact lkX4_71 dX4_channel_6 (wo_1 T3 ad _) rfl rfl rfl rfl rfl rfl ⟨rfl, rfl, (Nat.le_of_ble_eq_true rfl), (Nat.le_of_ble_eq_true rfl)⟩ ⟨Nat.zero_le _, Nat.zero_le _⟩ (Nat.le_of_ble_eq_true rfl) ?_
  obtain rfl := ret_P h
  exact V_iret C dX4_channel_9
abbrev rmX4_isNight : Room := { frames := 0, cells := 0, slots := 0, locals := 0 }
def fX4_isNight (x0 : Int32) : Bool := if x0 < 0 then false else if (99 : Int32) < x0 then false else true
set_option maxHeartbeats 4000000 in
set_option maxRecDepth 100000 in
theorem mX4_isNight (l : Launch) (x0 : Int32) (M : Mem) {r : Bool} (h : fX4_isNight x0 = r) : MC l yX4_isNight cX4_isNight 1 (some .boolean) rmX4_isNight (fun ad sd => [.int x0]) M (fun _ => some (.int (b2i r))) M := by
  refine MC_start (by decide) (fun ad sd => [(0, .int x0)]) (fun _ _ => rfl) (fun _ _ => Nat.le_of_ble_eq_true rfl) ?_
  intro p e s m args below meth c D T3 ad sd A C
  unfold fX4_isNight at h
  refine V_iload_n C 0 dX4_isNight_0 rfl ?_
  refine V_if_lt C 14 dX4_isNight_1 (by decide) (fun q2 => ?_) (fun q2 => ?_)
  · replace h := ite_p q2 h
    refine V_iconst C (0 : Int32) dX4_isNight_14 (by decide) ?_
    subst h
    exact V_zret (x := false) C dX4_isNight_15
  · replace h := ite_n q2 h
    refine V_iload_n C 0 dX4_isNight_4 rfl ?_
    refine V_bipush C (99 : Int32) dX4_isNight_5 (by decide) ?_
    refine V_icmp_gt C 14 dX4_isNight_7 (by decide) (fun q1 => ?_) (fun q1 => ?_)
    · replace h := ite_p q1 h
      refine V_iconst C (0 : Int32) dX4_isNight_14 (by decide) ?_
      subst h
      exact V_zret (x := false) C dX4_isNight_15
    · replace h := ite_n q1 h
      refine V_iconst C (1 : Int32) dX4_isNight_10 (by decide) ?_
      refine V_goto C 15 dX4_isNight_11 (by decide) ?_
      subst h
      exact V_zret (x := true) C dX4_isNight_15
abbrev rmX4_storm : Room := { frames := 1, cells := 0, slots := 0, locals := 21 }
def fX4_storm (x1 : Int32) (M : Mem) : Option (Int32 × Mem) := if (fX4_isNight x1) = true then bW (fX0_addStorm x1 M) fun z1 M2 => if z1 = true then some ((M2 1 7), M2) else some ((-4 : Int32), M2) else some ((-2 : Int32), M)
set_option maxHeartbeats 4000000 in
set_option maxRecDepth 100000 in
theorem mX4_storm (l : Launch) (x1 : Int32) (M : Mem) {r : Int32} {M9 : Mem} (h : fX4_storm x1 M = some (r, M9)) : MC l yX4_storm cX4_storm 2 (some .int) rmX4_storm (fun ad sd => [.ref (ad 0), .int x1]) M (fun _ => some (.int r)) M9 := by
  refine MC_start (by decide) (fun ad sd => [(0, .ref (ad 0)), (1, .int x1)]) (fun _ _ => rfl) (fun _ _ => Nat.le_of_ble_eq_true rfl) ?_
  intro p e s m args below meth c D T3 ad sd A C
  unfold fX4_storm at h
  refine V_iload_n C 1 dX4_storm_0 rfl ?_
  refine V_callS C (st := []) (st' := [.int (b2i (fX4_isNight x1))]) (mX4_isNight l x1 M rfl) wmX4_isNight lkX4_75 dX4_storm_1 rfl rfl rfl ⟨rfl, rfl, (Nat.le_of_ble_eq_true rfl), (Nat.le_of_ble_eq_true rfl)⟩ ⟨Nat.zero_le _, Nat.zero_le _⟩ (Nat.le_of_ble_eq_true rfl) ?_
  refine V_ifB_ne C 10 dX4_storm_4 (by decide) (fun q4 => ?_) (fun q4 => ?_)
  · replace h := ite_p q4 h
    refine V_aload_n C 0 dX4_storm_10 rfl ?_
    refine V_get C 0 dX4_storm_11 (wo_0 T3 ad _) rfl inKX4 (by decide) flX4_10 rfl rfl ?_
    refine V_iload_n C 1 dX4_storm_14 rfl ?_
    obtain ⟨z1, M2, hz1, h⟩ := bW_t h
    refine V_callV C (st := []) (st' := [.int (b2i z1)]) (mX0_addStorm l x1 M hz1) wmX0_addStorm lkX4_78 dX4_storm_15 (wo_1 T3 ad _) rfl rfl rfl rfl rfl rfl ⟨rfl, rfl, (Nat.le_of_ble_eq_true rfl), (Nat.le_of_ble_eq_true rfl)⟩ ⟨Nat.zero_le _, Nat.zero_le _⟩ (Nat.le_of_ble_eq_true rfl) ?_
    refine V_ifB_ne C 24 dX4_storm_18 (by decide) (fun q3 => ?_) (fun q3 => ?_)
    · replace h := ite_p q3 h
      refine V_aload_n C 0 dX4_storm_24 rfl ?_
      refine V_get C 0 dX4_storm_25 (wo_0 T3 ad _) rfl inKX4 (by decide) flX4_10 rfl rfl ?_
      refine V_getN C 7 dX4_storm_28 (wo_1 T3 ad _) rfl inKX0 (by decide) flX4_81 rfl rfl ?_
      obtain ⟨rfl, rfl⟩ := ret_W h
      exact V_iret C dX4_storm_31
    · replace h := ite_n q3 h
      refine V_bipush C (-4 : Int32) dX4_storm_21 (by decide) ?_
      obtain ⟨rfl, rfl⟩ := ret_W h
      exact V_iret C dX4_storm_23
  · replace h := ite_n q4 h
    refine V_bipush C (-2 : Int32) dX4_storm_7 (by decide) ?_
    obtain ⟨rfl, rfl⟩ := ret_W h
    exact V_iret C dX4_storm_9
abbrev rmX4_calm : Room := { frames := 1, cells := 0, slots := 0, locals := 20 }
def fX4_calm (M : Mem) : Option (Int32 × Mem) := bW (fX0_dropStorm M) fun z1 M2 => if z1 = true then some ((M2 1 7), M2) else some ((-3 : Int32), M2)
set_option maxHeartbeats 4000000 in
set_option maxRecDepth 100000 in
theorem mX4_calm (l : Launch) (M : Mem) {r : Int32} {M9 : Mem} (h : fX4_calm M = some (r, M9)) : MC l yX4_calm cX4_calm 1 (some .int) rmX4_calm (fun ad sd => [.ref (ad 0)]) M (fun _ => some (.int r)) M9 := by
  refine MC_start (by decide) (fun ad sd => [(0, .ref (ad 0))]) (fun _ _ => rfl) (fun _ _ => Nat.le_of_ble_eq_true rfl) ?_
  intro p e s m args below meth c D T3 ad sd A C
  unfold fX4_calm at h
  refine V_aload_n C 0 dX4_calm_0 rfl ?_
  refine V_get C 0 dX4_calm_1 (wo_0 T3 ad _) rfl inKX4 (by decide) flX4_10 rfl rfl ?_
  obtain ⟨z1, M2, hz1, h⟩ := bW_t h
  refine V_callV C (st := []) (st' := [.int (b2i z1)]) (mX0_dropStorm l M hz1) wmX0_dropStorm lkX4_84 dX4_calm_4 (wo_1 T3 ad _) rfl rfl rfl rfl rfl rfl ⟨rfl, rfl, (Nat.le_of_ble_eq_true rfl), (Nat.le_of_ble_eq_true rfl)⟩ ⟨Nat.zero_le _, Nat.zero_le _⟩ (Nat.le_of_ble_eq_true rfl) ?_
  refine V_ifB_ne C 13 dX4_calm_7 (by decide) (fun q3 => ?_) (fun q3 => ?_)
  · replace h := ite_p q3 h
    refine V_aload_n C 0 dX4_calm_13 rfl ?_
    refine V_get C 0 dX4_calm_14 (wo_0 T3 ad _) rfl inKX4 (by decide) flX4_10 rfl rfl ?_
    refine V_getN C 7 dX4_calm_17 (wo_1 T3 ad _) rfl inKX0 (by decide) flX4_81 rfl rfl ?_
    obtain ⟨rfl, rfl⟩ := ret_W h
    exact V_iret C dX4_calm_20
  · replace h := ite_n q3 h
    refine V_bipush C (-3 : Int32) dX4_calm_10 (by decide) ?_
    obtain ⟨rfl, rfl⟩ := ret_W h
    exact V_iret C dX4_calm_12
abbrev rmX4_odds : Room := { frames := 0, cells := 0, slots := 0, locals := 0 }
def fX4_odds (x1 : Int32) (M : Mem) : Option (Int32 × Mem) := if x1 < 0 then some ((-2 : Int32), M) else if x1 ≤ (16 : Int32) then lt (up M 0 6 x1) fun M1 => some ((M 0 6), M1) else some ((-2 : Int32), M)
set_option maxHeartbeats 4000000 in
set_option maxRecDepth 100000 in
theorem mX4_odds (l : Launch) (x1 : Int32) (M : Mem) {r : Int32} {M9 : Mem} (h : fX4_odds x1 M = some (r, M9)) : MC l yX4_odds cX4_odds 3 (some .int) rmX4_odds (fun ad sd => [.ref (ad 0), .int x1]) M (fun _ => some (.int r)) M9 := by
  refine MC_start (by decide) (fun ad sd => [(0, .ref (ad 0)), (1, .int x1)]) (fun _ _ => rfl) (fun _ _ => Nat.le_of_ble_eq_true rfl) ?_
  intro p e s m args below meth c D T3 ad sd A C
  unfold fX4_odds at h
  refine V_iload_n C 1 dX4_odds_0 rfl ?_
  refine V_if_lt C 10 dX4_odds_1 (by decide) (fun q3 => ?_) (fun q3 => ?_)
  · replace h := ite_p q3 h
    refine V_bipush C (-2 : Int32) dX4_odds_10 (by decide) ?_
    obtain ⟨rfl, rfl⟩ := ret_W h
    exact V_iret C dX4_odds_12
  · replace h := ite_n q3 h
    refine V_iload_n C 1 dX4_odds_4 rfl ?_
    refine V_bipush C (16 : Int32) dX4_odds_5 (by decide) ?_
    refine V_icmp_le C 13 dX4_odds_7 (by decide) (fun q2 => ?_) (fun q2 => ?_)
    · replace h := ite_p q2 h
      refine V_aload_n C 0 dX4_odds_13 rfl ?_
      refine V_get C 6 dX4_odds_14 (wo_0 T3 ad _) rfl inKX4 (by decide) flX4_44 rfl rfl ?_
      refine V_istore_n C [(2, .int (M 0 6)), (0, .ref (ad 0)), (1, .int x1)] dX4_odds_17 rfl (by decide) rfl ?_
      refine V_aload_n C 1 dX4_odds_18 rfl ?_
      refine V_iload_n C 2 dX4_odds_19 rfl ?_
      obtain ⟨M1, hM1, h⟩ := lt_t h
      refine V_put C M1 6 dX4_odds_20 (wo_0 T3 ad _) (ws_0_6 T3 ad _ _) rfl inKX4 tyX4 tyX4_ok nmX4 (by decide) flX4_44 rfl rfl rfl (Nat.le_of_ble_eq_true rfl) hM1 ?_
      refine V_iload_n C 0 dX4_odds_23 rfl ?_
      obtain ⟨rfl, rfl⟩ := ret_W h
      exact V_iret C dX4_odds_24
    · replace h := ite_n q2 h
      refine V_bipush C (-2 : Int32) dX4_odds_10 (by decide) ?_
      obtain ⟨rfl, rfl⟩ := ret_W h
      exact V_iret C dX4_odds_12
abbrev rmX4_deep : Room := { frames := 2, cells := 0, slots := 0, locals := 48 }
def fX4_deep (M : Mem) (x1 : Int32) (x2 : Int32) : Option Int32 := if (fX0_hasChannel M x1) = true then if (fX4_isNight x2) = true then bP (fX0_isStormy M x2) fun z1 => bP (fX0_depth M x1 x2 z1) fun z2 => some z2 else some (-2 : Int32) else some (-2 : Int32)
set_option maxHeartbeats 4000000 in
set_option maxRecDepth 100000 in
theorem mX4_deep (l : Launch) (x1 : Int32) (x2 : Int32) (M : Mem) {r : Int32} (h : fX4_deep M x1 x2 = some r) : MC l yX4_deep cX4_deep 3 (some .int) rmX4_deep (fun ad sd => [.ref (ad 0), .int x1, .int x2]) M (fun _ => some (.int r)) M := by
  refine MC_start (by decide) (fun ad sd => [(0, .ref (ad 0)), (1, .int x1), (2, .int x2)]) (fun _ _ => rfl) (fun _ _ => Nat.le_of_ble_eq_true rfl) ?_
  intro p e s m args below meth c D T3 ad sd A C
  unfold fX4_deep at h
  refine V_aload_n C 0 dX4_deep_0 rfl ?_
  refine V_get C 0 dX4_deep_1 (wo_0 T3 ad _) rfl inKX4 (by decide) flX4_10 rfl rfl ?_
  refine V_iload_n C 1 dX4_deep_4 rfl ?_
  refine V_callV C (st := []) (st' := [.int (b2i (fX0_hasChannel M x1))]) (mX0_hasChannel l x1 M rfl) wmX0_hasChannel lkX4_88 dX4_deep_5 (wo_1 T3 ad _) rfl rfl rfl rfl rfl rfl ⟨rfl, rfl, (Nat.le_of_ble_eq_true rfl), (Nat.le_of_ble_eq_true rfl)⟩ ⟨Nat.zero_le _, Nat.zero_le _⟩ (Nat.le_of_ble_eq_true rfl) ?_
  refine V_ifB_eq C 18 dX4_deep_8 (by decide) (fun q4 => ?_) (fun q4 => ?_)
  · replace h := ite_n q4 h
    refine V_bipush C (-2 : Int32) dX4_deep_18 (by decide) ?_
    obtain rfl := ret_P h
    exact V_iret C dX4_deep_20
  · replace h := ite_p q4 h
    refine V_iload_n C 2 dX4_deep_11 rfl ?_
    refine V_callS C (st := []) (st' := [.int (b2i (fX4_isNight x2))]) (mX4_isNight l x2 M rfl) wmX4_isNight lkX4_75 dX4_deep_12 rfl rfl rfl ⟨rfl, rfl, (Nat.le_of_ble_eq_true rfl), (Nat.le_of_ble_eq_true rfl)⟩ ⟨Nat.zero_le _, Nat.zero_le _⟩ (Nat.le_of_ble_eq_true rfl) ?_
    refine V_ifB_ne C 21 dX4_deep_15 (by decide) (fun q3 => ?_) (fun q3 => ?_)
    · replace h := ite_p q3 h
      refine V_aload_n C 0 dX4_deep_21 rfl ?_
      refine V_get C 0 dX4_deep_22 (wo_0 T3 ad _) rfl inKX4 (by decide) flX4_10 rfl rfl ?_
      refine V_iload_n C 1 dX4_deep_25 rfl ?_
      refine V_iload_n C 2 dX4_deep_26 rfl ?_
      refine V_aload_n C 0 dX4_deep_27 rfl ?_
      refine V_get C 0 dX4_deep_28 (wo_0 T3 ad _) rfl inKX4 (by decide) flX4_10 rfl rfl ?_
      refine V_iload_n C 2 dX4_deep_31 rfl ?_
      obtain ⟨z1, hz1, h⟩ := bP_t h
      refine V_callV C (st := [.int x2, .int x1, .ref (ad 1)]) (st' := [.int (b2i z1), .int x2, .int x1, .ref (ad 1)]) (mX0_isStormy l x2 M hz1) wmX0_isStormy lkX4_91 dX4_deep_32 (wo_1 T3 ad _) rfl rfl rfl rfl rfl rfl ⟨rfl, rfl, (Nat.le_of_ble_eq_true rfl), (Nat.le_of_ble_eq_true rfl)⟩ ⟨Nat.zero_le _, Nat.zero_le _⟩ (Nat.le_of_ble_eq_true rfl) ?_
      obtain ⟨z2, hz2, h⟩ := bP_t h
      refine V_callV C (st := []) (st' := [.int z2]) (mX0_depth l x1 x2 z1 M hz2) wmX0_depth lkX4_94 dX4_deep_35 (wo_1 T3 ad _) rfl rfl rfl rfl rfl rfl ⟨rfl, rfl, (Nat.le_of_ble_eq_true rfl), (Nat.le_of_ble_eq_true rfl)⟩ ⟨Nat.zero_le _, Nat.zero_le _⟩ (Nat.le_of_ble_eq_true rfl) ?_
      obtain rfl := ret_P h
      exact V_iret C dX4_deep_38
    · replace h := ite_n q3 h
      refine V_bipush C (-2 : Int32) dX4_deep_18 (by decide) ?_
      obtain rfl := ret_P h
      exact V_iret C dX4_deep_20
abbrev rmX4_nightShown : Room := { frames := 1, cells := 0, slots := 0, locals := 23 }
def fX4_nightShown (x0 : Int32) : Int32 := (mx (0 : Int32) (x0 - (1 : Int32)))
set_option maxHeartbeats 4000000 in
set_option maxRecDepth 100000 in
theorem mX4_nightShown (l : Launch) (x0 : Int32) (M : Mem) {r : Int32} (h : fX4_nightShown x0 = r) : MC l yX4_nightShown cX4_nightShown 1 (some .int) rmX4_nightShown (fun ad sd => [.int x0]) M (fun _ => some (.int r)) M := by
  refine MC_start (by decide) (fun ad sd => [(0, .int x0)]) (fun _ _ => rfl) (fun _ _ => Nat.le_of_ble_eq_true rfl) ?_
  intro p e s m args below meth c D T3 ad sd A C
  unfold fX4_nightShown at h
  refine V_iconst C (0 : Int32) dX4_nightShown_0 (by decide) ?_
  refine V_iload_n C 0 dX4_nightShown_1 rfl ?_
  refine V_iconst C (1 : Int32) dX4_nightShown_2 (by decide) ?_
  refine V_isub C dX4_nightShown_3 ?_
  refine V_mmax C dX4_nightShown_4 lkX4_326 wMmax_s wM_i wMmax_c (Nat.le_of_ble_eq_true rfl) (Nat.le_of_ble_eq_true rfl) (Nat.zero_le _) (Nat.zero_le _) ?_
  subst h
  exact V_iret C dX4_nightShown_7
abbrev rmX4_map : Room := { frames := 3, cells := 0, slots := 0, locals := 70 }
def fX4_map (M : Mem) (x1 : Int32) (x2 : Int32) : Option Int32 := if (fX4_isNight x2) = true then bP (fX4_deep M x1 (fX4_nightShown x2)) fun z1 => some z1 else some (-2 : Int32)
set_option maxHeartbeats 4000000 in
set_option maxRecDepth 100000 in
theorem mX4_map (l : Launch) (x1 : Int32) (x2 : Int32) (M : Mem) {r : Int32} (h : fX4_map M x1 x2 = some r) : MC l yX4_map cX4_map 3 (some .int) rmX4_map (fun ad sd => [.ref (ad 0), .int x1, .int x2]) M (fun _ => some (.int r)) M := by
  refine MC_start (by decide) (fun ad sd => [(0, .ref (ad 0)), (1, .int x1), (2, .int x2)]) (fun _ _ => rfl) (fun _ _ => Nat.le_of_ble_eq_true rfl) ?_
  intro p e s m args below meth c D T3 ad sd A C
  unfold fX4_map at h
  refine V_iload_n C 2 dX4_map_0 rfl ?_
  refine V_callS C (st := []) (st' := [.int (b2i (fX4_isNight x2))]) (mX4_isNight l x2 M rfl) wmX4_isNight lkX4_75 dX4_map_1 rfl rfl rfl ⟨rfl, rfl, (Nat.le_of_ble_eq_true rfl), (Nat.le_of_ble_eq_true rfl)⟩ ⟨Nat.zero_le _, Nat.zero_le _⟩ (Nat.le_of_ble_eq_true rfl) ?_
  refine V_ifB_ne C 10 dX4_map_4 (by decide) (fun q2 => ?_) (fun q2 => ?_)
  · replace h := ite_p q2 h
    refine V_aload_n C 0 dX4_map_10 rfl ?_
    refine V_iload_n C 1 dX4_map_11 rfl ?_
    refine V_iload_n C 2 dX4_map_12 rfl ?_
    refine V_callS C (st := [.int x1, .ref (ad 0)]) (st' := [.int (fX4_nightShown x2), .int x1, .ref (ad 0)]) (mX4_nightShown l x2 M rfl) wmX4_nightShown lkX4_98 dX4_map_13 rfl rfl rfl ⟨rfl, rfl, (Nat.le_of_ble_eq_true rfl), (Nat.le_of_ble_eq_true rfl)⟩ ⟨Nat.zero_le _, Nat.zero_le _⟩ (Nat.le_of_ble_eq_true rfl) ?_
    obtain ⟨z1, hz1, h⟩ := bP_t h
    refine V_callV C (st := []) (st' := [.int z1]) (mX4_deep l x1 (fX4_nightShown x2) M hz1) wmX4_deep lkX4_102 dX4_map_16 (wo_0 T3 ad _) rfl rfl rfl rfl rfl rfl ⟨rfl, rfl, (Nat.le_of_ble_eq_true rfl), (Nat.le_of_ble_eq_true rfl)⟩ ⟨Nat.zero_le _, Nat.zero_le _⟩ (Nat.le_of_ble_eq_true rfl) ?_
    obtain rfl := ret_P h
    exact V_iret C dX4_map_19
  · replace h := ite_n q2 h
    refine V_bipush C (-2 : Int32) dX4_map_7 (by decide) ?_
    obtain rfl := ret_P h
    exact V_iret C dX4_map_9
abbrev rmX4_isDraught : Room := { frames := 0, cells := 0, slots := 0, locals := 0 }
def fX4_isDraught (x0 : Int32) : Bool := if x0 < (1 : Int32) then false else if (9 : Int32) < x0 then false else true
set_option maxHeartbeats 4000000 in
set_option maxRecDepth 100000 in
theorem mX4_isDraught (l : Launch) (x0 : Int32) (M : Mem) {r : Bool} (h : fX4_isDraught x0 = r) : MC l yX4_isDraught cX4_isDraught 1 (some .boolean) rmX4_isDraught (fun ad sd => [.int x0]) M (fun _ => some (.int (b2i r))) M := by
  refine MC_start (by decide) (fun ad sd => [(0, .int x0)]) (fun _ _ => rfl) (fun _ _ => Nat.le_of_ble_eq_true rfl) ?_
  intro p e s m args below meth c D T3 ad sd A C
  unfold fX4_isDraught at h
  refine V_iload_n C 0 dX4_isDraught_0 rfl ?_
  refine V_iconst C (1 : Int32) dX4_isDraught_1 (by decide) ?_
  refine V_icmp_lt C 15 dX4_isDraught_2 (by decide) (fun q2 => ?_) (fun q2 => ?_)
  · replace h := ite_p q2 h
    refine V_iconst C (0 : Int32) dX4_isDraught_15 (by decide) ?_
    subst h
    exact V_zret (x := false) C dX4_isDraught_16
  · replace h := ite_n q2 h
    refine V_iload_n C 0 dX4_isDraught_5 rfl ?_
    refine V_bipush C (9 : Int32) dX4_isDraught_6 (by decide) ?_
    refine V_icmp_gt C 15 dX4_isDraught_8 (by decide) (fun q1 => ?_) (fun q1 => ?_)
    · replace h := ite_p q1 h
      refine V_iconst C (0 : Int32) dX4_isDraught_15 (by decide) ?_
      subst h
      exact V_zret (x := false) C dX4_isDraught_16
    · replace h := ite_n q1 h
      refine V_iconst C (1 : Int32) dX4_isDraught_11 (by decide) ?_
      refine V_goto C 16 dX4_isDraught_12 (by decide) ?_
      subst h
      exact V_zret (x := true) C dX4_isDraught_16
abbrev rmX4_isShip : Room := { frames := 1, cells := 0, slots := 0, locals := 20 }
def fX4_isShip (x0 : Int32) (x1 : Int32) : Bool := if (fX4_isDraught x0) = true then if (fX4_isNight x1) = true then true else false else false
set_option maxHeartbeats 4000000 in
set_option maxRecDepth 100000 in
theorem mX4_isShip (l : Launch) (x0 : Int32) (x1 : Int32) (M : Mem) {r : Bool} (h : fX4_isShip x0 x1 = r) : MC l yX4_isShip cX4_isShip 2 (some .boolean) rmX4_isShip (fun ad sd => [.int x0, .int x1]) M (fun _ => some (.int (b2i r))) M := by
  refine MC_start (by decide) (fun ad sd => [(0, .int x0), (1, .int x1)]) (fun _ _ => rfl) (fun _ _ => Nat.le_of_ble_eq_true rfl) ?_
  intro p e s m args below meth c D T3 ad sd A C
  unfold fX4_isShip at h
  refine V_iload_n C 0 dX4_isShip_0 rfl ?_
  refine V_callS C (st := []) (st' := [.int (b2i (fX4_isDraught x0))]) (mX4_isDraught l x0 M rfl) wmX4_isDraught lkX4_137 dX4_isShip_1 rfl rfl rfl ⟨rfl, rfl, (Nat.le_of_ble_eq_true rfl), (Nat.le_of_ble_eq_true rfl)⟩ ⟨Nat.zero_le _, Nat.zero_le _⟩ (Nat.le_of_ble_eq_true rfl) ?_
  refine V_ifB_eq C 18 dX4_isShip_4 (by decide) (fun q2 => ?_) (fun q2 => ?_)
  · replace h := ite_n q2 h
    refine V_iconst C (0 : Int32) dX4_isShip_18 (by decide) ?_
    subst h
    exact V_zret (x := false) C dX4_isShip_19
  · replace h := ite_p q2 h
    refine V_iload_n C 1 dX4_isShip_7 rfl ?_
    refine V_callS C (st := []) (st' := [.int (b2i (fX4_isNight x1))]) (mX4_isNight l x1 M rfl) wmX4_isNight lkX4_75 dX4_isShip_8 rfl rfl rfl ⟨rfl, rfl, (Nat.le_of_ble_eq_true rfl), (Nat.le_of_ble_eq_true rfl)⟩ ⟨Nat.zero_le _, Nat.zero_le _⟩ (Nat.le_of_ble_eq_true rfl) ?_
    refine V_ifB_eq C 18 dX4_isShip_11 (by decide) (fun q1 => ?_) (fun q1 => ?_)
    · replace h := ite_n q1 h
      refine V_iconst C (0 : Int32) dX4_isShip_18 (by decide) ?_
      subst h
      exact V_zret (x := false) C dX4_isShip_19
    · replace h := ite_p q1 h
      refine V_iconst C (1 : Int32) dX4_isShip_14 (by decide) ?_
      refine V_goto C 19 dX4_isShip_15 (by decide) ?_
      subst h
      exact V_zret (x := true) C dX4_isShip_19
abbrev rmX4_ways : Room := { frames := 3, cells := 0, slots := 0, locals := 72 }
def fX4_ways (x1 : Int32) (x2 : Int32) (x3 : Int32) (M : Mem) : Option (Int32 × Mem) := if (fX4_isShip x1 x2) = true then if x3 < (-1 : Int32) then some ((-2 : Int32), M) else if x3 < (5 : Int32) then bP (fX0_isStormy M x2) fun z1 => bW (fX0_fill 24 x2 z1 M) fun z2 M3 => if x3 = (-1 : Int32) then bW (fX1_tally 24 x1 M3) fun z7 M8 => some (z7, M8) else bW (fX1_findLeast 24 x1 M3) fun z4 M5 => bP (fX1_step M5 x3) fun z6 => some (z6, M5) else some ((-2 : Int32), M) else some ((-2 : Int32), M)
set_option maxHeartbeats 4000000 in
set_option maxRecDepth 100000 in
theorem mX4_ways (l : Launch) (x1 : Int32) (x2 : Int32) (x3 : Int32) (M : Mem) {r : Int32} {M9 : Mem} (h : fX4_ways x1 x2 x3 M = some (r, M9)) : MC l yX4_ways cX4_ways 4 (some .int) rmX4_ways (fun ad sd => [.ref (ad 0), .int x1, .int x2, .int x3]) M (fun _ => some (.int r)) M9 := by
  refine MC_start (by decide) (fun ad sd => [(0, .ref (ad 0)), (1, .int x1), (2, .int x2), (3, .int x3)]) (fun _ _ => rfl) (fun _ _ => Nat.le_of_ble_eq_true rfl) ?_
  intro p e s m args below meth c D T3 ad sd A C
  unfold fX4_ways at h
  refine V_iload_n C 1 dX4_ways_0 rfl ?_
  refine V_iload_n C 2 dX4_ways_1 rfl ?_
  refine V_callS C (st := []) (st' := [.int (b2i (fX4_isShip x1 x2))]) (mX4_isShip l x1 x2 M rfl) wmX4_isShip lkX4_105 dX4_ways_2 rfl rfl rfl ⟨rfl, rfl, (Nat.le_of_ble_eq_true rfl), (Nat.le_of_ble_eq_true rfl)⟩ ⟨Nat.zero_le _, Nat.zero_le _⟩ (Nat.le_of_ble_eq_true rfl) ?_
  refine V_ifB_eq C 18 dX4_ways_5 (by decide) (fun q12 => ?_) (fun q12 => ?_)
  · replace h := ite_n q12 h
    refine V_bipush C (-2 : Int32) dX4_ways_18 (by decide) ?_
    obtain ⟨rfl, rfl⟩ := ret_W h
    exact V_iret C dX4_ways_20
  · replace h := ite_p q12 h
    refine V_iload_n C 3 dX4_ways_8 rfl ?_
    refine V_iconst C (-1 : Int32) dX4_ways_9 (by decide) ?_
    refine V_icmp_lt C 18 dX4_ways_10 (by decide) (fun q11 => ?_) (fun q11 => ?_)
    · replace h := ite_p q11 h
      refine V_bipush C (-2 : Int32) dX4_ways_18 (by decide) ?_
      obtain ⟨rfl, rfl⟩ := ret_W h
      exact V_iret C dX4_ways_20
    · replace h := ite_n q11 h
      refine V_iload_n C 3 dX4_ways_13 rfl ?_
      refine V_iconst C (5 : Int32) dX4_ways_14 (by decide) ?_
      refine V_icmp_lt C 21 dX4_ways_15 (by decide) (fun q10 => ?_) (fun q10 => ?_)
      · replace h := ite_p q10 h
        refine V_aload_n C 0 dX4_ways_21 rfl ?_
        refine V_get C 0 dX4_ways_22 (wo_0 T3 ad _) rfl inKX4 (by decide) flX4_10 rfl rfl ?_
        refine V_aload_n C 0 dX4_ways_25 rfl ?_
        refine V_get C 4 dX4_ways_26 (wo_0 T3 ad _) rfl inKX4 (by decide) flX4_37 rfl rfl ?_
        refine V_iload_n C 2 dX4_ways_29 rfl ?_
        refine V_aload_n C 0 dX4_ways_30 rfl ?_
        refine V_get C 0 dX4_ways_31 (wo_0 T3 ad _) rfl inKX4 (by decide) flX4_10 rfl rfl ?_
        refine V_iload_n C 2 dX4_ways_34 rfl ?_
        obtain ⟨z1, hz1, h⟩ := bP_t h
        refine V_callV C (st := [.int x2, .ref (ad 24), .ref (ad 1)]) (st' := [.int (b2i z1), .int x2, .ref (ad 24), .ref (ad 1)]) (mX0_isStormy l x2 M hz1) wmX0_isStormy lkX4_91 dX4_ways_35 (wo_1 T3 ad _) rfl rfl rfl rfl rfl rfl ⟨rfl, rfl, (Nat.le_of_ble_eq_true rfl), (Nat.le_of_ble_eq_true rfl)⟩ ⟨Nat.zero_le _, Nat.zero_le _⟩ (Nat.le_of_ble_eq_true rfl) ?_
        obtain ⟨z2, M3, hz2, h⟩ := bW_t h
        refine V_callV C (st := []) (st' := []) (mX0_fill l 24 rfl x2 z1 M hz2) wmX0_fill lkX4_109 dX4_ways_38 (wo_1 T3 ad _) rfl rfl rfl rfl rfl rfl ⟨rfl, rfl, (Nat.le_of_ble_eq_true rfl), (Nat.le_of_ble_eq_true rfl)⟩ ⟨Nat.zero_le _, Nat.zero_le _⟩ (Nat.le_of_ble_eq_true rfl) ?_
        refine V_iload_n C 3 dX4_ways_41 rfl ?_
        refine V_iconst C (-1 : Int32) dX4_ways_42 (by decide) ?_
        refine V_icmp_ne C 63 dX4_ways_43 (by decide) (fun q9 => ?_) (fun q9 => ?_)
        · replace h := ite_n q9 h
          refine V_aload_n C 0 dX4_ways_63 rfl ?_
          refine V_get C 2 dX4_ways_64 (wo_0 T3 ad _) rfl inKX4 (by decide) flX4_26 rfl rfl ?_
          refine V_aload_n C 0 dX4_ways_67 rfl ?_
          refine V_get C 0 dX4_ways_68 (wo_0 T3 ad _) rfl inKX4 (by decide) flX4_10 rfl rfl ?_
          refine V_aload_n C 0 dX4_ways_71 rfl ?_
          refine V_get C 4 dX4_ways_72 (wo_0 T3 ad _) rfl inKX4 (by decide) flX4_37 rfl rfl ?_
          refine V_iload_n C 1 dX4_ways_75 rfl ?_
          obtain ⟨z4, M5, hz4, h⟩ := bW_t h
          refine V_callV C (st := []) (st' := [.int (b2i z4)]) (mX1_findLeast l 24 rfl x1 M3 hz4) wmX1_findLeast lkX4_117 dX4_ways_76 (wo_11 T3 ad _) rfl rfl rfl rfl rfl rfl ⟨rfl, rfl, (Nat.le_of_ble_eq_true rfl), (Nat.le_of_ble_eq_true rfl)⟩ ⟨Nat.zero_le _, Nat.zero_le _⟩ (Nat.le_of_ble_eq_true rfl) ?_
          refine V_pop C dX4_ways_79 rfl ?_
          refine V_aload_n C 0 dX4_ways_80 rfl ?_
          refine V_get C 2 dX4_ways_81 (wo_0 T3 ad _) rfl inKX4 (by decide) flX4_26 rfl rfl ?_
          refine V_iload_n C 3 dX4_ways_84 rfl ?_
          obtain ⟨z6, hz6, h⟩ := bP_t h
          refine V_callV C (st := []) (st' := [.int z6]) (mX1_step l x3 M5 hz6) wmX1_step lkX4_121 dX4_ways_85 (wo_11 T3 ad _) rfl rfl rfl rfl rfl rfl ⟨rfl, rfl, (Nat.le_of_ble_eq_true rfl), (Nat.le_of_ble_eq_true rfl)⟩ ⟨Nat.zero_le _, Nat.zero_le _⟩ (Nat.le_of_ble_eq_true rfl) ?_
          obtain ⟨rfl, rfl⟩ := ret_W h
          exact V_iret C dX4_ways_88
        · replace h := ite_p q9 h
          refine V_aload_n C 0 dX4_ways_46 rfl ?_
          refine V_get C 2 dX4_ways_47 (wo_0 T3 ad _) rfl inKX4 (by decide) flX4_26 rfl rfl ?_
          refine V_aload_n C 0 dX4_ways_50 rfl ?_
          refine V_get C 0 dX4_ways_51 (wo_0 T3 ad _) rfl inKX4 (by decide) flX4_10 rfl rfl ?_
          refine V_aload_n C 0 dX4_ways_54 rfl ?_
          refine V_get C 4 dX4_ways_55 (wo_0 T3 ad _) rfl inKX4 (by decide) flX4_37 rfl rfl ?_
          refine V_iload_n C 1 dX4_ways_58 rfl ?_
          obtain ⟨z7, M8, hz7, h⟩ := bW_t h
          refine V_callV C (st := []) (st' := [.int z7]) (mX1_tally l 24 rfl x1 M3 hz7) wmX1_tally lkX4_113 dX4_ways_59 (wo_11 T3 ad _) rfl rfl rfl rfl rfl rfl ⟨rfl, rfl, (Nat.le_of_ble_eq_true rfl), (Nat.le_of_ble_eq_true rfl)⟩ ⟨Nat.zero_le _, Nat.zero_le _⟩ (Nat.le_of_ble_eq_true rfl) ?_
          obtain ⟨rfl, rfl⟩ := ret_W h
          exact V_iret C dX4_ways_62
      · replace h := ite_n q10 h
        refine V_bipush C (-2 : Int32) dX4_ways_18 (by decide) ?_
        obtain ⟨rfl, rfl⟩ := ret_W h
        exact V_iret C dX4_ways_20
abbrev rmX4_draft : Room := { frames := 3, cells := 0, slots := 0, locals := 72 }
def fX4_draft_33 : Nat → Int32 → Mem → Option (Int32 × Mem)
  | 0, _, _ => none
  | n + 1, x2, M => if x2 ≤ 0 then some ((-1 : Int32), M) else bW (fX1_findLeast 24 x2 M) fun z4 M5 => if z4 = true then some (x2, M5) else fX4_draft_33 n (x2 + (-1)) M5
def fX4_draft (x1 : Int32) (M : Mem) : Option (Int32 × Mem) := if (fX4_isNight x1) = true then bP (fX0_isStormy M x1) fun z1 => bW (fX0_fill 24 x1 z1 M) fun z2 M3 => fX4_draft_33 1000 (9 : Int32) M3 else some ((-2 : Int32), M)
set_option maxHeartbeats 4000000 in
set_option maxRecDepth 100000 in
theorem vX4_draft_33 {p : Program} {l : Launch} {e : Env} {s : State} {m : MethodId} {args : Array Value} {below : List Frame} {meth : Method} {c : Code} {D : va_G} {T3 : ClassId × ClassId × ClassId} {ad sd : Nat → Nat} {A : Nat → Prop}  (C : CX p s m args meth c cX4_draft 3 RX4 (some .int) D T3 ad sd A) {r : Int32} {M9 : Mem} : ∀ (n : Nat) (x2 : Int32) (M : Mem), fX4_draft_33 n x2 M = some (r, M9) → VV p l e rmX4_draft s m args below meth c D T3 ad A 3 0 0 (QM below D T3 ad A args s (fun _ => some (.int r)) M9) M [(0, .ref (ad 0)), (2, .int x2)] 33 [] := by
  intro n
  induction n with
  | zero => intro x2 M h; exact nomatch (show (none : Option (Int32 × Mem)) = some _ from h)
  | succ n ih =>
    intro x2 M h
    rw [fX4_draft_33] at h
    refine V_iload_n C 1 dX4_draft_33 rfl ?_
    refine V_if_le C 64 dX4_draft_34 (by decide) (fun q7 => ?_) (fun q7 => ?_)
    · replace h := ite_p q7 h
      refine V_iconst C (-1 : Int32) dX4_draft_64 (by decide) ?_
      obtain ⟨rfl, rfl⟩ := ret_W h
      exact V_iret C dX4_draft_65
    · replace h := ite_n q7 h
      refine V_aload_n C 0 dX4_draft_37 rfl ?_
      refine V_get C 2 dX4_draft_38 (wo_0 T3 ad _) rfl inKX4 (by decide) flX4_26 rfl rfl ?_
      refine V_aload_n C 0 dX4_draft_41 rfl ?_
      refine V_get C 0 dX4_draft_42 (wo_0 T3 ad _) rfl inKX4 (by decide) flX4_10 rfl rfl ?_
      refine V_aload_n C 0 dX4_draft_45 rfl ?_
      refine V_get C 4 dX4_draft_46 (wo_0 T3 ad _) rfl inKX4 (by decide) flX4_37 rfl rfl ?_
      refine V_iload_n C 1 dX4_draft_49 rfl ?_
      obtain ⟨z4, M5, hz4, h⟩ := bW_t h
      refine V_callV C (st := []) (st' := [.int (b2i z4)]) (mX1_findLeast l 24 rfl x2 M hz4) wmX1_findLeast lkX4_117 dX4_draft_50 (wo_11 T3 ad _) rfl rfl rfl rfl rfl rfl ⟨rfl, rfl, (Nat.le_of_ble_eq_true rfl), (Nat.le_of_ble_eq_true rfl)⟩ ⟨Nat.zero_le _, Nat.zero_le _⟩ (Nat.le_of_ble_eq_true rfl) ?_
      refine V_ifB_eq C 58 dX4_draft_53 (by decide) (fun q6 => ?_) (fun q6 => ?_)
      · replace h := ite_n q6 h
        refine V_iinc C 1 (x2 + (-1)) [(2, .int (x2 + (-1))), (0, .ref (ad 0))] dX4_draft_58 rfl rfl (by decide) rfl ?_
        refine V_goto C 33 dX4_draft_61 (by decide) ?_
        refine V_sub (lv' := [(0, .ref (ad 0)), (2, .int (x2 + (-1)))]) [1, 0] rfl ?_
        exact ih (x2 + (-1)) M5 h
      · replace h := ite_p q6 h
        refine V_iload_n C 1 dX4_draft_56 rfl ?_
        obtain ⟨rfl, rfl⟩ := ret_W h
        exact V_iret C dX4_draft_57
set_option maxHeartbeats 4000000 in
set_option maxRecDepth 100000 in
theorem mX4_draft (l : Launch) (x1 : Int32) (M : Mem) {r : Int32} {M9 : Mem} (h : fX4_draft x1 M = some (r, M9)) : MC l yX4_draft cX4_draft 3 (some .int) rmX4_draft (fun ad sd => [.ref (ad 0), .int x1]) M (fun _ => some (.int r)) M9 := by
  refine MC_start (by decide) (fun ad sd => [(0, .ref (ad 0)), (1, .int x1)]) (fun _ _ => rfl) (fun _ _ => Nat.le_of_ble_eq_true rfl) ?_
  intro p e s m args below meth c D T3 ad sd A C
  unfold fX4_draft at h
  refine V_iload_n C 1 dX4_draft_0 rfl ?_
  refine V_callS C (st := []) (st' := [.int (b2i (fX4_isNight x1))]) (mX4_isNight l x1 M rfl) wmX4_isNight lkX4_75 dX4_draft_1 rfl rfl rfl ⟨rfl, rfl, (Nat.le_of_ble_eq_true rfl), (Nat.le_of_ble_eq_true rfl)⟩ ⟨Nat.zero_le _, Nat.zero_le _⟩ (Nat.le_of_ble_eq_true rfl) ?_
  refine V_ifB_ne C 10 dX4_draft_4 (by decide) (fun q8 => ?_) (fun q8 => ?_)
  · replace h := ite_p q8 h
    refine V_aload_n C 0 dX4_draft_10 rfl ?_
    refine V_get C 0 dX4_draft_11 (wo_0 T3 ad _) rfl inKX4 (by decide) flX4_10 rfl rfl ?_
    refine V_aload_n C 0 dX4_draft_14 rfl ?_
    refine V_get C 4 dX4_draft_15 (wo_0 T3 ad _) rfl inKX4 (by decide) flX4_37 rfl rfl ?_
    refine V_iload_n C 1 dX4_draft_18 rfl ?_
    refine V_aload_n C 0 dX4_draft_19 rfl ?_
    refine V_get C 0 dX4_draft_20 (wo_0 T3 ad _) rfl inKX4 (by decide) flX4_10 rfl rfl ?_
    refine V_iload_n C 1 dX4_draft_23 rfl ?_
    obtain ⟨z1, hz1, h⟩ := bP_t h
    refine V_callV C (st := [.int x1, .ref (ad 24), .ref (ad 1)]) (st' := [.int (b2i z1), .int x1, .ref (ad 24), .ref (ad 1)]) (mX0_isStormy l x1 M hz1) wmX0_isStormy lkX4_91 dX4_draft_24 (wo_1 T3 ad _) rfl rfl rfl rfl rfl rfl ⟨rfl, rfl, (Nat.le_of_ble_eq_true rfl), (Nat.le_of_ble_eq_true rfl)⟩ ⟨Nat.zero_le _, Nat.zero_le _⟩ (Nat.le_of_ble_eq_true rfl) ?_
    obtain ⟨z2, M3, hz2, h⟩ := bW_t h
    refine V_callV C (st := []) (st' := []) (mX0_fill l 24 rfl x1 z1 M hz2) wmX0_fill lkX4_109 dX4_draft_27 (wo_1 T3 ad _) rfl rfl rfl rfl rfl rfl ⟨rfl, rfl, (Nat.le_of_ble_eq_true rfl), (Nat.le_of_ble_eq_true rfl)⟩ ⟨Nat.zero_le _, Nat.zero_le _⟩ (Nat.le_of_ble_eq_true rfl) ?_
    refine V_bipush C (9 : Int32) dX4_draft_30 (by decide) ?_
    refine V_istore_n C [(2, .int (9 : Int32)), (0, .ref (ad 0)), (1, .int x1)] dX4_draft_32 rfl (by decide) rfl ?_
    refine V_sub (lv' := [(0, .ref (ad 0)), (2, .int (9 : Int32))]) [1, 0] rfl ?_
    exact vX4_draft_33 C 1000 (9 : Int32) M3 h
  · replace h := ite_n q8 h
    refine V_bipush C (-2 : Int32) dX4_draft_7 (by decide) ?_
    obtain ⟨rfl, rfl⟩ := ret_W h
    exact V_iret C dX4_draft_9
abbrev rmX4_isOpen : Room := { frames := 3, cells := 0, slots := 0, locals := 72 }
def fX4_isOpen (x1 : Int32) (x2 : Int32) (x3 : Bool) (M : Mem) : Option (Bool × Mem) := bW (fX0_fill 24 x2 x3 M) fun z1 M2 => bW (fX1_findLeast 24 x1 M2) fun z3 M4 => some (z3, M4)
set_option maxHeartbeats 4000000 in
set_option maxRecDepth 100000 in
theorem mX4_isOpen (l : Launch) (x1 : Int32) (x2 : Int32) (x3 : Bool) (M : Mem) {r : Bool} {M9 : Mem} (h : fX4_isOpen x1 x2 x3 M = some (r, M9)) : MC l yX4_isOpen cX4_isOpen 4 (some .boolean) rmX4_isOpen (fun ad sd => [.ref (ad 0), .int x1, .int x2, .int (b2i x3)]) M (fun _ => some (.int (b2i r))) M9 := by
  refine MC_start (by decide) (fun ad sd => [(0, .ref (ad 0)), (1, .int x1), (2, .int x2), (3, .int (b2i x3))]) (fun _ _ => rfl) (fun _ _ => Nat.le_of_ble_eq_true rfl) ?_
  intro p e s m args below meth c D T3 ad sd A C
  unfold fX4_isOpen at h
  refine V_aload_n C 0 dX4_isOpen_0 rfl ?_
  refine V_get C 0 dX4_isOpen_1 (wo_0 T3 ad _) rfl inKX4 (by decide) flX4_10 rfl rfl ?_
  refine V_aload_n C 0 dX4_isOpen_4 rfl ?_
  refine V_get C 4 dX4_isOpen_5 (wo_0 T3 ad _) rfl inKX4 (by decide) flX4_37 rfl rfl ?_
  refine V_iload_n C 2 dX4_isOpen_8 rfl ?_
  refine V_iload_n C 3 dX4_isOpen_9 rfl ?_
  obtain ⟨z1, M2, hz1, h⟩ := bW_t h
  refine V_callV C (st := []) (st' := []) (mX0_fill l 24 rfl x2 x3 M hz1) wmX0_fill lkX4_109 dX4_isOpen_10 (wo_1 T3 ad _) rfl rfl rfl rfl rfl rfl ⟨rfl, rfl, (Nat.le_of_ble_eq_true rfl), (Nat.le_of_ble_eq_true rfl)⟩ ⟨Nat.zero_le _, Nat.zero_le _⟩ (Nat.le_of_ble_eq_true rfl) ?_
  refine V_aload_n C 0 dX4_isOpen_13 rfl ?_
  refine V_get C 2 dX4_isOpen_14 (wo_0 T3 ad _) rfl inKX4 (by decide) flX4_26 rfl rfl ?_
  refine V_aload_n C 0 dX4_isOpen_17 rfl ?_
  refine V_get C 0 dX4_isOpen_18 (wo_0 T3 ad _) rfl inKX4 (by decide) flX4_10 rfl rfl ?_
  refine V_aload_n C 0 dX4_isOpen_21 rfl ?_
  refine V_get C 4 dX4_isOpen_22 (wo_0 T3 ad _) rfl inKX4 (by decide) flX4_37 rfl rfl ?_
  refine V_iload_n C 1 dX4_isOpen_25 rfl ?_
  obtain ⟨z3, M4, hz3, h⟩ := bW_t h
  refine V_callV C (st := []) (st' := [.int (b2i z3)]) (mX1_findLeast l 24 rfl x1 M2 hz3) wmX1_findLeast lkX4_117 dX4_isOpen_26 (wo_11 T3 ad _) rfl rfl rfl rfl rfl rfl ⟨rfl, rfl, (Nat.le_of_ble_eq_true rfl), (Nat.le_of_ble_eq_true rfl)⟩ ⟨Nat.zero_le _, Nat.zero_le _⟩ (Nat.le_of_ble_eq_true rfl) ?_
  obtain ⟨rfl, rfl⟩ := ret_W h
  exact V_zret C dX4_isOpen_29
abbrev rmX4_waits : Room := { frames := 4, cells := 0, slots := 0, locals := 95 }
def fX4_waits_13 : Nat → Int32 → Int32 → Mem → Option (Int32 × Mem)
  | 0, _, _, _ => none
  | n + 1, x1, x3, M => if (99 : Int32) < x3 then some ((-1 : Int32), M) else bP (fX0_isStormy M x3) fun z1 => bW (fX4_isOpen x1 x3 z1 M) fun z2 M3 => if z2 = true then some (x3, M3) else fX4_waits_13 n x1 (x3 + 1) M3
def fX4_waits (x1 : Int32) (x2 : Int32) (M : Mem) : Option (Int32 × Mem) := if (fX4_isShip x1 x2) = true then fX4_waits_13 1000 x1 x2 M else some ((-2 : Int32), M)
set_option maxHeartbeats 4000000 in
set_option maxRecDepth 100000 in
theorem vX4_waits_13 {p : Program} {l : Launch} {e : Env} {s : State} {m : MethodId} {args : Array Value} {below : List Frame} {meth : Method} {c : Code} {D : va_G} {T3 : ClassId × ClassId × ClassId} {ad sd : Nat → Nat} {A : Nat → Prop}  (C : CX p s m args meth c cX4_waits 4 RX4 (some .int) D T3 ad sd A) {r : Int32} {M9 : Mem} : ∀ (n : Nat) (x1 : Int32) (x3 : Int32) (M : Mem), fX4_waits_13 n x1 x3 M = some (r, M9) → VV p l e rmX4_waits s m args below meth c D T3 ad A 4 0 0 (QM below D T3 ad A args s (fun _ => some (.int r)) M9) M [(0, .ref (ad 0)), (1, .int x1), (3, .int x3)] 13 [] := by
  intro n
  induction n with
  | zero => intro x1 x3 M h; exact nomatch (show (none : Option (Int32 × Mem)) = some _ from h)
  | succ n ih =>
    intro x1 x3 M h
    rw [fX4_waits_13] at h
    refine V_iload_n C 2 dX4_waits_13 rfl ?_
    refine V_bipush C (99 : Int32) dX4_waits_14 (by decide) ?_
    refine V_icmp_gt C 44 dX4_waits_16 (by decide) (fun q5 => ?_) (fun q5 => ?_)
    · replace h := ite_p q5 h
      refine V_iconst C (-1 : Int32) dX4_waits_44 (by decide) ?_
      obtain ⟨rfl, rfl⟩ := ret_W h
      exact V_iret C dX4_waits_45
    · replace h := ite_n q5 h
      refine V_aload_n C 0 dX4_waits_19 rfl ?_
      refine V_iload_n C 1 dX4_waits_20 rfl ?_
      refine V_iload_n C 2 dX4_waits_21 rfl ?_
      refine V_aload_n C 0 dX4_waits_22 rfl ?_
      refine V_get C 0 dX4_waits_23 (wo_0 T3 ad _) rfl inKX4 (by decide) flX4_10 rfl rfl ?_
      refine V_iload_n C 2 dX4_waits_26 rfl ?_
      obtain ⟨z1, hz1, h⟩ := bP_t h
      refine V_callV C (st := [.int x3, .int x1, .ref (ad 0)]) (st' := [.int (b2i z1), .int x3, .int x1, .ref (ad 0)]) (mX0_isStormy l x3 M hz1) wmX0_isStormy lkX4_91 dX4_waits_27 (wo_1 T3 ad _) rfl rfl rfl rfl rfl rfl ⟨rfl, rfl, (Nat.le_of_ble_eq_true rfl), (Nat.le_of_ble_eq_true rfl)⟩ ⟨Nat.zero_le _, Nat.zero_le _⟩ (Nat.le_of_ble_eq_true rfl) ?_
      obtain ⟨z2, M3, hz2, h⟩ := bW_t h
      refine V_callV C (st := []) (st' := [.int (b2i z2)]) (mX4_isOpen l x1 x3 z1 M hz2) wmX4_isOpen lkX4_124 dX4_waits_30 (wo_0 T3 ad _) rfl rfl rfl rfl rfl rfl ⟨rfl, rfl, (Nat.le_of_ble_eq_true rfl), (Nat.le_of_ble_eq_true rfl)⟩ ⟨Nat.zero_le _, Nat.zero_le _⟩ (Nat.le_of_ble_eq_true rfl) ?_
      refine V_ifB_eq C 38 dX4_waits_33 (by decide) (fun q4 => ?_) (fun q4 => ?_)
      · replace h := ite_n q4 h
        refine V_iinc C 2 (x3 + 1) [(3, .int (x3 + 1)), (0, .ref (ad 0)), (1, .int x1)] dX4_waits_38 rfl rfl (by decide) rfl ?_
        refine V_goto C 13 dX4_waits_41 (by decide) ?_
        refine V_sub (lv' := [(0, .ref (ad 0)), (1, .int x1), (3, .int (x3 + 1))]) [1, 2, 0] rfl ?_
        exact ih x1 (x3 + 1) M3 h
      · replace h := ite_p q4 h
        refine V_iload_n C 2 dX4_waits_36 rfl ?_
        obtain ⟨rfl, rfl⟩ := ret_W h
        exact V_iret C dX4_waits_37
set_option maxHeartbeats 4000000 in
set_option maxRecDepth 100000 in
theorem mX4_waits (l : Launch) (x1 : Int32) (x2 : Int32) (M : Mem) {r : Int32} {M9 : Mem} (h : fX4_waits x1 x2 M = some (r, M9)) : MC l yX4_waits cX4_waits 4 (some .int) rmX4_waits (fun ad sd => [.ref (ad 0), .int x1, .int x2]) M (fun _ => some (.int r)) M9 := by
  refine MC_start (by decide) (fun ad sd => [(0, .ref (ad 0)), (1, .int x1), (2, .int x2)]) (fun _ _ => rfl) (fun _ _ => Nat.le_of_ble_eq_true rfl) ?_
  intro p e s m args below meth c D T3 ad sd A C
  unfold fX4_waits at h
  refine V_iload_n C 1 dX4_waits_0 rfl ?_
  refine V_iload_n C 2 dX4_waits_1 rfl ?_
  refine V_callS C (st := []) (st' := [.int (b2i (fX4_isShip x1 x2))]) (mX4_isShip l x1 x2 M rfl) wmX4_isShip lkX4_105 dX4_waits_2 rfl rfl rfl ⟨rfl, rfl, (Nat.le_of_ble_eq_true rfl), (Nat.le_of_ble_eq_true rfl)⟩ ⟨Nat.zero_le _, Nat.zero_le _⟩ (Nat.le_of_ble_eq_true rfl) ?_
  refine V_ifB_ne C 11 dX4_waits_5 (by decide) (fun q6 => ?_) (fun q6 => ?_)
  · replace h := ite_p q6 h
    refine V_iload_n C 2 dX4_waits_11 rfl ?_
    refine V_istore_n C [(3, .int x2), (0, .ref (ad 0)), (1, .int x1), (2, .int x2)] dX4_waits_12 rfl (by decide) rfl ?_
    refine V_sub (lv' := [(0, .ref (ad 0)), (1, .int x1), (3, .int x2)]) [1, 2, 0] rfl ?_
    exact vX4_waits_13 C 1000 x1 x2 M h
  · replace h := ite_n q6 h
    refine V_bipush C (-2 : Int32) dX4_waits_8 (by decide) ?_
    obtain ⟨rfl, rfl⟩ := ret_W h
    exact V_iret C dX4_waits_10
abbrev rmX4_findByMap : Room := { frames := 3, cells := 0, slots := 0, locals := 72 }
def fX4_findByMap (x1 : Int32) (x2 : Int32) (M : Mem) : Option (Bool × Mem) := bP (fX0_isStormy M (fX4_nightShown x2)) fun z1 => bW (fX0_fill 24 (fX4_nightShown x2) z1 M) fun z2 M3 => bW (fX1_findLeast 24 x1 M3) fun z4 M5 => some (z4, M5)
set_option maxHeartbeats 4000000 in
set_option maxRecDepth 100000 in
theorem mX4_findByMap (l : Launch) (x1 : Int32) (x2 : Int32) (M : Mem) {r : Bool} {M9 : Mem} (h : fX4_findByMap x1 x2 M = some (r, M9)) : MC l yX4_findByMap cX4_findByMap 4 (some .boolean) rmX4_findByMap (fun ad sd => [.ref (ad 0), .int x1, .int x2]) M (fun _ => some (.int (b2i r))) M9 := by
  refine MC_start (by decide) (fun ad sd => [(0, .ref (ad 0)), (1, .int x1), (2, .int x2)]) (fun _ _ => rfl) (fun _ _ => Nat.le_of_ble_eq_true rfl) ?_
  intro p e s m args below meth c D T3 ad sd A C
  unfold fX4_findByMap at h
  refine V_iload_n C 2 dX4_findByMap_0 rfl ?_
  refine V_callS C (st := []) (st' := [.int (fX4_nightShown x2)]) (mX4_nightShown l x2 M rfl) wmX4_nightShown lkX4_98 dX4_findByMap_1 rfl rfl rfl ⟨rfl, rfl, (Nat.le_of_ble_eq_true rfl), (Nat.le_of_ble_eq_true rfl)⟩ ⟨Nat.zero_le _, Nat.zero_le _⟩ (Nat.le_of_ble_eq_true rfl) ?_
  refine V_istore_n C [(3, .int (fX4_nightShown x2)), (0, .ref (ad 0)), (1, .int x1), (2, .int x2)] dX4_findByMap_4 rfl (by decide) rfl ?_
  refine V_aload_n C 1 dX4_findByMap_5 rfl ?_
  refine V_get C 0 dX4_findByMap_6 (wo_0 T3 ad _) rfl inKX4 (by decide) flX4_10 rfl rfl ?_
  refine V_aload_n C 1 dX4_findByMap_9 rfl ?_
  refine V_get C 4 dX4_findByMap_10 (wo_0 T3 ad _) rfl inKX4 (by decide) flX4_37 rfl rfl ?_
  refine V_iload_n C 0 dX4_findByMap_13 rfl ?_
  refine V_aload_n C 1 dX4_findByMap_14 rfl ?_
  refine V_get C 0 dX4_findByMap_15 (wo_0 T3 ad _) rfl inKX4 (by decide) flX4_10 rfl rfl ?_
  refine V_iload_n C 0 dX4_findByMap_18 rfl ?_
  obtain ⟨z1, hz1, h⟩ := bP_t h
  refine V_callV C (st := [.int (fX4_nightShown x2), .ref (ad 24), .ref (ad 1)]) (st' := [.int (b2i z1), .int (fX4_nightShown x2), .ref (ad 24), .ref (ad 1)]) (mX0_isStormy l (fX4_nightShown x2) M hz1) wmX0_isStormy lkX4_91 dX4_findByMap_19 (wo_1 T3 ad _) rfl rfl rfl rfl rfl rfl ⟨rfl, rfl, (Nat.le_of_ble_eq_true rfl), (Nat.le_of_ble_eq_true rfl)⟩ ⟨Nat.zero_le _, Nat.zero_le _⟩ (Nat.le_of_ble_eq_true rfl) ?_
  obtain ⟨z2, M3, hz2, h⟩ := bW_t h
  refine V_callV C (st := []) (st' := []) (mX0_fill l 24 rfl (fX4_nightShown x2) z1 M hz2) wmX0_fill lkX4_109 dX4_findByMap_22 (wo_1 T3 ad _) rfl rfl rfl rfl rfl rfl ⟨rfl, rfl, (Nat.le_of_ble_eq_true rfl), (Nat.le_of_ble_eq_true rfl)⟩ ⟨Nat.zero_le _, Nat.zero_le _⟩ (Nat.le_of_ble_eq_true rfl) ?_
  refine V_aload_n C 1 dX4_findByMap_25 rfl ?_
  refine V_get C 2 dX4_findByMap_26 (wo_0 T3 ad _) rfl inKX4 (by decide) flX4_26 rfl rfl ?_
  refine V_aload_n C 1 dX4_findByMap_29 rfl ?_
  refine V_get C 0 dX4_findByMap_30 (wo_0 T3 ad _) rfl inKX4 (by decide) flX4_10 rfl rfl ?_
  refine V_aload_n C 1 dX4_findByMap_33 rfl ?_
  refine V_get C 4 dX4_findByMap_34 (wo_0 T3 ad _) rfl inKX4 (by decide) flX4_37 rfl rfl ?_
  refine V_iload_n C 2 dX4_findByMap_37 rfl ?_
  obtain ⟨z4, M5, hz4, h⟩ := bW_t h
  refine V_callV C (st := []) (st' := [.int (b2i z4)]) (mX1_findLeast l 24 rfl x1 M3 hz4) wmX1_findLeast lkX4_117 dX4_findByMap_38 (wo_11 T3 ad _) rfl rfl rfl rfl rfl rfl ⟨rfl, rfl, (Nat.le_of_ble_eq_true rfl), (Nat.le_of_ble_eq_true rfl)⟩ ⟨Nat.zero_le _, Nat.zero_le _⟩ (Nat.le_of_ble_eq_true rfl) ?_
  obtain ⟨rfl, rfl⟩ := ret_W h
  exact V_zret C dX4_findByMap_41
abbrev rmX4_aground : Room := { frames := 2, cells := 0, slots := 0, locals := 48 }
def fX4_aground_3 (M : Mem) : Nat → Int32 → Int32 → Bool → Int32 → Option Int32
  | 0, _, _, _, _ => none
  | n + 1, x1, x2, x3, x4 => if (M 11 3) ≤ x4 then some (-1 : Int32) else bP (fX1_step M x4) fun z1 => bP (fX0_depth M z1 x2 x3) fun z2 => if x1 ≤ z2 then fX4_aground_3 M n x1 x2 x3 (x4 + 1) else some z1
def fX4_aground (M : Mem) (x1 : Int32) (x2 : Int32) (x3 : Bool) : Option Int32 := fX4_aground_3 M 1000 x1 x2 x3 (0 : Int32)
set_option maxHeartbeats 4000000 in
set_option maxRecDepth 100000 in
theorem vX4_aground_3 {p : Program} {l : Launch} {e : Env} {s : State} {m : MethodId} {args : Array Value} {below : List Frame} {meth : Method} {c : Code} {D : va_G} {T3 : ClassId × ClassId × ClassId} {ad sd : Nat → Nat} {A : Nat → Prop}  (C : CX p s m args meth c cX4_aground 6 RX4 (some .int) D T3 ad sd A) {r : Int32} (M : Mem) : ∀ (n : Nat) (x1 : Int32) (x2 : Int32) (x3 : Bool) (x4 : Int32), fX4_aground_3 M n x1 x2 x3 x4 = some r → VV p l e rmX4_aground s m args below meth c D T3 ad A 6 0 0 (QM below D T3 ad A args s (fun _ => some (.int r)) M) M [(0, .ref (ad 0)), (1, .int x1), (2, .int x2), (3, .int (b2i x3)), (4, .int x4)] 3 [] := by
  intro n
  induction n with
  | zero => intro x1 x2 x3 x4 h; exact nomatch (show (none : Option Int32) = some _ from h)
  | succ n ih =>
    intro x1 x2 x3 x4 h
    rw [fX4_aground_3] at h
    refine V_iload C 4 dX4_aground_3 rfl ?_
    refine V_aload_n C 0 dX4_aground_5 rfl ?_
    refine V_get C 2 dX4_aground_6 (wo_0 T3 ad _) rfl inKX4 (by decide) flX4_26 rfl rfl ?_
    refine V_getN C 3 dX4_aground_9 (wo_11 T3 ad _) rfl inKX1 (by decide) flX4_329 rfl rfl ?_
    refine V_icmp_ge C 50 dX4_aground_12 (by decide) (fun q4 => ?_) (fun q4 => ?_)
    · replace h := ite_p q4 h
      refine V_iconst C (-1 : Int32) dX4_aground_50 (by decide) ?_
      obtain rfl := ret_P h
      exact V_iret C dX4_aground_51
    · replace h := ite_n q4 h
      refine V_aload_n C 0 dX4_aground_15 rfl ?_
      refine V_get C 2 dX4_aground_16 (wo_0 T3 ad _) rfl inKX4 (by decide) flX4_26 rfl rfl ?_
      refine V_iload C 4 dX4_aground_19 rfl ?_
      obtain ⟨z1, hz1, h⟩ := bP_t h
      refine V_callV C (st := []) (st' := [.int z1]) (mX1_step l x4 M hz1) wmX1_step lkX4_121 dX4_aground_21 (wo_11 T3 ad _) rfl rfl rfl rfl rfl rfl ⟨rfl, rfl, (Nat.le_of_ble_eq_true rfl), (Nat.le_of_ble_eq_true rfl)⟩ ⟨Nat.zero_le _, Nat.zero_le _⟩ (Nat.le_of_ble_eq_true rfl) ?_
      refine V_istore C [(5, .int z1), (0, .ref (ad 0)), (1, .int x1), (2, .int x2), (3, .int (b2i x3)), (4, .int x4)] dX4_aground_24 (by decide) rfl ?_
      refine V_aload_n C 1 dX4_aground_26 rfl ?_
      refine V_get C 0 dX4_aground_27 (wo_0 T3 ad _) rfl inKX4 (by decide) flX4_10 rfl rfl ?_
      refine V_iload C 0 dX4_aground_30 rfl ?_
      refine V_iload_n C 3 dX4_aground_32 rfl ?_
      refine V_iload_n C 4 dX4_aground_33 rfl ?_
      obtain ⟨z2, hz2, h⟩ := bP_t h
      refine V_callV C (st := []) (st' := [.int z2]) (mX0_depth l z1 x2 x3 M hz2) wmX0_depth lkX4_94 dX4_aground_34 (wo_1 T3 ad _) rfl rfl rfl rfl rfl rfl ⟨rfl, rfl, (Nat.le_of_ble_eq_true rfl), (Nat.le_of_ble_eq_true rfl)⟩ ⟨Nat.zero_le _, Nat.zero_le _⟩ (Nat.le_of_ble_eq_true rfl) ?_
      refine V_iload_n C 2 dX4_aground_37 rfl ?_
      refine V_icmp_ge C 44 dX4_aground_38 (by decide) (fun q3 => ?_) (fun q3 => ?_)
      · replace h := ite_p q3 h
        refine V_iinc C 5 (x4 + 1) [(4, .int (x4 + 1)), (5, .int z1), (0, .ref (ad 0)), (1, .int x1), (2, .int x2), (3, .int (b2i x3))] dX4_aground_44 rfl rfl (by decide) rfl ?_
        refine V_goto C 3 dX4_aground_47 (by decide) ?_
        refine V_sub (lv' := [(0, .ref (ad 0)), (1, .int x1), (2, .int x2), (3, .int (b2i x3)), (4, .int (x4 + 1))]) [2, 3, 4, 5, 0] rfl ?_
        exact ih x1 x2 x3 (x4 + 1) h
      · replace h := ite_n q3 h
        refine V_iload C 0 dX4_aground_41 rfl ?_
        obtain rfl := ret_P h
        exact V_iret C dX4_aground_43
set_option maxHeartbeats 4000000 in
set_option maxRecDepth 100000 in
theorem mX4_aground (l : Launch) (x1 : Int32) (x2 : Int32) (x3 : Bool) (M : Mem) {r : Int32} (h : fX4_aground M x1 x2 x3 = some r) : MC l yX4_aground cX4_aground 6 (some .int) rmX4_aground (fun ad sd => [.ref (ad 0), .int x1, .int x2, .int (b2i x3)]) M (fun _ => some (.int r)) M := by
  refine MC_start (by decide) (fun ad sd => [(0, .ref (ad 0)), (1, .int x1), (2, .int x2), (3, .int (b2i x3))]) (fun _ _ => rfl) (fun _ _ => Nat.le_of_ble_eq_true rfl) ?_
  intro p e s m args below meth c D T3 ad sd A C
  unfold fX4_aground at h
  refine V_iconst C (0 : Int32) dX4_aground_0 (by decide) ?_
  refine V_istore C [(4, .int (0 : Int32)), (0, .ref (ad 0)), (1, .int x1), (2, .int x2), (3, .int (b2i x3))] dX4_aground_1 (by decide) rfl ?_
  refine V_sub (lv' := [(0, .ref (ad 0)), (1, .int x1), (2, .int x2), (3, .int (b2i x3)), (4, .int (0 : Int32))]) [1, 2, 3, 4, 0] rfl ?_
  exact vX4_aground_3 C M 1000 x1 x2 x3 (0 : Int32) h
abbrev rmX4_byMap : Room := { frames := 4, cells := 0, slots := 0, locals := 95 }
def fX4_byMap (x1 : Int32) (x2 : Int32) (M : Mem) : Option (Int32 × Mem) := if (fX4_isShip x1 x2) = true then bW (fX4_findByMap x1 x2 M) fun z1 M2 => if z1 = true then bP (fX0_isStormy M2 x2) fun z3 => bP (fX4_aground M2 x1 x2 z3) fun z4 => some (z4, M2) else some ((-3 : Int32), M2) else some ((-2 : Int32), M)
set_option maxHeartbeats 4000000 in
set_option maxRecDepth 100000 in
theorem mX4_byMap (l : Launch) (x1 : Int32) (x2 : Int32) (M : Mem) {r : Int32} {M9 : Mem} (h : fX4_byMap x1 x2 M = some (r, M9)) : MC l yX4_byMap cX4_byMap 3 (some .int) rmX4_byMap (fun ad sd => [.ref (ad 0), .int x1, .int x2]) M (fun _ => some (.int r)) M9 := by
  refine MC_start (by decide) (fun ad sd => [(0, .ref (ad 0)), (1, .int x1), (2, .int x2)]) (fun _ _ => rfl) (fun _ _ => Nat.le_of_ble_eq_true rfl) ?_
  intro p e s m args below meth c D T3 ad sd A C
  unfold fX4_byMap at h
  refine V_iload_n C 1 dX4_byMap_0 rfl ?_
  refine V_iload_n C 2 dX4_byMap_1 rfl ?_
  refine V_callS C (st := []) (st' := [.int (b2i (fX4_isShip x1 x2))]) (mX4_isShip l x1 x2 M rfl) wmX4_isShip lkX4_105 dX4_byMap_2 rfl rfl rfl ⟨rfl, rfl, (Nat.le_of_ble_eq_true rfl), (Nat.le_of_ble_eq_true rfl)⟩ ⟨Nat.zero_le _, Nat.zero_le _⟩ (Nat.le_of_ble_eq_true rfl) ?_
  refine V_ifB_ne C 11 dX4_byMap_5 (by decide) (fun q6 => ?_) (fun q6 => ?_)
  · replace h := ite_p q6 h
    refine V_aload_n C 0 dX4_byMap_11 rfl ?_
    refine V_iload_n C 1 dX4_byMap_12 rfl ?_
    refine V_iload_n C 2 dX4_byMap_13 rfl ?_
    obtain ⟨z1, M2, hz1, h⟩ := bW_t h
    refine V_callV C (st := []) (st' := [.int (b2i z1)]) (mX4_findByMap l x1 x2 M hz1) wmX4_findByMap lkX4_128 dX4_byMap_14 (wo_0 T3 ad _) rfl rfl rfl rfl rfl rfl ⟨rfl, rfl, (Nat.le_of_ble_eq_true rfl), (Nat.le_of_ble_eq_true rfl)⟩ ⟨Nat.zero_le _, Nat.zero_le _⟩ (Nat.le_of_ble_eq_true rfl) ?_
    refine V_ifB_ne C 23 dX4_byMap_17 (by decide) (fun q5 => ?_) (fun q5 => ?_)
    · replace h := ite_p q5 h
      refine V_aload_n C 0 dX4_byMap_23 rfl ?_
      refine V_iload_n C 1 dX4_byMap_24 rfl ?_
      refine V_iload_n C 2 dX4_byMap_25 rfl ?_
      refine V_aload_n C 0 dX4_byMap_26 rfl ?_
      refine V_get C 0 dX4_byMap_27 (wo_0 T3 ad _) rfl inKX4 (by decide) flX4_10 rfl rfl ?_
      refine V_iload_n C 2 dX4_byMap_30 rfl ?_
      obtain ⟨z3, hz3, h⟩ := bP_t h
      refine V_callV C (st := [.int x2, .int x1, .ref (ad 0)]) (st' := [.int (b2i z3), .int x2, .int x1, .ref (ad 0)]) (mX0_isStormy l x2 M2 hz3) wmX0_isStormy lkX4_91 dX4_byMap_31 (wo_1 T3 ad _) rfl rfl rfl rfl rfl rfl ⟨rfl, rfl, (Nat.le_of_ble_eq_true rfl), (Nat.le_of_ble_eq_true rfl)⟩ ⟨Nat.zero_le _, Nat.zero_le _⟩ (Nat.le_of_ble_eq_true rfl) ?_
      obtain ⟨z4, hz4, h⟩ := bP_t h
      refine V_callV C (st := []) (st' := [.int z4]) (mX4_aground l x1 x2 z3 M2 hz4) wmX4_aground lkX4_131 dX4_byMap_34 (wo_0 T3 ad _) rfl rfl rfl rfl rfl rfl ⟨rfl, rfl, (Nat.le_of_ble_eq_true rfl), (Nat.le_of_ble_eq_true rfl)⟩ ⟨Nat.zero_le _, Nat.zero_le _⟩ (Nat.le_of_ble_eq_true rfl) ?_
      obtain ⟨rfl, rfl⟩ := ret_W h
      exact V_iret C dX4_byMap_37
    · replace h := ite_n q5 h
      refine V_bipush C (-3 : Int32) dX4_byMap_20 (by decide) ?_
      obtain ⟨rfl, rfl⟩ := ret_W h
      exact V_iret C dX4_byMap_22
  · replace h := ite_n q6 h
    refine V_bipush C (-2 : Int32) dX4_byMap_8 (by decide) ?_
    obtain ⟨rfl, rfl⟩ := ret_W h
    exact V_iret C dX4_byMap_10
abbrev rmX4_findByChange : Room := { frames := 3, cells := 0, slots := 0, locals := 72 }
def fX4_findByChange_131 (x1 : Int32) (M : Mem) : Option (Bool × Mem) := bW (fX1_findLeast 24 x1 M) fun z8 M9 => some (z8, M9)
def fX4_findByChange_62 : Nat → Int32 → Int32 → Mem → Option (Bool × Mem)
  | 0, _, _, _ => none
  | n + 1, x1, x5, M => if (16 : Int32) ≤ x5 then fX4_findByChange_131 x1 M else if (16 : Int32) ≤ x5 then fX4_findByChange_131 x1 M else gd (inb x5 16) (gd (inb x5 16) (gd (inb x5 16) (lt ((((M 24 (x5).toNatClampNeg) + (M 24 (x5).toNatClampNeg)) - (M 25 (x5).toNatClampNeg))) fun y13 => gd (inb x5 16) (lt (up M 24 (x5).toNatClampNeg (mx (0 : Int32) (mn (9 : Int32) y13))) fun M14 => fX4_findByChange_62 n x1 (x5 + 1) M14))))
def fX4_findByChange (x1 : Int32) (x2 : Int32) (M : Mem) : Option (Bool × Mem) := lt ((fX4_nightShown (mx (0 : Int32) (x2 - (1 : Int32))))) fun y1 => bP (fX0_isStormy M (fX4_nightShown x2)) fun z2 => bW (fX0_fill 24 (fX4_nightShown x2) z2 M) fun z3 M4 => bP (fX0_isStormy M4 y1) fun z5 => bW (fX0_fill 25 y1 z5 M4) fun z6 M7 => fX4_findByChange_62 1000 x1 (0 : Int32) M7
set_option maxHeartbeats 4000000 in
set_option maxRecDepth 100000 in
theorem vX4_findByChange_131 {p : Program} {l : Launch} {e : Env} {s : State} {m : MethodId} {args : Array Value} {below : List Frame} {meth : Method} {c : Code} {D : va_G} {T3 : ClassId × ClassId × ClassId} {ad sd : Nat → Nat} {A : Nat → Prop}  (C : CX p s m args meth c cX4_findByChange 7 RX4 (some .boolean) D T3 ad sd A) {r : Bool} {M9 : Mem} : ∀ (x1 : Int32) (M : Mem), fX4_findByChange_131 x1 M = some (r, M9) → VV p l e rmX4_findByChange s m args below meth c D T3 ad A 7 0 0 (QM below D T3 ad A args s (fun _ => some (.int (b2i r))) M9) M [(0, .ref (ad 0)), (1, .int x1)] 131 [] := by
  intro x1 M h
  unfold fX4_findByChange_131 at h
  refine V_aload_n C 0 dX4_findByChange_131 rfl ?_
  refine V_get C 2 dX4_findByChange_132 (wo_0 T3 ad _) rfl inKX4 (by decide) flX4_26 rfl rfl ?_
  refine V_aload_n C 0 dX4_findByChange_135 rfl ?_
  refine V_get C 0 dX4_findByChange_136 (wo_0 T3 ad _) rfl inKX4 (by decide) flX4_10 rfl rfl ?_
  refine V_aload_n C 0 dX4_findByChange_139 rfl ?_
  refine V_get C 4 dX4_findByChange_140 (wo_0 T3 ad _) rfl inKX4 (by decide) flX4_37 rfl rfl ?_
  refine V_iload_n C 1 dX4_findByChange_143 rfl ?_
  obtain ⟨z8, M9, hz8, h⟩ := bW_t h
  refine V_callV C (st := []) (st' := [.int (b2i z8)]) (mX1_findLeast l 24 rfl x1 M hz8) wmX1_findLeast lkX4_117 dX4_findByChange_144 (wo_11 T3 ad _) rfl rfl rfl rfl rfl rfl ⟨rfl, rfl, (Nat.le_of_ble_eq_true rfl), (Nat.le_of_ble_eq_true rfl)⟩ ⟨Nat.zero_le _, Nat.zero_le _⟩ (Nat.le_of_ble_eq_true rfl) ?_
  obtain ⟨rfl, rfl⟩ := ret_W h
  exact V_zret C dX4_findByChange_147
set_option maxHeartbeats 4000000 in
set_option maxRecDepth 100000 in
theorem vX4_findByChange_62 {p : Program} {l : Launch} {e : Env} {s : State} {m : MethodId} {args : Array Value} {below : List Frame} {meth : Method} {c : Code} {D : va_G} {T3 : ClassId × ClassId × ClassId} {ad sd : Nat → Nat} {A : Nat → Prop}  (C : CX p s m args meth c cX4_findByChange 7 RX4 (some .boolean) D T3 ad sd A) {r : Bool} {M9 : Mem} : ∀ (n : Nat) (x1 : Int32) (x5 : Int32) (M : Mem), fX4_findByChange_62 n x1 x5 M = some (r, M9) → VV p l e rmX4_findByChange s m args below meth c D T3 ad A 7 0 0 (QM below D T3 ad A args s (fun _ => some (.int (b2i r))) M9) M [(0, .ref (ad 0)), (1, .int x1), (5, .int x5)] 62 [] := by
  intro n
  induction n with
  | zero => intro x1 x5 M h; exact nomatch (show (none : Option (Bool × Mem)) = some _ from h)
  | succ n ih =>
    intro x1 x5 M h
    rw [fX4_findByChange_62] at h
    refine V_iload C 2 dX4_findByChange_62 rfl ?_
    refine V_aload_n C 0 dX4_findByChange_64 rfl ?_
    refine V_get C 4 dX4_findByChange_65 (wo_0 T3 ad _) rfl inKX4 (by decide) flX4_37 rfl rfl ?_
    refine V_alen C (v := (16 : Int32)) rfl rfl dX4_findByChange_68 ?_
    refine V_icmp_ge C 131 dX4_findByChange_69 (by decide) (fun q17 => ?_) (fun q17 => ?_)
    · replace h := ite_p q17 h
      refine V_sub (lv' := [(0, .ref (ad 0)), (1, .int x1)]) [0, 1] rfl ?_
      exact vX4_findByChange_131 C x1 M h
    · replace h := ite_n q17 h
      refine V_iload C 2 dX4_findByChange_72 rfl ?_
      refine V_aload_n C 0 dX4_findByChange_74 rfl ?_
      refine V_get C 5 dX4_findByChange_75 (wo_0 T3 ad _) rfl inKX4 (by decide) flX4_41 rfl rfl ?_
      refine V_alen C (v := (16 : Int32)) rfl rfl dX4_findByChange_78 ?_
      refine V_icmp_ge C 131 dX4_findByChange_79 (by decide) (fun q16 => ?_) (fun q16 => ?_)
      · replace h := ite_p q16 h
        refine V_sub (lv' := [(0, .ref (ad 0)), (1, .int x1)]) [0, 1] rfl ?_
        exact vX4_findByChange_131 C x1 M h
      · replace h := ite_n q16 h
        refine V_aload_n C 0 dX4_findByChange_82 rfl ?_
        refine V_get C 4 dX4_findByChange_83 (wo_0 T3 ad _) rfl inKX4 (by decide) flX4_37 rfl rfl ?_
        refine V_iload C 2 dX4_findByChange_86 rfl ?_
        obtain ⟨g10, h⟩ := gd_t h
        refine V_iald C rfl rfl (inb_in g10) dX4_findByChange_88 ?_
        refine V_aload_n C 0 dX4_findByChange_89 rfl ?_
        refine V_get C 4 dX4_findByChange_90 (wo_0 T3 ad _) rfl inKX4 (by decide) flX4_37 rfl rfl ?_
        refine V_iload C 2 dX4_findByChange_93 rfl ?_
        obtain ⟨g11, h⟩ := gd_t h
        refine V_iald C rfl rfl (inb_in g11) dX4_findByChange_95 ?_
        refine V_iadd C dX4_findByChange_96 ?_
        refine V_aload_n C 0 dX4_findByChange_97 rfl ?_
        refine V_get C 5 dX4_findByChange_98 (wo_0 T3 ad _) rfl inKX4 (by decide) flX4_41 rfl rfl ?_
        refine V_iload C 2 dX4_findByChange_101 rfl ?_
        obtain ⟨g12, h⟩ := gd_t h
        refine V_iald C rfl rfl (inb_in g12) dX4_findByChange_103 ?_
        refine V_isub C dX4_findByChange_104 ?_
        obtain ⟨y13, hy13, h⟩ := lt_t h
        refine V_topi C hy13 ?_
        refine V_istore C [(6, .int y13), (0, .ref (ad 0)), (1, .int x1), (5, .int x5)] dX4_findByChange_105 (by decide) rfl ?_
        refine V_aload_n C 1 dX4_findByChange_107 rfl ?_
        refine V_get C 4 dX4_findByChange_108 (wo_0 T3 ad _) rfl inKX4 (by decide) flX4_37 rfl rfl ?_
        refine V_iload C 3 dX4_findByChange_111 rfl ?_
        refine V_iconst C (0 : Int32) dX4_findByChange_113 (by decide) ?_
        refine V_bipush C (9 : Int32) dX4_findByChange_114 (by decide) ?_
        refine V_iload C 0 dX4_findByChange_116 rfl ?_
        refine V_mmin C dX4_findByChange_118 lkX4_198 wMmin_s wM_i wMmin_c (Nat.le_of_ble_eq_true rfl) (Nat.le_of_ble_eq_true rfl) (Nat.zero_le _) (Nat.zero_le _) ?_
        refine V_mmax C dX4_findByChange_121 lkX4_326 wMmax_s wM_i wMmax_c (Nat.le_of_ble_eq_true rfl) (Nat.le_of_ble_eq_true rfl) (Nat.zero_le _) (Nat.zero_le _) ?_
        obtain ⟨g15, h⟩ := gd_t h
        obtain ⟨M14, hM14, h⟩ := lt_t h
        refine V_iast C M14 rfl rfl (inb_in g15) dX4_findByChange_124 hM14 ?_
        refine V_iinc C 3 (x5 + 1) [(5, .int (x5 + 1)), (6, .int y13), (0, .ref (ad 0)), (1, .int x1)] dX4_findByChange_125 rfl rfl (by decide) rfl ?_
        refine V_goto C 62 dX4_findByChange_128 (by decide) ?_
        refine V_sub (lv' := [(0, .ref (ad 0)), (1, .int x1), (5, .int (x5 + 1))]) [2, 3, 0] rfl ?_
        exact ih x1 (x5 + 1) M14 h
set_option maxHeartbeats 4000000 in
set_option maxRecDepth 100000 in
theorem mX4_findByChange (l : Launch) (x1 : Int32) (x2 : Int32) (M : Mem) {r : Bool} {M9 : Mem} (h : fX4_findByChange x1 x2 M = some (r, M9)) : MC l yX4_findByChange cX4_findByChange 7 (some .boolean) rmX4_findByChange (fun ad sd => [.ref (ad 0), .int x1, .int x2]) M (fun _ => some (.int (b2i r))) M9 := by
  refine MC_start (by decide) (fun ad sd => [(0, .ref (ad 0)), (1, .int x1), (2, .int x2)]) (fun _ _ => rfl) (fun _ _ => Nat.le_of_ble_eq_true rfl) ?_
  intro p e s m args below meth c D T3 ad sd A C
  unfold fX4_findByChange at h
  refine V_iload_n C 2 dX4_findByChange_0 rfl ?_
  refine V_callS C (st := []) (st' := [.int (fX4_nightShown x2)]) (mX4_nightShown l x2 M rfl) wmX4_nightShown lkX4_98 dX4_findByChange_1 rfl rfl rfl ⟨rfl, rfl, (Nat.le_of_ble_eq_true rfl), (Nat.le_of_ble_eq_true rfl)⟩ ⟨Nat.zero_le _, Nat.zero_le _⟩ (Nat.le_of_ble_eq_true rfl) ?_
  refine V_istore_n C [(3, .int (fX4_nightShown x2)), (0, .ref (ad 0)), (1, .int x1), (2, .int x2)] dX4_findByChange_4 rfl (by decide) rfl ?_
  refine V_iconst C (0 : Int32) dX4_findByChange_5 (by decide) ?_
  refine V_iload_n C 3 dX4_findByChange_6 rfl ?_
  refine V_iconst C (1 : Int32) dX4_findByChange_7 (by decide) ?_
  refine V_isub C dX4_findByChange_8 ?_
  refine V_mmax C dX4_findByChange_9 lkX4_326 wMmax_s wM_i wMmax_c (Nat.le_of_ble_eq_true rfl) (Nat.le_of_ble_eq_true rfl) (Nat.zero_le _) (Nat.zero_le _) ?_
  refine V_callS C (st := []) (st' := [.int (fX4_nightShown (mx (0 : Int32) (x2 - (1 : Int32))))]) (mX4_nightShown l (mx (0 : Int32) (x2 - (1 : Int32))) M rfl) wmX4_nightShown lkX4_98 dX4_findByChange_12 rfl rfl rfl ⟨rfl, rfl, (Nat.le_of_ble_eq_true rfl), (Nat.le_of_ble_eq_true rfl)⟩ ⟨Nat.zero_le _, Nat.zero_le _⟩ (Nat.le_of_ble_eq_true rfl) ?_
  obtain ⟨y1, hy1, h⟩ := lt_t h
  refine V_topi C hy1 ?_
  refine V_istore C [(4, .int y1), (3, .int (fX4_nightShown x2)), (0, .ref (ad 0)), (1, .int x1), (2, .int x2)] dX4_findByChange_15 (by decide) rfl ?_
  refine V_aload_n C 2 dX4_findByChange_17 rfl ?_
  refine V_get C 0 dX4_findByChange_18 (wo_0 T3 ad _) rfl inKX4 (by decide) flX4_10 rfl rfl ?_
  refine V_aload_n C 2 dX4_findByChange_21 rfl ?_
  refine V_get C 4 dX4_findByChange_22 (wo_0 T3 ad _) rfl inKX4 (by decide) flX4_37 rfl rfl ?_
  refine V_iload_n C 1 dX4_findByChange_25 rfl ?_
  refine V_aload_n C 2 dX4_findByChange_26 rfl ?_
  refine V_get C 0 dX4_findByChange_27 (wo_0 T3 ad _) rfl inKX4 (by decide) flX4_10 rfl rfl ?_
  refine V_iload_n C 1 dX4_findByChange_30 rfl ?_
  obtain ⟨z2, hz2, h⟩ := bP_t h
  refine V_callV C (st := [.int (fX4_nightShown x2), .ref (ad 24), .ref (ad 1)]) (st' := [.int (b2i z2), .int (fX4_nightShown x2), .ref (ad 24), .ref (ad 1)]) (mX0_isStormy l (fX4_nightShown x2) M hz2) wmX0_isStormy lkX4_91 dX4_findByChange_31 (wo_1 T3 ad _) rfl rfl rfl rfl rfl rfl ⟨rfl, rfl, (Nat.le_of_ble_eq_true rfl), (Nat.le_of_ble_eq_true rfl)⟩ ⟨Nat.zero_le _, Nat.zero_le _⟩ (Nat.le_of_ble_eq_true rfl) ?_
  obtain ⟨z3, M4, hz3, h⟩ := bW_t h
  refine V_callV C (st := []) (st' := []) (mX0_fill l 24 rfl (fX4_nightShown x2) z2 M hz3) wmX0_fill lkX4_109 dX4_findByChange_34 (wo_1 T3 ad _) rfl rfl rfl rfl rfl rfl ⟨rfl, rfl, (Nat.le_of_ble_eq_true rfl), (Nat.le_of_ble_eq_true rfl)⟩ ⟨Nat.zero_le _, Nat.zero_le _⟩ (Nat.le_of_ble_eq_true rfl) ?_
  refine V_aload_n C 2 dX4_findByChange_37 rfl ?_
  refine V_get C 0 dX4_findByChange_38 (wo_0 T3 ad _) rfl inKX4 (by decide) flX4_10 rfl rfl ?_
  refine V_aload_n C 2 dX4_findByChange_41 rfl ?_
  refine V_get C 5 dX4_findByChange_42 (wo_0 T3 ad _) rfl inKX4 (by decide) flX4_41 rfl rfl ?_
  refine V_iload C 0 dX4_findByChange_45 rfl ?_
  refine V_aload_n C 2 dX4_findByChange_47 rfl ?_
  refine V_get C 0 dX4_findByChange_48 (wo_0 T3 ad _) rfl inKX4 (by decide) flX4_10 rfl rfl ?_
  refine V_iload C 0 dX4_findByChange_51 rfl ?_
  obtain ⟨z5, hz5, h⟩ := bP_t h
  refine V_callV C (st := [.int y1, .ref (ad 25), .ref (ad 1)]) (st' := [.int (b2i z5), .int y1, .ref (ad 25), .ref (ad 1)]) (mX0_isStormy l y1 M4 hz5) wmX0_isStormy lkX4_91 dX4_findByChange_53 (wo_1 T3 ad _) rfl rfl rfl rfl rfl rfl ⟨rfl, rfl, (Nat.le_of_ble_eq_true rfl), (Nat.le_of_ble_eq_true rfl)⟩ ⟨Nat.zero_le _, Nat.zero_le _⟩ (Nat.le_of_ble_eq_true rfl) ?_
  obtain ⟨z6, M7, hz6, h⟩ := bW_t h
  refine V_callV C (st := []) (st' := []) (mX0_fill l 25 rfl y1 z5 M4 hz6) wmX0_fill lkX4_109 dX4_findByChange_56 (wo_1 T3 ad _) rfl rfl rfl rfl rfl rfl ⟨rfl, rfl, (Nat.le_of_ble_eq_true rfl), (Nat.le_of_ble_eq_true rfl)⟩ ⟨Nat.zero_le _, Nat.zero_le _⟩ (Nat.le_of_ble_eq_true rfl) ?_
  refine V_iconst C (0 : Int32) dX4_findByChange_59 (by decide) ?_
  refine V_istore C [(5, .int (0 : Int32)), (4, .int y1), (3, .int (fX4_nightShown x2)), (0, .ref (ad 0)), (1, .int x1), (2, .int x2)] dX4_findByChange_60 (by decide) rfl ?_
  refine V_sub (lv' := [(0, .ref (ad 0)), (1, .int x1), (5, .int (0 : Int32))]) [3, 4, 0] rfl ?_
  exact vX4_findByChange_62 C 1000 x1 (0 : Int32) M7 h
abbrev rmX4_byChange : Room := { frames := 4, cells := 0, slots := 0, locals := 98 }
def fX4_byChange (x1 : Int32) (x2 : Int32) (M : Mem) : Option (Int32 × Mem) := if (fX4_isShip x1 x2) = true then bW (fX4_findByChange x1 x2 M) fun z1 M2 => if z1 = true then bP (fX0_isStormy M2 x2) fun z3 => bP (fX4_aground M2 x1 x2 z3) fun z4 => some (z4, M2) else some ((-3 : Int32), M2) else some ((-2 : Int32), M)
set_option maxHeartbeats 4000000 in
set_option maxRecDepth 100000 in
theorem mX4_byChange (l : Launch) (x1 : Int32) (x2 : Int32) (M : Mem) {r : Int32} {M9 : Mem} (h : fX4_byChange x1 x2 M = some (r, M9)) : MC l yX4_byChange cX4_byChange 3 (some .int) rmX4_byChange (fun ad sd => [.ref (ad 0), .int x1, .int x2]) M (fun _ => some (.int r)) M9 := by
  refine MC_start (by decide) (fun ad sd => [(0, .ref (ad 0)), (1, .int x1), (2, .int x2)]) (fun _ _ => rfl) (fun _ _ => Nat.le_of_ble_eq_true rfl) ?_
  intro p e s m args below meth c D T3 ad sd A C
  unfold fX4_byChange at h
  refine V_iload_n C 1 dX4_byChange_0 rfl ?_
  refine V_iload_n C 2 dX4_byChange_1 rfl ?_
  refine V_callS C (st := []) (st' := [.int (b2i (fX4_isShip x1 x2))]) (mX4_isShip l x1 x2 M rfl) wmX4_isShip lkX4_105 dX4_byChange_2 rfl rfl rfl ⟨rfl, rfl, (Nat.le_of_ble_eq_true rfl), (Nat.le_of_ble_eq_true rfl)⟩ ⟨Nat.zero_le _, Nat.zero_le _⟩ (Nat.le_of_ble_eq_true rfl) ?_
  refine V_ifB_ne C 11 dX4_byChange_5 (by decide) (fun q6 => ?_) (fun q6 => ?_)
  · replace h := ite_p q6 h
    refine V_aload_n C 0 dX4_byChange_11 rfl ?_
    refine V_iload_n C 1 dX4_byChange_12 rfl ?_
    refine V_iload_n C 2 dX4_byChange_13 rfl ?_
    obtain ⟨z1, M2, hz1, h⟩ := bW_t h
    refine V_callV C (st := []) (st' := [.int (b2i z1)]) (mX4_findByChange l x1 x2 M hz1) wmX4_findByChange lkX4_134 dX4_byChange_14 (wo_0 T3 ad _) rfl rfl rfl rfl rfl rfl ⟨rfl, rfl, (Nat.le_of_ble_eq_true rfl), (Nat.le_of_ble_eq_true rfl)⟩ ⟨Nat.zero_le _, Nat.zero_le _⟩ (Nat.le_of_ble_eq_true rfl) ?_
    refine V_ifB_ne C 23 dX4_byChange_17 (by decide) (fun q5 => ?_) (fun q5 => ?_)
    · replace h := ite_p q5 h
      refine V_aload_n C 0 dX4_byChange_23 rfl ?_
      refine V_iload_n C 1 dX4_byChange_24 rfl ?_
      refine V_iload_n C 2 dX4_byChange_25 rfl ?_
      refine V_aload_n C 0 dX4_byChange_26 rfl ?_
      refine V_get C 0 dX4_byChange_27 (wo_0 T3 ad _) rfl inKX4 (by decide) flX4_10 rfl rfl ?_
      refine V_iload_n C 2 dX4_byChange_30 rfl ?_
      obtain ⟨z3, hz3, h⟩ := bP_t h
      refine V_callV C (st := [.int x2, .int x1, .ref (ad 0)]) (st' := [.int (b2i z3), .int x2, .int x1, .ref (ad 0)]) (mX0_isStormy l x2 M2 hz3) wmX0_isStormy lkX4_91 dX4_byChange_31 (wo_1 T3 ad _) rfl rfl rfl rfl rfl rfl ⟨rfl, rfl, (Nat.le_of_ble_eq_true rfl), (Nat.le_of_ble_eq_true rfl)⟩ ⟨Nat.zero_le _, Nat.zero_le _⟩ (Nat.le_of_ble_eq_true rfl) ?_
      obtain ⟨z4, hz4, h⟩ := bP_t h
      refine V_callV C (st := []) (st' := [.int z4]) (mX4_aground l x1 x2 z3 M2 hz4) wmX4_aground lkX4_131 dX4_byChange_34 (wo_0 T3 ad _) rfl rfl rfl rfl rfl rfl ⟨rfl, rfl, (Nat.le_of_ble_eq_true rfl), (Nat.le_of_ble_eq_true rfl)⟩ ⟨Nat.zero_le _, Nat.zero_le _⟩ (Nat.le_of_ble_eq_true rfl) ?_
      obtain ⟨rfl, rfl⟩ := ret_W h
      exact V_iret C dX4_byChange_37
    · replace h := ite_n q5 h
      refine V_bipush C (-3 : Int32) dX4_byChange_20 (by decide) ?_
      obtain ⟨rfl, rfl⟩ := ret_W h
      exact V_iret C dX4_byChange_22
  · replace h := ite_n q6 h
    refine V_bipush C (-2 : Int32) dX4_byChange_8 (by decide) ?_
    obtain ⟨rfl, rfl⟩ := ret_W h
    exact V_iret C dX4_byChange_10
abbrev rmX4_passesByMap : Room := { frames := 4, cells := 0, slots := 0, locals := 95 }
def fX4_passesByMap (x1 : Int32) (x2 : Int32) (M : Mem) : Option (Bool × Mem) := bW (fX4_findByMap x1 x2 M) fun z1 M2 => if z1 = true then bP (fX0_isStormy M2 x2) fun z3 => bP (fX4_aground M2 x1 x2 z3) fun z4 => if z4 = (-1 : Int32) then some (true, M2) else some (false, M2) else some (false, M2)
set_option maxHeartbeats 4000000 in
set_option maxRecDepth 100000 in
theorem mX4_passesByMap (l : Launch) (x1 : Int32) (x2 : Int32) (M : Mem) {r : Bool} {M9 : Mem} (h : fX4_passesByMap x1 x2 M = some (r, M9)) : MC l yX4_passesByMap cX4_passesByMap 3 (some .boolean) rmX4_passesByMap (fun ad sd => [.ref (ad 0), .int x1, .int x2]) M (fun _ => some (.int (b2i r))) M9 := by
  refine MC_start (by decide) (fun ad sd => [(0, .ref (ad 0)), (1, .int x1), (2, .int x2)]) (fun _ _ => rfl) (fun _ _ => Nat.le_of_ble_eq_true rfl) ?_
  intro p e s m args below meth c D T3 ad sd A C
  unfold fX4_passesByMap at h
  refine V_aload_n C 0 dX4_passesByMap_0 rfl ?_
  refine V_iload_n C 1 dX4_passesByMap_1 rfl ?_
  refine V_iload_n C 2 dX4_passesByMap_2 rfl ?_
  obtain ⟨z1, M2, hz1, h⟩ := bW_t h
  refine V_callV C (st := []) (st' := [.int (b2i z1)]) (mX4_findByMap l x1 x2 M hz1) wmX4_findByMap lkX4_128 dX4_passesByMap_3 (wo_0 T3 ad _) rfl rfl rfl rfl rfl rfl ⟨rfl, rfl, (Nat.le_of_ble_eq_true rfl), (Nat.le_of_ble_eq_true rfl)⟩ ⟨Nat.zero_le _, Nat.zero_le _⟩ (Nat.le_of_ble_eq_true rfl) ?_
  refine V_ifB_eq C 31 dX4_passesByMap_6 (by decide) (fun q6 => ?_) (fun q6 => ?_)
  · replace h := ite_n q6 h
    refine V_iconst C (0 : Int32) dX4_passesByMap_31 (by decide) ?_
    obtain ⟨rfl, rfl⟩ := ret_W h
    exact V_zret (x := false) C dX4_passesByMap_32
  · replace h := ite_p q6 h
    refine V_aload_n C 0 dX4_passesByMap_9 rfl ?_
    refine V_iload_n C 1 dX4_passesByMap_10 rfl ?_
    refine V_iload_n C 2 dX4_passesByMap_11 rfl ?_
    refine V_aload_n C 0 dX4_passesByMap_12 rfl ?_
    refine V_get C 0 dX4_passesByMap_13 (wo_0 T3 ad _) rfl inKX4 (by decide) flX4_10 rfl rfl ?_
    refine V_iload_n C 2 dX4_passesByMap_16 rfl ?_
    obtain ⟨z3, hz3, h⟩ := bP_t h
    refine V_callV C (st := [.int x2, .int x1, .ref (ad 0)]) (st' := [.int (b2i z3), .int x2, .int x1, .ref (ad 0)]) (mX0_isStormy l x2 M2 hz3) wmX0_isStormy lkX4_91 dX4_passesByMap_17 (wo_1 T3 ad _) rfl rfl rfl rfl rfl rfl ⟨rfl, rfl, (Nat.le_of_ble_eq_true rfl), (Nat.le_of_ble_eq_true rfl)⟩ ⟨Nat.zero_le _, Nat.zero_le _⟩ (Nat.le_of_ble_eq_true rfl) ?_
    obtain ⟨z4, hz4, h⟩ := bP_t h
    refine V_callV C (st := []) (st' := [.int z4]) (mX4_aground l x1 x2 z3 M2 hz4) wmX4_aground lkX4_131 dX4_passesByMap_20 (wo_0 T3 ad _) rfl rfl rfl rfl rfl rfl ⟨rfl, rfl, (Nat.le_of_ble_eq_true rfl), (Nat.le_of_ble_eq_true rfl)⟩ ⟨Nat.zero_le _, Nat.zero_le _⟩ (Nat.le_of_ble_eq_true rfl) ?_
    refine V_iconst C (-1 : Int32) dX4_passesByMap_23 (by decide) ?_
    refine V_icmp_ne C 31 dX4_passesByMap_24 (by decide) (fun q5 => ?_) (fun q5 => ?_)
    · replace h := ite_n q5 h
      refine V_iconst C (0 : Int32) dX4_passesByMap_31 (by decide) ?_
      obtain ⟨rfl, rfl⟩ := ret_W h
      exact V_zret (x := false) C dX4_passesByMap_32
    · replace h := ite_p q5 h
      refine V_iconst C (1 : Int32) dX4_passesByMap_27 (by decide) ?_
      refine V_goto C 32 dX4_passesByMap_28 (by decide) ?_
      obtain ⟨rfl, rfl⟩ := ret_W h
      exact V_zret (x := true) C dX4_passesByMap_32
abbrev rmX4_passesByChange : Room := { frames := 4, cells := 0, slots := 0, locals := 98 }
def fX4_passesByChange (x1 : Int32) (x2 : Int32) (M : Mem) : Option (Bool × Mem) := bW (fX4_findByChange x1 x2 M) fun z1 M2 => if z1 = true then bP (fX0_isStormy M2 x2) fun z3 => bP (fX4_aground M2 x1 x2 z3) fun z4 => if z4 = (-1 : Int32) then some (true, M2) else some (false, M2) else some (false, M2)
set_option maxHeartbeats 4000000 in
set_option maxRecDepth 100000 in
theorem mX4_passesByChange (l : Launch) (x1 : Int32) (x2 : Int32) (M : Mem) {r : Bool} {M9 : Mem} (h : fX4_passesByChange x1 x2 M = some (r, M9)) : MC l yX4_passesByChange cX4_passesByChange 3 (some .boolean) rmX4_passesByChange (fun ad sd => [.ref (ad 0), .int x1, .int x2]) M (fun _ => some (.int (b2i r))) M9 := by
  refine MC_start (by decide) (fun ad sd => [(0, .ref (ad 0)), (1, .int x1), (2, .int x2)]) (fun _ _ => rfl) (fun _ _ => Nat.le_of_ble_eq_true rfl) ?_
  intro p e s m args below meth c D T3 ad sd A C
  unfold fX4_passesByChange at h
  refine V_aload_n C 0 dX4_passesByChange_0 rfl ?_
  refine V_iload_n C 1 dX4_passesByChange_1 rfl ?_
  refine V_iload_n C 2 dX4_passesByChange_2 rfl ?_
  obtain ⟨z1, M2, hz1, h⟩ := bW_t h
  refine V_callV C (st := []) (st' := [.int (b2i z1)]) (mX4_findByChange l x1 x2 M hz1) wmX4_findByChange lkX4_134 dX4_passesByChange_3 (wo_0 T3 ad _) rfl rfl rfl rfl rfl rfl ⟨rfl, rfl, (Nat.le_of_ble_eq_true rfl), (Nat.le_of_ble_eq_true rfl)⟩ ⟨Nat.zero_le _, Nat.zero_le _⟩ (Nat.le_of_ble_eq_true rfl) ?_
  refine V_ifB_eq C 31 dX4_passesByChange_6 (by decide) (fun q6 => ?_) (fun q6 => ?_)
  · replace h := ite_n q6 h
    refine V_iconst C (0 : Int32) dX4_passesByChange_31 (by decide) ?_
    obtain ⟨rfl, rfl⟩ := ret_W h
    exact V_zret (x := false) C dX4_passesByChange_32
  · replace h := ite_p q6 h
    refine V_aload_n C 0 dX4_passesByChange_9 rfl ?_
    refine V_iload_n C 1 dX4_passesByChange_10 rfl ?_
    refine V_iload_n C 2 dX4_passesByChange_11 rfl ?_
    refine V_aload_n C 0 dX4_passesByChange_12 rfl ?_
    refine V_get C 0 dX4_passesByChange_13 (wo_0 T3 ad _) rfl inKX4 (by decide) flX4_10 rfl rfl ?_
    refine V_iload_n C 2 dX4_passesByChange_16 rfl ?_
    obtain ⟨z3, hz3, h⟩ := bP_t h
    refine V_callV C (st := [.int x2, .int x1, .ref (ad 0)]) (st' := [.int (b2i z3), .int x2, .int x1, .ref (ad 0)]) (mX0_isStormy l x2 M2 hz3) wmX0_isStormy lkX4_91 dX4_passesByChange_17 (wo_1 T3 ad _) rfl rfl rfl rfl rfl rfl ⟨rfl, rfl, (Nat.le_of_ble_eq_true rfl), (Nat.le_of_ble_eq_true rfl)⟩ ⟨Nat.zero_le _, Nat.zero_le _⟩ (Nat.le_of_ble_eq_true rfl) ?_
    obtain ⟨z4, hz4, h⟩ := bP_t h
    refine V_callV C (st := []) (st' := [.int z4]) (mX4_aground l x1 x2 z3 M2 hz4) wmX4_aground lkX4_131 dX4_passesByChange_20 (wo_0 T3 ad _) rfl rfl rfl rfl rfl rfl ⟨rfl, rfl, (Nat.le_of_ble_eq_true rfl), (Nat.le_of_ble_eq_true rfl)⟩ ⟨Nat.zero_le _, Nat.zero_le _⟩ (Nat.le_of_ble_eq_true rfl) ?_
    refine V_iconst C (-1 : Int32) dX4_passesByChange_23 (by decide) ?_
    refine V_icmp_ne C 31 dX4_passesByChange_24 (by decide) (fun q5 => ?_) (fun q5 => ?_)
    · replace h := ite_n q5 h
      refine V_iconst C (0 : Int32) dX4_passesByChange_31 (by decide) ?_
      obtain ⟨rfl, rfl⟩ := ret_W h
      exact V_zret (x := false) C dX4_passesByChange_32
    · replace h := ite_p q5 h
      refine V_iconst C (1 : Int32) dX4_passesByChange_27 (by decide) ?_
      refine V_goto C 32 dX4_passesByChange_28 (by decide) ?_
      obtain ⟨rfl, rfl⟩ := ret_W h
      exact V_zret (x := true) C dX4_passesByChange_32
abbrev rmX4_saved : Room := { frames := 5, cells := 0, slots := 0, locals := 120 }
def fX4_saved_24 : Nat → Int32 → Int32 → Int32 → Int32 → Mem → Option (Int32 × Mem)
  | 0, _, _, _, _, _ => none
  | n + 1, x1, x2, x3, x4, M => if (99 : Int32) < x4 then some (x3, M) else bW (fX4_passesByMap x1 x4 M) fun z1 M2 => bW (fX4_passesByChange x1 x4 M2) fun z3 M4 => if x2 = 0 then if z3 = true then if z1 = true then fX4_saved_24 n x1 x2 x3 (x4 + 1) M4 else fX4_saved_24 n x1 x2 (x3 + 1) (x4 + 1) M4 else fX4_saved_24 n x1 x2 x3 (x4 + 1) M4 else if z1 = true then if z3 = true then fX4_saved_24 n x1 x2 x3 (x4 + 1) M4 else fX4_saved_24 n x1 x2 (x3 + 1) (x4 + 1) M4 else fX4_saved_24 n x1 x2 x3 (x4 + 1) M4
def fX4_saved (x1 : Int32) (x2 : Int32) (M : Mem) : Option (Int32 × Mem) := if (fX4_isDraught x1) = true then if x2 < 0 then some ((-2 : Int32), M) else if x2 ≤ (1 : Int32) then fX4_saved_24 1000 x1 x2 (0 : Int32) (2 : Int32) M else some ((-2 : Int32), M) else some ((-2 : Int32), M)
set_option maxHeartbeats 4000000 in
set_option maxRecDepth 100000 in
theorem vX4_saved_24 {p : Program} {l : Launch} {e : Env} {s : State} {m : MethodId} {args : Array Value} {below : List Frame} {meth : Method} {c : Code} {D : va_G} {T3 : ClassId × ClassId × ClassId} {ad sd : Nat → Nat} {A : Nat → Prop}  (C : CX p s m args meth c cX4_saved 7 RX4 (some .int) D T3 ad sd A) {r : Int32} {M9 : Mem} : ∀ (n : Nat) (x1 : Int32) (x2 : Int32) (x3 : Int32) (x4 : Int32) (M : Mem), fX4_saved_24 n x1 x2 x3 x4 M = some (r, M9) → VV p l e rmX4_saved s m args below meth c D T3 ad A 7 0 0 (QM below D T3 ad A args s (fun _ => some (.int r)) M9) M [(0, .ref (ad 0)), (1, .int x1), (2, .int x2), (3, .int x3), (4, .int x4)] 24 [] := by
  intro n
  induction n with
  | zero => intro x1 x2 x3 x4 M h; exact nomatch (show (none : Option (Int32 × Mem)) = some _ from h)
  | succ n ih =>
    intro x1 x2 x3 x4 M h
    rw [fX4_saved_24] at h
    refine V_iload C 4 dX4_saved_24 rfl ?_
    refine V_bipush C (99 : Int32) dX4_saved_26 (by decide) ?_
    refine V_icmp_gt C 85 dX4_saved_28 (by decide) (fun q10 => ?_) (fun q10 => ?_)
    · replace h := ite_p q10 h
      refine V_iload_n C 3 dX4_saved_85 rfl ?_
      obtain ⟨rfl, rfl⟩ := ret_W h
      exact V_iret C dX4_saved_86
    · replace h := ite_n q10 h
      refine V_aload_n C 0 dX4_saved_31 rfl ?_
      refine V_iload_n C 1 dX4_saved_32 rfl ?_
      refine V_iload C 4 dX4_saved_33 rfl ?_
      obtain ⟨z1, M2, hz1, h⟩ := bW_t h
      refine V_callV C (st := []) (st' := [.int (b2i z1)]) (mX4_passesByMap l x1 x4 M hz1) wmX4_passesByMap lkX4_140 dX4_saved_35 (wo_0 T3 ad _) rfl rfl rfl rfl rfl rfl ⟨rfl, rfl, (Nat.le_of_ble_eq_true rfl), (Nat.le_of_ble_eq_true rfl)⟩ ⟨Nat.zero_le _, Nat.zero_le _⟩ (Nat.le_of_ble_eq_true rfl) ?_
      refine V_istore C [(5, .int (b2i z1)), (0, .ref (ad 0)), (1, .int x1), (2, .int x2), (3, .int x3), (4, .int x4)] dX4_saved_38 (by decide) rfl ?_
      refine V_aload_n C 1 dX4_saved_40 rfl ?_
      refine V_iload_n C 2 dX4_saved_41 rfl ?_
      refine V_iload C 5 dX4_saved_42 rfl ?_
      obtain ⟨z3, M4, hz3, h⟩ := bW_t h
      refine V_callV C (st := []) (st' := [.int (b2i z3)]) (mX4_passesByChange l x1 x4 M2 hz3) wmX4_passesByChange lkX4_143 dX4_saved_44 (wo_0 T3 ad _) rfl rfl rfl rfl rfl rfl ⟨rfl, rfl, (Nat.le_of_ble_eq_true rfl), (Nat.le_of_ble_eq_true rfl)⟩ ⟨Nat.zero_le _, Nat.zero_le _⟩ (Nat.le_of_ble_eq_true rfl) ?_
      refine V_istore C [(6, .int (b2i z3)), (5, .int (b2i z1)), (0, .ref (ad 0)), (1, .int x1), (2, .int x2), (3, .int x3), (4, .int x4)] dX4_saved_47 (by decide) rfl ?_
      refine V_iload_n C 4 dX4_saved_49 rfl ?_
      refine V_if_ne C 66 dX4_saved_50 (by decide) (fun q9 => ?_) (fun q9 => ?_)
      · replace h := ite_n q9 h
        refine V_iload C 1 dX4_saved_66 rfl ?_
        refine V_ifB_eq C 79 dX4_saved_68 (by decide) (fun q6 => ?_) (fun q6 => ?_)
        · replace h := ite_n q6 h
          refine V_iinc C 6 (x4 + 1) [(4, .int (x4 + 1)), (6, .int (b2i z3)), (5, .int (b2i z1)), (0, .ref (ad 0)), (1, .int x1), (2, .int x2), (3, .int x3)] dX4_saved_79 rfl rfl (by decide) rfl ?_
          refine V_goto C 24 dX4_saved_82 (by decide) ?_
          refine V_sub (lv' := [(0, .ref (ad 0)), (1, .int x1), (2, .int x2), (3, .int x3), (4, .int (x4 + 1))]) [3, 4, 5, 6, 0] rfl ?_
          exact ih x1 x2 x3 (x4 + 1) M4 h
        · replace h := ite_p q6 h
          refine V_iload C 0 dX4_saved_71 rfl ?_
          refine V_ifB_ne C 79 dX4_saved_73 (by decide) (fun q5 => ?_) (fun q5 => ?_)
          · replace h := ite_p q5 h
            refine V_iinc C 6 (x4 + 1) [(4, .int (x4 + 1)), (6, .int (b2i z3)), (5, .int (b2i z1)), (0, .ref (ad 0)), (1, .int x1), (2, .int x2), (3, .int x3)] dX4_saved_79 rfl rfl (by decide) rfl ?_
            refine V_goto C 24 dX4_saved_82 (by decide) ?_
            refine V_sub (lv' := [(0, .ref (ad 0)), (1, .int x1), (2, .int x2), (3, .int x3), (4, .int (x4 + 1))]) [3, 4, 5, 6, 0] rfl ?_
            exact ih x1 x2 x3 (x4 + 1) M4 h
          · replace h := ite_n q5 h
            refine V_iinc C 5 (x3 + 1) [(3, .int (x3 + 1)), (6, .int (b2i z3)), (5, .int (b2i z1)), (0, .ref (ad 0)), (1, .int x1), (2, .int x2), (4, .int x4)] dX4_saved_76 rfl rfl (by decide) rfl ?_
            refine V_iinc C 6 (x4 + 1) [(4, .int (x4 + 1)), (3, .int (x3 + 1)), (6, .int (b2i z3)), (5, .int (b2i z1)), (0, .ref (ad 0)), (1, .int x1), (2, .int x2)] dX4_saved_79 rfl rfl (by decide) rfl ?_
            refine V_goto C 24 dX4_saved_82 (by decide) ?_
            refine V_sub (lv' := [(0, .ref (ad 0)), (1, .int x1), (2, .int x2), (3, .int (x3 + 1)), (4, .int (x4 + 1))]) [4, 5, 6, 1, 0] rfl ?_
            exact ih x1 x2 (x3 + 1) (x4 + 1) M4 h
      · replace h := ite_p q9 h
        refine V_iload C 0 dX4_saved_53 rfl ?_
        refine V_ifB_eq C 79 dX4_saved_55 (by decide) (fun q8 => ?_) (fun q8 => ?_)
        · replace h := ite_n q8 h
          refine V_iinc C 6 (x4 + 1) [(4, .int (x4 + 1)), (6, .int (b2i z3)), (5, .int (b2i z1)), (0, .ref (ad 0)), (1, .int x1), (2, .int x2), (3, .int x3)] dX4_saved_79 rfl rfl (by decide) rfl ?_
          refine V_goto C 24 dX4_saved_82 (by decide) ?_
          refine V_sub (lv' := [(0, .ref (ad 0)), (1, .int x1), (2, .int x2), (3, .int x3), (4, .int (x4 + 1))]) [3, 4, 5, 6, 0] rfl ?_
          exact ih x1 x2 x3 (x4 + 1) M4 h
        · replace h := ite_p q8 h
          refine V_iload C 1 dX4_saved_58 rfl ?_
          refine V_ifB_ne C 79 dX4_saved_60 (by decide) (fun q7 => ?_) (fun q7 => ?_)
          · replace h := ite_p q7 h
            refine V_iinc C 6 (x4 + 1) [(4, .int (x4 + 1)), (6, .int (b2i z3)), (5, .int (b2i z1)), (0, .ref (ad 0)), (1, .int x1), (2, .int x2), (3, .int x3)] dX4_saved_79 rfl rfl (by decide) rfl ?_
            refine V_goto C 24 dX4_saved_82 (by decide) ?_
            refine V_sub (lv' := [(0, .ref (ad 0)), (1, .int x1), (2, .int x2), (3, .int x3), (4, .int (x4 + 1))]) [3, 4, 5, 6, 0] rfl ?_
            exact ih x1 x2 x3 (x4 + 1) M4 h
          · replace h := ite_n q7 h
            refine V_goto C 76 dX4_saved_63 (by decide) ?_
            refine V_iinc C 5 (x3 + 1) [(3, .int (x3 + 1)), (6, .int (b2i z3)), (5, .int (b2i z1)), (0, .ref (ad 0)), (1, .int x1), (2, .int x2), (4, .int x4)] dX4_saved_76 rfl rfl (by decide) rfl ?_
            refine V_iinc C 6 (x4 + 1) [(4, .int (x4 + 1)), (3, .int (x3 + 1)), (6, .int (b2i z3)), (5, .int (b2i z1)), (0, .ref (ad 0)), (1, .int x1), (2, .int x2)] dX4_saved_79 rfl rfl (by decide) rfl ?_
            refine V_goto C 24 dX4_saved_82 (by decide) ?_
            refine V_sub (lv' := [(0, .ref (ad 0)), (1, .int x1), (2, .int x2), (3, .int (x3 + 1)), (4, .int (x4 + 1))]) [4, 5, 6, 1, 0] rfl ?_
            exact ih x1 x2 (x3 + 1) (x4 + 1) M4 h
set_option maxHeartbeats 4000000 in
set_option maxRecDepth 100000 in
theorem mX4_saved (l : Launch) (x1 : Int32) (x2 : Int32) (M : Mem) {r : Int32} {M9 : Mem} (h : fX4_saved x1 x2 M = some (r, M9)) : MC l yX4_saved cX4_saved 7 (some .int) rmX4_saved (fun ad sd => [.ref (ad 0), .int x1, .int x2]) M (fun _ => some (.int r)) M9 := by
  refine MC_start (by decide) (fun ad sd => [(0, .ref (ad 0)), (1, .int x1), (2, .int x2)]) (fun _ _ => rfl) (fun _ _ => Nat.le_of_ble_eq_true rfl) ?_
  intro p e s m args below meth c D T3 ad sd A C
  unfold fX4_saved at h
  refine V_iload_n C 1 dX4_saved_0 rfl ?_
  refine V_callS C (st := []) (st' := [.int (b2i (fX4_isDraught x1))]) (mX4_isDraught l x1 M rfl) wmX4_isDraught lkX4_137 dX4_saved_1 rfl rfl rfl ⟨rfl, rfl, (Nat.le_of_ble_eq_true rfl), (Nat.le_of_ble_eq_true rfl)⟩ ⟨Nat.zero_le _, Nat.zero_le _⟩ (Nat.le_of_ble_eq_true rfl) ?_
  refine V_ifB_eq C 16 dX4_saved_4 (by decide) (fun q13 => ?_) (fun q13 => ?_)
  · replace h := ite_n q13 h
    refine V_bipush C (-2 : Int32) dX4_saved_16 (by decide) ?_
    obtain ⟨rfl, rfl⟩ := ret_W h
    exact V_iret C dX4_saved_18
  · replace h := ite_p q13 h
    refine V_iload_n C 2 dX4_saved_7 rfl ?_
    refine V_if_lt C 16 dX4_saved_8 (by decide) (fun q12 => ?_) (fun q12 => ?_)
    · replace h := ite_p q12 h
      refine V_bipush C (-2 : Int32) dX4_saved_16 (by decide) ?_
      obtain ⟨rfl, rfl⟩ := ret_W h
      exact V_iret C dX4_saved_18
    · replace h := ite_n q12 h
      refine V_iload_n C 2 dX4_saved_11 rfl ?_
      refine V_iconst C (1 : Int32) dX4_saved_12 (by decide) ?_
      refine V_icmp_le C 19 dX4_saved_13 (by decide) (fun q11 => ?_) (fun q11 => ?_)
      · replace h := ite_p q11 h
        refine V_iconst C (0 : Int32) dX4_saved_19 (by decide) ?_
        refine V_istore_n C [(3, .int (0 : Int32)), (0, .ref (ad 0)), (1, .int x1), (2, .int x2)] dX4_saved_20 rfl (by decide) rfl ?_
        refine V_iconst C (2 : Int32) dX4_saved_21 (by decide) ?_
        refine V_istore C [(4, .int (2 : Int32)), (3, .int (0 : Int32)), (0, .ref (ad 0)), (1, .int x1), (2, .int x2)] dX4_saved_22 (by decide) rfl ?_
        refine V_sub (lv' := [(0, .ref (ad 0)), (1, .int x1), (2, .int x2), (3, .int (0 : Int32)), (4, .int (2 : Int32))]) [2, 3, 4, 1, 0] rfl ?_
        exact vX4_saved_24 C 1000 x1 x2 (0 : Int32) (2 : Int32) M h
      · replace h := ite_n q11 h
        refine V_bipush C (-2 : Int32) dX4_saved_16 (by decide) ?_
        obtain ⟨rfl, rfl⟩ := ret_W h
        exact V_iret C dX4_saved_18
abbrev rmX4_isSounding : Room := { frames := 1, cells := 0, slots := 0, locals := 20 }
def fX4_isSounding_15 (x0 : Int32) (x2 : Int32) (t0 : Bool) : Bool := if (fX4_isNight x0) = true then if t0 = true then if x2 < 0 then false else if (9 : Int32) < x2 then false else true else false else false
def fX4_isSounding (x0 : Int32) (x1 : Int32) (x2 : Int32) : Bool := if x1 < 0 then fX4_isSounding_15 x0 x2 false else if (16 : Int32) ≤ x1 then fX4_isSounding_15 x0 x2 false else fX4_isSounding_15 x0 x2 true
set_option maxHeartbeats 4000000 in
set_option maxRecDepth 100000 in
theorem vX4_isSounding_15 {p : Program} {l : Launch} {e : Env} {s : State} {m : MethodId} {args : Array Value} {below : List Frame} {meth : Method} {c : Code} {D : va_G} {T3 : ClassId × ClassId × ClassId} {ad sd : Nat → Nat} {A : Nat → Prop}  (C : CX p s m args meth c cX4_isSounding 4 RX4 (some .boolean) D T3 ad sd A) {r : Bool} (M : Mem) : ∀ (x0 : Int32) (x2 : Int32) (t0 : Bool), fX4_isSounding_15 x0 x2 t0 = r → VV p l e rmX4_isSounding s m args below meth c D T3 ad A 4 0 0 (QM below D T3 ad A args s (fun _ => some (.int (b2i r))) M) M [(0, .int x0), (2, .int x2)] 15 [.int (b2i t0)] := by
  intro x0 x2 t0 h
  unfold fX4_isSounding_15 at h
  refine V_istore_n C [(3, .int (b2i t0)), (0, .int x0), (2, .int x2)] dX4_isSounding_15 rfl (by decide) rfl ?_
  refine V_iload_n C 1 dX4_isSounding_16 rfl ?_
  refine V_callS C (st := []) (st' := [.int (b2i (fX4_isNight x0))]) (mX4_isNight l x0 M rfl) wmX4_isNight lkX4_75 dX4_isSounding_17 rfl rfl rfl ⟨rfl, rfl, (Nat.le_of_ble_eq_true rfl), (Nat.le_of_ble_eq_true rfl)⟩ ⟨Nat.zero_le _, Nat.zero_le _⟩ (Nat.le_of_ble_eq_true rfl) ?_
  refine V_ifB_eq C 41 dX4_isSounding_20 (by decide) (fun q4 => ?_) (fun q4 => ?_)
  · replace h := ite_n q4 h
    refine V_iconst C (0 : Int32) dX4_isSounding_41 (by decide) ?_
    subst h
    exact V_zret (x := false) C dX4_isSounding_42
  · replace h := ite_p q4 h
    refine V_iload_n C 0 dX4_isSounding_23 rfl ?_
    refine V_ifB_eq C 41 dX4_isSounding_24 (by decide) (fun q3 => ?_) (fun q3 => ?_)
    · replace h := ite_n q3 h
      refine V_iconst C (0 : Int32) dX4_isSounding_41 (by decide) ?_
      subst h
      exact V_zret (x := false) C dX4_isSounding_42
    · replace h := ite_p q3 h
      refine V_iload_n C 2 dX4_isSounding_27 rfl ?_
      refine V_if_lt C 41 dX4_isSounding_28 (by decide) (fun q2 => ?_) (fun q2 => ?_)
      · replace h := ite_p q2 h
        refine V_iconst C (0 : Int32) dX4_isSounding_41 (by decide) ?_
        subst h
        exact V_zret (x := false) C dX4_isSounding_42
      · replace h := ite_n q2 h
        refine V_iload_n C 2 dX4_isSounding_31 rfl ?_
        refine V_bipush C (9 : Int32) dX4_isSounding_32 (by decide) ?_
        refine V_icmp_gt C 41 dX4_isSounding_34 (by decide) (fun q1 => ?_) (fun q1 => ?_)
        · replace h := ite_p q1 h
          refine V_iconst C (0 : Int32) dX4_isSounding_41 (by decide) ?_
          subst h
          exact V_zret (x := false) C dX4_isSounding_42
        · replace h := ite_n q1 h
          refine V_iconst C (1 : Int32) dX4_isSounding_37 (by decide) ?_
          refine V_goto C 42 dX4_isSounding_38 (by decide) ?_
          subst h
          exact V_zret (x := true) C dX4_isSounding_42
set_option maxHeartbeats 4000000 in
set_option maxRecDepth 100000 in
theorem mX4_isSounding (l : Launch) (x0 : Int32) (x1 : Int32) (x2 : Int32) (M : Mem) {r : Bool} (h : fX4_isSounding x0 x1 x2 = r) : MC l yX4_isSounding cX4_isSounding 4 (some .boolean) rmX4_isSounding (fun ad sd => [.int x0, .int x1, .int x2]) M (fun _ => some (.int (b2i r))) M := by
  refine MC_start (by decide) (fun ad sd => [(0, .int x0), (1, .int x1), (2, .int x2)]) (fun _ _ => rfl) (fun _ _ => Nat.le_of_ble_eq_true rfl) ?_
  intro p e s m args below meth c D T3 ad sd A C
  unfold fX4_isSounding at h
  refine V_iload_n C 1 dX4_isSounding_0 rfl ?_
  refine V_if_lt C 14 dX4_isSounding_1 (by decide) (fun q6 => ?_) (fun q6 => ?_)
  · replace h := ite_p q6 h
    refine V_iconst C (0 : Int32) dX4_isSounding_14 (by decide) ?_
    refine V_sub (lv' := [(0, .int x0), (2, .int x2)]) [0, 2] rfl ?_
    exact vX4_isSounding_15 C M x0 x2 false h
  · replace h := ite_n q6 h
    refine V_iload_n C 1 dX4_isSounding_4 rfl ?_
    refine V_bipush C (16 : Int32) dX4_isSounding_5 (by decide) ?_
    refine V_icmp_ge C 14 dX4_isSounding_7 (by decide) (fun q5 => ?_) (fun q5 => ?_)
    · replace h := ite_p q5 h
      refine V_iconst C (0 : Int32) dX4_isSounding_14 (by decide) ?_
      refine V_sub (lv' := [(0, .int x0), (2, .int x2)]) [0, 2] rfl ?_
      exact vX4_isSounding_15 C M x0 x2 false h
    · replace h := ite_n q5 h
      refine V_iconst C (1 : Int32) dX4_isSounding_10 (by decide) ?_
      refine V_goto C 15 dX4_isSounding_11 (by decide) ?_
      refine V_sub (lv' := [(0, .int x0), (2, .int x2)]) [0, 2] rfl ?_
      exact vX4_isSounding_15 C M x0 x2 true h
abbrev rmX4_sounded : Room := { frames := 2, cells := 0, slots := 0, locals := 45 }
def fX4_sounded (x1 : Int32) (x2 : Int32) (x3 : Int32) (M : Mem) : Option (Int32 × Mem) := if (fX4_isSounding x1 x2 x3) = true then bW (fX3_add x1 x2 x3 M) fun z1 M2 => if z1 = true then some ((M2 6 4), M2) else some ((-4 : Int32), M2) else some ((-2 : Int32), M)
set_option maxHeartbeats 4000000 in
set_option maxRecDepth 100000 in
theorem mX4_sounded (l : Launch) (x1 : Int32) (x2 : Int32) (x3 : Int32) (M : Mem) {r : Int32} {M9 : Mem} (h : fX4_sounded x1 x2 x3 M = some (r, M9)) : MC l yX4_sounded cX4_sounded 4 (some .int) rmX4_sounded (fun ad sd => [.ref (ad 0), .int x1, .int x2, .int x3]) M (fun _ => some (.int r)) M9 := by
  refine MC_start (by decide) (fun ad sd => [(0, .ref (ad 0)), (1, .int x1), (2, .int x2), (3, .int x3)]) (fun _ _ => rfl) (fun _ _ => Nat.le_of_ble_eq_true rfl) ?_
  intro p e s m args below meth c D T3 ad sd A C
  unfold fX4_sounded at h
  refine V_iload_n C 1 dX4_sounded_0 rfl ?_
  refine V_iload_n C 2 dX4_sounded_1 rfl ?_
  refine V_iload_n C 3 dX4_sounded_2 rfl ?_
  refine V_callS C (st := []) (st' := [.int (b2i (fX4_isSounding x1 x2 x3))]) (mX4_isSounding l x1 x2 x3 M rfl) wmX4_isSounding lkX4_146 dX4_sounded_3 rfl rfl rfl ⟨rfl, rfl, (Nat.le_of_ble_eq_true rfl), (Nat.le_of_ble_eq_true rfl)⟩ ⟨Nat.zero_le _, Nat.zero_le _⟩ (Nat.le_of_ble_eq_true rfl) ?_
  refine V_ifB_ne C 12 dX4_sounded_6 (by decide) (fun q4 => ?_) (fun q4 => ?_)
  · replace h := ite_p q4 h
    refine V_aload_n C 0 dX4_sounded_12 rfl ?_
    refine V_get C 1 dX4_sounded_13 (wo_0 T3 ad _) rfl inKX4 (by decide) flX4_19 rfl rfl ?_
    refine V_iload_n C 1 dX4_sounded_16 rfl ?_
    refine V_iload_n C 2 dX4_sounded_17 rfl ?_
    refine V_iload_n C 3 dX4_sounded_18 rfl ?_
    obtain ⟨z1, M2, hz1, h⟩ := bW_t h
    refine V_callV C (st := []) (st' := [.int (b2i z1)]) (mX3_add l x1 x2 x3 M hz1) wmX3_add lkX4_150 dX4_sounded_19 (wo_6 T3 ad _) rfl rfl rfl rfl rfl rfl ⟨rfl, rfl, (Nat.le_of_ble_eq_true rfl), (Nat.le_of_ble_eq_true rfl)⟩ ⟨Nat.zero_le _, Nat.zero_le _⟩ (Nat.le_of_ble_eq_true rfl) ?_
    refine V_ifB_ne C 28 dX4_sounded_22 (by decide) (fun q3 => ?_) (fun q3 => ?_)
    · replace h := ite_p q3 h
      refine V_aload_n C 0 dX4_sounded_28 rfl ?_
      refine V_get C 1 dX4_sounded_29 (wo_0 T3 ad _) rfl inKX4 (by decide) flX4_19 rfl rfl ?_
      refine V_getN C 4 dX4_sounded_32 (wo_6 T3 ad _) rfl inKX3 (by decide) flX4_153 rfl rfl ?_
      obtain ⟨rfl, rfl⟩ := ret_W h
      exact V_iret C dX4_sounded_35
    · replace h := ite_n q3 h
      refine V_bipush C (-4 : Int32) dX4_sounded_25 (by decide) ?_
      obtain ⟨rfl, rfl⟩ := ret_W h
      exact V_iret C dX4_sounded_27
  · replace h := ite_n q4 h
    refine V_bipush C (-2 : Int32) dX4_sounded_9 (by decide) ?_
    obtain ⟨rfl, rfl⟩ := ret_W h
    exact V_iret C dX4_sounded_11
abbrev rmX4_forget : Room := { frames := 1, cells := 0, slots := 0, locals := 20 }
def fX4_forget (M : Mem) : Option (Int32 × Mem) := bW (fX3_drop M) fun z1 M2 => some ((M 6 4), M2)
set_option maxHeartbeats 4000000 in
set_option maxRecDepth 100000 in
theorem mX4_forget (l : Launch) (M : Mem) {r : Int32} {M9 : Mem} (h : fX4_forget M = some (r, M9)) : MC l yX4_forget cX4_forget 2 (some .int) rmX4_forget (fun ad sd => [.ref (ad 0)]) M (fun _ => some (.int r)) M9 := by
  refine MC_start (by decide) (fun ad sd => [(0, .ref (ad 0))]) (fun _ _ => rfl) (fun _ _ => Nat.le_of_ble_eq_true rfl) ?_
  intro p e s m args below meth c D T3 ad sd A C
  unfold fX4_forget at h
  refine V_aload_n C 0 dX4_forget_0 rfl ?_
  refine V_get C 1 dX4_forget_1 (wo_0 T3 ad _) rfl inKX4 (by decide) flX4_19 rfl rfl ?_
  refine V_getN C 4 dX4_forget_4 (wo_6 T3 ad _) rfl inKX3 (by decide) flX4_153 rfl rfl ?_
  refine V_istore_n C [(1, .int (M 6 4)), (0, .ref (ad 0))] dX4_forget_7 rfl (by decide) rfl ?_
  refine V_aload_n C 1 dX4_forget_8 rfl ?_
  refine V_get C 1 dX4_forget_9 (wo_0 T3 ad _) rfl inKX4 (by decide) flX4_19 rfl rfl ?_
  obtain ⟨z1, M2, hz1, h⟩ := bW_t h
  refine V_callV C (st := []) (st' := []) (mX3_drop l M hz1) wmX3_drop lkX4_156 dX4_forget_12 (wo_6 T3 ad _) rfl rfl rfl rfl rfl rfl ⟨rfl, rfl, (Nat.le_of_ble_eq_true rfl), (Nat.le_of_ble_eq_true rfl)⟩ ⟨Nat.zero_le _, Nat.zero_le _⟩ (Nat.le_of_ble_eq_true rfl) ?_
  refine V_iload_n C 0 dX4_forget_15 rfl ?_
  obtain ⟨rfl, rfl⟩ := ret_W h
  exact V_iret C dX4_forget_16
abbrev rmX4_sheetAt : Room := { frames := 0, cells := 0, slots := 0, locals := 0 }
def fX4_sheetAt (x1 : Int32) : Option (Option Nat) := if x1 < 0 then some none else if (4 : Int32) ≤ x1 then some none else gd (inb x1 4) (some (shq (x1).toNatClampNeg))
set_option maxHeartbeats 4000000 in
set_option maxRecDepth 100000 in
theorem mX4_sheetAt (l : Launch) (x1 : Int32) (M : Mem) {r : Option Nat} (h : fX4_sheetAt x1 = some r) : MC l yX4_sheetAt cX4_sheetAt 2 (some (.object "DayOldMaps$Sheet")) rmX4_sheetAt (fun ad sd => [.ref (ad 0), .int x1]) M (fun ad => some (nr ad r)) M := by
  refine MC_start (by decide) (fun ad sd => [(0, .ref (ad 0)), (1, .int x1)]) (fun _ _ => rfl) (fun _ _ => Nat.le_of_ble_eq_true rfl) ?_
  intro p e s m args below meth c D T3 ad sd A C
  unfold fX4_sheetAt at h
  refine V_iload_n C 1 dX4_sheetAt_0 rfl ?_
  refine V_if_lt C 22 dX4_sheetAt_1 (by decide) (fun q3 => ?_) (fun q3 => ?_)
  · replace h := ite_p q3 h
    refine V_null C dX4_sheetAt_22 ?_
    obtain rfl := ret_P h
    exact V_aret C dX4_sheetAt_23
  · replace h := ite_n q3 h
    refine V_iload_n C 1 dX4_sheetAt_4 rfl ?_
    refine V_aload_n C 0 dX4_sheetAt_5 rfl ?_
    refine V_get C 3 dX4_sheetAt_6 (wo_0 T3 ad _) rfl inKX4 (by decide) flX4_32 rfl rfl ?_
    refine V_slen C dX4_sheetAt_9 ?_
    refine V_icmp_ge C 22 dX4_sheetAt_10 (by decide) (fun q2 => ?_) (fun q2 => ?_)
    · replace h := ite_p q2 h
      refine V_null C dX4_sheetAt_22 ?_
      obtain rfl := ret_P h
      exact V_aret C dX4_sheetAt_23
    · replace h := ite_n q2 h
      refine V_aload_n C 0 dX4_sheetAt_13 rfl ?_
      refine V_get C 3 dX4_sheetAt_14 (wo_0 T3 ad _) rfl inKX4 (by decide) flX4_32 rfl rfl ?_
      refine V_iload_n C 1 dX4_sheetAt_17 rfl ?_
      obtain ⟨g1, h⟩ := gd_t h
      refine V_sald C (inb_in g1) dX4_sheetAt_18 ?_
      refine V_goto C 23 dX4_sheetAt_19 (by decide) ?_
      obtain rfl := ret_P h
      exact V_aret C dX4_sheetAt_23
abbrev rmX4_found : Room := { frames := 0, cells := 0, slots := 0, locals := 0 }
def fX4_found (x1 : Int32) (M : Mem) : Option (Int32 × Mem) := lt (up M 0 7 x1) fun M1 => some (((-10 : Int32) - x1), M1)
set_option maxHeartbeats 4000000 in
set_option maxRecDepth 100000 in
theorem mX4_found (l : Launch) (x1 : Int32) (M : Mem) {r : Int32} {M9 : Mem} (h : fX4_found x1 M = some (r, M9)) : MC l yX4_found cX4_found 2 (some .int) rmX4_found (fun ad sd => [.ref (ad 0), .int x1]) M (fun _ => some (.int r)) M9 := by
  refine MC_start (by decide) (fun ad sd => [(0, .ref (ad 0)), (1, .int x1)]) (fun _ _ => rfl) (fun _ _ => Nat.le_of_ble_eq_true rfl) ?_
  intro p e s m args below meth c D T3 ad sd A C
  unfold fX4_found at h
  refine V_aload_n C 0 dX4_found_0 rfl ?_
  refine V_iload_n C 1 dX4_found_1 rfl ?_
  obtain ⟨M1, hM1, h⟩ := lt_t h
  refine V_put C M1 7 dX4_found_2 (wo_0 T3 ad _) (ws_0_7 T3 ad _ _) rfl inKX4 tyX4 tyX4_ok nmX4 (by decide) flX4_48 rfl rfl rfl (Nat.le_of_ble_eq_true rfl) hM1 ?_
  refine V_bipush C (-10 : Int32) dX4_found_5 (by decide) ?_
  refine V_iload_n C 1 dX4_found_7 rfl ?_
  refine V_isub C dX4_found_8 ?_
  obtain ⟨rfl, rfl⟩ := ret_W h
  exact V_iret C dX4_found_9
abbrev rmX4_read : Room := { frames := 2, cells := 0, slots := 0, locals := 45 }
def fX4_read_31 : Nat → Nat → Int32 → Int32 → Mem → Option (Int32 × Mem)
  | 0, _, _, _, _ => none
  | n + 1, x2, x3, x4, M => if (M x2 2) ≤ (x4 + (2 : Int32)) then some (x3, M) else bP (fX2_itemAt M x2 x4) fun z5 => bP (fX2_itemAt M x2 (x4 + (1 : Int32))) fun z6 => bP (fX2_itemAt M x2 (x4 + (2 : Int32))) fun z7 => if (fX4_isSounding z5 z6 z7) = true then bW (fX3_add z5 z6 z7 M) fun z8 M9 => if z8 = true then fX4_read_31 n x2 (x3 + 1) (x4 + 3) M9 else some (x3, M9) else some (x3, M)
def fX4_read (x1 : Int32) (M : Mem) : Option (Int32 × Mem) := bP (fX4_sheetAt x1) fun z1 => qm z1 (some ((-2 : Int32), M)) fun o2 => gd (isS o2) (if (fX2_isLost M o2) = true then bW (fX4_found (1 : Int32) M) fun z13 M14 => some (z13, M14) else fX4_read_31 1000 o2 (0 : Int32) (0 : Int32) M)
set_option maxHeartbeats 4000000 in
set_option maxRecDepth 100000 in
theorem vX4_read_31 {p : Program} {l : Launch} {e : Env} {s : State} {m : MethodId} {args : Array Value} {below : List Frame} {meth : Method} {c : Code} {D : va_G} {T3 : ClassId × ClassId × ClassId} {ad sd : Nat → Nat} {A : Nat → Prop}  (C : CX p s m args meth c cX4_read 8 RX4 (some .int) D T3 ad sd A) {r : Int32} {M9 : Mem} : ∀ (n : Nat) (x2 : Nat) (gx2 : isS x2 = true) (x3 : Int32) (x4 : Int32) (M : Mem), fX4_read_31 n x2 x3 x4 M = some (r, M9) → VV p l e rmX4_read s m args below meth c D T3 ad A 8 0 0 (QM below D T3 ad A args s (fun _ => some (.int r)) M9) M [(0, .ref (ad 0)), (2, .ref (ad x2)), (3, .int x3), (4, .int x4)] 31 [] := by
  intro n
  induction n with
  | zero => intro x2 gx2 x3 x4 M h; exact nomatch (show (none : Option (Int32 × Mem)) = some _ from h)
  | succ n ih =>
    intro x2 gx2 x3 x4 M h
    rw [fX4_read_31] at h
    refine V_iload C 3 dX4_read_31 rfl ?_
    refine V_iconst C (2 : Int32) dX4_read_33 (by decide) ?_
    refine V_iadd C dX4_read_34 ?_
    refine V_aload_n C 1 dX4_read_35 rfl ?_
    refine V_getN C 2 dX4_read_36 (wS_get gx2 T3 ad _) rfl inKX2 (by decide) flX4_169 rfl rfl ?_
    refine V_icmp_ge C 110 dX4_read_39 (by decide) (fun q12 => ?_) (fun q12 => ?_)
    · replace h := ite_p q12 h
      refine V_iload_n C 2 dX4_read_110 rfl ?_
      obtain ⟨rfl, rfl⟩ := ret_W h
      exact V_iret C dX4_read_111
    · replace h := ite_n q12 h
      refine V_aload_n C 1 dX4_read_42 rfl ?_
      refine V_iload C 3 dX4_read_43 rfl ?_
      obtain ⟨z5, hz5, h⟩ := bP_t h
      refine V_callV C (st := []) (st' := [.int z5]) (mX2_itemAt l x2 gx2 x4 M hz5) wmX2_itemAt lkX4_170 dX4_read_45 (wS_get gx2 T3 ad _) rfl rfl rfl rfl rfl rfl ⟨rfl, rfl, (Nat.le_of_ble_eq_true rfl), (Nat.le_of_ble_eq_true rfl)⟩ ⟨Nat.zero_le _, Nat.zero_le _⟩ (Nat.le_of_ble_eq_true rfl) ?_
      refine V_istore C [(5, .int z5), (0, .ref (ad 0)), (2, .ref (ad x2)), (3, .int x3), (4, .int x4)] dX4_read_48 (by decide) rfl ?_
      refine V_aload_n C 2 dX4_read_50 rfl ?_
      refine V_iload C 4 dX4_read_51 rfl ?_
      refine V_iconst C (1 : Int32) dX4_read_53 (by decide) ?_
      refine V_iadd C dX4_read_54 ?_
      obtain ⟨z6, hz6, h⟩ := bP_t h
      refine V_callV C (st := []) (st' := [.int z6]) (mX2_itemAt l x2 gx2 (x4 + (1 : Int32)) M hz6) wmX2_itemAt lkX4_170 dX4_read_55 (wS_get gx2 T3 ad _) rfl rfl rfl rfl rfl rfl ⟨rfl, rfl, (Nat.le_of_ble_eq_true rfl), (Nat.le_of_ble_eq_true rfl)⟩ ⟨Nat.zero_le _, Nat.zero_le _⟩ (Nat.le_of_ble_eq_true rfl) ?_
      refine V_istore C [(6, .int z6), (5, .int z5), (0, .ref (ad 0)), (2, .ref (ad x2)), (3, .int x3), (4, .int x4)] dX4_read_58 (by decide) rfl ?_
      refine V_aload_n C 3 dX4_read_60 rfl ?_
      refine V_iload C 5 dX4_read_61 rfl ?_
      refine V_iconst C (2 : Int32) dX4_read_63 (by decide) ?_
      refine V_iadd C dX4_read_64 ?_
      obtain ⟨z7, hz7, h⟩ := bP_t h
      refine V_callV C (st := []) (st' := [.int z7]) (mX2_itemAt l x2 gx2 (x4 + (2 : Int32)) M hz7) wmX2_itemAt lkX4_170 dX4_read_65 (wS_get gx2 T3 ad _) rfl rfl rfl rfl rfl rfl ⟨rfl, rfl, (Nat.le_of_ble_eq_true rfl), (Nat.le_of_ble_eq_true rfl)⟩ ⟨Nat.zero_le _, Nat.zero_le _⟩ (Nat.le_of_ble_eq_true rfl) ?_
      refine V_istore C [(7, .int z7), (6, .int z6), (5, .int z5), (0, .ref (ad 0)), (2, .ref (ad x2)), (3, .int x3), (4, .int x4)] dX4_read_68 (by decide) rfl ?_
      refine V_iload C 2 dX4_read_70 rfl ?_
      refine V_iload C 1 dX4_read_72 rfl ?_
      refine V_iload C 0 dX4_read_74 rfl ?_
      refine V_callS C (st := []) (st' := [.int (b2i (fX4_isSounding z5 z6 z7))]) (mX4_isSounding l z5 z6 z7 M rfl) wmX4_isSounding lkX4_146 dX4_read_76 rfl rfl rfl ⟨rfl, rfl, (Nat.le_of_ble_eq_true rfl), (Nat.le_of_ble_eq_true rfl)⟩ ⟨Nat.zero_le _, Nat.zero_le _⟩ (Nat.le_of_ble_eq_true rfl) ?_
      refine V_ifB_eq C 110 dX4_read_79 (by decide) (fun q11 => ?_) (fun q11 => ?_)
      · replace h := ite_n q11 h
        refine V_iload_n C 5 dX4_read_110 rfl ?_
        obtain ⟨rfl, rfl⟩ := ret_W h
        exact V_iret C dX4_read_111
      · replace h := ite_p q11 h
        refine V_aload_n C 3 dX4_read_82 rfl ?_
        refine V_get C 1 dX4_read_83 (wo_0 T3 ad _) rfl inKX4 (by decide) flX4_19 rfl rfl ?_
        refine V_iload C 2 dX4_read_86 rfl ?_
        refine V_iload C 1 dX4_read_88 rfl ?_
        refine V_iload C 0 dX4_read_90 rfl ?_
        obtain ⟨z8, M9, hz8, h⟩ := bW_t h
        refine V_callV C (st := []) (st' := [.int (b2i z8)]) (mX3_add l z5 z6 z7 M hz8) wmX3_add lkX4_150 dX4_read_92 (wo_6 T3 ad _) rfl rfl rfl rfl rfl rfl ⟨rfl, rfl, (Nat.le_of_ble_eq_true rfl), (Nat.le_of_ble_eq_true rfl)⟩ ⟨Nat.zero_le _, Nat.zero_le _⟩ (Nat.le_of_ble_eq_true rfl) ?_
        refine V_ifB_ne C 101 dX4_read_95 (by decide) (fun q10 => ?_) (fun q10 => ?_)
        · replace h := ite_p q10 h
          refine V_iinc C 5 (x3 + 1) [(3, .int (x3 + 1)), (7, .int z7), (6, .int z6), (5, .int z5), (0, .ref (ad 0)), (2, .ref (ad x2)), (4, .int x4)] dX4_read_101 rfl rfl (by decide) rfl ?_
          refine V_iinc C 6 (x4 + 3) [(4, .int (x4 + 3)), (3, .int (x3 + 1)), (7, .int z7), (6, .int z6), (5, .int z5), (0, .ref (ad 0)), (2, .ref (ad x2))] dX4_read_104 rfl rfl (by decide) rfl ?_
          refine V_goto C 31 dX4_read_107 (by decide) ?_
          refine V_sub (lv' := [(0, .ref (ad 0)), (2, .ref (ad x2)), (3, .int (x3 + 1)), (4, .int (x4 + 3))]) [5, 6, 1, 0] rfl ?_
          exact ih x2 gx2 (x3 + 1) (x4 + 3) M9 h
        · replace h := ite_n q10 h
          refine V_goto C 110 dX4_read_98 (by decide) ?_
          refine V_iload_n C 5 dX4_read_110 rfl ?_
          obtain ⟨rfl, rfl⟩ := ret_W h
          exact V_iret C dX4_read_111
set_option maxHeartbeats 4000000 in
set_option maxRecDepth 100000 in
theorem mX4_read (l : Launch) (x1 : Int32) (M : Mem) {r : Int32} {M9 : Mem} (h : fX4_read x1 M = some (r, M9)) : MC l yX4_read cX4_read 8 (some .int) rmX4_read (fun ad sd => [.ref (ad 0), .int x1]) M (fun _ => some (.int r)) M9 := by
  refine MC_start (by decide) (fun ad sd => [(0, .ref (ad 0)), (1, .int x1)]) (fun _ _ => rfl) (fun _ _ => Nat.le_of_ble_eq_true rfl) ?_
  intro p e s m args below meth c D T3 ad sd A C
  unfold fX4_read at h
  refine V_aload_n C 0 dX4_read_0 rfl ?_
  refine V_iload_n C 1 dX4_read_1 rfl ?_
  obtain ⟨z1, hz1, h⟩ := bP_t h
  refine V_callV C (st := []) (st' := [nr ad z1]) (mX4_sheetAt l x1 M hz1) wmX4_sheetAt lkX4_159 dX4_read_2 (wo_0 T3 ad _) rfl rfl rfl rfl rfl rfl ⟨rfl, rfl, (Nat.le_of_ble_eq_true rfl), (Nat.le_of_ble_eq_true rfl)⟩ ⟨Nat.zero_le _, Nat.zero_le _⟩ (Nat.le_of_ble_eq_true rfl) ?_
  refine V_astore_nq C [(2, nr ad z1), (0, .ref (ad 0)), (1, .int x1)] dX4_read_5 rfl (by decide) (by cases z1 <;> rfl) ?_
  refine V_aload_nq C 0 dX4_read_6 rfl ?_
  refine V_ifnonnullq C 13 dX4_read_7 (by decide) (fun o2 e4 => ?_) (fun e4 => ?_)
  · subst e4
    replace h := qm_s rfl h
    obtain ⟨g3, h⟩ := gd_t h
    refine V_aload_n C 0 dX4_read_13 rfl ?_
    refine V_callV C (st := []) (st' := [.int (b2i (fX2_isLost M o2))]) (mX2_isLost l o2 g3 M rfl) wmX2_isLost lkX4_163 dX4_read_14 (wS_get g3 T3 ad _) rfl rfl rfl rfl rfl rfl ⟨rfl, rfl, (Nat.le_of_ble_eq_true rfl), (Nat.le_of_ble_eq_true rfl)⟩ ⟨Nat.zero_le _, Nat.zero_le _⟩ (Nat.le_of_ble_eq_true rfl) ?_
    refine V_ifB_eq C 26 dX4_read_17 (by decide) (fun q15 => ?_) (fun q15 => ?_)
    · replace h := ite_n q15 h
      refine V_iconst C (0 : Int32) dX4_read_26 (by decide) ?_
      refine V_istore_n C [(3, .int (0 : Int32)), (2, .ref (ad o2)), (0, .ref (ad 0)), (1, .int x1)] dX4_read_27 rfl (by decide) rfl ?_
      refine V_iconst C (0 : Int32) dX4_read_28 (by decide) ?_
      refine V_istore C [(4, .int (0 : Int32)), (3, .int (0 : Int32)), (2, .ref (ad o2)), (0, .ref (ad 0)), (1, .int x1)] dX4_read_29 (by decide) rfl ?_
      refine V_sub (lv' := [(0, .ref (ad 0)), (2, .ref (ad o2)), (3, .int (0 : Int32)), (4, .int (0 : Int32))]) [3, 2, 1, 0] rfl ?_
      exact vX4_read_31 C 1000 o2 g3 (0 : Int32) (0 : Int32) M h
    · replace h := ite_p q15 h
      refine V_aload_n C 1 dX4_read_20 rfl ?_
      refine V_iconst C (1 : Int32) dX4_read_21 (by decide) ?_
      obtain ⟨z13, M14, hz13, h⟩ := bW_t h
      refine V_callV C (st := []) (st' := [.int z13]) (mX4_found l (1 : Int32) M hz13) wmX4_found lkX4_166 dX4_read_22 (wo_0 T3 ad _) rfl rfl rfl rfl rfl rfl ⟨rfl, rfl, (Nat.le_of_ble_eq_true rfl), (Nat.le_of_ble_eq_true rfl)⟩ ⟨Nat.zero_le _, Nat.zero_le _⟩ (Nat.le_of_ble_eq_true rfl) ?_
      obtain ⟨rfl, rfl⟩ := ret_W h
      exact V_iret C dX4_read_25
  · subst e4
    replace h := qm_n rfl h
    refine V_bipush C (-2 : Int32) dX4_read_10 (by decide) ?_
    obtain ⟨rfl, rfl⟩ := ret_W h
    exact V_iret C dX4_read_12
abbrev rmX4_laws : Room := { frames := 4, cells := 0, slots := 0, locals := 99 }
def fX4_laws (M : Mem) (x1 : Int32) (x2 : Int32) : Option Int32 := if (fX0_hasChannel M x1) = true then if x2 < (-1 : Int32) then some (-2 : Int32) else if x2 < (36 : Int32) then bP (fX0_fact M x1 (2 : Int32)) fun z1 => bP (fX3_fitting M x1 z1) fun z2 => if x2 = (-1 : Int32) then some (fJ13_bitCount_95d88 z2) else bP (fX3_lawAt z2 x2) fun z3 => some z3 else some (-2 : Int32) else some (-2 : Int32)
set_option maxHeartbeats 4000000 in
set_option maxRecDepth 100000 in
theorem mX4_laws (l : Launch) (x1 : Int32) (x2 : Int32) (M : Mem) {r : Int32} (h : fX4_laws M x1 x2 = some r) : MC l yX4_laws cX4_laws 5 (some .int) rmX4_laws (fun ad sd => [.ref (ad 0), .int x1, .int x2]) M (fun _ => some (.int r)) M := by
  refine MC_start (by decide) (fun ad sd => [(0, .ref (ad 0)), (1, .int x1), (2, .int x2)]) (fun _ _ => rfl) (fun _ _ => Nat.le_of_ble_eq_true rfl) ?_
  intro p e s m args below meth c D T3 ad sd A C
  unfold fX4_laws at h
  refine V_aload_n C 0 dX4_laws_0 rfl ?_
  refine V_get C 0 dX4_laws_1 (wo_0 T3 ad _) rfl inKX4 (by decide) flX4_10 rfl rfl ?_
  refine V_iload_n C 1 dX4_laws_4 rfl ?_
  refine V_callV C (st := []) (st' := [.int (b2i (fX0_hasChannel M x1))]) (mX0_hasChannel l x1 M rfl) wmX0_hasChannel lkX4_88 dX4_laws_5 (wo_1 T3 ad _) rfl rfl rfl rfl rfl rfl ⟨rfl, rfl, (Nat.le_of_ble_eq_true rfl), (Nat.le_of_ble_eq_true rfl)⟩ ⟨Nat.zero_le _, Nat.zero_le _⟩ (Nat.le_of_ble_eq_true rfl) ?_
  refine V_ifB_eq C 22 dX4_laws_8 (by decide) (fun q7 => ?_) (fun q7 => ?_)
  · replace h := ite_n q7 h
    refine V_bipush C (-2 : Int32) dX4_laws_22 (by decide) ?_
    obtain rfl := ret_P h
    exact V_iret C dX4_laws_24
  · replace h := ite_p q7 h
    refine V_iload_n C 2 dX4_laws_11 rfl ?_
    refine V_iconst C (-1 : Int32) dX4_laws_12 (by decide) ?_
    refine V_icmp_lt C 22 dX4_laws_13 (by decide) (fun q6 => ?_) (fun q6 => ?_)
    · replace h := ite_p q6 h
      refine V_bipush C (-2 : Int32) dX4_laws_22 (by decide) ?_
      obtain rfl := ret_P h
      exact V_iret C dX4_laws_24
    · replace h := ite_n q6 h
      refine V_iload_n C 2 dX4_laws_16 rfl ?_
      refine V_bipush C (36 : Int32) dX4_laws_17 (by decide) ?_
      refine V_icmp_lt C 25 dX4_laws_19 (by decide) (fun q5 => ?_) (fun q5 => ?_)
      · replace h := ite_p q5 h
        refine V_aload_n C 0 dX4_laws_25 rfl ?_
        refine V_get C 1 dX4_laws_26 (wo_0 T3 ad _) rfl inKX4 (by decide) flX4_19 rfl rfl ?_
        refine V_iload_n C 1 dX4_laws_29 rfl ?_
        refine V_aload_n C 0 dX4_laws_30 rfl ?_
        refine V_get C 0 dX4_laws_31 (wo_0 T3 ad _) rfl inKX4 (by decide) flX4_10 rfl rfl ?_
        refine V_iload_n C 1 dX4_laws_34 rfl ?_
        refine V_iconst C (2 : Int32) dX4_laws_35 (by decide) ?_
        obtain ⟨z1, hz1, h⟩ := bP_t h
        refine V_callV C (st := [.int x1, .ref (ad 6)]) (st' := [.int z1, .int x1, .ref (ad 6)]) (mX0_fact l x1 (2 : Int32) M hz1) wmX0_fact lkX4_71 dX4_laws_36 (wo_1 T3 ad _) rfl rfl rfl rfl rfl rfl ⟨rfl, rfl, (Nat.le_of_ble_eq_true rfl), (Nat.le_of_ble_eq_true rfl)⟩ ⟨Nat.zero_le _, Nat.zero_le _⟩ (Nat.le_of_ble_eq_true rfl) ?_
        obtain ⟨z2, hz2, h⟩ := bP_t h
        refine V_callV C (st := []) (st' := [.long z2]) (mX3_fitting l x1 z1 M hz2) wmX3_fitting lkX4_173 dX4_laws_39 (wo_6 T3 ad _) rfl rfl rfl rfl rfl rfl ⟨rfl, rfl, (Nat.le_of_ble_eq_true rfl), (Nat.le_of_ble_eq_true rfl)⟩ ⟨Nat.zero_le _, Nat.zero_le _⟩ (Nat.le_of_ble_eq_true rfl) ?_
        refine V_lstore_n C [(3, .long z2), (0, .ref (ad 0)), (1, .int x1), (2, .int x2)] dX4_laws_42 rfl (by decide) rfl ?_
        refine V_iload_n C 3 dX4_laws_43 rfl ?_
        refine V_iconst C (-1 : Int32) dX4_laws_44 (by decide) ?_
        refine V_icmp_ne C 53 dX4_laws_45 (by decide) (fun q4 => ?_) (fun q4 => ?_)
        · replace h := ite_n q4 h
          refine V_lload_n C 0 dX4_laws_53 rfl ?_
          refine V_iload_n C 3 dX4_laws_54 rfl ?_
          obtain ⟨z3, hz3, h⟩ := bP_t h
          refine V_callS C (st := []) (st' := [.int z3]) (mX3_lawAt l z2 x2 M hz3) wmX3_lawAt lkX4_183 dX4_laws_55 rfl rfl rfl ⟨rfl, rfl, (Nat.le_of_ble_eq_true rfl), (Nat.le_of_ble_eq_true rfl)⟩ ⟨Nat.zero_le _, Nat.zero_le _⟩ (Nat.le_of_ble_eq_true rfl) ?_
          obtain rfl := ret_P h
          exact V_iret C dX4_laws_58
        · replace h := ite_p q4 h
          refine V_lload_n C 0 dX4_laws_48 rfl ?_
          refine V_callS C (st := []) (st' := [.int (fJ13_bitCount_95d88 z2)]) (mJ13_bitCount_95d88 l z2 M rfl) wmJ13_bitCount_95d88 lkX4_177 dX4_laws_49 rfl rfl rfl ⟨rfl, rfl, (Nat.le_of_ble_eq_true rfl), (Nat.le_of_ble_eq_true rfl)⟩ ⟨Nat.zero_le _, Nat.zero_le _⟩ (Nat.le_of_ble_eq_true rfl) ?_
          obtain rfl := ret_P h
          exact V_iret C dX4_laws_52
      · replace h := ite_n q5 h
        refine V_bipush C (-2 : Int32) dX4_laws_22 (by decide) ?_
        obtain rfl := ret_P h
        exact V_iret C dX4_laws_24
abbrev rmX4_next : Room := { frames := 4, cells := 0, slots := 0, locals := 99 }
def fX4_next (M : Mem) (x1 : Int32) (x2 : Int32) : Option Int32 := if (fX0_hasChannel M x1) = true then if (fX4_isNight x2) = true then bP (fX0_fact M x1 (2 : Int32)) fun z1 => bP (fX3_fitting M x1 z1) fun z2 => bP (fX3_depthBits z2 z1 x2) fun z3 => some z3 else some (-2 : Int32) else some (-2 : Int32)
set_option maxHeartbeats 4000000 in
set_option maxRecDepth 100000 in
theorem mX4_next (l : Launch) (x1 : Int32) (x2 : Int32) (M : Mem) {r : Int32} (h : fX4_next M x1 x2 = some r) : MC l yX4_next cX4_next 4 (some .int) rmX4_next (fun ad sd => [.ref (ad 0), .int x1, .int x2]) M (fun _ => some (.int r)) M := by
  refine MC_start (by decide) (fun ad sd => [(0, .ref (ad 0)), (1, .int x1), (2, .int x2)]) (fun _ _ => rfl) (fun _ _ => Nat.le_of_ble_eq_true rfl) ?_
  intro p e s m args below meth c D T3 ad sd A C
  unfold fX4_next at h
  refine V_aload_n C 0 dX4_next_0 rfl ?_
  refine V_get C 0 dX4_next_1 (wo_0 T3 ad _) rfl inKX4 (by decide) flX4_10 rfl rfl ?_
  refine V_iload_n C 1 dX4_next_4 rfl ?_
  refine V_callV C (st := []) (st' := [.int (b2i (fX0_hasChannel M x1))]) (mX0_hasChannel l x1 M rfl) wmX0_hasChannel lkX4_88 dX4_next_5 (wo_1 T3 ad _) rfl rfl rfl rfl rfl rfl ⟨rfl, rfl, (Nat.le_of_ble_eq_true rfl), (Nat.le_of_ble_eq_true rfl)⟩ ⟨Nat.zero_le _, Nat.zero_le _⟩ (Nat.le_of_ble_eq_true rfl) ?_
  refine V_ifB_eq C 18 dX4_next_8 (by decide) (fun q5 => ?_) (fun q5 => ?_)
  · replace h := ite_n q5 h
    refine V_bipush C (-2 : Int32) dX4_next_18 (by decide) ?_
    obtain rfl := ret_P h
    exact V_iret C dX4_next_20
  · replace h := ite_p q5 h
    refine V_iload_n C 2 dX4_next_11 rfl ?_
    refine V_callS C (st := []) (st' := [.int (b2i (fX4_isNight x2))]) (mX4_isNight l x2 M rfl) wmX4_isNight lkX4_75 dX4_next_12 rfl rfl rfl ⟨rfl, rfl, (Nat.le_of_ble_eq_true rfl), (Nat.le_of_ble_eq_true rfl)⟩ ⟨Nat.zero_le _, Nat.zero_le _⟩ (Nat.le_of_ble_eq_true rfl) ?_
    refine V_ifB_ne C 21 dX4_next_15 (by decide) (fun q4 => ?_) (fun q4 => ?_)
    · replace h := ite_p q4 h
      refine V_aload_n C 0 dX4_next_21 rfl ?_
      refine V_get C 0 dX4_next_22 (wo_0 T3 ad _) rfl inKX4 (by decide) flX4_10 rfl rfl ?_
      refine V_iload_n C 1 dX4_next_25 rfl ?_
      refine V_iconst C (2 : Int32) dX4_next_26 (by decide) ?_
      obtain ⟨z1, hz1, h⟩ := bP_t h
      refine V_callV C (st := []) (st' := [.int z1]) (mX0_fact l x1 (2 : Int32) M hz1) wmX0_fact lkX4_71 dX4_next_27 (wo_1 T3 ad _) rfl rfl rfl rfl rfl rfl ⟨rfl, rfl, (Nat.le_of_ble_eq_true rfl), (Nat.le_of_ble_eq_true rfl)⟩ ⟨Nat.zero_le _, Nat.zero_le _⟩ (Nat.le_of_ble_eq_true rfl) ?_
      refine V_istore_n C [(3, .int z1), (0, .ref (ad 0)), (1, .int x1), (2, .int x2)] dX4_next_30 rfl (by decide) rfl ?_
      refine V_aload_n C 1 dX4_next_31 rfl ?_
      refine V_get C 1 dX4_next_32 (wo_0 T3 ad _) rfl inKX4 (by decide) flX4_19 rfl rfl ?_
      refine V_iload_n C 2 dX4_next_35 rfl ?_
      refine V_iload_n C 0 dX4_next_36 rfl ?_
      obtain ⟨z2, hz2, h⟩ := bP_t h
      refine V_callV C (st := []) (st' := [.long z2]) (mX3_fitting l x1 z1 M hz2) wmX3_fitting lkX4_173 dX4_next_37 (wo_6 T3 ad _) rfl rfl rfl rfl rfl rfl ⟨rfl, rfl, (Nat.le_of_ble_eq_true rfl), (Nat.le_of_ble_eq_true rfl)⟩ ⟨Nat.zero_le _, Nat.zero_le _⟩ (Nat.le_of_ble_eq_true rfl) ?_
      refine V_iload_n C 0 dX4_next_40 rfl ?_
      refine V_iload_n C 3 dX4_next_41 rfl ?_
      obtain ⟨z3, hz3, h⟩ := bP_t h
      refine V_callS C (st := []) (st' := [.int z3]) (mX3_depthBits l z2 z1 x2 M hz3) wmX3_depthBits lkX4_187 dX4_next_42 rfl rfl rfl ⟨rfl, rfl, (Nat.le_of_ble_eq_true rfl), (Nat.le_of_ble_eq_true rfl)⟩ ⟨Nat.zero_le _, Nat.zero_le _⟩ (Nat.le_of_ble_eq_true rfl) ?_
      obtain rfl := ret_P h
      exact V_iret C dX4_next_45
    · replace h := ite_n q4 h
      refine V_bipush C (-2 : Int32) dX4_next_18 (by decide) ?_
      obtain rfl := ret_P h
      exact V_iret C dX4_next_20
abbrev rmX4_tells : Room := { frames := 4, cells := 0, slots := 0, locals := 99 }
def fX4_tells_52 : Nat → Int32 → Int32 → Int64 → Int32 → Int32 → Int32 → Mem → Option (Int32 × Mem)
  | 0, _, _, _, _, _, _, _ => none
  | n + 1, x2, x3, x4, x6, x7, x8, M => if (x2 + (20 : Int32)) ≤ x8 then some (x6, M) else if (99 : Int32) < x8 then some (x6, M) else bW (fX3_mostAlike x4 x3 x8 M) fun z3 M4 => if x7 ≤ z3 then fX4_tells_52 n x2 x3 x4 x6 x7 (x8 + 1) M4 else fX4_tells_52 n x2 x3 x4 x8 z3 (x8 + 1) M4
def fX4_tells (x1 : Int32) (x2 : Int32) (M : Mem) : Option (Int32 × Mem) := if (fX0_hasChannel M x1) = true then if (fX4_isNight x2) = true then bP (fX0_fact M x1 (2 : Int32)) fun z1 => bP (fX3_fitting M x1 z1) fun z2 => fX4_tells_52 1000 x2 z1 z2 x2 (37 : Int32) x2 M else some ((-2 : Int32), M) else some ((-2 : Int32), M)
set_option maxHeartbeats 4000000 in
set_option maxRecDepth 100000 in
theorem vX4_tells_52 {p : Program} {l : Launch} {e : Env} {s : State} {m : MethodId} {args : Array Value} {below : List Frame} {meth : Method} {c : Code} {D : va_G} {T3 : ClassId × ClassId × ClassId} {ad sd : Nat → Nat} {A : Nat → Prop}  (C : CX p s m args meth c cX4_tells 10 RX4 (some .int) D T3 ad sd A) {r : Int32} {M9 : Mem} : ∀ (n : Nat) (x2 : Int32) (x3 : Int32) (x4 : Int64) (x6 : Int32) (x7 : Int32) (x8 : Int32) (M : Mem), fX4_tells_52 n x2 x3 x4 x6 x7 x8 M = some (r, M9) → VV p l e rmX4_tells s m args below meth c D T3 ad A 10 0 0 (QM below D T3 ad A args s (fun _ => some (.int r)) M9) M [(0, .ref (ad 0)), (2, .int x2), (3, .int x3), (4, .long x4), (6, .int x6), (7, .int x7), (8, .int x8)] 52 [] := by
  intro n
  induction n with
  | zero => intro x2 x3 x4 x6 x7 x8 M h; exact nomatch (show (none : Option (Int32 × Mem)) = some _ from h)
  | succ n ih =>
    intro x2 x3 x4 x6 x7 x8 M h
    rw [fX4_tells_52] at h
    refine V_iload C 6 dX4_tells_52 rfl ?_
    refine V_iload_n C 1 dX4_tells_54 rfl ?_
    refine V_bipush C (20 : Int32) dX4_tells_55 (by decide) ?_
    refine V_iadd C dX4_tells_57 ?_
    refine V_icmp_ge C 103 dX4_tells_58 (by decide) (fun q7 => ?_) (fun q7 => ?_)
    · replace h := ite_p q7 h
      refine V_iload C 4 dX4_tells_103 rfl ?_
      obtain ⟨rfl, rfl⟩ := ret_W h
      exact V_iret C dX4_tells_105
    · replace h := ite_n q7 h
      refine V_iload C 6 dX4_tells_61 rfl ?_
      refine V_bipush C (99 : Int32) dX4_tells_63 (by decide) ?_
      refine V_icmp_gt C 103 dX4_tells_65 (by decide) (fun q6 => ?_) (fun q6 => ?_)
      · replace h := ite_p q6 h
        refine V_iload C 4 dX4_tells_103 rfl ?_
        obtain ⟨rfl, rfl⟩ := ret_W h
        exact V_iret C dX4_tells_105
      · replace h := ite_n q6 h
        refine V_aload_n C 0 dX4_tells_68 rfl ?_
        refine V_get C 1 dX4_tells_69 (wo_0 T3 ad _) rfl inKX4 (by decide) flX4_19 rfl rfl ?_
        refine V_lload C 3 dX4_tells_72 rfl ?_
        refine V_iload_n C 2 dX4_tells_74 rfl ?_
        refine V_iload C 6 dX4_tells_75 rfl ?_
        obtain ⟨z3, M4, hz3, h⟩ := bW_t h
        refine V_callV C (st := []) (st' := [.int z3]) (mX3_mostAlike l x4 x3 x8 M hz3) wmX3_mostAlike lkX4_191 dX4_tells_77 (wo_6 T3 ad _) rfl rfl rfl rfl rfl rfl ⟨rfl, rfl, (Nat.le_of_ble_eq_true rfl), (Nat.le_of_ble_eq_true rfl)⟩ ⟨Nat.zero_le _, Nat.zero_le _⟩ (Nat.le_of_ble_eq_true rfl) ?_
        refine V_istore C [(9, .int z3), (0, .ref (ad 0)), (2, .int x2), (3, .int x3), (4, .long x4), (6, .int x6), (7, .int x7), (8, .int x8)] dX4_tells_80 (by decide) rfl ?_
        refine V_iload C 0 dX4_tells_82 rfl ?_
        refine V_iload C 6 dX4_tells_84 rfl ?_
        refine V_icmp_ge C 97 dX4_tells_86 (by decide) (fun q5 => ?_) (fun q5 => ?_)
        · replace h := ite_p q5 h
          refine V_iinc C 7 (x8 + 1) [(8, .int (x8 + 1)), (9, .int z3), (0, .ref (ad 0)), (2, .int x2), (3, .int x3), (4, .long x4), (6, .int x6), (7, .int x7)] dX4_tells_97 rfl rfl (by decide) rfl ?_
          refine V_goto C 52 dX4_tells_100 (by decide) ?_
          refine V_sub (lv' := [(0, .ref (ad 0)), (2, .int x2), (3, .int x3), (4, .long x4), (6, .int x6), (7, .int x7), (8, .int (x8 + 1))]) [2, 3, 4, 5, 6, 7, 0] rfl ?_
          exact ih x2 x3 x4 x6 x7 (x8 + 1) M4 h
        · replace h := ite_n q5 h
          refine V_iload C 0 dX4_tells_89 rfl ?_
          refine V_istore C [(7, .int z3), (9, .int z3), (0, .ref (ad 0)), (2, .int x2), (3, .int x3), (4, .long x4), (6, .int x6), (8, .int x8)] dX4_tells_91 (by decide) rfl ?_
          refine V_iload C 7 dX4_tells_93 rfl ?_
          refine V_istore C [(6, .int x8), (7, .int z3), (9, .int z3), (0, .ref (ad 0)), (2, .int x2), (3, .int x3), (4, .long x4), (8, .int x8)] dX4_tells_95 (by decide) rfl ?_
          refine V_iinc C 7 (x8 + 1) [(8, .int (x8 + 1)), (6, .int x8), (7, .int z3), (9, .int z3), (0, .ref (ad 0)), (2, .int x2), (3, .int x3), (4, .long x4)] dX4_tells_97 rfl rfl (by decide) rfl ?_
          refine V_goto C 52 dX4_tells_100 (by decide) ?_
          refine V_sub (lv' := [(0, .ref (ad 0)), (2, .int x2), (3, .int x3), (4, .long x4), (6, .int x8), (7, .int z3), (8, .int (x8 + 1))]) [4, 5, 6, 7, 1, 2, 0] rfl ?_
          exact ih x2 x3 x4 x8 z3 (x8 + 1) M4 h
set_option maxHeartbeats 4000000 in
set_option maxRecDepth 100000 in
theorem mX4_tells (l : Launch) (x1 : Int32) (x2 : Int32) (M : Mem) {r : Int32} {M9 : Mem} (h : fX4_tells x1 x2 M = some (r, M9)) : MC l yX4_tells cX4_tells 10 (some .int) rmX4_tells (fun ad sd => [.ref (ad 0), .int x1, .int x2]) M (fun _ => some (.int r)) M9 := by
  refine MC_start (by decide) (fun ad sd => [(0, .ref (ad 0)), (1, .int x1), (2, .int x2)]) (fun _ _ => rfl) (fun _ _ => Nat.le_of_ble_eq_true rfl) ?_
  intro p e s m args below meth c D T3 ad sd A C
  unfold fX4_tells at h
  refine V_aload_n C 0 dX4_tells_0 rfl ?_
  refine V_get C 0 dX4_tells_1 (wo_0 T3 ad _) rfl inKX4 (by decide) flX4_10 rfl rfl ?_
  refine V_iload_n C 1 dX4_tells_4 rfl ?_
  refine V_callV C (st := []) (st' := [.int (b2i (fX0_hasChannel M x1))]) (mX0_hasChannel l x1 M rfl) wmX0_hasChannel lkX4_88 dX4_tells_5 (wo_1 T3 ad _) rfl rfl rfl rfl rfl rfl ⟨rfl, rfl, (Nat.le_of_ble_eq_true rfl), (Nat.le_of_ble_eq_true rfl)⟩ ⟨Nat.zero_le _, Nat.zero_le _⟩ (Nat.le_of_ble_eq_true rfl) ?_
  refine V_ifB_eq C 18 dX4_tells_8 (by decide) (fun q9 => ?_) (fun q9 => ?_)
  · replace h := ite_n q9 h
    refine V_bipush C (-2 : Int32) dX4_tells_18 (by decide) ?_
    obtain ⟨rfl, rfl⟩ := ret_W h
    exact V_iret C dX4_tells_20
  · replace h := ite_p q9 h
    refine V_iload_n C 2 dX4_tells_11 rfl ?_
    refine V_callS C (st := []) (st' := [.int (b2i (fX4_isNight x2))]) (mX4_isNight l x2 M rfl) wmX4_isNight lkX4_75 dX4_tells_12 rfl rfl rfl ⟨rfl, rfl, (Nat.le_of_ble_eq_true rfl), (Nat.le_of_ble_eq_true rfl)⟩ ⟨Nat.zero_le _, Nat.zero_le _⟩ (Nat.le_of_ble_eq_true rfl) ?_
    refine V_ifB_ne C 21 dX4_tells_15 (by decide) (fun q8 => ?_) (fun q8 => ?_)
    · replace h := ite_p q8 h
      refine V_aload_n C 0 dX4_tells_21 rfl ?_
      refine V_get C 0 dX4_tells_22 (wo_0 T3 ad _) rfl inKX4 (by decide) flX4_10 rfl rfl ?_
      refine V_iload_n C 1 dX4_tells_25 rfl ?_
      refine V_iconst C (2 : Int32) dX4_tells_26 (by decide) ?_
      obtain ⟨z1, hz1, h⟩ := bP_t h
      refine V_callV C (st := []) (st' := [.int z1]) (mX0_fact l x1 (2 : Int32) M hz1) wmX0_fact lkX4_71 dX4_tells_27 (wo_1 T3 ad _) rfl rfl rfl rfl rfl rfl ⟨rfl, rfl, (Nat.le_of_ble_eq_true rfl), (Nat.le_of_ble_eq_true rfl)⟩ ⟨Nat.zero_le _, Nat.zero_le _⟩ (Nat.le_of_ble_eq_true rfl) ?_
      refine V_istore_n C [(3, .int z1), (0, .ref (ad 0)), (1, .int x1), (2, .int x2)] dX4_tells_30 rfl (by decide) rfl ?_
      refine V_aload_n C 1 dX4_tells_31 rfl ?_
      refine V_get C 1 dX4_tells_32 (wo_0 T3 ad _) rfl inKX4 (by decide) flX4_19 rfl rfl ?_
      refine V_iload_n C 2 dX4_tells_35 rfl ?_
      refine V_iload_n C 0 dX4_tells_36 rfl ?_
      obtain ⟨z2, hz2, h⟩ := bP_t h
      refine V_callV C (st := []) (st' := [.long z2]) (mX3_fitting l x1 z1 M hz2) wmX3_fitting lkX4_173 dX4_tells_37 (wo_6 T3 ad _) rfl rfl rfl rfl rfl rfl ⟨rfl, rfl, (Nat.le_of_ble_eq_true rfl), (Nat.le_of_ble_eq_true rfl)⟩ ⟨Nat.zero_le _, Nat.zero_le _⟩ (Nat.le_of_ble_eq_true rfl) ?_
      refine V_lstore C [(4, .long z2), (3, .int z1), (0, .ref (ad 0)), (1, .int x1), (2, .int x2)] dX4_tells_40 (by decide) rfl ?_
      refine V_iload_n C 4 dX4_tells_42 rfl ?_
      refine V_istore C [(6, .int x2), (4, .long z2), (3, .int z1), (0, .ref (ad 0)), (1, .int x1), (2, .int x2)] dX4_tells_43 (by decide) rfl ?_
      refine V_bipush C (37 : Int32) dX4_tells_45 (by decide) ?_
      refine V_istore C [(7, .int (37 : Int32)), (6, .int x2), (4, .long z2), (3, .int z1), (0, .ref (ad 0)), (1, .int x1), (2, .int x2)] dX4_tells_47 (by decide) rfl ?_
      refine V_iload_n C 6 dX4_tells_49 rfl ?_
      refine V_istore C [(8, .int x2), (7, .int (37 : Int32)), (6, .int x2), (4, .long z2), (3, .int z1), (0, .ref (ad 0)), (1, .int x1), (2, .int x2)] dX4_tells_50 (by decide) rfl ?_
      refine V_sub (lv' := [(0, .ref (ad 0)), (2, .int x2), (3, .int z1), (4, .long z2), (6, .int x2), (7, .int (37 : Int32)), (8, .int x2)]) [5, 7, 4, 3, 2, 1, 0] rfl ?_
      exact vX4_tells_52 C 1000 x2 z1 z2 x2 (37 : Int32) x2 M h
    · replace h := ite_n q8 h
      refine V_bipush C (-2 : Int32) dX4_tells_18 (by decide) ?_
      obtain ⟨rfl, rfl⟩ := ret_W h
      exact V_iret C dX4_tells_20
abbrev rmX4_wreck : Room := { frames := 4, cells := 0, slots := 0, locals := 95 }
def fX4_wreck_38 : Nat → Int32 → Int32 → Int32 → Bool → Int32 → Int32 → Mem → Option (Int32 × Mem)
  | 0, _, _, _, _, _, _, _ => none
  | n + 1, x1, x2, x3, x4, x5, x6, M => if (30 : Int32) < x6 then some (x5, M) else if x3 < x6 then some (x5, M) else bW (fX4_findByMap x1 (x3 - x6) M) fun z2 M3 => if z2 = true then bP (fX4_aground M3 x1 x3 x4) fun z4 => if z4 = x2 then fX4_wreck_38 n x1 x2 x3 x4 (x5 ||| (shlI (1 : Int32) x6)) (x6 + 1) M3 else fX4_wreck_38 n x1 x2 x3 x4 x5 (x6 + 1) M3 else fX4_wreck_38 n x1 x2 x3 x4 x5 (x6 + 1) M3
def fX4_wreck (x1 : Int32) (x2 : Int32) (x3 : Int32) (M : Mem) : Option (Int32 × Mem) := if (fX4_isShip x1 x3) = true then if (fX0_hasChannel M x2) = true then bP (fX0_isStormy M x3) fun z1 => fX4_wreck_38 1000 x1 x2 x3 z1 (0 : Int32) (0 : Int32) M else some ((-2 : Int32), M) else some ((-2 : Int32), M)
set_option maxHeartbeats 4000000 in
set_option maxRecDepth 100000 in
theorem vX4_wreck_38 {p : Program} {l : Launch} {e : Env} {s : State} {m : MethodId} {args : Array Value} {below : List Frame} {meth : Method} {c : Code} {D : va_G} {T3 : ClassId × ClassId × ClassId} {ad sd : Nat → Nat} {A : Nat → Prop}  (C : CX p s m args meth c cX4_wreck 8 RX4 (some .int) D T3 ad sd A) {r : Int32} {M9 : Mem} : ∀ (n : Nat) (x1 : Int32) (x2 : Int32) (x3 : Int32) (x4 : Bool) (x5 : Int32) (x6 : Int32) (M : Mem), fX4_wreck_38 n x1 x2 x3 x4 x5 x6 M = some (r, M9) → VV p l e rmX4_wreck s m args below meth c D T3 ad A 8 0 0 (QM below D T3 ad A args s (fun _ => some (.int r)) M9) M [(0, .ref (ad 0)), (1, .int x1), (2, .int x2), (3, .int x3), (4, .int (b2i x4)), (5, .int x5), (6, .int x6)] 38 [] := by
  intro n
  induction n with
  | zero => intro x1 x2 x3 x4 x5 x6 M h; exact nomatch (show (none : Option (Int32 × Mem)) = some _ from h)
  | succ n ih =>
    intro x1 x2 x3 x4 x5 x6 M h
    rw [fX4_wreck_38] at h
    refine V_iload C 6 dX4_wreck_38 rfl ?_
    refine V_bipush C (30 : Int32) dX4_wreck_40 (by decide) ?_
    refine V_icmp_gt C 94 dX4_wreck_42 (by decide) (fun q8 => ?_) (fun q8 => ?_)
    · replace h := ite_p q8 h
      refine V_iload C 5 dX4_wreck_94 rfl ?_
      obtain ⟨rfl, rfl⟩ := ret_W h
      exact V_iret C dX4_wreck_96
    · replace h := ite_n q8 h
      refine V_iload C 6 dX4_wreck_45 rfl ?_
      refine V_iload_n C 3 dX4_wreck_47 rfl ?_
      refine V_icmp_gt C 94 dX4_wreck_48 (by decide) (fun q7 => ?_) (fun q7 => ?_)
      · replace h := ite_p q7 h
        refine V_iload C 5 dX4_wreck_94 rfl ?_
        obtain ⟨rfl, rfl⟩ := ret_W h
        exact V_iret C dX4_wreck_96
      · replace h := ite_n q7 h
        refine V_aload_n C 0 dX4_wreck_51 rfl ?_
        refine V_iload_n C 1 dX4_wreck_52 rfl ?_
        refine V_iload_n C 3 dX4_wreck_53 rfl ?_
        refine V_iload C 6 dX4_wreck_54 rfl ?_
        refine V_isub C dX4_wreck_56 ?_
        obtain ⟨z2, M3, hz2, h⟩ := bW_t h
        refine V_callV C (st := []) (st' := [.int (b2i z2)]) (mX4_findByMap l x1 (x3 - x6) M hz2) wmX4_findByMap lkX4_128 dX4_wreck_57 (wo_0 T3 ad _) rfl rfl rfl rfl rfl rfl ⟨rfl, rfl, (Nat.le_of_ble_eq_true rfl), (Nat.le_of_ble_eq_true rfl)⟩ ⟨Nat.zero_le _, Nat.zero_le _⟩ (Nat.le_of_ble_eq_true rfl) ?_
        refine V_istore C [(7, .int (b2i z2)), (0, .ref (ad 0)), (1, .int x1), (2, .int x2), (3, .int x3), (4, .int (b2i x4)), (5, .int x5), (6, .int x6)] dX4_wreck_60 (by decide) rfl ?_
        refine V_iload C 0 dX4_wreck_62 rfl ?_
        refine V_ifB_eq C 88 dX4_wreck_64 (by decide) (fun q6 => ?_) (fun q6 => ?_)
        · replace h := ite_n q6 h
          refine V_iinc C 7 (x6 + 1) [(6, .int (x6 + 1)), (7, .int (b2i z2)), (0, .ref (ad 0)), (1, .int x1), (2, .int x2), (3, .int x3), (4, .int (b2i x4)), (5, .int x5)] dX4_wreck_88 rfl rfl (by decide) rfl ?_
          refine V_goto C 38 dX4_wreck_91 (by decide) ?_
          refine V_sub (lv' := [(0, .ref (ad 0)), (1, .int x1), (2, .int x2), (3, .int x3), (4, .int (b2i x4)), (5, .int x5), (6, .int (x6 + 1))]) [2, 3, 4, 5, 6, 7, 0] rfl ?_
          exact ih x1 x2 x3 x4 x5 (x6 + 1) M3 h
        · replace h := ite_p q6 h
          refine V_aload_n C 1 dX4_wreck_67 rfl ?_
          refine V_iload_n C 2 dX4_wreck_68 rfl ?_
          refine V_iload_n C 4 dX4_wreck_69 rfl ?_
          refine V_iload C 5 dX4_wreck_70 rfl ?_
          obtain ⟨z4, hz4, h⟩ := bP_t h
          refine V_callV C (st := []) (st' := [.int z4]) (mX4_aground l x1 x3 x4 M3 hz4) wmX4_aground lkX4_131 dX4_wreck_72 (wo_0 T3 ad _) rfl rfl rfl rfl rfl rfl ⟨rfl, rfl, (Nat.le_of_ble_eq_true rfl), (Nat.le_of_ble_eq_true rfl)⟩ ⟨Nat.zero_le _, Nat.zero_le _⟩ (Nat.le_of_ble_eq_true rfl) ?_
          refine V_iload_n C 3 dX4_wreck_75 rfl ?_
          refine V_icmp_ne C 88 dX4_wreck_76 (by decide) (fun q5 => ?_) (fun q5 => ?_)
          · replace h := ite_n q5 h
            refine V_iinc C 7 (x6 + 1) [(6, .int (x6 + 1)), (7, .int (b2i z2)), (0, .ref (ad 0)), (1, .int x1), (2, .int x2), (3, .int x3), (4, .int (b2i x4)), (5, .int x5)] dX4_wreck_88 rfl rfl (by decide) rfl ?_
            refine V_goto C 38 dX4_wreck_91 (by decide) ?_
            refine V_sub (lv' := [(0, .ref (ad 0)), (1, .int x1), (2, .int x2), (3, .int x3), (4, .int (b2i x4)), (5, .int x5), (6, .int (x6 + 1))]) [2, 3, 4, 5, 6, 7, 0] rfl ?_
            exact ih x1 x2 x3 x4 x5 (x6 + 1) M3 h
          · replace h := ite_p q5 h
            refine V_iload C 6 dX4_wreck_79 rfl ?_
            refine V_iconst C (1 : Int32) dX4_wreck_81 (by decide) ?_
            refine V_iload C 7 dX4_wreck_82 rfl ?_
            refine V_ishl C dX4_wreck_84 ?_
            refine V_ior C dX4_wreck_85 ?_
            refine V_istore C [(5, .int (x5 ||| (shlI (1 : Int32) x6))), (7, .int (b2i z2)), (0, .ref (ad 0)), (1, .int x1), (2, .int x2), (3, .int x3), (4, .int (b2i x4)), (6, .int x6)] dX4_wreck_86 (by decide) rfl ?_
            refine V_iinc C 7 (x6 + 1) [(6, .int (x6 + 1)), (5, .int (x5 ||| (shlI (1 : Int32) x6))), (7, .int (b2i z2)), (0, .ref (ad 0)), (1, .int x1), (2, .int x2), (3, .int x3), (4, .int (b2i x4))] dX4_wreck_88 rfl rfl (by decide) rfl ?_
            refine V_goto C 38 dX4_wreck_91 (by decide) ?_
            refine V_sub (lv' := [(0, .ref (ad 0)), (1, .int x1), (2, .int x2), (3, .int x3), (4, .int (b2i x4)), (5, .int (x5 ||| (shlI (1 : Int32) x6))), (6, .int (x6 + 1))]) [3, 4, 5, 6, 7, 1, 0] rfl ?_
            exact ih x1 x2 x3 x4 (x5 ||| (shlI (1 : Int32) x6)) (x6 + 1) M3 h
set_option maxHeartbeats 4000000 in
set_option maxRecDepth 100000 in
theorem mX4_wreck (l : Launch) (x1 : Int32) (x2 : Int32) (x3 : Int32) (M : Mem) {r : Int32} {M9 : Mem} (h : fX4_wreck x1 x2 x3 M = some (r, M9)) : MC l yX4_wreck cX4_wreck 8 (some .int) rmX4_wreck (fun ad sd => [.ref (ad 0), .int x1, .int x2, .int x3]) M (fun _ => some (.int r)) M9 := by
  refine MC_start (by decide) (fun ad sd => [(0, .ref (ad 0)), (1, .int x1), (2, .int x2), (3, .int x3)]) (fun _ _ => rfl) (fun _ _ => Nat.le_of_ble_eq_true rfl) ?_
  intro p e s m args below meth c D T3 ad sd A C
  unfold fX4_wreck at h
  refine V_iload_n C 1 dX4_wreck_0 rfl ?_
  refine V_iload_n C 3 dX4_wreck_1 rfl ?_
  refine V_callS C (st := []) (st' := [.int (b2i (fX4_isShip x1 x3))]) (mX4_isShip l x1 x3 M rfl) wmX4_isShip lkX4_105 dX4_wreck_2 rfl rfl rfl ⟨rfl, rfl, (Nat.le_of_ble_eq_true rfl), (Nat.le_of_ble_eq_true rfl)⟩ ⟨Nat.zero_le _, Nat.zero_le _⟩ (Nat.le_of_ble_eq_true rfl) ?_
  refine V_ifB_eq C 19 dX4_wreck_5 (by decide) (fun q10 => ?_) (fun q10 => ?_)
  · replace h := ite_n q10 h
    refine V_bipush C (-2 : Int32) dX4_wreck_19 (by decide) ?_
    obtain ⟨rfl, rfl⟩ := ret_W h
    exact V_iret C dX4_wreck_21
  · replace h := ite_p q10 h
    refine V_aload_n C 0 dX4_wreck_8 rfl ?_
    refine V_get C 0 dX4_wreck_9 (wo_0 T3 ad _) rfl inKX4 (by decide) flX4_10 rfl rfl ?_
    refine V_iload_n C 2 dX4_wreck_12 rfl ?_
    refine V_callV C (st := []) (st' := [.int (b2i (fX0_hasChannel M x2))]) (mX0_hasChannel l x2 M rfl) wmX0_hasChannel lkX4_88 dX4_wreck_13 (wo_1 T3 ad _) rfl rfl rfl rfl rfl rfl ⟨rfl, rfl, (Nat.le_of_ble_eq_true rfl), (Nat.le_of_ble_eq_true rfl)⟩ ⟨Nat.zero_le _, Nat.zero_le _⟩ (Nat.le_of_ble_eq_true rfl) ?_
    refine V_ifB_ne C 22 dX4_wreck_16 (by decide) (fun q9 => ?_) (fun q9 => ?_)
    · replace h := ite_p q9 h
      refine V_aload_n C 0 dX4_wreck_22 rfl ?_
      refine V_get C 0 dX4_wreck_23 (wo_0 T3 ad _) rfl inKX4 (by decide) flX4_10 rfl rfl ?_
      refine V_iload_n C 3 dX4_wreck_26 rfl ?_
      obtain ⟨z1, hz1, h⟩ := bP_t h
      refine V_callV C (st := []) (st' := [.int (b2i z1)]) (mX0_isStormy l x3 M hz1) wmX0_isStormy lkX4_91 dX4_wreck_27 (wo_1 T3 ad _) rfl rfl rfl rfl rfl rfl ⟨rfl, rfl, (Nat.le_of_ble_eq_true rfl), (Nat.le_of_ble_eq_true rfl)⟩ ⟨Nat.zero_le _, Nat.zero_le _⟩ (Nat.le_of_ble_eq_true rfl) ?_
      refine V_istore C [(4, .int (b2i z1)), (0, .ref (ad 0)), (1, .int x1), (2, .int x2), (3, .int x3)] dX4_wreck_30 (by decide) rfl ?_
      refine V_iconst C (0 : Int32) dX4_wreck_32 (by decide) ?_
      refine V_istore C [(5, .int (0 : Int32)), (4, .int (b2i z1)), (0, .ref (ad 0)), (1, .int x1), (2, .int x2), (3, .int x3)] dX4_wreck_33 (by decide) rfl ?_
      refine V_iconst C (0 : Int32) dX4_wreck_35 (by decide) ?_
      refine V_istore C [(6, .int (0 : Int32)), (5, .int (0 : Int32)), (4, .int (b2i z1)), (0, .ref (ad 0)), (1, .int x1), (2, .int x2), (3, .int x3)] dX4_wreck_36 (by decide) rfl ?_
      refine V_sub (lv' := [(0, .ref (ad 0)), (1, .int x1), (2, .int x2), (3, .int x3), (4, .int (b2i z1)), (5, .int (0 : Int32)), (6, .int (0 : Int32))]) [3, 4, 5, 6, 2, 1, 0] rfl ?_
      exact vX4_wreck_38 C 1000 x1 x2 x3 z1 (0 : Int32) (0 : Int32) M h
    · replace h := ite_n q9 h
      refine V_bipush C (-2 : Int32) dX4_wreck_19 (by decide) ?_
      obtain ⟨rfl, rfl⟩ := ret_W h
      exact V_iret C dX4_wreck_21
abbrev rmX4_inLowestTerms : Room := { frames := 0, cells := 0, slots := 0, locals := 0 }
def fX4_inLowestTerms_44 (x2 : Int32) (x3 : Int32) (x4 : Int32) : Option Int32 := if x2 = 0 then some x3 else some x4
def fX4_inLowestTerms_8 : Nat → Int32 → Int32 → Int32 → Int32 → Option Int32
  | 0, _, _, _, _ => none
  | n + 1, x2, x3, x4, x5 => if (32 : Int32) ≤ x5 then fX4_inLowestTerms_44 x2 x3 x4 else if (rmI x3 (2 : Int32)) = 0 then if (rmI x4 (2 : Int32)) = 0 then fX4_inLowestTerms_8 n x2 (x3 / (2 : Int32)) (x4 / (2 : Int32)) (x5 + 1) else fX4_inLowestTerms_44 x2 x3 x4 else fX4_inLowestTerms_44 x2 x3 x4
def fX4_inLowestTerms (x0 : Int32) (x1 : Int32) (x2 : Int32) : Option Int32 := fX4_inLowestTerms_8 1000 x2 x0 x1 (0 : Int32)
set_option maxHeartbeats 4000000 in
set_option maxRecDepth 100000 in
theorem vX4_inLowestTerms_44 {p : Program} {l : Launch} {e : Env} {s : State} {m : MethodId} {args : Array Value} {below : List Frame} {meth : Method} {c : Code} {D : va_G} {T3 : ClassId × ClassId × ClassId} {ad sd : Nat → Nat} {A : Nat → Prop}  (C : CX p s m args meth c cX4_inLowestTerms 6 RX4 (some .int) D T3 ad sd A) {r : Int32} (M : Mem) : ∀ (x2 : Int32) (x3 : Int32) (x4 : Int32), fX4_inLowestTerms_44 x2 x3 x4 = some r → VV p l e rmX4_inLowestTerms s m args below meth c D T3 ad A 6 0 0 (QM below D T3 ad A args s (fun _ => some (.int r)) M) M [(2, .int x2), (3, .int x3), (4, .int x4)] 44 [] := by
  intro x2 x3 x4 h
  unfold fX4_inLowestTerms_44 at h
  refine V_iload_n C 0 dX4_inLowestTerms_44 rfl ?_
  refine V_if_ne C 52 dX4_inLowestTerms_45 (by decide) (fun q1 => ?_) (fun q1 => ?_)
  · replace h := ite_n q1 h
    refine V_iload C 2 dX4_inLowestTerms_52 rfl ?_
    obtain rfl := ret_P h
    exact V_iret C dX4_inLowestTerms_54
  · replace h := ite_p q1 h
    refine V_iload_n C 1 dX4_inLowestTerms_48 rfl ?_
    refine V_goto C 54 dX4_inLowestTerms_49 (by decide) ?_
    obtain rfl := ret_P h
    exact V_iret C dX4_inLowestTerms_54
set_option maxHeartbeats 4000000 in
set_option maxRecDepth 100000 in
theorem vX4_inLowestTerms_8 {p : Program} {l : Launch} {e : Env} {s : State} {m : MethodId} {args : Array Value} {below : List Frame} {meth : Method} {c : Code} {D : va_G} {T3 : ClassId × ClassId × ClassId} {ad sd : Nat → Nat} {A : Nat → Prop}  (C : CX p s m args meth c cX4_inLowestTerms 6 RX4 (some .int) D T3 ad sd A) {r : Int32} (M : Mem) : ∀ (n : Nat) (x2 : Int32) (x3 : Int32) (x4 : Int32) (x5 : Int32), fX4_inLowestTerms_8 n x2 x3 x4 x5 = some r → VV p l e rmX4_inLowestTerms s m args below meth c D T3 ad A 6 0 0 (QM below D T3 ad A args s (fun _ => some (.int r)) M) M [(2, .int x2), (3, .int x3), (4, .int x4), (5, .int x5)] 8 [] := by
  intro n
  induction n with
  | zero => intro x2 x3 x4 x5 h; exact nomatch (show (none : Option Int32) = some _ from h)
  | succ n ih =>
    intro x2 x3 x4 x5 h
    rw [fX4_inLowestTerms_8] at h
    refine V_iload C 3 dX4_inLowestTerms_8 rfl ?_
    refine V_bipush C (32 : Int32) dX4_inLowestTerms_10 (by decide) ?_
    refine V_icmp_ge C 44 dX4_inLowestTerms_12 (by decide) (fun q4 => ?_) (fun q4 => ?_)
    · replace h := ite_p q4 h
      refine V_sub (lv' := [(2, .int x2), (3, .int x3), (4, .int x4)]) [0, 1, 2] rfl ?_
      exact vX4_inLowestTerms_44 C M x2 x3 x4 h
    · replace h := ite_n q4 h
      refine V_iload_n C 1 dX4_inLowestTerms_15 rfl ?_
      refine V_iconst C (2 : Int32) dX4_inLowestTerms_16 (by decide) ?_
      refine V_irem C dX4_inLowestTerms_17 (by decide) ?_
      refine V_if_ne C 44 dX4_inLowestTerms_18 (by decide) (fun q3 => ?_) (fun q3 => ?_)
      · replace h := ite_n q3 h
        refine V_sub (lv' := [(2, .int x2), (3, .int x3), (4, .int x4)]) [0, 1, 2] rfl ?_
        exact vX4_inLowestTerms_44 C M x2 x3 x4 h
      · replace h := ite_p q3 h
        refine V_iload C 2 dX4_inLowestTerms_21 rfl ?_
        refine V_iconst C (2 : Int32) dX4_inLowestTerms_23 (by decide) ?_
        refine V_irem C dX4_inLowestTerms_24 (by decide) ?_
        refine V_if_ne C 44 dX4_inLowestTerms_25 (by decide) (fun q2 => ?_) (fun q2 => ?_)
        · replace h := ite_n q2 h
          refine V_sub (lv' := [(2, .int x2), (3, .int x3), (4, .int x4)]) [0, 1, 2] rfl ?_
          exact vX4_inLowestTerms_44 C M x2 x3 x4 h
        · replace h := ite_p q2 h
          refine V_iload_n C 1 dX4_inLowestTerms_28 rfl ?_
          refine V_iconst C (2 : Int32) dX4_inLowestTerms_29 (by decide) ?_
          refine V_idiv C dX4_inLowestTerms_30 (by decide) ?_
          refine V_istore_n C [(3, .int (x3 / (2 : Int32))), (2, .int x2), (4, .int x4), (5, .int x5)] dX4_inLowestTerms_31 rfl (by decide) rfl ?_
          refine V_iload C 2 dX4_inLowestTerms_32 rfl ?_
          refine V_iconst C (2 : Int32) dX4_inLowestTerms_34 (by decide) ?_
          refine V_idiv C dX4_inLowestTerms_35 (by decide) ?_
          refine V_istore C [(4, .int (x4 / (2 : Int32))), (3, .int (x3 / (2 : Int32))), (2, .int x2), (5, .int x5)] dX4_inLowestTerms_36 (by decide) rfl ?_
          refine V_iinc C 3 (x5 + 1) [(5, .int (x5 + 1)), (4, .int (x4 / (2 : Int32))), (3, .int (x3 / (2 : Int32))), (2, .int x2)] dX4_inLowestTerms_38 rfl rfl (by decide) rfl ?_
          refine V_goto C 8 dX4_inLowestTerms_41 (by decide) ?_
          refine V_sub (lv' := [(2, .int x2), (3, .int (x3 / (2 : Int32))), (4, .int (x4 / (2 : Int32))), (5, .int (x5 + 1))]) [3, 2, 1, 0] rfl ?_
          exact ih x2 (x3 / (2 : Int32)) (x4 / (2 : Int32)) (x5 + 1) h
set_option maxHeartbeats 4000000 in
set_option maxRecDepth 100000 in
theorem mX4_inLowestTerms (l : Launch) (x0 : Int32) (x1 : Int32) (x2 : Int32) (M : Mem) {r : Int32} (h : fX4_inLowestTerms x0 x1 x2 = some r) : MC l yX4_inLowestTerms cX4_inLowestTerms 6 (some .int) rmX4_inLowestTerms (fun ad sd => [.int x0, .int x1, .int x2]) M (fun _ => some (.int r)) M := by
  refine MC_start (by decide) (fun ad sd => [(0, .int x0), (1, .int x1), (2, .int x2)]) (fun _ _ => rfl) (fun _ _ => Nat.le_of_ble_eq_true rfl) ?_
  intro p e s m args below meth c D T3 ad sd A C
  unfold fX4_inLowestTerms at h
  refine V_iload_n C 0 dX4_inLowestTerms_0 rfl ?_
  refine V_istore_n C [(3, .int x0), (0, .int x0), (1, .int x1), (2, .int x2)] dX4_inLowestTerms_1 rfl (by decide) rfl ?_
  refine V_iload_n C 2 dX4_inLowestTerms_2 rfl ?_
  refine V_istore C [(4, .int x1), (3, .int x0), (0, .int x0), (1, .int x1), (2, .int x2)] dX4_inLowestTerms_3 (by decide) rfl ?_
  refine V_iconst C (0 : Int32) dX4_inLowestTerms_5 (by decide) ?_
  refine V_istore C [(5, .int (0 : Int32)), (4, .int x1), (3, .int x0), (0, .int x0), (1, .int x1), (2, .int x2)] dX4_inLowestTerms_6 (by decide) rfl ?_
  refine V_sub (lv' := [(2, .int x2), (3, .int x0), (4, .int x1), (5, .int (0 : Int32))]) [5, 2, 1, 0] rfl ?_
  exact vX4_inLowestTerms_8 C M 1000 x2 x0 x1 (0 : Int32) h
abbrev rmX4_through : Room := { frames := 4, cells := 0, slots := 0, locals := 95 }
def fX4_through_64 (x3 : Int32) (x4 : Int32) (M : Mem) : Option (Int32 × Mem) := bP (fX4_inLowestTerms x4 (16 : Int32) x3) fun z5 => some (z5, M)
def fX4_through_42 (x1 : Int32) (x2 : Int32) (x3 : Int32) (x4 : Int32) (M : Mem) : Option (Int32 × Mem) := bW (fX4_isOpen x1 x2 false M) fun z3 M4 => if z3 = true then lt ((x4 + ((16 : Int32) - (M4 0 6)))) fun y6 => fX4_through_64 x3 y6 M4 else fX4_through_64 x3 x4 M4
def fX4_through (x1 : Int32) (x2 : Int32) (x3 : Int32) (M : Mem) : Option (Int32 × Mem) := if (fX4_isShip x1 x2) = true then if x3 < 0 then some ((-2 : Int32), M) else if x3 ≤ (1 : Int32) then bW (fX4_isOpen x1 x2 true M) fun z1 M2 => if z1 = true then fX4_through_42 x1 x2 x3 ((0 : Int32) + (M2 0 6)) M2 else fX4_through_42 x1 x2 x3 (0 : Int32) M2 else some ((-2 : Int32), M) else some ((-2 : Int32), M)
set_option maxHeartbeats 4000000 in
set_option maxRecDepth 100000 in
theorem vX4_through_64 {p : Program} {l : Launch} {e : Env} {s : State} {m : MethodId} {args : Array Value} {below : List Frame} {meth : Method} {c : Code} {D : va_G} {T3 : ClassId × ClassId × ClassId} {ad sd : Nat → Nat} {A : Nat → Prop}  (C : CX p s m args meth c cX4_through 5 RX4 (some .int) D T3 ad sd A) {r : Int32} {M9 : Mem} : ∀ (x3 : Int32) (x4 : Int32) (M : Mem), fX4_through_64 x3 x4 M = some (r, M9) → VV p l e rmX4_through s m args below meth c D T3 ad A 5 0 0 (QM below D T3 ad A args s (fun _ => some (.int r)) M9) M [(3, .int x3), (4, .int x4)] 64 [] := by
  intro x3 x4 M h
  unfold fX4_through_64 at h
  refine V_iload C 1 dX4_through_64 rfl ?_
  refine V_bipush C (16 : Int32) dX4_through_66 (by decide) ?_
  refine V_iload_n C 0 dX4_through_68 rfl ?_
  obtain ⟨z5, hz5, h⟩ := bP_t h
  refine V_callS C (st := []) (st' := [.int z5]) (mX4_inLowestTerms l x4 (16 : Int32) x3 M hz5) wmX4_inLowestTerms lkX4_194 dX4_through_69 rfl rfl rfl ⟨rfl, rfl, (Nat.le_of_ble_eq_true rfl), (Nat.le_of_ble_eq_true rfl)⟩ ⟨Nat.zero_le _, Nat.zero_le _⟩ (Nat.le_of_ble_eq_true rfl) ?_
  obtain ⟨rfl, rfl⟩ := ret_W h
  exact V_iret C dX4_through_72
set_option maxHeartbeats 4000000 in
set_option maxRecDepth 100000 in
theorem vX4_through_42 {p : Program} {l : Launch} {e : Env} {s : State} {m : MethodId} {args : Array Value} {below : List Frame} {meth : Method} {c : Code} {D : va_G} {T3 : ClassId × ClassId × ClassId} {ad sd : Nat → Nat} {A : Nat → Prop}  (C : CX p s m args meth c cX4_through 5 RX4 (some .int) D T3 ad sd A) {r : Int32} {M9 : Mem} : ∀ (x1 : Int32) (x2 : Int32) (x3 : Int32) (x4 : Int32) (M : Mem), fX4_through_42 x1 x2 x3 x4 M = some (r, M9) → VV p l e rmX4_through s m args below meth c D T3 ad A 5 0 0 (QM below D T3 ad A args s (fun _ => some (.int r)) M9) M [(0, .ref (ad 0)), (1, .int x1), (2, .int x2), (3, .int x3), (4, .int x4)] 42 [] := by
  intro x1 x2 x3 x4 M h
  unfold fX4_through_42 at h
  refine V_aload_n C 0 dX4_through_42 rfl ?_
  refine V_iload_n C 1 dX4_through_43 rfl ?_
  refine V_iload_n C 2 dX4_through_44 rfl ?_
  refine V_iconst C (0 : Int32) dX4_through_45 (by decide) ?_
  obtain ⟨z3, M4, hz3, h⟩ := bW_t h
  refine V_callV C (st := []) (st' := [.int (b2i z3)]) (mX4_isOpen l x1 x2 false M hz3) wmX4_isOpen lkX4_124 dX4_through_46 (wo_0 T3 ad _) rfl rfl rfl rfl rfl rfl ⟨rfl, rfl, (Nat.le_of_ble_eq_true rfl), (Nat.le_of_ble_eq_true rfl)⟩ ⟨Nat.zero_le _, Nat.zero_le _⟩ (Nat.le_of_ble_eq_true rfl) ?_
  refine V_ifB_eq C 64 dX4_through_49 (by decide) (fun q7 => ?_) (fun q7 => ?_)
  · replace h := ite_n q7 h
    refine V_sub (lv' := [(3, .int x3), (4, .int x4)]) [3, 4] rfl ?_
    exact vX4_through_64 C x3 x4 M4 h
  · replace h := ite_p q7 h
    refine V_iload C 4 dX4_through_52 rfl ?_
    refine V_bipush C (16 : Int32) dX4_through_54 (by decide) ?_
    refine V_aload_n C 0 dX4_through_56 rfl ?_
    refine V_get C 6 dX4_through_57 (wo_0 T3 ad _) rfl inKX4 (by decide) flX4_44 rfl rfl ?_
    refine V_isub C dX4_through_60 ?_
    refine V_iadd C dX4_through_61 ?_
    obtain ⟨y6, hy6, h⟩ := lt_t h
    refine V_topi C hy6 ?_
    refine V_istore C [(4, .int y6), (0, .ref (ad 0)), (1, .int x1), (2, .int x2), (3, .int x3)] dX4_through_62 (by decide) rfl ?_
    refine V_sub (lv' := [(3, .int x3), (4, .int y6)]) [4, 0] rfl ?_
    exact vX4_through_64 C x3 y6 M4 h
set_option maxHeartbeats 4000000 in
set_option maxRecDepth 100000 in
theorem mX4_through (l : Launch) (x1 : Int32) (x2 : Int32) (x3 : Int32) (M : Mem) {r : Int32} {M9 : Mem} (h : fX4_through x1 x2 x3 M = some (r, M9)) : MC l yX4_through cX4_through 5 (some .int) rmX4_through (fun ad sd => [.ref (ad 0), .int x1, .int x2, .int x3]) M (fun _ => some (.int r)) M9 := by
  refine MC_start (by decide) (fun ad sd => [(0, .ref (ad 0)), (1, .int x1), (2, .int x2), (3, .int x3)]) (fun _ _ => rfl) (fun _ _ => Nat.le_of_ble_eq_true rfl) ?_
  intro p e s m args below meth c D T3 ad sd A C
  unfold fX4_through at h
  refine V_iload_n C 1 dX4_through_0 rfl ?_
  refine V_iload_n C 2 dX4_through_1 rfl ?_
  refine V_callS C (st := []) (st' := [.int (b2i (fX4_isShip x1 x2))]) (mX4_isShip l x1 x2 M rfl) wmX4_isShip lkX4_105 dX4_through_2 rfl rfl rfl ⟨rfl, rfl, (Nat.le_of_ble_eq_true rfl), (Nat.le_of_ble_eq_true rfl)⟩ ⟨Nat.zero_le _, Nat.zero_le _⟩ (Nat.le_of_ble_eq_true rfl) ?_
  refine V_ifB_eq C 17 dX4_through_5 (by decide) (fun q11 => ?_) (fun q11 => ?_)
  · replace h := ite_n q11 h
    refine V_bipush C (-2 : Int32) dX4_through_17 (by decide) ?_
    obtain ⟨rfl, rfl⟩ := ret_W h
    exact V_iret C dX4_through_19
  · replace h := ite_p q11 h
    refine V_iload_n C 3 dX4_through_8 rfl ?_
    refine V_if_lt C 17 dX4_through_9 (by decide) (fun q10 => ?_) (fun q10 => ?_)
    · replace h := ite_p q10 h
      refine V_bipush C (-2 : Int32) dX4_through_17 (by decide) ?_
      obtain ⟨rfl, rfl⟩ := ret_W h
      exact V_iret C dX4_through_19
    · replace h := ite_n q10 h
      refine V_iload_n C 3 dX4_through_12 rfl ?_
      refine V_iconst C (1 : Int32) dX4_through_13 (by decide) ?_
      refine V_icmp_le C 20 dX4_through_14 (by decide) (fun q9 => ?_) (fun q9 => ?_)
      · replace h := ite_p q9 h
        refine V_iconst C (0 : Int32) dX4_through_20 (by decide) ?_
        refine V_istore C [(4, .int (0 : Int32)), (0, .ref (ad 0)), (1, .int x1), (2, .int x2), (3, .int x3)] dX4_through_21 (by decide) rfl ?_
        refine V_aload_n C 1 dX4_through_23 rfl ?_
        refine V_iload_n C 2 dX4_through_24 rfl ?_
        refine V_iload_n C 3 dX4_through_25 rfl ?_
        refine V_iconst C (1 : Int32) dX4_through_26 (by decide) ?_
        obtain ⟨z1, M2, hz1, h⟩ := bW_t h
        refine V_callV C (st := []) (st' := [.int (b2i z1)]) (mX4_isOpen l x1 x2 true M hz1) wmX4_isOpen lkX4_124 dX4_through_27 (wo_0 T3 ad _) rfl rfl rfl rfl rfl rfl ⟨rfl, rfl, (Nat.le_of_ble_eq_true rfl), (Nat.le_of_ble_eq_true rfl)⟩ ⟨Nat.zero_le _, Nat.zero_le _⟩ (Nat.le_of_ble_eq_true rfl) ?_
        refine V_ifB_eq C 42 dX4_through_30 (by decide) (fun q8 => ?_) (fun q8 => ?_)
        · replace h := ite_n q8 h
          refine V_sub (lv' := [(0, .ref (ad 0)), (1, .int x1), (2, .int x2), (3, .int x3), (4, .int (0 : Int32))]) [1, 2, 3, 4, 0] rfl ?_
          exact vX4_through_42 C x1 x2 x3 (0 : Int32) M2 h
        · replace h := ite_p q8 h
          refine V_iload C 0 dX4_through_33 rfl ?_
          refine V_aload_n C 1 dX4_through_35 rfl ?_
          refine V_get C 6 dX4_through_36 (wo_0 T3 ad _) rfl inKX4 (by decide) flX4_44 rfl rfl ?_
          refine V_iadd C dX4_through_39 ?_
          refine V_istore C [(4, .int ((0 : Int32) + (M2 0 6))), (0, .ref (ad 0)), (1, .int x1), (2, .int x2), (3, .int x3)] dX4_through_40 (by decide) rfl ?_
          refine V_sub (lv' := [(0, .ref (ad 0)), (1, .int x1), (2, .int x2), (3, .int x3), (4, .int ((0 : Int32) + (M2 0 6)))]) [1, 2, 3, 4, 0] rfl ?_
          exact vX4_through_42 C x1 x2 x3 ((0 : Int32) + (M2 0 6)) M2 h
      · replace h := ite_n q9 h
        refine V_bipush C (-2 : Int32) dX4_through_17 (by decide) ?_
        obtain ⟨rfl, rfl⟩ := ret_W h
        exact V_iret C dX4_through_19
abbrev rmX4_sure : Room := { frames := 3, cells := 0, slots := 0, locals := 72 }
def fX4_sure_99 (x1 : Int32) (x3 : Int32) (M : Mem) : Option (Int32 × Mem) := bW (fX1_findLeast 24 x1 M) fun z5 M6 => bP (fX1_step M6 x3) fun z7 => some (z7, M6)
def fX4_sure_49 : Nat → Int32 → Int32 → Int32 → Mem → Option (Int32 × Mem)
  | 0, _, _, _, _ => none
  | n + 1, x1, x3, x4, M => if (16 : Int32) ≤ x4 then fX4_sure_99 x1 x3 M else if (16 : Int32) ≤ x4 then fX4_sure_99 x1 x3 M else gd (inb x4 16) (gd (inb x4 16) (gd (inb x4 16) (lt (up M 24 (x4).toNatClampNeg (mn (M 24 (x4).toNatClampNeg) (M 25 (x4).toNatClampNeg))) fun M10 => fX4_sure_49 n x1 x3 (x4 + 1) M10)))
def fX4_sure (x1 : Int32) (x2 : Int32) (x3 : Int32) (M : Mem) : Option (Int32 × Mem) := if (fX4_isShip x1 x2) = true then if x3 < 0 then some ((-2 : Int32), M) else if x3 < (5 : Int32) then bW (fX0_fill 24 x2 false M) fun z1 M2 => bW (fX0_fill 25 x2 true M2) fun z3 M4 => fX4_sure_49 1000 x1 x3 (0 : Int32) M4 else some ((-2 : Int32), M) else some ((-2 : Int32), M)
set_option maxHeartbeats 4000000 in
set_option maxRecDepth 100000 in
theorem vX4_sure_99 {p : Program} {l : Launch} {e : Env} {s : State} {m : MethodId} {args : Array Value} {below : List Frame} {meth : Method} {c : Code} {D : va_G} {T3 : ClassId × ClassId × ClassId} {ad sd : Nat → Nat} {A : Nat → Prop}  (C : CX p s m args meth c cX4_sure 5 RX4 (some .int) D T3 ad sd A) {r : Int32} {M9 : Mem} : ∀ (x1 : Int32) (x3 : Int32) (M : Mem), fX4_sure_99 x1 x3 M = some (r, M9) → VV p l e rmX4_sure s m args below meth c D T3 ad A 5 0 0 (QM below D T3 ad A args s (fun _ => some (.int r)) M9) M [(0, .ref (ad 0)), (1, .int x1), (3, .int x3)] 99 [] := by
  intro x1 x3 M h
  unfold fX4_sure_99 at h
  refine V_aload_n C 0 dX4_sure_99 rfl ?_
  refine V_get C 2 dX4_sure_100 (wo_0 T3 ad _) rfl inKX4 (by decide) flX4_26 rfl rfl ?_
  refine V_aload_n C 0 dX4_sure_103 rfl ?_
  refine V_get C 0 dX4_sure_104 (wo_0 T3 ad _) rfl inKX4 (by decide) flX4_10 rfl rfl ?_
  refine V_aload_n C 0 dX4_sure_107 rfl ?_
  refine V_get C 4 dX4_sure_108 (wo_0 T3 ad _) rfl inKX4 (by decide) flX4_37 rfl rfl ?_
  refine V_iload_n C 1 dX4_sure_111 rfl ?_
  obtain ⟨z5, M6, hz5, h⟩ := bW_t h
  refine V_callV C (st := []) (st' := [.int (b2i z5)]) (mX1_findLeast l 24 rfl x1 M hz5) wmX1_findLeast lkX4_117 dX4_sure_112 (wo_11 T3 ad _) rfl rfl rfl rfl rfl rfl ⟨rfl, rfl, (Nat.le_of_ble_eq_true rfl), (Nat.le_of_ble_eq_true rfl)⟩ ⟨Nat.zero_le _, Nat.zero_le _⟩ (Nat.le_of_ble_eq_true rfl) ?_
  refine V_pop C dX4_sure_115 rfl ?_
  refine V_aload_n C 0 dX4_sure_116 rfl ?_
  refine V_get C 2 dX4_sure_117 (wo_0 T3 ad _) rfl inKX4 (by decide) flX4_26 rfl rfl ?_
  refine V_iload_n C 2 dX4_sure_120 rfl ?_
  obtain ⟨z7, hz7, h⟩ := bP_t h
  refine V_callV C (st := []) (st' := [.int z7]) (mX1_step l x3 M6 hz7) wmX1_step lkX4_121 dX4_sure_121 (wo_11 T3 ad _) rfl rfl rfl rfl rfl rfl ⟨rfl, rfl, (Nat.le_of_ble_eq_true rfl), (Nat.le_of_ble_eq_true rfl)⟩ ⟨Nat.zero_le _, Nat.zero_le _⟩ (Nat.le_of_ble_eq_true rfl) ?_
  obtain ⟨rfl, rfl⟩ := ret_W h
  exact V_iret C dX4_sure_124
set_option maxHeartbeats 4000000 in
set_option maxRecDepth 100000 in
theorem vX4_sure_49 {p : Program} {l : Launch} {e : Env} {s : State} {m : MethodId} {args : Array Value} {below : List Frame} {meth : Method} {c : Code} {D : va_G} {T3 : ClassId × ClassId × ClassId} {ad sd : Nat → Nat} {A : Nat → Prop}  (C : CX p s m args meth c cX4_sure 5 RX4 (some .int) D T3 ad sd A) {r : Int32} {M9 : Mem} : ∀ (n : Nat) (x1 : Int32) (x3 : Int32) (x4 : Int32) (M : Mem), fX4_sure_49 n x1 x3 x4 M = some (r, M9) → VV p l e rmX4_sure s m args below meth c D T3 ad A 5 0 0 (QM below D T3 ad A args s (fun _ => some (.int r)) M9) M [(0, .ref (ad 0)), (1, .int x1), (3, .int x3), (4, .int x4)] 49 [] := by
  intro n
  induction n with
  | zero => intro x1 x3 x4 M h; exact nomatch (show (none : Option (Int32 × Mem)) = some _ from h)
  | succ n ih =>
    intro x1 x3 x4 M h
    rw [fX4_sure_49] at h
    refine V_iload C 3 dX4_sure_49 rfl ?_
    refine V_aload_n C 0 dX4_sure_51 rfl ?_
    refine V_get C 4 dX4_sure_52 (wo_0 T3 ad _) rfl inKX4 (by decide) flX4_37 rfl rfl ?_
    refine V_alen C (v := (16 : Int32)) rfl rfl dX4_sure_55 ?_
    refine V_icmp_ge C 99 dX4_sure_56 (by decide) (fun q13 => ?_) (fun q13 => ?_)
    · replace h := ite_p q13 h
      refine V_sub (lv' := [(0, .ref (ad 0)), (1, .int x1), (3, .int x3)]) [0, 1, 2] rfl ?_
      exact vX4_sure_99 C x1 x3 M h
    · replace h := ite_n q13 h
      refine V_iload C 3 dX4_sure_59 rfl ?_
      refine V_aload_n C 0 dX4_sure_61 rfl ?_
      refine V_get C 5 dX4_sure_62 (wo_0 T3 ad _) rfl inKX4 (by decide) flX4_41 rfl rfl ?_
      refine V_alen C (v := (16 : Int32)) rfl rfl dX4_sure_65 ?_
      refine V_icmp_ge C 99 dX4_sure_66 (by decide) (fun q12 => ?_) (fun q12 => ?_)
      · replace h := ite_p q12 h
        refine V_sub (lv' := [(0, .ref (ad 0)), (1, .int x1), (3, .int x3)]) [0, 1, 2] rfl ?_
        exact vX4_sure_99 C x1 x3 M h
      · replace h := ite_n q12 h
        refine V_aload_n C 0 dX4_sure_69 rfl ?_
        refine V_get C 4 dX4_sure_70 (wo_0 T3 ad _) rfl inKX4 (by decide) flX4_37 rfl rfl ?_
        refine V_iload C 3 dX4_sure_73 rfl ?_
        refine V_aload_n C 0 dX4_sure_75 rfl ?_
        refine V_get C 4 dX4_sure_76 (wo_0 T3 ad _) rfl inKX4 (by decide) flX4_37 rfl rfl ?_
        refine V_iload C 3 dX4_sure_79 rfl ?_
        obtain ⟨g8, h⟩ := gd_t h
        refine V_iald C rfl rfl (inb_in g8) dX4_sure_81 ?_
        refine V_aload_n C 0 dX4_sure_82 rfl ?_
        refine V_get C 5 dX4_sure_83 (wo_0 T3 ad _) rfl inKX4 (by decide) flX4_41 rfl rfl ?_
        refine V_iload C 3 dX4_sure_86 rfl ?_
        obtain ⟨g9, h⟩ := gd_t h
        refine V_iald C rfl rfl (inb_in g9) dX4_sure_88 ?_
        refine V_mmin C dX4_sure_89 lkX4_198 wMmin_s wM_i wMmin_c (Nat.le_of_ble_eq_true rfl) (Nat.le_of_ble_eq_true rfl) (Nat.zero_le _) (Nat.zero_le _) ?_
        obtain ⟨g11, h⟩ := gd_t h
        obtain ⟨M10, hM10, h⟩ := lt_t h
        refine V_iast C M10 rfl rfl (inb_in g11) dX4_sure_92 hM10 ?_
        refine V_iinc C 3 (x4 + 1) [(4, .int (x4 + 1)), (0, .ref (ad 0)), (1, .int x1), (3, .int x3)] dX4_sure_93 rfl rfl (by decide) rfl ?_
        refine V_goto C 49 dX4_sure_96 (by decide) ?_
        refine V_sub (lv' := [(0, .ref (ad 0)), (1, .int x1), (3, .int x3), (4, .int (x4 + 1))]) [1, 2, 3, 0] rfl ?_
        exact ih x1 x3 (x4 + 1) M10 h
set_option maxHeartbeats 4000000 in
set_option maxRecDepth 100000 in
theorem mX4_sure (l : Launch) (x1 : Int32) (x2 : Int32) (x3 : Int32) (M : Mem) {r : Int32} {M9 : Mem} (h : fX4_sure x1 x2 x3 M = some (r, M9)) : MC l yX4_sure cX4_sure 5 (some .int) rmX4_sure (fun ad sd => [.ref (ad 0), .int x1, .int x2, .int x3]) M (fun _ => some (.int r)) M9 := by
  refine MC_start (by decide) (fun ad sd => [(0, .ref (ad 0)), (1, .int x1), (2, .int x2), (3, .int x3)]) (fun _ _ => rfl) (fun _ _ => Nat.le_of_ble_eq_true rfl) ?_
  intro p e s m args below meth c D T3 ad sd A C
  unfold fX4_sure at h
  refine V_iload_n C 1 dX4_sure_0 rfl ?_
  refine V_iload_n C 2 dX4_sure_1 rfl ?_
  refine V_callS C (st := []) (st' := [.int (b2i (fX4_isShip x1 x2))]) (mX4_isShip l x1 x2 M rfl) wmX4_isShip lkX4_105 dX4_sure_2 rfl rfl rfl ⟨rfl, rfl, (Nat.le_of_ble_eq_true rfl), (Nat.le_of_ble_eq_true rfl)⟩ ⟨Nat.zero_le _, Nat.zero_le _⟩ (Nat.le_of_ble_eq_true rfl) ?_
  refine V_ifB_eq C 17 dX4_sure_5 (by decide) (fun q16 => ?_) (fun q16 => ?_)
  · replace h := ite_n q16 h
    refine V_bipush C (-2 : Int32) dX4_sure_17 (by decide) ?_
    obtain ⟨rfl, rfl⟩ := ret_W h
    exact V_iret C dX4_sure_19
  · replace h := ite_p q16 h
    refine V_iload_n C 3 dX4_sure_8 rfl ?_
    refine V_if_lt C 17 dX4_sure_9 (by decide) (fun q15 => ?_) (fun q15 => ?_)
    · replace h := ite_p q15 h
      refine V_bipush C (-2 : Int32) dX4_sure_17 (by decide) ?_
      obtain ⟨rfl, rfl⟩ := ret_W h
      exact V_iret C dX4_sure_19
    · replace h := ite_n q15 h
      refine V_iload_n C 3 dX4_sure_12 rfl ?_
      refine V_iconst C (5 : Int32) dX4_sure_13 (by decide) ?_
      refine V_icmp_lt C 20 dX4_sure_14 (by decide) (fun q14 => ?_) (fun q14 => ?_)
      · replace h := ite_p q14 h
        refine V_aload_n C 0 dX4_sure_20 rfl ?_
        refine V_get C 0 dX4_sure_21 (wo_0 T3 ad _) rfl inKX4 (by decide) flX4_10 rfl rfl ?_
        refine V_aload_n C 0 dX4_sure_24 rfl ?_
        refine V_get C 4 dX4_sure_25 (wo_0 T3 ad _) rfl inKX4 (by decide) flX4_37 rfl rfl ?_
        refine V_iload_n C 2 dX4_sure_28 rfl ?_
        refine V_iconst C (0 : Int32) dX4_sure_29 (by decide) ?_
        obtain ⟨z1, M2, hz1, h⟩ := bW_t h
        refine V_callV C (st := []) (st' := []) (mX0_fill l 24 rfl x2 false M hz1) wmX0_fill lkX4_109 dX4_sure_30 (wo_1 T3 ad _) rfl rfl rfl rfl rfl rfl ⟨rfl, rfl, (Nat.le_of_ble_eq_true rfl), (Nat.le_of_ble_eq_true rfl)⟩ ⟨Nat.zero_le _, Nat.zero_le _⟩ (Nat.le_of_ble_eq_true rfl) ?_
        refine V_aload_n C 0 dX4_sure_33 rfl ?_
        refine V_get C 0 dX4_sure_34 (wo_0 T3 ad _) rfl inKX4 (by decide) flX4_10 rfl rfl ?_
        refine V_aload_n C 0 dX4_sure_37 rfl ?_
        refine V_get C 5 dX4_sure_38 (wo_0 T3 ad _) rfl inKX4 (by decide) flX4_41 rfl rfl ?_
        refine V_iload_n C 2 dX4_sure_41 rfl ?_
        refine V_iconst C (1 : Int32) dX4_sure_42 (by decide) ?_
        obtain ⟨z3, M4, hz3, h⟩ := bW_t h
        refine V_callV C (st := []) (st' := []) (mX0_fill l 25 rfl x2 true M2 hz3) wmX0_fill lkX4_109 dX4_sure_43 (wo_1 T3 ad _) rfl rfl rfl rfl rfl rfl ⟨rfl, rfl, (Nat.le_of_ble_eq_true rfl), (Nat.le_of_ble_eq_true rfl)⟩ ⟨Nat.zero_le _, Nat.zero_le _⟩ (Nat.le_of_ble_eq_true rfl) ?_
        refine V_iconst C (0 : Int32) dX4_sure_46 (by decide) ?_
        refine V_istore C [(4, .int (0 : Int32)), (0, .ref (ad 0)), (1, .int x1), (2, .int x2), (3, .int x3)] dX4_sure_47 (by decide) rfl ?_
        refine V_sub (lv' := [(0, .ref (ad 0)), (1, .int x1), (3, .int x3), (4, .int (0 : Int32))]) [1, 2, 4, 0] rfl ?_
        exact vX4_sure_49 C 1000 x1 x3 (0 : Int32) M4 h
      · replace h := ite_n q14 h
        refine V_bipush C (-2 : Int32) dX4_sure_17 (by decide) ?_
        obtain ⟨rfl, rfl⟩ := ret_W h
        exact V_iret C dX4_sure_19
abbrev rmX4_findSafest : Room := { frames := 3, cells := 0, slots := 0, locals := 73 }
def fX4_findSafest_102 (M : Mem) : Option (Int32 × Mem) := bW (fX1_findLikeliest 24 M) fun z5 M6 => if z5 ≤ 0 then bW (fX1_findLeast 24 (0 : Int32) M6) fun z7 M8 => some ((0 : Int32), M8) else some (z5, M6)
def fX4_findSafest_67 (kk28 : Int32 → Int32 → Mem → Option (Int32 × Mem)) (x1 : Int32) (x3 : Int32) (t0 : Int32) (M : Mem) : Option (Int32 × Mem) := gd (inb x3 16) (if (M 25 (x3).toNatClampNeg) < x1 then gd (inb x3 16) (lt (up M 24 (x3).toNatClampNeg t0) fun M12 => kk28 x1 (x3 + 1) M12) else gd (inb x3 16) (lt (up M 24 (x3).toNatClampNeg (t0 + (M 0 6))) fun M14 => kk28 x1 (x3 + 1) M14))
def fX4_findSafest_28 : Nat → Int32 → Int32 → Mem → Option (Int32 × Mem)
  | 0, _, _, _ => none
  | n + 1, x1, x3, M => if (16 : Int32) ≤ x3 then fX4_findSafest_102 M else if (16 : Int32) ≤ x3 then fX4_findSafest_102 M else gd (inb x3 16) (if (M 24 (x3).toNatClampNeg) < x1 then fX4_findSafest_67 (fX4_findSafest_28 n) x1 x3 (0 : Int32) M else fX4_findSafest_67 (fX4_findSafest_28 n) x1 x3 ((16 : Int32) - (M 0 6)) M)
def fX4_findSafest (x1 : Int32) (x2 : Int32) (M : Mem) : Option (Int32 × Mem) := bW (fX0_fill 24 x2 false M) fun z1 M2 => bW (fX0_fill 25 x2 true M2) fun z3 M4 => fX4_findSafest_28 1000 x1 (0 : Int32) M4
set_option maxHeartbeats 4000000 in
set_option maxRecDepth 100000 in
theorem vX4_findSafest_102 {p : Program} {l : Launch} {e : Env} {s : State} {m : MethodId} {args : Array Value} {below : List Frame} {meth : Method} {c : Code} {D : va_G} {T3 : ClassId × ClassId × ClassId} {ad sd : Nat → Nat} {A : Nat → Prop}  (C : CX p s m args meth c cX4_findSafest 5 RX4 (some .int) D T3 ad sd A) {r : Int32} {M9 : Mem} : ∀ (M : Mem), fX4_findSafest_102 M = some (r, M9) → VV p l e rmX4_findSafest s m args below meth c D T3 ad A 5 0 0 (QM below D T3 ad A args s (fun _ => some (.int r)) M9) M [(0, .ref (ad 0))] 102 [] := by
  intro M h
  unfold fX4_findSafest_102 at h
  refine V_aload_n C 0 dX4_findSafest_102 rfl ?_
  refine V_get C 2 dX4_findSafest_103 (wo_0 T3 ad _) rfl inKX4 (by decide) flX4_26 rfl rfl ?_
  refine V_aload_n C 0 dX4_findSafest_106 rfl ?_
  refine V_get C 0 dX4_findSafest_107 (wo_0 T3 ad _) rfl inKX4 (by decide) flX4_10 rfl rfl ?_
  refine V_aload_n C 0 dX4_findSafest_110 rfl ?_
  refine V_get C 4 dX4_findSafest_111 (wo_0 T3 ad _) rfl inKX4 (by decide) flX4_37 rfl rfl ?_
  obtain ⟨z5, M6, hz5, h⟩ := bW_t h
  refine V_callV C (st := []) (st' := [.int z5]) (mX1_findLikeliest l 24 rfl M hz5) wmX1_findLikeliest lkX4_330 dX4_findSafest_114 (wo_11 T3 ad _) rfl rfl rfl rfl rfl rfl ⟨rfl, rfl, (Nat.le_of_ble_eq_true rfl), (Nat.le_of_ble_eq_true rfl)⟩ ⟨Nat.zero_le _, Nat.zero_le _⟩ (Nat.le_of_ble_eq_true rfl) ?_
  refine V_istore_n C [(3, .int z5), (0, .ref (ad 0))] dX4_findSafest_117 rfl (by decide) rfl ?_
  refine V_iload_n C 0 dX4_findSafest_118 rfl ?_
  refine V_if_le C 124 dX4_findSafest_119 (by decide) (fun q9 => ?_) (fun q9 => ?_)
  · replace h := ite_p q9 h
    refine V_aload_n C 1 dX4_findSafest_124 rfl ?_
    refine V_get C 2 dX4_findSafest_125 (wo_0 T3 ad _) rfl inKX4 (by decide) flX4_26 rfl rfl ?_
    refine V_aload_n C 1 dX4_findSafest_128 rfl ?_
    refine V_get C 0 dX4_findSafest_129 (wo_0 T3 ad _) rfl inKX4 (by decide) flX4_10 rfl rfl ?_
    refine V_aload_n C 1 dX4_findSafest_132 rfl ?_
    refine V_get C 4 dX4_findSafest_133 (wo_0 T3 ad _) rfl inKX4 (by decide) flX4_37 rfl rfl ?_
    refine V_iconst C (0 : Int32) dX4_findSafest_136 (by decide) ?_
    obtain ⟨z7, M8, hz7, h⟩ := bW_t h
    refine V_callV C (st := []) (st' := [.int (b2i z7)]) (mX1_findLeast l 24 rfl (0 : Int32) M6 hz7) wmX1_findLeast lkX4_117 dX4_findSafest_137 (wo_11 T3 ad _) rfl rfl rfl rfl rfl rfl ⟨rfl, rfl, (Nat.le_of_ble_eq_true rfl), (Nat.le_of_ble_eq_true rfl)⟩ ⟨Nat.zero_le _, Nat.zero_le _⟩ (Nat.le_of_ble_eq_true rfl) ?_
    refine V_pop C dX4_findSafest_140 rfl ?_
    refine V_iconst C (0 : Int32) dX4_findSafest_141 (by decide) ?_
    obtain ⟨rfl, rfl⟩ := ret_W h
    exact V_iret C dX4_findSafest_142
  · replace h := ite_n q9 h
    refine V_iload_n C 0 dX4_findSafest_122 rfl ?_
    obtain ⟨rfl, rfl⟩ := ret_W h
    exact V_iret C dX4_findSafest_123
set_option maxHeartbeats 4000000 in
set_option maxRecDepth 100000 in
theorem vX4_findSafest_67 {p : Program} {l : Launch} {e : Env} {s : State} {m : MethodId} {args : Array Value} {below : List Frame} {meth : Method} {c : Code} {D : va_G} {T3 : ClassId × ClassId × ClassId} {ad sd : Nat → Nat} {A : Nat → Prop}  (C : CX p s m args meth c cX4_findSafest 5 RX4 (some .int) D T3 ad sd A) {r : Int32} {M9 : Mem} (kk28 : Int32 → Int32 → Mem → Option (Int32 × Mem)) (hk28 : ∀ (x1 : Int32) (x3 : Int32) (M : Mem), kk28 x1 x3 M = some (r, M9) → VV p l e rmX4_findSafest s m args below meth c D T3 ad A 5 0 0 (QM below D T3 ad A args s (fun _ => some (.int r)) M9) M [(0, .ref (ad 0)), (1, .int x1), (3, .int x3)] 28 []) : ∀ (x1 : Int32) (x3 : Int32) (t0 : Int32) (M : Mem), fX4_findSafest_67 kk28 x1 x3 t0 M = some (r, M9) → VV p l e rmX4_findSafest s m args below meth c D T3 ad A 5 0 0 (QM below D T3 ad A args s (fun _ => some (.int r)) M9) M [(0, .ref (ad 0)), (1, .int x1), (3, .int x3)] 67 [.int t0] := by
  intro x1 x3 t0 M h
  unfold fX4_findSafest_67 at h
  refine V_istore C [(4, .int t0), (0, .ref (ad 0)), (1, .int x1), (3, .int x3)] dX4_findSafest_67 (by decide) rfl ?_
  refine V_aload_n C 1 dX4_findSafest_69 rfl ?_
  refine V_get C 5 dX4_findSafest_70 (wo_0 T3 ad _) rfl inKX4 (by decide) flX4_41 rfl rfl ?_
  refine V_iload_n C 3 dX4_findSafest_73 rfl ?_
  obtain ⟨g11, h⟩ := gd_t h
  refine V_iald C rfl rfl (inb_in g11) dX4_findSafest_74 ?_
  refine V_iload_n C 2 dX4_findSafest_75 rfl ?_
  refine V_icmp_lt C 88 dX4_findSafest_76 (by decide) (fun q16 => ?_) (fun q16 => ?_)
  · replace h := ite_p q16 h
    refine V_aload_n C 1 dX4_findSafest_88 rfl ?_
    refine V_get C 4 dX4_findSafest_89 (wo_0 T3 ad _) rfl inKX4 (by decide) flX4_37 rfl rfl ?_
    refine V_iload_n C 3 dX4_findSafest_92 rfl ?_
    refine V_iload C 0 dX4_findSafest_93 rfl ?_
    obtain ⟨g13, h⟩ := gd_t h
    obtain ⟨M12, hM12, h⟩ := lt_t h
    refine V_iast C M12 rfl rfl (inb_in g13) dX4_findSafest_95 hM12 ?_
    refine V_iinc C 3 (x3 + 1) [(3, .int (x3 + 1)), (4, .int t0), (0, .ref (ad 0)), (1, .int x1)] dX4_findSafest_96 rfl rfl (by decide) rfl ?_
    refine V_goto C 28 dX4_findSafest_99 (by decide) ?_
    refine V_sub (lv' := [(0, .ref (ad 0)), (1, .int x1), (3, .int (x3 + 1))]) [2, 3, 0] rfl ?_
    exact hk28 x1 (x3 + 1) M12 h
  · replace h := ite_n q16 h
    refine V_iload C 0 dX4_findSafest_79 rfl ?_
    refine V_aload_n C 1 dX4_findSafest_81 rfl ?_
    refine V_get C 6 dX4_findSafest_82 (wo_0 T3 ad _) rfl inKX4 (by decide) flX4_44 rfl rfl ?_
    refine V_iadd C dX4_findSafest_85 ?_
    refine V_istore C [(4, .int (t0 + (M 0 6))), (0, .ref (ad 0)), (1, .int x1), (3, .int x3)] dX4_findSafest_86 (by decide) rfl ?_
    refine V_aload_n C 1 dX4_findSafest_88 rfl ?_
    refine V_get C 4 dX4_findSafest_89 (wo_0 T3 ad _) rfl inKX4 (by decide) flX4_37 rfl rfl ?_
    refine V_iload_n C 3 dX4_findSafest_92 rfl ?_
    refine V_iload C 0 dX4_findSafest_93 rfl ?_
    obtain ⟨g15, h⟩ := gd_t h
    obtain ⟨M14, hM14, h⟩ := lt_t h
    refine V_iast C M14 rfl rfl (inb_in g15) dX4_findSafest_95 hM14 ?_
    refine V_iinc C 3 (x3 + 1) [(3, .int (x3 + 1)), (4, .int (t0 + (M 0 6))), (0, .ref (ad 0)), (1, .int x1)] dX4_findSafest_96 rfl rfl (by decide) rfl ?_
    refine V_goto C 28 dX4_findSafest_99 (by decide) ?_
    refine V_sub (lv' := [(0, .ref (ad 0)), (1, .int x1), (3, .int (x3 + 1))]) [2, 3, 0] rfl ?_
    exact hk28 x1 (x3 + 1) M14 h
set_option maxHeartbeats 4000000 in
set_option maxRecDepth 100000 in
theorem vX4_findSafest_28 {p : Program} {l : Launch} {e : Env} {s : State} {m : MethodId} {args : Array Value} {below : List Frame} {meth : Method} {c : Code} {D : va_G} {T3 : ClassId × ClassId × ClassId} {ad sd : Nat → Nat} {A : Nat → Prop}  (C : CX p s m args meth c cX4_findSafest 5 RX4 (some .int) D T3 ad sd A) {r : Int32} {M9 : Mem} : ∀ (n : Nat) (x1 : Int32) (x3 : Int32) (M : Mem), fX4_findSafest_28 n x1 x3 M = some (r, M9) → VV p l e rmX4_findSafest s m args below meth c D T3 ad A 5 0 0 (QM below D T3 ad A args s (fun _ => some (.int r)) M9) M [(0, .ref (ad 0)), (1, .int x1), (3, .int x3)] 28 [] := by
  intro n
  induction n with
  | zero => intro x1 x3 M h; exact nomatch (show (none : Option (Int32 × Mem)) = some _ from h)
  | succ n ih =>
    intro x1 x3 M h
    rw [fX4_findSafest_28] at h
    refine V_iload_n C 2 dX4_findSafest_28 rfl ?_
    refine V_aload_n C 0 dX4_findSafest_29 rfl ?_
    refine V_get C 4 dX4_findSafest_30 (wo_0 T3 ad _) rfl inKX4 (by decide) flX4_37 rfl rfl ?_
    refine V_alen C (v := (16 : Int32)) rfl rfl dX4_findSafest_33 ?_
    refine V_icmp_ge C 102 dX4_findSafest_34 (by decide) (fun q19 => ?_) (fun q19 => ?_)
    · replace h := ite_p q19 h
      refine V_sub (lv' := [(0, .ref (ad 0))]) [0] rfl ?_
      exact vX4_findSafest_102 C M h
    · replace h := ite_n q19 h
      refine V_iload_n C 2 dX4_findSafest_37 rfl ?_
      refine V_aload_n C 0 dX4_findSafest_38 rfl ?_
      refine V_get C 5 dX4_findSafest_39 (wo_0 T3 ad _) rfl inKX4 (by decide) flX4_41 rfl rfl ?_
      refine V_alen C (v := (16 : Int32)) rfl rfl dX4_findSafest_42 ?_
      refine V_icmp_ge C 102 dX4_findSafest_43 (by decide) (fun q18 => ?_) (fun q18 => ?_)
      · replace h := ite_p q18 h
        refine V_sub (lv' := [(0, .ref (ad 0))]) [0] rfl ?_
        exact vX4_findSafest_102 C M h
      · replace h := ite_n q18 h
        refine V_aload_n C 0 dX4_findSafest_46 rfl ?_
        refine V_get C 4 dX4_findSafest_47 (wo_0 T3 ad _) rfl inKX4 (by decide) flX4_37 rfl rfl ?_
        refine V_iload_n C 2 dX4_findSafest_50 rfl ?_
        obtain ⟨g10, h⟩ := gd_t h
        refine V_iald C rfl rfl (inb_in g10) dX4_findSafest_51 ?_
        refine V_iload_n C 1 dX4_findSafest_52 rfl ?_
        refine V_icmp_lt C 66 dX4_findSafest_53 (by decide) (fun q17 => ?_) (fun q17 => ?_)
        · replace h := ite_p q17 h
          refine V_iconst C (0 : Int32) dX4_findSafest_66 (by decide) ?_
          exact vX4_findSafest_67 C (fX4_findSafest_28 n) ih x1 x3 (0 : Int32) M h
        · replace h := ite_n q17 h
          refine V_bipush C (16 : Int32) dX4_findSafest_56 (by decide) ?_
          refine V_aload_n C 0 dX4_findSafest_58 rfl ?_
          refine V_get C 6 dX4_findSafest_59 (wo_0 T3 ad _) rfl inKX4 (by decide) flX4_44 rfl rfl ?_
          refine V_isub C dX4_findSafest_62 ?_
          refine V_goto C 67 dX4_findSafest_63 (by decide) ?_
          exact vX4_findSafest_67 C (fX4_findSafest_28 n) ih x1 x3 ((16 : Int32) - (M 0 6)) M h
set_option maxHeartbeats 4000000 in
set_option maxRecDepth 100000 in
theorem mX4_findSafest (l : Launch) (x1 : Int32) (x2 : Int32) (M : Mem) {r : Int32} {M9 : Mem} (h : fX4_findSafest x1 x2 M = some (r, M9)) : MC l yX4_findSafest cX4_findSafest 5 (some .int) rmX4_findSafest (fun ad sd => [.ref (ad 0), .int x1, .int x2]) M (fun _ => some (.int r)) M9 := by
  refine MC_start (by decide) (fun ad sd => [(0, .ref (ad 0)), (1, .int x1), (2, .int x2)]) (fun _ _ => rfl) (fun _ _ => Nat.le_of_ble_eq_true rfl) ?_
  intro p e s m args below meth c D T3 ad sd A C
  unfold fX4_findSafest at h
  refine V_aload_n C 0 dX4_findSafest_0 rfl ?_
  refine V_get C 0 dX4_findSafest_1 (wo_0 T3 ad _) rfl inKX4 (by decide) flX4_10 rfl rfl ?_
  refine V_aload_n C 0 dX4_findSafest_4 rfl ?_
  refine V_get C 4 dX4_findSafest_5 (wo_0 T3 ad _) rfl inKX4 (by decide) flX4_37 rfl rfl ?_
  refine V_iload_n C 2 dX4_findSafest_8 rfl ?_
  refine V_iconst C (0 : Int32) dX4_findSafest_9 (by decide) ?_
  obtain ⟨z1, M2, hz1, h⟩ := bW_t h
  refine V_callV C (st := []) (st' := []) (mX0_fill l 24 rfl x2 false M hz1) wmX0_fill lkX4_109 dX4_findSafest_10 (wo_1 T3 ad _) rfl rfl rfl rfl rfl rfl ⟨rfl, rfl, (Nat.le_of_ble_eq_true rfl), (Nat.le_of_ble_eq_true rfl)⟩ ⟨Nat.zero_le _, Nat.zero_le _⟩ (Nat.le_of_ble_eq_true rfl) ?_
  refine V_aload_n C 0 dX4_findSafest_13 rfl ?_
  refine V_get C 0 dX4_findSafest_14 (wo_0 T3 ad _) rfl inKX4 (by decide) flX4_10 rfl rfl ?_
  refine V_aload_n C 0 dX4_findSafest_17 rfl ?_
  refine V_get C 5 dX4_findSafest_18 (wo_0 T3 ad _) rfl inKX4 (by decide) flX4_41 rfl rfl ?_
  refine V_iload_n C 2 dX4_findSafest_21 rfl ?_
  refine V_iconst C (1 : Int32) dX4_findSafest_22 (by decide) ?_
  obtain ⟨z3, M4, hz3, h⟩ := bW_t h
  refine V_callV C (st := []) (st' := []) (mX0_fill l 25 rfl x2 true M2 hz3) wmX0_fill lkX4_109 dX4_findSafest_23 (wo_1 T3 ad _) rfl rfl rfl rfl rfl rfl ⟨rfl, rfl, (Nat.le_of_ble_eq_true rfl), (Nat.le_of_ble_eq_true rfl)⟩ ⟨Nat.zero_le _, Nat.zero_le _⟩ (Nat.le_of_ble_eq_true rfl) ?_
  refine V_iconst C (0 : Int32) dX4_findSafest_26 (by decide) ?_
  refine V_istore_n C [(3, .int (0 : Int32)), (0, .ref (ad 0)), (1, .int x1), (2, .int x2)] dX4_findSafest_27 rfl (by decide) rfl ?_
  refine V_sub (lv' := [(0, .ref (ad 0)), (1, .int x1), (3, .int (0 : Int32))]) [1, 2, 0] rfl ?_
  exact vX4_findSafest_28 C 1000 x1 (0 : Int32) M4 h
abbrev rmX4_safest : Room := { frames := 4, cells := 0, slots := 0, locals := 97 }
def fX4_safest (x1 : Int32) (x2 : Int32) (x3 : Int32) (M : Mem) : Option (Int32 × Mem) := if (fX4_isShip x1 x2) = true then if x3 < (-2 : Int32) then some ((-2 : Int32), M) else if x3 < (5 : Int32) then bW (fX4_findSafest x1 x2 M) fun z1 M2 => if 0 ≤ x3 then bP (fX1_step M2 x3) fun z3 => some (z3, M2) else bP (fX4_inLowestTerms z1 (1048576 : Int32) (x3 + (2 : Int32))) fun z4 => some (z4, M2) else some ((-2 : Int32), M) else some ((-2 : Int32), M)
set_option maxHeartbeats 4000000 in
set_option maxRecDepth 100000 in
theorem mX4_safest (l : Launch) (x1 : Int32) (x2 : Int32) (x3 : Int32) (M : Mem) {r : Int32} {M9 : Mem} (h : fX4_safest x1 x2 x3 M = some (r, M9)) : MC l yX4_safest cX4_safest 5 (some .int) rmX4_safest (fun ad sd => [.ref (ad 0), .int x1, .int x2, .int x3]) M (fun _ => some (.int r)) M9 := by
  refine MC_start (by decide) (fun ad sd => [(0, .ref (ad 0)), (1, .int x1), (2, .int x2), (3, .int x3)]) (fun _ _ => rfl) (fun _ _ => Nat.le_of_ble_eq_true rfl) ?_
  intro p e s m args below meth c D T3 ad sd A C
  unfold fX4_safest at h
  refine V_iload_n C 1 dX4_safest_0 rfl ?_
  refine V_iload_n C 2 dX4_safest_1 rfl ?_
  refine V_callS C (st := []) (st' := [.int (b2i (fX4_isShip x1 x2))]) (mX4_isShip l x1 x2 M rfl) wmX4_isShip lkX4_105 dX4_safest_2 rfl rfl rfl ⟨rfl, rfl, (Nat.le_of_ble_eq_true rfl), (Nat.le_of_ble_eq_true rfl)⟩ ⟨Nat.zero_le _, Nat.zero_le _⟩ (Nat.le_of_ble_eq_true rfl) ?_
  refine V_ifB_eq C 19 dX4_safest_5 (by decide) (fun q8 => ?_) (fun q8 => ?_)
  · replace h := ite_n q8 h
    refine V_bipush C (-2 : Int32) dX4_safest_19 (by decide) ?_
    obtain ⟨rfl, rfl⟩ := ret_W h
    exact V_iret C dX4_safest_21
  · replace h := ite_p q8 h
    refine V_iload_n C 3 dX4_safest_8 rfl ?_
    refine V_bipush C (-2 : Int32) dX4_safest_9 (by decide) ?_
    refine V_icmp_lt C 19 dX4_safest_11 (by decide) (fun q7 => ?_) (fun q7 => ?_)
    · replace h := ite_p q7 h
      refine V_bipush C (-2 : Int32) dX4_safest_19 (by decide) ?_
      obtain ⟨rfl, rfl⟩ := ret_W h
      exact V_iret C dX4_safest_21
    · replace h := ite_n q7 h
      refine V_iload_n C 3 dX4_safest_14 rfl ?_
      refine V_iconst C (5 : Int32) dX4_safest_15 (by decide) ?_
      refine V_icmp_lt C 22 dX4_safest_16 (by decide) (fun q6 => ?_) (fun q6 => ?_)
      · replace h := ite_p q6 h
        refine V_aload_n C 0 dX4_safest_22 rfl ?_
        refine V_iload_n C 1 dX4_safest_23 rfl ?_
        refine V_iload_n C 2 dX4_safest_24 rfl ?_
        obtain ⟨z1, M2, hz1, h⟩ := bW_t h
        refine V_callV C (st := []) (st' := [.int z1]) (mX4_findSafest l x1 x2 M hz1) wmX4_findSafest lkX4_203 dX4_safest_25 (wo_0 T3 ad _) rfl rfl rfl rfl rfl rfl ⟨rfl, rfl, (Nat.le_of_ble_eq_true rfl), (Nat.le_of_ble_eq_true rfl)⟩ ⟨Nat.zero_le _, Nat.zero_le _⟩ (Nat.le_of_ble_eq_true rfl) ?_
        refine V_istore C [(4, .int z1), (0, .ref (ad 0)), (1, .int x1), (2, .int x2), (3, .int x3)] dX4_safest_28 (by decide) rfl ?_
        refine V_iload_n C 4 dX4_safest_30 rfl ?_
        refine V_if_ge C 45 dX4_safest_31 (by decide) (fun q5 => ?_) (fun q5 => ?_)
        · replace h := ite_p q5 h
          refine V_aload_n C 1 dX4_safest_45 rfl ?_
          refine V_get C 2 dX4_safest_46 (wo_0 T3 ad _) rfl inKX4 (by decide) flX4_26 rfl rfl ?_
          refine V_iload_n C 4 dX4_safest_49 rfl ?_
          obtain ⟨z3, hz3, h⟩ := bP_t h
          refine V_callV C (st := []) (st' := [.int z3]) (mX1_step l x3 M2 hz3) wmX1_step lkX4_121 dX4_safest_50 (wo_11 T3 ad _) rfl rfl rfl rfl rfl rfl ⟨rfl, rfl, (Nat.le_of_ble_eq_true rfl), (Nat.le_of_ble_eq_true rfl)⟩ ⟨Nat.zero_le _, Nat.zero_le _⟩ (Nat.le_of_ble_eq_true rfl) ?_
          obtain ⟨rfl, rfl⟩ := ret_W h
          exact V_iret C dX4_safest_53
        · replace h := ite_n q5 h
          refine V_iload C 0 dX4_safest_34 rfl ?_
          refine V_ldc C dX4_safest_36 kcX4_206 ?_
          refine V_iload_n C 4 dX4_safest_38 rfl ?_
          refine V_iconst C (2 : Int32) dX4_safest_39 (by decide) ?_
          refine V_iadd C dX4_safest_40 ?_
          obtain ⟨z4, hz4, h⟩ := bP_t h
          refine V_callS C (st := []) (st' := [.int z4]) (mX4_inLowestTerms l z1 (1048576 : Int32) (x3 + (2 : Int32)) M2 hz4) wmX4_inLowestTerms lkX4_194 dX4_safest_41 rfl rfl rfl ⟨rfl, rfl, (Nat.le_of_ble_eq_true rfl), (Nat.le_of_ble_eq_true rfl)⟩ ⟨Nat.zero_le _, Nat.zero_le _⟩ (Nat.le_of_ble_eq_true rfl) ?_
          obtain ⟨rfl, rfl⟩ := ret_W h
          exact V_iret C dX4_safest_44
      · replace h := ite_n q6 h
        refine V_bipush C (-2 : Int32) dX4_safest_19 (by decide) ?_
        obtain ⟨rfl, rfl⟩ := ret_W h
        exact V_iret C dX4_safest_21
abbrev rmX4_worth : Room := { frames := 4, cells := 0, slots := 0, locals := 95 }
def fX4_worth_92 : Nat → Int32 → Int32 → Int32 → Int32 → Int32 → Mem → Option (Int32 × Mem)
  | 0, _, _, _, _, _, _ => none
  | n + 1, x1, x2, x3, x4, x5, M => if (x2 + (10 : Int32)) ≤ x5 then some ((x3 - x4), M) else if (99 : Int32) < x5 then some ((x3 - x4), M) else bP (fX0_isStormy M x5) fun z3 => bP (fX4_aground M x1 x5 z3) fun z4 => if z4 = (-1 : Int32) then fX4_worth_92 n x1 x2 x3 (x4 + 1) (x5 + 1) M else fX4_worth_92 n x1 x2 x3 x4 (x5 + 1) M
def fX4_worth_78 (x1 : Int32) (x2 : Int32) (x3 : Int32) (M : Mem) : Option (Int32 × Mem) := bW (fX4_findByMap x1 x2 M) fun z1 M2 => if z1 = true then fX4_worth_92 1000 x1 x2 x3 (0 : Int32) x2 M2 else some (x3, M2)
def fX4_worth_19 : Nat → Int32 → Int32 → Int32 → Int32 → Mem → Option (Int32 × Mem)
  | 0, _, _, _, _, _ => none
  | n + 1, x1, x2, x3, x5, M => if (x2 + (10 : Int32)) ≤ x5 then fX4_worth_78 x1 x2 x3 M else if (99 : Int32) < x5 then fX4_worth_78 x1 x2 x3 M else bP (fX0_isStormy M x5) fun z9 => bW (fX4_findByMap x1 x5 M) fun z10 M11 => if z10 = true then bP (fX4_aground M11 x1 x5 z9) fun z12 => if z12 = (-1 : Int32) then fX4_worth_19 n x1 x2 (x3 + 1) (x5 + 1) M11 else fX4_worth_19 n x1 x2 x3 (x5 + 1) M11 else fX4_worth_19 n x1 x2 x3 (x5 + 1) M11
def fX4_worth (x1 : Int32) (x2 : Int32) (M : Mem) : Option (Int32 × Mem) := if (fX4_isShip x1 x2) = true then fX4_worth_19 1000 x1 x2 (0 : Int32) x2 M else some ((-102 : Int32), M)
set_option maxHeartbeats 4000000 in
set_option maxRecDepth 100000 in
theorem vX4_worth_92 {p : Program} {l : Launch} {e : Env} {s : State} {m : MethodId} {args : Array Value} {below : List Frame} {meth : Method} {c : Code} {D : va_G} {T3 : ClassId × ClassId × ClassId} {ad sd : Nat → Nat} {A : Nat → Prop}  (C : CX p s m args meth c cX4_worth 7 RX4 (some .int) D T3 ad sd A) {r : Int32} {M9 : Mem} : ∀ (n : Nat) (x1 : Int32) (x2 : Int32) (x3 : Int32) (x4 : Int32) (x5 : Int32) (M : Mem), fX4_worth_92 n x1 x2 x3 x4 x5 M = some (r, M9) → VV p l e rmX4_worth s m args below meth c D T3 ad A 7 0 0 (QM below D T3 ad A args s (fun _ => some (.int r)) M9) M [(0, .ref (ad 0)), (1, .int x1), (2, .int x2), (3, .int x3), (4, .int x4), (5, .int x5)] 92 [] := by
  intro n
  induction n with
  | zero => intro x1 x2 x3 x4 x5 M h; exact nomatch (show (none : Option (Int32 × Mem)) = some _ from h)
  | succ n ih =>
    intro x1 x2 x3 x4 x5 M h
    rw [fX4_worth_92] at h
    refine V_iload C 5 dX4_worth_92 rfl ?_
    refine V_iload_n C 2 dX4_worth_94 rfl ?_
    refine V_bipush C (10 : Int32) dX4_worth_95 (by decide) ?_
    refine V_iadd C dX4_worth_97 ?_
    refine V_icmp_ge C 137 dX4_worth_98 (by decide) (fun q7 => ?_) (fun q7 => ?_)
    · replace h := ite_p q7 h
      refine V_iload_n C 3 dX4_worth_137 rfl ?_
      refine V_iload C 4 dX4_worth_138 rfl ?_
      refine V_isub C dX4_worth_140 ?_
      obtain ⟨rfl, rfl⟩ := ret_W h
      exact V_iret C dX4_worth_141
    · replace h := ite_n q7 h
      refine V_iload C 5 dX4_worth_101 rfl ?_
      refine V_bipush C (99 : Int32) dX4_worth_103 (by decide) ?_
      refine V_icmp_gt C 137 dX4_worth_105 (by decide) (fun q6 => ?_) (fun q6 => ?_)
      · replace h := ite_p q6 h
        refine V_iload_n C 3 dX4_worth_137 rfl ?_
        refine V_iload C 4 dX4_worth_138 rfl ?_
        refine V_isub C dX4_worth_140 ?_
        obtain ⟨rfl, rfl⟩ := ret_W h
        exact V_iret C dX4_worth_141
      · replace h := ite_n q6 h
        refine V_aload_n C 0 dX4_worth_108 rfl ?_
        refine V_iload_n C 1 dX4_worth_109 rfl ?_
        refine V_iload C 5 dX4_worth_110 rfl ?_
        refine V_aload_n C 0 dX4_worth_112 rfl ?_
        refine V_get C 0 dX4_worth_113 (wo_0 T3 ad _) rfl inKX4 (by decide) flX4_10 rfl rfl ?_
        refine V_iload C 5 dX4_worth_116 rfl ?_
        obtain ⟨z3, hz3, h⟩ := bP_t h
        refine V_callV C (st := [.int x5, .int x1, .ref (ad 0)]) (st' := [.int (b2i z3), .int x5, .int x1, .ref (ad 0)]) (mX0_isStormy l x5 M hz3) wmX0_isStormy lkX4_91 dX4_worth_118 (wo_1 T3 ad _) rfl rfl rfl rfl rfl rfl ⟨rfl, rfl, (Nat.le_of_ble_eq_true rfl), (Nat.le_of_ble_eq_true rfl)⟩ ⟨Nat.zero_le _, Nat.zero_le _⟩ (Nat.le_of_ble_eq_true rfl) ?_
        obtain ⟨z4, hz4, h⟩ := bP_t h
        refine V_callV C (st := []) (st' := [.int z4]) (mX4_aground l x1 x5 z3 M hz4) wmX4_aground lkX4_131 dX4_worth_121 (wo_0 T3 ad _) rfl rfl rfl rfl rfl rfl ⟨rfl, rfl, (Nat.le_of_ble_eq_true rfl), (Nat.le_of_ble_eq_true rfl)⟩ ⟨Nat.zero_le _, Nat.zero_le _⟩ (Nat.le_of_ble_eq_true rfl) ?_
        refine V_iconst C (-1 : Int32) dX4_worth_124 (by decide) ?_
        refine V_icmp_ne C 131 dX4_worth_125 (by decide) (fun q5 => ?_) (fun q5 => ?_)
        · replace h := ite_n q5 h
          refine V_iinc C 5 (x5 + 1) [(5, .int (x5 + 1)), (0, .ref (ad 0)), (1, .int x1), (2, .int x2), (3, .int x3), (4, .int x4)] dX4_worth_131 rfl rfl (by decide) rfl ?_
          refine V_goto C 92 dX4_worth_134 (by decide) ?_
          refine V_sub (lv' := [(0, .ref (ad 0)), (1, .int x1), (2, .int x2), (3, .int x3), (4, .int x4), (5, .int (x5 + 1))]) [1, 2, 3, 4, 5, 0] rfl ?_
          exact ih x1 x2 x3 x4 (x5 + 1) M h
        · replace h := ite_p q5 h
          refine V_iinc C 4 (x4 + 1) [(4, .int (x4 + 1)), (0, .ref (ad 0)), (1, .int x1), (2, .int x2), (3, .int x3), (5, .int x5)] dX4_worth_128 rfl rfl (by decide) rfl ?_
          refine V_iinc C 5 (x5 + 1) [(5, .int (x5 + 1)), (4, .int (x4 + 1)), (0, .ref (ad 0)), (1, .int x1), (2, .int x2), (3, .int x3)] dX4_worth_131 rfl rfl (by decide) rfl ?_
          refine V_goto C 92 dX4_worth_134 (by decide) ?_
          refine V_sub (lv' := [(0, .ref (ad 0)), (1, .int x1), (2, .int x2), (3, .int x3), (4, .int (x4 + 1)), (5, .int (x5 + 1))]) [2, 3, 4, 5, 1, 0] rfl ?_
          exact ih x1 x2 x3 (x4 + 1) (x5 + 1) M h
set_option maxHeartbeats 4000000 in
set_option maxRecDepth 100000 in
theorem vX4_worth_78 {p : Program} {l : Launch} {e : Env} {s : State} {m : MethodId} {args : Array Value} {below : List Frame} {meth : Method} {c : Code} {D : va_G} {T3 : ClassId × ClassId × ClassId} {ad sd : Nat → Nat} {A : Nat → Prop}  (C : CX p s m args meth c cX4_worth 7 RX4 (some .int) D T3 ad sd A) {r : Int32} {M9 : Mem} : ∀ (x1 : Int32) (x2 : Int32) (x3 : Int32) (M : Mem), fX4_worth_78 x1 x2 x3 M = some (r, M9) → VV p l e rmX4_worth s m args below meth c D T3 ad A 7 0 0 (QM below D T3 ad A args s (fun _ => some (.int r)) M9) M [(0, .ref (ad 0)), (1, .int x1), (2, .int x2), (3, .int x3), (4, .int (0 : Int32))] 78 [] := by
  intro x1 x2 x3 M h
  unfold fX4_worth_78 at h
  refine V_aload_n C 0 dX4_worth_78 rfl ?_
  refine V_iload_n C 1 dX4_worth_79 rfl ?_
  refine V_iload_n C 2 dX4_worth_80 rfl ?_
  obtain ⟨z1, M2, hz1, h⟩ := bW_t h
  refine V_callV C (st := []) (st' := [.int (b2i z1)]) (mX4_findByMap l x1 x2 M hz1) wmX4_findByMap lkX4_128 dX4_worth_81 (wo_0 T3 ad _) rfl rfl rfl rfl rfl rfl ⟨rfl, rfl, (Nat.le_of_ble_eq_true rfl), (Nat.le_of_ble_eq_true rfl)⟩ ⟨Nat.zero_le _, Nat.zero_le _⟩ (Nat.le_of_ble_eq_true rfl) ?_
  refine V_ifB_ne C 89 dX4_worth_84 (by decide) (fun q8 => ?_) (fun q8 => ?_)
  · replace h := ite_p q8 h
    refine V_iload_n C 2 dX4_worth_89 rfl ?_
    refine V_istore C [(5, .int x2), (0, .ref (ad 0)), (1, .int x1), (2, .int x2), (3, .int x3), (4, .int (0 : Int32))] dX4_worth_90 (by decide) rfl ?_
    refine V_sub (lv' := [(0, .ref (ad 0)), (1, .int x1), (2, .int x2), (3, .int x3), (4, .int (0 : Int32)), (5, .int x2)]) [1, 2, 3, 4, 5, 0] rfl ?_
    exact vX4_worth_92 C 1000 x1 x2 x3 (0 : Int32) x2 M2 h
  · replace h := ite_n q8 h
    refine V_iload_n C 3 dX4_worth_87 rfl ?_
    obtain ⟨rfl, rfl⟩ := ret_W h
    exact V_iret C dX4_worth_88
set_option maxHeartbeats 4000000 in
set_option maxRecDepth 100000 in
theorem vX4_worth_19 {p : Program} {l : Launch} {e : Env} {s : State} {m : MethodId} {args : Array Value} {below : List Frame} {meth : Method} {c : Code} {D : va_G} {T3 : ClassId × ClassId × ClassId} {ad sd : Nat → Nat} {A : Nat → Prop}  (C : CX p s m args meth c cX4_worth 7 RX4 (some .int) D T3 ad sd A) {r : Int32} {M9 : Mem} : ∀ (n : Nat) (x1 : Int32) (x2 : Int32) (x3 : Int32) (x5 : Int32) (M : Mem), fX4_worth_19 n x1 x2 x3 x5 M = some (r, M9) → VV p l e rmX4_worth s m args below meth c D T3 ad A 7 0 0 (QM below D T3 ad A args s (fun _ => some (.int r)) M9) M [(0, .ref (ad 0)), (1, .int x1), (2, .int x2), (3, .int x3), (4, .int (0 : Int32)), (5, .int x5)] 19 [] := by
  intro n
  induction n with
  | zero => intro x1 x2 x3 x5 M h; exact nomatch (show (none : Option (Int32 × Mem)) = some _ from h)
  | succ n ih =>
    intro x1 x2 x3 x5 M h
    rw [fX4_worth_19] at h
    refine V_iload C 5 dX4_worth_19 rfl ?_
    refine V_iload_n C 2 dX4_worth_21 rfl ?_
    refine V_bipush C (10 : Int32) dX4_worth_22 (by decide) ?_
    refine V_iadd C dX4_worth_24 ?_
    refine V_icmp_ge C 78 dX4_worth_25 (by decide) (fun q16 => ?_) (fun q16 => ?_)
    · replace h := ite_p q16 h
      refine V_sub (lv' := [(0, .ref (ad 0)), (1, .int x1), (2, .int x2), (3, .int x3), (4, .int (0 : Int32))]) [0, 1, 2, 3, 4] rfl ?_
      exact vX4_worth_78 C x1 x2 x3 M h
    · replace h := ite_n q16 h
      refine V_iload C 5 dX4_worth_28 rfl ?_
      refine V_bipush C (99 : Int32) dX4_worth_30 (by decide) ?_
      refine V_icmp_gt C 78 dX4_worth_32 (by decide) (fun q15 => ?_) (fun q15 => ?_)
      · replace h := ite_p q15 h
        refine V_sub (lv' := [(0, .ref (ad 0)), (1, .int x1), (2, .int x2), (3, .int x3), (4, .int (0 : Int32))]) [0, 1, 2, 3, 4] rfl ?_
        exact vX4_worth_78 C x1 x2 x3 M h
      · replace h := ite_n q15 h
        refine V_aload_n C 0 dX4_worth_35 rfl ?_
        refine V_get C 0 dX4_worth_36 (wo_0 T3 ad _) rfl inKX4 (by decide) flX4_10 rfl rfl ?_
        refine V_iload C 5 dX4_worth_39 rfl ?_
        obtain ⟨z9, hz9, h⟩ := bP_t h
        refine V_callV C (st := []) (st' := [.int (b2i z9)]) (mX0_isStormy l x5 M hz9) wmX0_isStormy lkX4_91 dX4_worth_41 (wo_1 T3 ad _) rfl rfl rfl rfl rfl rfl ⟨rfl, rfl, (Nat.le_of_ble_eq_true rfl), (Nat.le_of_ble_eq_true rfl)⟩ ⟨Nat.zero_le _, Nat.zero_le _⟩ (Nat.le_of_ble_eq_true rfl) ?_
        refine V_istore C [(6, .int (b2i z9)), (0, .ref (ad 0)), (1, .int x1), (2, .int x2), (3, .int x3), (4, .int (0 : Int32)), (5, .int x5)] dX4_worth_44 (by decide) rfl ?_
        refine V_aload_n C 1 dX4_worth_46 rfl ?_
        refine V_iload_n C 2 dX4_worth_47 rfl ?_
        refine V_iload C 6 dX4_worth_48 rfl ?_
        obtain ⟨z10, M11, hz10, h⟩ := bW_t h
        refine V_callV C (st := []) (st' := [.int (b2i z10)]) (mX4_findByMap l x1 x5 M hz10) wmX4_findByMap lkX4_128 dX4_worth_50 (wo_0 T3 ad _) rfl rfl rfl rfl rfl rfl ⟨rfl, rfl, (Nat.le_of_ble_eq_true rfl), (Nat.le_of_ble_eq_true rfl)⟩ ⟨Nat.zero_le _, Nat.zero_le _⟩ (Nat.le_of_ble_eq_true rfl) ?_
        refine V_ifB_eq C 72 dX4_worth_53 (by decide) (fun q14 => ?_) (fun q14 => ?_)
        · replace h := ite_n q14 h
          refine V_iinc C 6 (x5 + 1) [(5, .int (x5 + 1)), (6, .int (b2i z9)), (0, .ref (ad 0)), (1, .int x1), (2, .int x2), (3, .int x3), (4, .int (0 : Int32))] dX4_worth_72 rfl rfl (by decide) rfl ?_
          refine V_goto C 19 dX4_worth_75 (by decide) ?_
          refine V_sub (lv' := [(0, .ref (ad 0)), (1, .int x1), (2, .int x2), (3, .int x3), (4, .int (0 : Int32)), (5, .int (x5 + 1))]) [2, 3, 4, 5, 6, 0] rfl ?_
          exact ih x1 x2 x3 (x5 + 1) M11 h
        · replace h := ite_p q14 h
          refine V_aload_n C 1 dX4_worth_56 rfl ?_
          refine V_iload_n C 2 dX4_worth_57 rfl ?_
          refine V_iload C 6 dX4_worth_58 rfl ?_
          refine V_iload C 0 dX4_worth_60 rfl ?_
          obtain ⟨z12, hz12, h⟩ := bP_t h
          refine V_callV C (st := []) (st' := [.int z12]) (mX4_aground l x1 x5 z9 M11 hz12) wmX4_aground lkX4_131 dX4_worth_62 (wo_0 T3 ad _) rfl rfl rfl rfl rfl rfl ⟨rfl, rfl, (Nat.le_of_ble_eq_true rfl), (Nat.le_of_ble_eq_true rfl)⟩ ⟨Nat.zero_le _, Nat.zero_le _⟩ (Nat.le_of_ble_eq_true rfl) ?_
          refine V_iconst C (-1 : Int32) dX4_worth_65 (by decide) ?_
          refine V_icmp_ne C 72 dX4_worth_66 (by decide) (fun q13 => ?_) (fun q13 => ?_)
          · replace h := ite_n q13 h
            refine V_iinc C 6 (x5 + 1) [(5, .int (x5 + 1)), (6, .int (b2i z9)), (0, .ref (ad 0)), (1, .int x1), (2, .int x2), (3, .int x3), (4, .int (0 : Int32))] dX4_worth_72 rfl rfl (by decide) rfl ?_
            refine V_goto C 19 dX4_worth_75 (by decide) ?_
            refine V_sub (lv' := [(0, .ref (ad 0)), (1, .int x1), (2, .int x2), (3, .int x3), (4, .int (0 : Int32)), (5, .int (x5 + 1))]) [2, 3, 4, 5, 6, 0] rfl ?_
            exact ih x1 x2 x3 (x5 + 1) M11 h
          · replace h := ite_p q13 h
            refine V_iinc C 4 (x3 + 1) [(3, .int (x3 + 1)), (6, .int (b2i z9)), (0, .ref (ad 0)), (1, .int x1), (2, .int x2), (4, .int (0 : Int32)), (5, .int x5)] dX4_worth_69 rfl rfl (by decide) rfl ?_
            refine V_iinc C 6 (x5 + 1) [(5, .int (x5 + 1)), (3, .int (x3 + 1)), (6, .int (b2i z9)), (0, .ref (ad 0)), (1, .int x1), (2, .int x2), (4, .int (0 : Int32))] dX4_worth_72 rfl rfl (by decide) rfl ?_
            refine V_goto C 19 dX4_worth_75 (by decide) ?_
            refine V_sub (lv' := [(0, .ref (ad 0)), (1, .int x1), (2, .int x2), (3, .int (x3 + 1)), (4, .int (0 : Int32)), (5, .int (x5 + 1))]) [3, 4, 5, 1, 6, 0] rfl ?_
            exact ih x1 x2 (x3 + 1) (x5 + 1) M11 h
set_option maxHeartbeats 4000000 in
set_option maxRecDepth 100000 in
theorem mX4_worth (l : Launch) (x1 : Int32) (x2 : Int32) (M : Mem) {r : Int32} {M9 : Mem} (h : fX4_worth x1 x2 M = some (r, M9)) : MC l yX4_worth cX4_worth 7 (some .int) rmX4_worth (fun ad sd => [.ref (ad 0), .int x1, .int x2]) M (fun _ => some (.int r)) M9 := by
  refine MC_start (by decide) (fun ad sd => [(0, .ref (ad 0)), (1, .int x1), (2, .int x2)]) (fun _ _ => rfl) (fun _ _ => Nat.le_of_ble_eq_true rfl) ?_
  intro p e s m args below meth c D T3 ad sd A C
  unfold fX4_worth at h
  refine V_iload_n C 1 dX4_worth_0 rfl ?_
  refine V_iload_n C 2 dX4_worth_1 rfl ?_
  refine V_callS C (st := []) (st' := [.int (b2i (fX4_isShip x1 x2))]) (mX4_isShip l x1 x2 M rfl) wmX4_isShip lkX4_105 dX4_worth_2 rfl rfl rfl ⟨rfl, rfl, (Nat.le_of_ble_eq_true rfl), (Nat.le_of_ble_eq_true rfl)⟩ ⟨Nat.zero_le _, Nat.zero_le _⟩ (Nat.le_of_ble_eq_true rfl) ?_
  refine V_ifB_ne C 11 dX4_worth_5 (by decide) (fun q17 => ?_) (fun q17 => ?_)
  · replace h := ite_p q17 h
    refine V_iconst C (0 : Int32) dX4_worth_11 (by decide) ?_
    refine V_istore_n C [(3, .int (0 : Int32)), (0, .ref (ad 0)), (1, .int x1), (2, .int x2)] dX4_worth_12 rfl (by decide) rfl ?_
    refine V_iconst C (0 : Int32) dX4_worth_13 (by decide) ?_
    refine V_istore C [(4, .int (0 : Int32)), (3, .int (0 : Int32)), (0, .ref (ad 0)), (1, .int x1), (2, .int x2)] dX4_worth_14 (by decide) rfl ?_
    refine V_iload_n C 4 dX4_worth_16 rfl ?_
    refine V_istore C [(5, .int x2), (4, .int (0 : Int32)), (3, .int (0 : Int32)), (0, .ref (ad 0)), (1, .int x1), (2, .int x2)] dX4_worth_17 (by decide) rfl ?_
    refine V_sub (lv' := [(0, .ref (ad 0)), (1, .int x1), (2, .int x2), (3, .int (0 : Int32)), (4, .int (0 : Int32)), (5, .int x2)]) [3, 4, 5, 2, 1, 0] rfl ?_
    exact vX4_worth_19 C 1000 x1 x2 (0 : Int32) x2 M h
  · replace h := ite_n q17 h
    refine V_bipush C (-102 : Int32) dX4_worth_8 (by decide) ?_
    obtain ⟨rfl, rfl⟩ := ret_W h
    exact V_iret C dX4_worth_10
abbrev rmX4_season : Room := { frames := 4, cells := 0, slots := 0, locals := 95 }
def fX4_season_103 (kk32 : Int32 → Int32 → Int32 → Int32 → Int32 → Int32 → Mem → Option (Int32 × Mem)) (x2 : Int32) (x3 : Int32) (x4 : Int32) (x5 : Int32) (x6 : Int32) (x7 : Int32) (t0 : Bool) (M : Mem) : Option (Int32 × Mem) := bW (fX4_findByMap x2 x7 M) fun z2 M3 => if z2 = true then bP (fX4_aground M3 x2 x7 t0) fun z4 => if z4 = (-1 : Int32) then kk32 x2 x3 x4 x5 (x6 + 1) (x7 + 1) M3 else kk32 x2 x3 x4 x5 x6 (x7 + 1) M3 else kk32 x2 x3 x4 x5 x6 (x7 + 1) M3
def fX4_season_79 (kk32 : Int32 → Int32 → Int32 → Int32 → Int32 → Int32 → Mem → Option (Int32 × Mem)) (x2 : Int32) (x3 : Int32) (x4 : Int32) (x5 : Int32) (x6 : Int32) (x7 : Int32) (t0 : Bool) (M : Mem) : Option (Int32 × Mem) := if t0 = true then fX4_season_103 kk32 x2 x3 x4 x5 x6 x7 true M else bP (fX0_isStormy M x7) fun z7 => if z7 = true then fX4_season_103 kk32 x2 x3 x4 x5 x6 x7 true M else fX4_season_103 kk32 x2 x3 x4 x5 x6 x7 false M
def fX4_season_32 : Nat → Int32 → Int32 → Int32 → Int32 → Int32 → Int32 → Mem → Option (Int32 × Mem)
  | 0, _, _, _, _, _, _, _ => none
  | n + 1, x2, x3, x4, x5, x6, x7, M => if (x3 + x4) ≤ x7 then some (x6, M) else if (99 : Int32) < x7 then some (x6, M) else lt ((((1103515245 : Int32) * x5) + (12345 : Int32))) fun y1 => if (M 0 6) ≤ (rmI (ushrI y1 (16 : Int32)) (16 : Int32)) then fX4_season_79 (fX4_season_32 n) x2 x3 x4 y1 x6 x7 false M else fX4_season_79 (fX4_season_32 n) x2 x3 x4 y1 x6 x7 true M
def fX4_season (x1 : Int32) (x2 : Int32) (x3 : Int32) (x4 : Int32) (M : Mem) : Option (Int32 × Mem) := if (fX4_isShip x2 x3) = true then if x4 < 0 then some ((-2 : Int32), M) else if x4 ≤ (40 : Int32) then fX4_season_32 1000 x2 x3 x4 x1 (0 : Int32) x3 M else some ((-2 : Int32), M) else some ((-2 : Int32), M)
set_option maxHeartbeats 4000000 in
set_option maxRecDepth 100000 in
theorem vX4_season_103 {p : Program} {l : Launch} {e : Env} {s : State} {m : MethodId} {args : Array Value} {below : List Frame} {meth : Method} {c : Code} {D : va_G} {T3 : ClassId × ClassId × ClassId} {ad sd : Nat → Nat} {A : Nat → Prop}  (C : CX p s m args meth c cX4_season 10 RX4 (some .int) D T3 ad sd A) {r : Int32} {M9 : Mem} (kk32 : Int32 → Int32 → Int32 → Int32 → Int32 → Int32 → Mem → Option (Int32 × Mem)) (hk32 : ∀ (x2 : Int32) (x3 : Int32) (x4 : Int32) (x5 : Int32) (x6 : Int32) (x7 : Int32) (M : Mem), kk32 x2 x3 x4 x5 x6 x7 M = some (r, M9) → VV p l e rmX4_season s m args below meth c D T3 ad A 10 0 0 (QM below D T3 ad A args s (fun _ => some (.int r)) M9) M [(0, .ref (ad 0)), (2, .int x2), (3, .int x3), (4, .int x4), (5, .int x5), (6, .int x6), (7, .int x7)] 32 []) : ∀ (x2 : Int32) (x3 : Int32) (x4 : Int32) (x5 : Int32) (x6 : Int32) (x7 : Int32) (t0 : Bool) (M : Mem), fX4_season_103 kk32 x2 x3 x4 x5 x6 x7 t0 M = some (r, M9) → VV p l e rmX4_season s m args below meth c D T3 ad A 10 0 0 (QM below D T3 ad A args s (fun _ => some (.int r)) M9) M [(0, .ref (ad 0)), (2, .int x2), (3, .int x3), (4, .int x4), (5, .int x5), (6, .int x6), (7, .int x7)] 103 [.int (b2i t0)] := by
  intro x2 x3 x4 x5 x6 x7 t0 M h
  unfold fX4_season_103 at h
  refine V_istore C [(9, .int (b2i t0)), (0, .ref (ad 0)), (2, .int x2), (3, .int x3), (4, .int x4), (5, .int x5), (6, .int x6), (7, .int x7)] dX4_season_103 (by decide) rfl ?_
  refine V_aload_n C 1 dX4_season_105 rfl ?_
  refine V_iload_n C 2 dX4_season_106 rfl ?_
  refine V_iload C 7 dX4_season_107 rfl ?_
  obtain ⟨z2, M3, hz2, h⟩ := bW_t h
  refine V_callV C (st := []) (st' := [.int (b2i z2)]) (mX4_findByMap l x2 x7 M hz2) wmX4_findByMap lkX4_128 dX4_season_109 (wo_0 T3 ad _) rfl rfl rfl rfl rfl rfl ⟨rfl, rfl, (Nat.le_of_ble_eq_true rfl), (Nat.le_of_ble_eq_true rfl)⟩ ⟨Nat.zero_le _, Nat.zero_le _⟩ (Nat.le_of_ble_eq_true rfl) ?_
  refine V_ifB_eq C 131 dX4_season_112 (by decide) (fun q6 => ?_) (fun q6 => ?_)
  · replace h := ite_n q6 h
    refine V_iinc C 7 (x7 + 1) [(7, .int (x7 + 1)), (9, .int (b2i t0)), (0, .ref (ad 0)), (2, .int x2), (3, .int x3), (4, .int x4), (5, .int x5), (6, .int x6)] dX4_season_131 rfl rfl (by decide) rfl ?_
    refine V_goto C 32 dX4_season_134 (by decide) ?_
    refine V_sub (lv' := [(0, .ref (ad 0)), (2, .int x2), (3, .int x3), (4, .int x4), (5, .int x5), (6, .int x6), (7, .int (x7 + 1))]) [2, 3, 4, 5, 6, 7, 0] rfl ?_
    exact hk32 x2 x3 x4 x5 x6 (x7 + 1) M3 h
  · replace h := ite_p q6 h
    refine V_aload_n C 1 dX4_season_115 rfl ?_
    refine V_iload_n C 2 dX4_season_116 rfl ?_
    refine V_iload C 7 dX4_season_117 rfl ?_
    refine V_iload C 0 dX4_season_119 rfl ?_
    obtain ⟨z4, hz4, h⟩ := bP_t h
    refine V_callV C (st := []) (st' := [.int z4]) (mX4_aground l x2 x7 t0 M3 hz4) wmX4_aground lkX4_131 dX4_season_121 (wo_0 T3 ad _) rfl rfl rfl rfl rfl rfl ⟨rfl, rfl, (Nat.le_of_ble_eq_true rfl), (Nat.le_of_ble_eq_true rfl)⟩ ⟨Nat.zero_le _, Nat.zero_le _⟩ (Nat.le_of_ble_eq_true rfl) ?_
    refine V_iconst C (-1 : Int32) dX4_season_124 (by decide) ?_
    refine V_icmp_ne C 131 dX4_season_125 (by decide) (fun q5 => ?_) (fun q5 => ?_)
    · replace h := ite_n q5 h
      refine V_iinc C 7 (x7 + 1) [(7, .int (x7 + 1)), (9, .int (b2i t0)), (0, .ref (ad 0)), (2, .int x2), (3, .int x3), (4, .int x4), (5, .int x5), (6, .int x6)] dX4_season_131 rfl rfl (by decide) rfl ?_
      refine V_goto C 32 dX4_season_134 (by decide) ?_
      refine V_sub (lv' := [(0, .ref (ad 0)), (2, .int x2), (3, .int x3), (4, .int x4), (5, .int x5), (6, .int x6), (7, .int (x7 + 1))]) [2, 3, 4, 5, 6, 7, 0] rfl ?_
      exact hk32 x2 x3 x4 x5 x6 (x7 + 1) M3 h
    · replace h := ite_p q5 h
      refine V_iinc C 6 (x6 + 1) [(6, .int (x6 + 1)), (9, .int (b2i t0)), (0, .ref (ad 0)), (2, .int x2), (3, .int x3), (4, .int x4), (5, .int x5), (7, .int x7)] dX4_season_128 rfl rfl (by decide) rfl ?_
      refine V_iinc C 7 (x7 + 1) [(7, .int (x7 + 1)), (6, .int (x6 + 1)), (9, .int (b2i t0)), (0, .ref (ad 0)), (2, .int x2), (3, .int x3), (4, .int x4), (5, .int x5)] dX4_season_131 rfl rfl (by decide) rfl ?_
      refine V_goto C 32 dX4_season_134 (by decide) ?_
      refine V_sub (lv' := [(0, .ref (ad 0)), (2, .int x2), (3, .int x3), (4, .int x4), (5, .int x5), (6, .int (x6 + 1)), (7, .int (x7 + 1))]) [3, 4, 5, 6, 7, 1, 0] rfl ?_
      exact hk32 x2 x3 x4 x5 (x6 + 1) (x7 + 1) M3 h
set_option maxHeartbeats 4000000 in
set_option maxRecDepth 100000 in
theorem vX4_season_79 {p : Program} {l : Launch} {e : Env} {s : State} {m : MethodId} {args : Array Value} {below : List Frame} {meth : Method} {c : Code} {D : va_G} {T3 : ClassId × ClassId × ClassId} {ad sd : Nat → Nat} {A : Nat → Prop}  (C : CX p s m args meth c cX4_season 10 RX4 (some .int) D T3 ad sd A) {r : Int32} {M9 : Mem} (kk32 : Int32 → Int32 → Int32 → Int32 → Int32 → Int32 → Mem → Option (Int32 × Mem)) (hk32 : ∀ (x2 : Int32) (x3 : Int32) (x4 : Int32) (x5 : Int32) (x6 : Int32) (x7 : Int32) (M : Mem), kk32 x2 x3 x4 x5 x6 x7 M = some (r, M9) → VV p l e rmX4_season s m args below meth c D T3 ad A 10 0 0 (QM below D T3 ad A args s (fun _ => some (.int r)) M9) M [(0, .ref (ad 0)), (2, .int x2), (3, .int x3), (4, .int x4), (5, .int x5), (6, .int x6), (7, .int x7)] 32 []) : ∀ (x2 : Int32) (x3 : Int32) (x4 : Int32) (x5 : Int32) (x6 : Int32) (x7 : Int32) (t0 : Bool) (M : Mem), fX4_season_79 kk32 x2 x3 x4 x5 x6 x7 t0 M = some (r, M9) → VV p l e rmX4_season s m args below meth c D T3 ad A 10 0 0 (QM below D T3 ad A args s (fun _ => some (.int r)) M9) M [(0, .ref (ad 0)), (2, .int x2), (3, .int x3), (4, .int x4), (5, .int x5), (6, .int x6), (7, .int x7)] 79 [.int (b2i t0)] := by
  intro x2 x3 x4 x5 x6 x7 t0 M h
  unfold fX4_season_79 at h
  refine V_istore C [(8, .int (b2i t0)), (0, .ref (ad 0)), (2, .int x2), (3, .int x3), (4, .int x4), (5, .int x5), (6, .int x6), (7, .int x7)] dX4_season_79 (by decide) rfl ?_
  refine V_iload C 0 dX4_season_81 rfl ?_
  refine V_ifB_ne C 98 dX4_season_83 (by decide) (fun q9 => ?_) (fun q9 => ?_)
  · replace h := ite_p q9 h
    refine V_iconst C (1 : Int32) dX4_season_98 (by decide) ?_
    refine V_goto C 103 dX4_season_99 (by decide) ?_
    refine V_sub (lv' := [(0, .ref (ad 0)), (2, .int x2), (3, .int x3), (4, .int x4), (5, .int x5), (6, .int x6), (7, .int x7)]) [1, 2, 3, 4, 5, 6, 7] rfl ?_
    exact vX4_season_103 C kk32 hk32 x2 x3 x4 x5 x6 x7 true M h
  · replace h := ite_n q9 h
    refine V_aload_n C 1 dX4_season_86 rfl ?_
    refine V_get C 0 dX4_season_87 (wo_0 T3 ad _) rfl inKX4 (by decide) flX4_10 rfl rfl ?_
    refine V_iload C 7 dX4_season_90 rfl ?_
    obtain ⟨z7, hz7, h⟩ := bP_t h
    refine V_callV C (st := []) (st' := [.int (b2i z7)]) (mX0_isStormy l x7 M hz7) wmX0_isStormy lkX4_91 dX4_season_92 (wo_1 T3 ad _) rfl rfl rfl rfl rfl rfl ⟨rfl, rfl, (Nat.le_of_ble_eq_true rfl), (Nat.le_of_ble_eq_true rfl)⟩ ⟨Nat.zero_le _, Nat.zero_le _⟩ (Nat.le_of_ble_eq_true rfl) ?_
    refine V_ifB_eq C 102 dX4_season_95 (by decide) (fun q8 => ?_) (fun q8 => ?_)
    · replace h := ite_n q8 h
      refine V_iconst C (0 : Int32) dX4_season_102 (by decide) ?_
      refine V_sub (lv' := [(0, .ref (ad 0)), (2, .int x2), (3, .int x3), (4, .int x4), (5, .int x5), (6, .int x6), (7, .int x7)]) [1, 2, 3, 4, 5, 6, 7] rfl ?_
      exact vX4_season_103 C kk32 hk32 x2 x3 x4 x5 x6 x7 false M h
    · replace h := ite_p q8 h
      refine V_iconst C (1 : Int32) dX4_season_98 (by decide) ?_
      refine V_goto C 103 dX4_season_99 (by decide) ?_
      refine V_sub (lv' := [(0, .ref (ad 0)), (2, .int x2), (3, .int x3), (4, .int x4), (5, .int x5), (6, .int x6), (7, .int x7)]) [1, 2, 3, 4, 5, 6, 7] rfl ?_
      exact vX4_season_103 C kk32 hk32 x2 x3 x4 x5 x6 x7 true M h
set_option maxHeartbeats 4000000 in
set_option maxRecDepth 100000 in
theorem vX4_season_32 {p : Program} {l : Launch} {e : Env} {s : State} {m : MethodId} {args : Array Value} {below : List Frame} {meth : Method} {c : Code} {D : va_G} {T3 : ClassId × ClassId × ClassId} {ad sd : Nat → Nat} {A : Nat → Prop}  (C : CX p s m args meth c cX4_season 10 RX4 (some .int) D T3 ad sd A) {r : Int32} {M9 : Mem} : ∀ (n : Nat) (x2 : Int32) (x3 : Int32) (x4 : Int32) (x5 : Int32) (x6 : Int32) (x7 : Int32) (M : Mem), fX4_season_32 n x2 x3 x4 x5 x6 x7 M = some (r, M9) → VV p l e rmX4_season s m args below meth c D T3 ad A 10 0 0 (QM below D T3 ad A args s (fun _ => some (.int r)) M9) M [(0, .ref (ad 0)), (2, .int x2), (3, .int x3), (4, .int x4), (5, .int x5), (6, .int x6), (7, .int x7)] 32 [] := by
  intro n
  induction n with
  | zero => intro x2 x3 x4 x5 x6 x7 M h; exact nomatch (show (none : Option (Int32 × Mem)) = some _ from h)
  | succ n ih =>
    intro x2 x3 x4 x5 x6 x7 M h
    rw [fX4_season_32] at h
    refine V_iload C 6 dX4_season_32 rfl ?_
    refine V_iload_n C 2 dX4_season_34 rfl ?_
    refine V_iload C 3 dX4_season_35 rfl ?_
    refine V_iadd C dX4_season_37 ?_
    refine V_icmp_ge C 137 dX4_season_38 (by decide) (fun q12 => ?_) (fun q12 => ?_)
    · replace h := ite_p q12 h
      refine V_iload C 5 dX4_season_137 rfl ?_
      obtain ⟨rfl, rfl⟩ := ret_W h
      exact V_iret C dX4_season_139
    · replace h := ite_n q12 h
      refine V_iload C 6 dX4_season_41 rfl ?_
      refine V_bipush C (99 : Int32) dX4_season_43 (by decide) ?_
      refine V_icmp_gt C 137 dX4_season_45 (by decide) (fun q11 => ?_) (fun q11 => ?_)
      · replace h := ite_p q11 h
        refine V_iload C 5 dX4_season_137 rfl ?_
        obtain ⟨rfl, rfl⟩ := ret_W h
        exact V_iret C dX4_season_139
      · replace h := ite_n q11 h
        refine V_ldc C dX4_season_48 kcX4_207 ?_
        refine V_iload C 4 dX4_season_50 rfl ?_
        refine V_imul C dX4_season_52 ?_
        refine V_sipush C (12345 : Int32) dX4_season_53 (by decide) ?_
        refine V_iadd C dX4_season_56 ?_
        obtain ⟨y1, hy1, h⟩ := lt_t h
        refine V_topi C hy1 ?_
        refine V_istore C [(5, .int y1), (0, .ref (ad 0)), (2, .int x2), (3, .int x3), (4, .int x4), (6, .int x6), (7, .int x7)] dX4_season_57 (by decide) rfl ?_
        refine V_iload C 0 dX4_season_59 rfl ?_
        refine V_bipush C (16 : Int32) dX4_season_61 (by decide) ?_
        refine V_iushr C dX4_season_63 ?_
        refine V_bipush C (16 : Int32) dX4_season_64 (by decide) ?_
        refine V_irem C dX4_season_66 (by decide) ?_
        refine V_aload_n C 1 dX4_season_67 rfl ?_
        refine V_get C 6 dX4_season_68 (wo_0 T3 ad _) rfl inKX4 (by decide) flX4_44 rfl rfl ?_
        refine V_icmp_ge C 78 dX4_season_71 (by decide) (fun q10 => ?_) (fun q10 => ?_)
        · replace h := ite_p q10 h
          refine V_iconst C (0 : Int32) dX4_season_78 (by decide) ?_
          refine V_sub (lv' := [(0, .ref (ad 0)), (2, .int x2), (3, .int x3), (4, .int x4), (5, .int y1), (6, .int x6), (7, .int x7)]) [1, 2, 3, 4, 0, 5, 6] rfl ?_
          exact vX4_season_79 C (fX4_season_32 n) ih x2 x3 x4 y1 x6 x7 false M h
        · replace h := ite_n q10 h
          refine V_iconst C (1 : Int32) dX4_season_74 (by decide) ?_
          refine V_goto C 79 dX4_season_75 (by decide) ?_
          refine V_sub (lv' := [(0, .ref (ad 0)), (2, .int x2), (3, .int x3), (4, .int x4), (5, .int y1), (6, .int x6), (7, .int x7)]) [1, 2, 3, 4, 0, 5, 6] rfl ?_
          exact vX4_season_79 C (fX4_season_32 n) ih x2 x3 x4 y1 x6 x7 true M h
set_option maxHeartbeats 4000000 in
set_option maxRecDepth 100000 in
theorem mX4_season (l : Launch) (x1 : Int32) (x2 : Int32) (x3 : Int32) (x4 : Int32) (M : Mem) {r : Int32} {M9 : Mem} (h : fX4_season x1 x2 x3 x4 M = some (r, M9)) : MC l yX4_season cX4_season 10 (some .int) rmX4_season (fun ad sd => [.ref (ad 0), .int x1, .int x2, .int x3, .int x4]) M (fun _ => some (.int r)) M9 := by
  refine MC_start (by decide) (fun ad sd => [(0, .ref (ad 0)), (1, .int x1), (2, .int x2), (3, .int x3), (4, .int x4)]) (fun _ _ => rfl) (fun _ _ => Nat.le_of_ble_eq_true rfl) ?_
  intro p e s m args below meth c D T3 ad sd A C
  unfold fX4_season at h
  refine V_iload_n C 2 dX4_season_0 rfl ?_
  refine V_iload_n C 3 dX4_season_1 rfl ?_
  refine V_callS C (st := []) (st' := [.int (b2i (fX4_isShip x2 x3))]) (mX4_isShip l x2 x3 M rfl) wmX4_isShip lkX4_105 dX4_season_2 rfl rfl rfl ⟨rfl, rfl, (Nat.le_of_ble_eq_true rfl), (Nat.le_of_ble_eq_true rfl)⟩ ⟨Nat.zero_le _, Nat.zero_le _⟩ (Nat.le_of_ble_eq_true rfl) ?_
  refine V_ifB_eq C 20 dX4_season_5 (by decide) (fun q15 => ?_) (fun q15 => ?_)
  · replace h := ite_n q15 h
    refine V_bipush C (-2 : Int32) dX4_season_20 (by decide) ?_
    obtain ⟨rfl, rfl⟩ := ret_W h
    exact V_iret C dX4_season_22
  · replace h := ite_p q15 h
    refine V_iload C 4 dX4_season_8 rfl ?_
    refine V_if_lt C 20 dX4_season_10 (by decide) (fun q14 => ?_) (fun q14 => ?_)
    · replace h := ite_p q14 h
      refine V_bipush C (-2 : Int32) dX4_season_20 (by decide) ?_
      obtain ⟨rfl, rfl⟩ := ret_W h
      exact V_iret C dX4_season_22
    · replace h := ite_n q14 h
      refine V_iload C 4 dX4_season_13 rfl ?_
      refine V_bipush C (40 : Int32) dX4_season_15 (by decide) ?_
      refine V_icmp_le C 23 dX4_season_17 (by decide) (fun q13 => ?_) (fun q13 => ?_)
      · replace h := ite_p q13 h
        refine V_iload_n C 1 dX4_season_23 rfl ?_
        refine V_istore C [(5, .int x1), (0, .ref (ad 0)), (1, .int x1), (2, .int x2), (3, .int x3), (4, .int x4)] dX4_season_24 (by decide) rfl ?_
        refine V_iconst C (0 : Int32) dX4_season_26 (by decide) ?_
        refine V_istore C [(6, .int (0 : Int32)), (5, .int x1), (0, .ref (ad 0)), (1, .int x1), (2, .int x2), (3, .int x3), (4, .int x4)] dX4_season_27 (by decide) rfl ?_
        refine V_iload_n C 5 dX4_season_29 rfl ?_
        refine V_istore C [(7, .int x3), (6, .int (0 : Int32)), (5, .int x1), (0, .ref (ad 0)), (1, .int x1), (2, .int x2), (3, .int x3), (4, .int x4)] dX4_season_30 (by decide) rfl ?_
        refine V_sub (lv' := [(0, .ref (ad 0)), (2, .int x2), (3, .int x3), (4, .int x4), (5, .int x1), (6, .int (0 : Int32)), (7, .int x3)]) [3, 5, 6, 7, 2, 1, 0] rfl ?_
        exact vX4_season_32 C 1000 x2 x3 x4 x1 (0 : Int32) x3 M h
      · replace h := ite_n q13 h
        refine V_bipush C (-2 : Int32) dX4_season_20 (by decide) ?_
        obtain ⟨rfl, rfl⟩ := ret_W h
        exact V_iret C dX4_season_22
abbrev rmX4_isForm : Room := { frames := 0, cells := 0, slots := 0, locals := 0 }
def fX4_isForm (x0 : Int32) : Bool := if x0 < 0 then false else if (2 : Int32) < x0 then false else true
set_option maxHeartbeats 4000000 in
set_option maxRecDepth 100000 in
theorem mX4_isForm (l : Launch) (x0 : Int32) (M : Mem) {r : Bool} (h : fX4_isForm x0 = r) : MC l yX4_isForm cX4_isForm 1 (some .boolean) rmX4_isForm (fun ad sd => [.int x0]) M (fun _ => some (.int (b2i r))) M := by
  refine MC_start (by decide) (fun ad sd => [(0, .int x0)]) (fun _ _ => rfl) (fun _ _ => Nat.le_of_ble_eq_true rfl) ?_
  intro p e s m args below meth c D T3 ad sd A C
  unfold fX4_isForm at h
  refine V_iload_n C 0 dX4_isForm_0 rfl ?_
  refine V_if_lt C 13 dX4_isForm_1 (by decide) (fun q2 => ?_) (fun q2 => ?_)
  · replace h := ite_p q2 h
    refine V_iconst C (0 : Int32) dX4_isForm_13 (by decide) ?_
    subst h
    exact V_zret (x := false) C dX4_isForm_14
  · replace h := ite_n q2 h
    refine V_iload_n C 0 dX4_isForm_4 rfl ?_
    refine V_iconst C (2 : Int32) dX4_isForm_5 (by decide) ?_
    refine V_icmp_gt C 13 dX4_isForm_6 (by decide) (fun q1 => ?_) (fun q1 => ?_)
    · replace h := ite_p q1 h
      refine V_iconst C (0 : Int32) dX4_isForm_13 (by decide) ?_
      subst h
      exact V_zret (x := false) C dX4_isForm_14
    · replace h := ite_n q1 h
      refine V_iconst C (1 : Int32) dX4_isForm_9 (by decide) ?_
      refine V_goto C 14 dX4_isForm_10 (by decide) ?_
      subst h
      exact V_zret (x := true) C dX4_isForm_14
abbrev rmX4_sheet : Room := { frames := 2, cells := 0, slots := 0, locals := 45 }
def fX4_sheet (x1 : Int32) (x2 : Int32) (x3 : Int32) (M : Mem) : Option (Int32 × Mem) := bP (fX4_sheetAt x1) fun z1 => qm z1 (some ((-2 : Int32), M)) fun o2 => gd (isS o2) (if (fX4_isForm x2) = true then if x3 ≤ (60 : Int32) then if 0 ≤ x3 then bW (fX2_renew o2 x2 x3 M) fun z5 M6 => some (x3, M6) else bW (fX4_found (5 : Int32) M) fun z7 M8 => some (z7, M8) else some ((-2 : Int32), M) else some ((-2 : Int32), M))
set_option maxHeartbeats 4000000 in
set_option maxRecDepth 100000 in
theorem mX4_sheet (l : Launch) (x1 : Int32) (x2 : Int32) (x3 : Int32) (M : Mem) {r : Int32} {M9 : Mem} (h : fX4_sheet x1 x2 x3 M = some (r, M9)) : MC l yX4_sheet cX4_sheet 5 (some .int) rmX4_sheet (fun ad sd => [.ref (ad 0), .int x1, .int x2, .int x3]) M (fun _ => some (.int r)) M9 := by
  refine MC_start (by decide) (fun ad sd => [(0, .ref (ad 0)), (1, .int x1), (2, .int x2), (3, .int x3)]) (fun _ _ => rfl) (fun _ _ => Nat.le_of_ble_eq_true rfl) ?_
  intro p e s m args below meth c D T3 ad sd A C
  unfold fX4_sheet at h
  refine V_aload_n C 0 dX4_sheet_0 rfl ?_
  refine V_iload_n C 1 dX4_sheet_1 rfl ?_
  obtain ⟨z1, hz1, h⟩ := bP_t h
  refine V_callV C (st := []) (st' := [nr ad z1]) (mX4_sheetAt l x1 M hz1) wmX4_sheetAt lkX4_159 dX4_sheet_2 (wo_0 T3 ad _) rfl rfl rfl rfl rfl rfl ⟨rfl, rfl, (Nat.le_of_ble_eq_true rfl), (Nat.le_of_ble_eq_true rfl)⟩ ⟨Nat.zero_le _, Nat.zero_le _⟩ (Nat.le_of_ble_eq_true rfl) ?_
  refine V_astoreq C [(4, nr ad z1), (0, .ref (ad 0)), (1, .int x1), (2, .int x2), (3, .int x3)] dX4_sheet_5 (by decide) (by cases z1 <;> rfl) ?_
  refine V_aloadq C 0 dX4_sheet_7 rfl ?_
  refine V_ifnullq C 25 dX4_sheet_9 (by decide) (fun e4 => ?_) (fun o2 e4 => ?_)
  · subst e4
    replace h := qm_n rfl h
    refine V_bipush C (-2 : Int32) dX4_sheet_25 (by decide) ?_
    obtain ⟨rfl, rfl⟩ := ret_W h
    exact V_iret C dX4_sheet_27
  · subst e4
    replace h := qm_s rfl h
    obtain ⟨g3, h⟩ := gd_t h
    refine V_iload_n C 3 dX4_sheet_12 rfl ?_
    refine V_callS C (st := []) (st' := [.int (b2i (fX4_isForm x2))]) (mX4_isForm l x2 M rfl) wmX4_isForm lkX4_208 dX4_sheet_13 rfl rfl rfl ⟨rfl, rfl, (Nat.le_of_ble_eq_true rfl), (Nat.le_of_ble_eq_true rfl)⟩ ⟨Nat.zero_le _, Nat.zero_le _⟩ (Nat.le_of_ble_eq_true rfl) ?_
    refine V_ifB_eq C 25 dX4_sheet_16 (by decide) (fun q11 => ?_) (fun q11 => ?_)
    · replace h := ite_n q11 h
      refine V_bipush C (-2 : Int32) dX4_sheet_25 (by decide) ?_
      obtain ⟨rfl, rfl⟩ := ret_W h
      exact V_iret C dX4_sheet_27
    · replace h := ite_p q11 h
      refine V_iload_n C 4 dX4_sheet_19 rfl ?_
      refine V_bipush C (60 : Int32) dX4_sheet_20 (by decide) ?_
      refine V_icmp_le C 28 dX4_sheet_22 (by decide) (fun q10 => ?_) (fun q10 => ?_)
      · replace h := ite_p q10 h
        refine V_iload_n C 4 dX4_sheet_28 rfl ?_
        refine V_if_ge C 38 dX4_sheet_29 (by decide) (fun q9 => ?_) (fun q9 => ?_)
        · replace h := ite_p q9 h
          refine V_aload C 0 dX4_sheet_38 rfl ?_
          refine V_iload_n C 3 dX4_sheet_40 rfl ?_
          refine V_iload_n C 4 dX4_sheet_41 rfl ?_
          obtain ⟨z5, M6, hz5, h⟩ := bW_t h
          refine V_callV C (st := []) (st' := []) (mX2_renew l o2 g3 x2 x3 M hz5) wmX2_renew lkX4_211 dX4_sheet_42 (wS_get g3 T3 ad _) rfl rfl rfl rfl rfl rfl ⟨rfl, rfl, (Nat.le_of_ble_eq_true rfl), (Nat.le_of_ble_eq_true rfl)⟩ ⟨Nat.zero_le _, Nat.zero_le _⟩ (Nat.le_of_ble_eq_true rfl) ?_
          refine V_iload_n C 4 dX4_sheet_45 rfl ?_
          obtain ⟨rfl, rfl⟩ := ret_W h
          exact V_iret C dX4_sheet_46
        · replace h := ite_n q9 h
          refine V_aload_n C 1 dX4_sheet_32 rfl ?_
          refine V_iconst C (5 : Int32) dX4_sheet_33 (by decide) ?_
          obtain ⟨z7, M8, hz7, h⟩ := bW_t h
          refine V_callV C (st := []) (st' := [.int z7]) (mX4_found l (5 : Int32) M hz7) wmX4_found lkX4_166 dX4_sheet_34 (wo_0 T3 ad _) rfl rfl rfl rfl rfl rfl ⟨rfl, rfl, (Nat.le_of_ble_eq_true rfl), (Nat.le_of_ble_eq_true rfl)⟩ ⟨Nat.zero_le _, Nat.zero_le _⟩ (Nat.le_of_ble_eq_true rfl) ?_
          obtain ⟨rfl, rfl⟩ := ret_W h
          exact V_iret C dX4_sheet_37
      · replace h := ite_n q10 h
        refine V_bipush C (-2 : Int32) dX4_sheet_25 (by decide) ?_
        obtain ⟨rfl, rfl⟩ := ret_W h
        exact V_iret C dX4_sheet_27
abbrev rmX4_lose : Room := { frames := 2, cells := 0, slots := 0, locals := 45 }
def fX4_lose (x1 : Int32) (M : Mem) : Option (Int32 × Mem) := bP (fX4_sheetAt x1) fun z1 => qm z1 (some ((-2 : Int32), M)) fun o2 => gd (isS o2) (if (fX2_isLost M o2) = true then bW (fX4_found (1 : Int32) M) fun z7 M8 => some (z7, M8) else bW (fX2_renew o2 (-1 : Int32) (0 : Int32) M) fun z5 M6 => some ((M o2 2), M6))
set_option maxHeartbeats 4000000 in
set_option maxRecDepth 100000 in
theorem mX4_lose (l : Launch) (x1 : Int32) (M : Mem) {r : Int32} {M9 : Mem} (h : fX4_lose x1 M = some (r, M9)) : MC l yX4_lose cX4_lose 4 (some .int) rmX4_lose (fun ad sd => [.ref (ad 0), .int x1]) M (fun _ => some (.int r)) M9 := by
  refine MC_start (by decide) (fun ad sd => [(0, .ref (ad 0)), (1, .int x1)]) (fun _ _ => rfl) (fun _ _ => Nat.le_of_ble_eq_true rfl) ?_
  intro p e s m args below meth c D T3 ad sd A C
  unfold fX4_lose at h
  refine V_aload_n C 0 dX4_lose_0 rfl ?_
  refine V_iload_n C 1 dX4_lose_1 rfl ?_
  obtain ⟨z1, hz1, h⟩ := bP_t h
  refine V_callV C (st := []) (st' := [nr ad z1]) (mX4_sheetAt l x1 M hz1) wmX4_sheetAt lkX4_159 dX4_lose_2 (wo_0 T3 ad _) rfl rfl rfl rfl rfl rfl ⟨rfl, rfl, (Nat.le_of_ble_eq_true rfl), (Nat.le_of_ble_eq_true rfl)⟩ ⟨Nat.zero_le _, Nat.zero_le _⟩ (Nat.le_of_ble_eq_true rfl) ?_
  refine V_astore_nq C [(2, nr ad z1), (0, .ref (ad 0)), (1, .int x1)] dX4_lose_5 rfl (by decide) (by cases z1 <;> rfl) ?_
  refine V_aload_nq C 0 dX4_lose_6 rfl ?_
  refine V_ifnonnullq C 13 dX4_lose_7 (by decide) (fun o2 e4 => ?_) (fun e4 => ?_)
  · subst e4
    replace h := qm_s rfl h
    obtain ⟨g3, h⟩ := gd_t h
    refine V_aload_n C 0 dX4_lose_13 rfl ?_
    refine V_callV C (st := []) (st' := [.int (b2i (fX2_isLost M o2))]) (mX2_isLost l o2 g3 M rfl) wmX2_isLost lkX4_163 dX4_lose_14 (wS_get g3 T3 ad _) rfl rfl rfl rfl rfl rfl ⟨rfl, rfl, (Nat.le_of_ble_eq_true rfl), (Nat.le_of_ble_eq_true rfl)⟩ ⟨Nat.zero_le _, Nat.zero_le _⟩ (Nat.le_of_ble_eq_true rfl) ?_
    refine V_ifB_eq C 26 dX4_lose_17 (by decide) (fun q9 => ?_) (fun q9 => ?_)
    · replace h := ite_n q9 h
      refine V_aload_n C 0 dX4_lose_26 rfl ?_
      refine V_getN C 2 dX4_lose_27 (wS_get g3 T3 ad _) rfl inKX2 (by decide) flX4_169 rfl rfl ?_
      refine V_istore_n C [(3, .int (M o2 2)), (2, .ref (ad o2)), (0, .ref (ad 0)), (1, .int x1)] dX4_lose_30 rfl (by decide) rfl ?_
      refine V_aload_n C 1 dX4_lose_31 rfl ?_
      refine V_iconst C (-1 : Int32) dX4_lose_32 (by decide) ?_
      refine V_iconst C (0 : Int32) dX4_lose_33 (by decide) ?_
      obtain ⟨z5, M6, hz5, h⟩ := bW_t h
      refine V_callV C (st := []) (st' := []) (mX2_renew l o2 g3 (-1 : Int32) (0 : Int32) M hz5) wmX2_renew lkX4_211 dX4_lose_34 (wS_get g3 T3 ad _) rfl rfl rfl rfl rfl rfl ⟨rfl, rfl, (Nat.le_of_ble_eq_true rfl), (Nat.le_of_ble_eq_true rfl)⟩ ⟨Nat.zero_le _, Nat.zero_le _⟩ (Nat.le_of_ble_eq_true rfl) ?_
      refine V_iload_n C 0 dX4_lose_37 rfl ?_
      obtain ⟨rfl, rfl⟩ := ret_W h
      exact V_iret C dX4_lose_38
    · replace h := ite_p q9 h
      refine V_aload_n C 1 dX4_lose_20 rfl ?_
      refine V_iconst C (1 : Int32) dX4_lose_21 (by decide) ?_
      obtain ⟨z7, M8, hz7, h⟩ := bW_t h
      refine V_callV C (st := []) (st' := [.int z7]) (mX4_found l (1 : Int32) M hz7) wmX4_found lkX4_166 dX4_lose_22 (wo_0 T3 ad _) rfl rfl rfl rfl rfl rfl ⟨rfl, rfl, (Nat.le_of_ble_eq_true rfl), (Nat.le_of_ble_eq_true rfl)⟩ ⟨Nat.zero_le _, Nat.zero_le _⟩ (Nat.le_of_ble_eq_true rfl) ?_
      obtain ⟨rfl, rfl⟩ := ret_W h
      exact V_iret C dX4_lose_25
  · subst e4
    replace h := qm_n rfl h
    refine V_bipush C (-2 : Int32) dX4_lose_10 (by decide) ?_
    obtain ⟨rfl, rfl⟩ := ret_W h
    exact V_iret C dX4_lose_12
abbrev rmX4_refusalOfItem : Room := { frames := 1, cells := 0, slots := 0, locals := 22 }
def fX4_refusalOfItem (x1 : Option Nat) (x2 : Int32) (x3 : Int32) (M : Mem) : Option (Int32 × Mem) := qm x1 (some ((-2 : Int32), M)) fun o1 => gd (isS o1) (if (fX4_isForm x2) = true then if (fX2_isLost M o1) = true then bW (fX4_found (1 : Int32) M) fun z10 M11 => some (z10, M11) else if (M o1 1) = x2 then if (fX2_hasItems M o1 x3 (1 : Int32)) = true then some ((0 : Int32), M) else bW (fX4_found (2 : Int32) M) fun z4 M5 => some (z4, M5) else bW (fX4_found (3 : Int32) M) fun z7 M8 => some (z7, M8) else some ((-2 : Int32), M))
set_option maxHeartbeats 4000000 in
set_option maxRecDepth 100000 in
theorem mX4_refusalOfItem (l : Launch) (x1 : Option Nat) (x2 : Int32) (x3 : Int32) (M : Mem) {r : Int32} {M9 : Mem} (h : fX4_refusalOfItem x1 x2 x3 M = some (r, M9)) : MC l yX4_refusalOfItem cX4_refusalOfItem 4 (some .int) rmX4_refusalOfItem (fun ad sd => [.ref (ad 0), nr ad x1, .int x2, .int x3]) M (fun _ => some (.int r)) M9 := by
  refine MC_start (by decide) (fun ad sd => [(0, .ref (ad 0)), (1, nr ad x1), (2, .int x2), (3, .int x3)]) (fun _ _ => by cases x1 <;> rfl) (fun _ _ => by cases x1 <;> exact Nat.le_of_ble_eq_true rfl) ?_
  intro p e s m args below meth c D T3 ad sd A C
  unfold fX4_refusalOfItem at h
  refine V_aload_nq C 1 dX4_refusalOfItem_0 rfl ?_
  refine V_ifnullq C 11 dX4_refusalOfItem_1 (by decide) (fun e3 => ?_) (fun o1 e3 => ?_)
  · subst e3
    replace h := qm_n rfl h
    refine V_bipush C (-2 : Int32) dX4_refusalOfItem_11 (by decide) ?_
    obtain ⟨rfl, rfl⟩ := ret_W h
    exact V_iret C dX4_refusalOfItem_13
  · subst e3
    replace h := qm_s rfl h
    obtain ⟨g2, h⟩ := gd_t h
    refine V_iload_n C 2 dX4_refusalOfItem_4 rfl ?_
    refine V_callS C (st := []) (st' := [.int (b2i (fX4_isForm x2))]) (mX4_isForm l x2 M rfl) wmX4_isForm lkX4_208 dX4_refusalOfItem_5 rfl rfl rfl ⟨rfl, rfl, (Nat.le_of_ble_eq_true rfl), (Nat.le_of_ble_eq_true rfl)⟩ ⟨Nat.zero_le _, Nat.zero_le _⟩ (Nat.le_of_ble_eq_true rfl) ?_
    refine V_ifB_ne C 14 dX4_refusalOfItem_8 (by decide) (fun q13 => ?_) (fun q13 => ?_)
    · replace h := ite_p q13 h
      refine V_aload_n C 1 dX4_refusalOfItem_14 rfl ?_
      refine V_callV C (st := []) (st' := [.int (b2i (fX2_isLost M o1))]) (mX2_isLost l o1 g2 M rfl) wmX2_isLost lkX4_163 dX4_refusalOfItem_15 (wS_get g2 T3 ad _) rfl rfl rfl rfl rfl rfl ⟨rfl, rfl, (Nat.le_of_ble_eq_true rfl), (Nat.le_of_ble_eq_true rfl)⟩ ⟨Nat.zero_le _, Nat.zero_le _⟩ (Nat.le_of_ble_eq_true rfl) ?_
      refine V_ifB_eq C 27 dX4_refusalOfItem_18 (by decide) (fun q12 => ?_) (fun q12 => ?_)
      · replace h := ite_n q12 h
        refine V_aload_n C 1 dX4_refusalOfItem_27 rfl ?_
        refine V_getN C 1 dX4_refusalOfItem_28 (wS_get g2 T3 ad _) rfl inKX2 (by decide) flX4_223 rfl rfl ?_
        refine V_iload_n C 2 dX4_refusalOfItem_31 rfl ?_
        refine V_icmp_eq C 41 dX4_refusalOfItem_32 (by decide) (fun q9 => ?_) (fun q9 => ?_)
        · replace h := ite_p q9 h
          refine V_aload_n C 1 dX4_refusalOfItem_41 rfl ?_
          refine V_iload_n C 3 dX4_refusalOfItem_42 rfl ?_
          refine V_iconst C (1 : Int32) dX4_refusalOfItem_43 (by decide) ?_
          refine V_callV C (st := []) (st' := [.int (b2i (fX2_hasItems M o1 x3 (1 : Int32)))]) (mX2_hasItems l o1 g2 x3 (1 : Int32) M rfl) wmX2_hasItems lkX4_226 dX4_refusalOfItem_44 (wS_get g2 T3 ad _) rfl rfl rfl rfl rfl rfl ⟨rfl, rfl, (Nat.le_of_ble_eq_true rfl), (Nat.le_of_ble_eq_true rfl)⟩ ⟨Nat.zero_le _, Nat.zero_le _⟩ (Nat.le_of_ble_eq_true rfl) ?_
          refine V_ifB_eq C 54 dX4_refusalOfItem_47 (by decide) (fun q6 => ?_) (fun q6 => ?_)
          · replace h := ite_n q6 h
            refine V_aload_n C 0 dX4_refusalOfItem_54 rfl ?_
            refine V_iconst C (2 : Int32) dX4_refusalOfItem_55 (by decide) ?_
            obtain ⟨z4, M5, hz4, h⟩ := bW_t h
            refine V_callV C (st := []) (st' := [.int z4]) (mX4_found l (2 : Int32) M hz4) wmX4_found lkX4_166 dX4_refusalOfItem_56 (wo_0 T3 ad _) rfl rfl rfl rfl rfl rfl ⟨rfl, rfl, (Nat.le_of_ble_eq_true rfl), (Nat.le_of_ble_eq_true rfl)⟩ ⟨Nat.zero_le _, Nat.zero_le _⟩ (Nat.le_of_ble_eq_true rfl) ?_
            obtain ⟨rfl, rfl⟩ := ret_W h
            exact V_iret C dX4_refusalOfItem_59
          · replace h := ite_p q6 h
            refine V_iconst C (0 : Int32) dX4_refusalOfItem_50 (by decide) ?_
            refine V_goto C 59 dX4_refusalOfItem_51 (by decide) ?_
            obtain ⟨rfl, rfl⟩ := ret_W h
            exact V_iret C dX4_refusalOfItem_59
        · replace h := ite_n q9 h
          refine V_aload_n C 0 dX4_refusalOfItem_35 rfl ?_
          refine V_iconst C (3 : Int32) dX4_refusalOfItem_36 (by decide) ?_
          obtain ⟨z7, M8, hz7, h⟩ := bW_t h
          refine V_callV C (st := []) (st' := [.int z7]) (mX4_found l (3 : Int32) M hz7) wmX4_found lkX4_166 dX4_refusalOfItem_37 (wo_0 T3 ad _) rfl rfl rfl rfl rfl rfl ⟨rfl, rfl, (Nat.le_of_ble_eq_true rfl), (Nat.le_of_ble_eq_true rfl)⟩ ⟨Nat.zero_le _, Nat.zero_le _⟩ (Nat.le_of_ble_eq_true rfl) ?_
          obtain ⟨rfl, rfl⟩ := ret_W h
          exact V_iret C dX4_refusalOfItem_40
      · replace h := ite_p q12 h
        refine V_aload_n C 0 dX4_refusalOfItem_21 rfl ?_
        refine V_iconst C (1 : Int32) dX4_refusalOfItem_22 (by decide) ?_
        obtain ⟨z10, M11, hz10, h⟩ := bW_t h
        refine V_callV C (st := []) (st' := [.int z10]) (mX4_found l (1 : Int32) M hz10) wmX4_found lkX4_166 dX4_refusalOfItem_23 (wo_0 T3 ad _) rfl rfl rfl rfl rfl rfl ⟨rfl, rfl, (Nat.le_of_ble_eq_true rfl), (Nat.le_of_ble_eq_true rfl)⟩ ⟨Nat.zero_le _, Nat.zero_le _⟩ (Nat.le_of_ble_eq_true rfl) ?_
        obtain ⟨rfl, rfl⟩ := ret_W h
        exact V_iret C dX4_refusalOfItem_26
    · replace h := ite_n q13 h
      refine V_bipush C (-2 : Int32) dX4_refusalOfItem_11 (by decide) ?_
      obtain ⟨rfl, rfl⟩ := ret_W h
      exact V_iret C dX4_refusalOfItem_13
abbrev rmX4_lay : Room := { frames := 2, cells := 0, slots := 0, locals := 45 }
def fX4_lay (x1 : Int32) (x2 : Int32) (x3 : Int32) (x4 : Int32) (M : Mem) : Option (Int32 × Mem) := bP (fX4_sheetAt x1) fun z1 => bW (fX4_refusalOfItem z1 x2 x3 M) fun z2 M3 => qm z1 (some (z2, M3)) fun o4 => gd (isS o4) (if z2 = 0 then bW (fX2_put o4 x3 x4 M3) fun z7 M8 => some ((1 : Int32), M8) else some (z2, M3))
set_option maxHeartbeats 4000000 in
set_option maxRecDepth 100000 in
theorem mX4_lay (l : Launch) (x1 : Int32) (x2 : Int32) (x3 : Int32) (x4 : Int32) (M : Mem) {r : Int32} {M9 : Mem} (h : fX4_lay x1 x2 x3 x4 M = some (r, M9)) : MC l yX4_lay cX4_lay 7 (some .int) rmX4_lay (fun ad sd => [.ref (ad 0), .int x1, .int x2, .int x3, .int x4]) M (fun _ => some (.int r)) M9 := by
  refine MC_start (by decide) (fun ad sd => [(0, .ref (ad 0)), (1, .int x1), (2, .int x2), (3, .int x3), (4, .int x4)]) (fun _ _ => rfl) (fun _ _ => Nat.le_of_ble_eq_true rfl) ?_
  intro p e s m args below meth c D T3 ad sd A C
  unfold fX4_lay at h
  refine V_aload_n C 0 dX4_lay_0 rfl ?_
  refine V_iload_n C 1 dX4_lay_1 rfl ?_
  obtain ⟨z1, hz1, h⟩ := bP_t h
  refine V_callV C (st := []) (st' := [nr ad z1]) (mX4_sheetAt l x1 M hz1) wmX4_sheetAt lkX4_159 dX4_lay_2 (wo_0 T3 ad _) rfl rfl rfl rfl rfl rfl ⟨rfl, rfl, (Nat.le_of_ble_eq_true rfl), (Nat.le_of_ble_eq_true rfl)⟩ ⟨Nat.zero_le _, Nat.zero_le _⟩ (Nat.le_of_ble_eq_true rfl) ?_
  refine V_astoreq C [(5, nr ad z1), (0, .ref (ad 0)), (1, .int x1), (2, .int x2), (3, .int x3), (4, .int x4)] dX4_lay_5 (by decide) (by cases z1 <;> rfl) ?_
  refine V_aload_n C 1 dX4_lay_7 rfl ?_
  refine V_aloadq C 0 dX4_lay_8 rfl ?_
  refine V_iload_n C 3 dX4_lay_10 rfl ?_
  refine V_iload_n C 4 dX4_lay_11 rfl ?_
  obtain ⟨z2, M3, hz2, h⟩ := bW_t h
  refine V_callV C (st := []) (st' := [.int z2]) (mX4_refusalOfItem l z1 x2 x3 M hz2) wmX4_refusalOfItem lkX4_215 dX4_lay_12 (wo_0 T3 ad _) rfl rfl rfl rfl rfl rfl ⟨rfl, rfl, (Nat.le_of_ble_eq_true rfl), (Nat.le_of_ble_eq_true rfl)⟩ ⟨Nat.zero_le _, Nat.zero_le _⟩ (Nat.le_of_ble_eq_true rfl) ?_
  refine V_istore C [(6, .int z2), (5, nr ad z1), (0, .ref (ad 0)), (1, .int x1), (2, .int x2), (3, .int x3), (4, .int x4)] dX4_lay_15 (by decide) (by cases z1 <;> rfl) ?_
  refine V_aloadq C 1 dX4_lay_17 rfl ?_
  refine V_ifnullq C 27 dX4_lay_19 (by decide) (fun e6 => ?_) (fun o4 e6 => ?_)
  · subst e6
    replace h := qm_n rfl h
    refine V_iload C 0 dX4_lay_27 rfl ?_
    obtain ⟨rfl, rfl⟩ := ret_W h
    exact V_iret C dX4_lay_29
  · subst e6
    replace h := qm_s rfl h
    obtain ⟨g5, h⟩ := gd_t h
    refine V_iload C 0 dX4_lay_22 rfl ?_
    refine V_if_eq C 30 dX4_lay_24 (by decide) (fun q9 => ?_) (fun q9 => ?_)
    · replace h := ite_p q9 h
      refine V_aload C 1 dX4_lay_30 rfl ?_
      refine V_iload_n C 5 dX4_lay_32 rfl ?_
      refine V_iload C 6 dX4_lay_33 rfl ?_
      obtain ⟨z7, M8, hz7, h⟩ := bW_t h
      refine V_callV C (st := []) (st' := []) (mX2_put l o4 g5 x3 x4 M3 hz7) wmX2_put lkX4_219 dX4_lay_35 (wS_get g5 T3 ad _) rfl rfl rfl rfl rfl rfl ⟨rfl, rfl, (Nat.le_of_ble_eq_true rfl), (Nat.le_of_ble_eq_true rfl)⟩ ⟨Nat.zero_le _, Nat.zero_le _⟩ (Nat.le_of_ble_eq_true rfl) ?_
      refine V_iconst C (1 : Int32) dX4_lay_38 (by decide) ?_
      obtain ⟨rfl, rfl⟩ := ret_W h
      exact V_iret C dX4_lay_39
    · replace h := ite_n q9 h
      refine V_iload C 0 dX4_lay_27 rfl ?_
      obtain ⟨rfl, rfl⟩ := ret_W h
      exact V_iret C dX4_lay_29
abbrev rmX4_get : Room := { frames := 2, cells := 0, slots := 0, locals := 45 }
def fX4_get (x1 : Int32) (x2 : Int32) (x3 : Int32) (M : Mem) : Option (Int32 × Mem) := bP (fX4_sheetAt x1) fun z1 => bW (fX4_refusalOfItem z1 x2 x3 M) fun z2 M3 => qm z1 (some ((-2147483648 : Int32), M3)) fun o4 => gd (isS o4) (if z2 = 0 then bP (fX2_itemAt M3 o4 x3) fun z7 => some (z7, M3) else some ((-2147483648 : Int32), M3))
set_option maxHeartbeats 4000000 in
set_option maxRecDepth 100000 in
theorem mX4_get (l : Launch) (x1 : Int32) (x2 : Int32) (x3 : Int32) (M : Mem) {r : Int32} {M9 : Mem} (h : fX4_get x1 x2 x3 M = some (r, M9)) : MC l yX4_get cX4_get 6 (some .int) rmX4_get (fun ad sd => [.ref (ad 0), .int x1, .int x2, .int x3]) M (fun _ => some (.int r)) M9 := by
  refine MC_start (by decide) (fun ad sd => [(0, .ref (ad 0)), (1, .int x1), (2, .int x2), (3, .int x3)]) (fun _ _ => rfl) (fun _ _ => Nat.le_of_ble_eq_true rfl) ?_
  intro p e s m args below meth c D T3 ad sd A C
  unfold fX4_get at h
  refine V_aload_n C 0 dX4_get_0 rfl ?_
  refine V_iload_n C 1 dX4_get_1 rfl ?_
  obtain ⟨z1, hz1, h⟩ := bP_t h
  refine V_callV C (st := []) (st' := [nr ad z1]) (mX4_sheetAt l x1 M hz1) wmX4_sheetAt lkX4_159 dX4_get_2 (wo_0 T3 ad _) rfl rfl rfl rfl rfl rfl ⟨rfl, rfl, (Nat.le_of_ble_eq_true rfl), (Nat.le_of_ble_eq_true rfl)⟩ ⟨Nat.zero_le _, Nat.zero_le _⟩ (Nat.le_of_ble_eq_true rfl) ?_
  refine V_astoreq C [(4, nr ad z1), (0, .ref (ad 0)), (1, .int x1), (2, .int x2), (3, .int x3)] dX4_get_5 (by decide) (by cases z1 <;> rfl) ?_
  refine V_aload_n C 1 dX4_get_7 rfl ?_
  refine V_aloadq C 0 dX4_get_8 rfl ?_
  refine V_iload_n C 3 dX4_get_10 rfl ?_
  refine V_iload_n C 4 dX4_get_11 rfl ?_
  obtain ⟨z2, M3, hz2, h⟩ := bW_t h
  refine V_callV C (st := []) (st' := [.int z2]) (mX4_refusalOfItem l z1 x2 x3 M hz2) wmX4_refusalOfItem lkX4_215 dX4_get_12 (wo_0 T3 ad _) rfl rfl rfl rfl rfl rfl ⟨rfl, rfl, (Nat.le_of_ble_eq_true rfl), (Nat.le_of_ble_eq_true rfl)⟩ ⟨Nat.zero_le _, Nat.zero_le _⟩ (Nat.le_of_ble_eq_true rfl) ?_
  refine V_istore C [(5, .int z2), (4, nr ad z1), (0, .ref (ad 0)), (1, .int x1), (2, .int x2), (3, .int x3)] dX4_get_15 (by decide) (by cases z1 <;> rfl) ?_
  refine V_aloadq C 1 dX4_get_17 rfl ?_
  refine V_ifnullq C 27 dX4_get_19 (by decide) (fun e6 => ?_) (fun o4 e6 => ?_)
  · subst e6
    replace h := qm_n rfl h
    refine V_ldc C dX4_get_27 kcX4_222 ?_
    obtain ⟨rfl, rfl⟩ := ret_W h
    exact V_iret C dX4_get_29
  · subst e6
    replace h := qm_s rfl h
    obtain ⟨g5, h⟩ := gd_t h
    refine V_iload C 0 dX4_get_22 rfl ?_
    refine V_if_eq C 30 dX4_get_24 (by decide) (fun q8 => ?_) (fun q8 => ?_)
    · replace h := ite_p q8 h
      refine V_aload C 1 dX4_get_30 rfl ?_
      refine V_iload_n C 5 dX4_get_32 rfl ?_
      obtain ⟨z7, hz7, h⟩ := bP_t h
      refine V_callV C (st := []) (st' := [.int z7]) (mX2_itemAt l o4 g5 x3 M3 hz7) wmX2_itemAt lkX4_170 dX4_get_33 (wS_get g5 T3 ad _) rfl rfl rfl rfl rfl rfl ⟨rfl, rfl, (Nat.le_of_ble_eq_true rfl), (Nat.le_of_ble_eq_true rfl)⟩ ⟨Nat.zero_le _, Nat.zero_le _⟩ (Nat.le_of_ble_eq_true rfl) ?_
      obtain ⟨rfl, rfl⟩ := ret_W h
      exact V_iret C dX4_get_36
    · replace h := ite_n q8 h
      refine V_ldc C dX4_get_27 kcX4_222 ?_
      obtain ⟨rfl, rfl⟩ := ret_W h
      exact V_iret C dX4_get_29
abbrev rmX4_copy : Room := { frames := 1, cells := 0, slots := 0, locals := 53 }
def fX4_copy_43 (M : Mem) : Option (Int32 × Mem) := bW (fX4_found (1 : Int32) M) fun z9 M10 => some (z9, M10)
def fX4_copy_91 (M : Mem) : Option (Int32 × Mem) := bW (fX4_found (2 : Int32) M) fun z11 M12 => some (z11, M12)
def fX4_copy (x1 : Int32) (x2 : Int32) (x3 : Int32) (x4 : Int32) (x5 : Int32) (M : Mem) : Option (Int32 × Mem) := bP (fX4_sheetAt x1) fun z1 => bP (fX4_sheetAt x3) fun z2 => qm z1 (some ((-2 : Int32), M)) fun o3 => gd (isS o3) (qm z2 (some ((-2 : Int32), M)) fun o6 => gd (isS o6) (if (fX2_isLost M o3) = true then fX4_copy_43 M else if (fX2_isLost M o6) = true then fX4_copy_43 M else if (M o3 1) = (M o6 1) then if (fX2_hasItems M o3 x2 x5) = true then if (fX2_hasItems M o6 x4 x5) = true then gd (cpOK x2 x4 x5 60 60) (lt (upf M (o6 + 4) (va_cpy (M (o3 + 4)) (M (o6 + 4)) (x2).toNatClampNeg (x4).toNatClampNeg (x5).toNatClampNeg)) fun M13 => some ((1 : Int32), M13)) else fX4_copy_91 M else fX4_copy_91 M else bW (fX4_found (4 : Int32) M) fun z17 M18 => some (z17, M18)))
set_option maxHeartbeats 4000000 in
set_option maxRecDepth 100000 in
theorem vX4_copy_43 {p : Program} {l : Launch} {e : Env} {s : State} {m : MethodId} {args : Array Value} {below : List Frame} {meth : Method} {c : Code} {D : va_G} {T3 : ClassId × ClassId × ClassId} {ad sd : Nat → Nat} {A : Nat → Prop}  (C : CX p s m args meth c cX4_copy 8 RX4 (some .int) D T3 ad sd A) {r : Int32} {M9 : Mem} : ∀ (M : Mem), fX4_copy_43 M = some (r, M9) → VV p l e rmX4_copy s m args below meth c D T3 ad A 8 0 0 (QM below D T3 ad A args s (fun _ => some (.int r)) M9) M [(0, .ref (ad 0))] 43 [] := by
  intro M h
  unfold fX4_copy_43 at h
  refine V_aload_n C 0 dX4_copy_43 rfl ?_
  refine V_iconst C (1 : Int32) dX4_copy_44 (by decide) ?_
  obtain ⟨z9, M10, hz9, h⟩ := bW_t h
  refine V_callV C (st := []) (st' := [.int z9]) (mX4_found l (1 : Int32) M hz9) wmX4_found lkX4_166 dX4_copy_45 (wo_0 T3 ad _) rfl rfl rfl rfl rfl rfl ⟨rfl, rfl, (Nat.le_of_ble_eq_true rfl), (Nat.le_of_ble_eq_true rfl)⟩ ⟨Nat.zero_le _, Nat.zero_le _⟩ (Nat.le_of_ble_eq_true rfl) ?_
  obtain ⟨rfl, rfl⟩ := ret_W h
  exact V_iret C dX4_copy_48
set_option maxHeartbeats 4000000 in
set_option maxRecDepth 100000 in
theorem vX4_copy_91 {p : Program} {l : Launch} {e : Env} {s : State} {m : MethodId} {args : Array Value} {below : List Frame} {meth : Method} {c : Code} {D : va_G} {T3 : ClassId × ClassId × ClassId} {ad sd : Nat → Nat} {A : Nat → Prop}  (C : CX p s m args meth c cX4_copy 8 RX4 (some .int) D T3 ad sd A) {r : Int32} {M9 : Mem} : ∀ (M : Mem), fX4_copy_91 M = some (r, M9) → VV p l e rmX4_copy s m args below meth c D T3 ad A 8 0 0 (QM below D T3 ad A args s (fun _ => some (.int r)) M9) M [(0, .ref (ad 0))] 91 [] := by
  intro M h
  unfold fX4_copy_91 at h
  refine V_aload_n C 0 dX4_copy_91 rfl ?_
  refine V_iconst C (2 : Int32) dX4_copy_92 (by decide) ?_
  obtain ⟨z11, M12, hz11, h⟩ := bW_t h
  refine V_callV C (st := []) (st' := [.int z11]) (mX4_found l (2 : Int32) M hz11) wmX4_found lkX4_166 dX4_copy_93 (wo_0 T3 ad _) rfl rfl rfl rfl rfl rfl ⟨rfl, rfl, (Nat.le_of_ble_eq_true rfl), (Nat.le_of_ble_eq_true rfl)⟩ ⟨Nat.zero_le _, Nat.zero_le _⟩ (Nat.le_of_ble_eq_true rfl) ?_
  obtain ⟨rfl, rfl⟩ := ret_W h
  exact V_iret C dX4_copy_96
set_option maxHeartbeats 4000000 in
set_option maxRecDepth 100000 in
theorem mX4_copy (l : Launch) (x1 : Int32) (x2 : Int32) (x3 : Int32) (x4 : Int32) (x5 : Int32) (M : Mem) {r : Int32} {M9 : Mem} (h : fX4_copy x1 x2 x3 x4 x5 M = some (r, M9)) : MC l yX4_copy cX4_copy 8 (some .int) rmX4_copy (fun ad sd => [.ref (ad 0), .int x1, .int x2, .int x3, .int x4, .int x5]) M (fun _ => some (.int r)) M9 := by
  refine MC_start (by decide) (fun ad sd => [(0, .ref (ad 0)), (1, .int x1), (2, .int x2), (3, .int x3), (4, .int x4), (5, .int x5)]) (fun _ _ => rfl) (fun _ _ => Nat.le_of_ble_eq_true rfl) ?_
  intro p e s m args below meth c D T3 ad sd A C
  unfold fX4_copy at h
  refine V_aload_n C 0 dX4_copy_0 rfl ?_
  refine V_iload_n C 1 dX4_copy_1 rfl ?_
  obtain ⟨z1, hz1, h⟩ := bP_t h
  refine V_callV C (st := []) (st' := [nr ad z1]) (mX4_sheetAt l x1 M hz1) wmX4_sheetAt lkX4_159 dX4_copy_2 (wo_0 T3 ad _) rfl rfl rfl rfl rfl rfl ⟨rfl, rfl, (Nat.le_of_ble_eq_true rfl), (Nat.le_of_ble_eq_true rfl)⟩ ⟨Nat.zero_le _, Nat.zero_le _⟩ (Nat.le_of_ble_eq_true rfl) ?_
  refine V_astoreq C [(6, nr ad z1), (0, .ref (ad 0)), (1, .int x1), (2, .int x2), (3, .int x3), (4, .int x4), (5, .int x5)] dX4_copy_5 (by decide) (by cases z1 <;> rfl) ?_
  refine V_aload_n C 1 dX4_copy_7 rfl ?_
  refine V_iload_n C 4 dX4_copy_8 rfl ?_
  obtain ⟨z2, hz2, h⟩ := bP_t h
  refine V_callV C (st := []) (st' := [nr ad z2]) (mX4_sheetAt l x3 M hz2) wmX4_sheetAt lkX4_159 dX4_copy_9 (wo_0 T3 ad _) rfl rfl rfl rfl rfl rfl ⟨rfl, rfl, (Nat.le_of_ble_eq_true rfl), (Nat.le_of_ble_eq_true rfl)⟩ ⟨Nat.zero_le _, Nat.zero_le _⟩ (Nat.le_of_ble_eq_true rfl) ?_
  refine V_astoreq C [(7, nr ad z2), (6, nr ad z1), (0, .ref (ad 0)), (1, .int x1), (2, .int x2), (3, .int x3), (4, .int x4), (5, .int x5)] dX4_copy_12 (by decide) (by cases z2 <;> cases z1 <;> rfl) ?_
  refine V_aloadq C 1 dX4_copy_14 rfl ?_
  refine V_ifnullq C 24 dX4_copy_16 (by decide) (fun e5 => ?_) (fun o3 e5 => ?_)
  · subst e5
    replace h := qm_n rfl h
    refine V_bipush C (-2 : Int32) dX4_copy_24 (by decide) ?_
    obtain ⟨rfl, rfl⟩ := ret_W h
    exact V_iret C dX4_copy_26
  · subst e5
    replace h := qm_s rfl h
    obtain ⟨g4, h⟩ := gd_t h
    refine V_aloadq C 0 dX4_copy_19 rfl ?_
    refine V_ifnonnullq C 27 dX4_copy_21 (by decide) (fun o6 e8 => ?_) (fun e8 => ?_)
    · subst e8
      replace h := qm_s rfl h
      obtain ⟨g7, h⟩ := gd_t h
      refine V_aload C 1 dX4_copy_27 rfl ?_
      refine V_callV C (st := []) (st' := [.int (b2i (fX2_isLost M o3))]) (mX2_isLost l o3 g4 M rfl) wmX2_isLost lkX4_163 dX4_copy_29 (wS_get g4 T3 ad _) rfl rfl rfl rfl rfl rfl ⟨rfl, rfl, (Nat.le_of_ble_eq_true rfl), (Nat.le_of_ble_eq_true rfl)⟩ ⟨Nat.zero_le _, Nat.zero_le _⟩ (Nat.le_of_ble_eq_true rfl) ?_
      refine V_ifB_ne C 43 dX4_copy_32 (by decide) (fun q21 => ?_) (fun q21 => ?_)
      · replace h := ite_p q21 h
        refine V_sub (lv' := [(0, .ref (ad 0))]) [2] rfl ?_
        exact vX4_copy_43 C M h
      · replace h := ite_n q21 h
        refine V_aload C 0 dX4_copy_35 rfl ?_
        refine V_callV C (st := []) (st' := [.int (b2i (fX2_isLost M o6))]) (mX2_isLost l o6 g7 M rfl) wmX2_isLost lkX4_163 dX4_copy_37 (wS_get g7 T3 ad _) rfl rfl rfl rfl rfl rfl ⟨rfl, rfl, (Nat.le_of_ble_eq_true rfl), (Nat.le_of_ble_eq_true rfl)⟩ ⟨Nat.zero_le _, Nat.zero_le _⟩ (Nat.le_of_ble_eq_true rfl) ?_
        refine V_ifB_eq C 49 dX4_copy_40 (by decide) (fun q20 => ?_) (fun q20 => ?_)
        · replace h := ite_n q20 h
          refine V_aload C 1 dX4_copy_49 rfl ?_
          refine V_getN C 1 dX4_copy_51 (wS_get g4 T3 ad _) rfl inKX2 (by decide) flX4_223 rfl rfl ?_
          refine V_aload C 0 dX4_copy_54 rfl ?_
          refine V_getN C 1 dX4_copy_56 (wS_get g7 T3 ad _) rfl inKX2 (by decide) flX4_223 rfl rfl ?_
          refine V_icmp_eq C 68 dX4_copy_59 (by decide) (fun q19 => ?_) (fun q19 => ?_)
          · replace h := ite_p q19 h
            refine V_aload C 1 dX4_copy_68 rfl ?_
            refine V_iload_n C 4 dX4_copy_70 rfl ?_
            refine V_iload C 7 dX4_copy_71 rfl ?_
            refine V_callV C (st := []) (st' := [.int (b2i (fX2_hasItems M o3 x2 x5))]) (mX2_hasItems l o3 g4 x2 x5 M rfl) wmX2_hasItems lkX4_226 dX4_copy_73 (wS_get g4 T3 ad _) rfl rfl rfl rfl rfl rfl ⟨rfl, rfl, (Nat.le_of_ble_eq_true rfl), (Nat.le_of_ble_eq_true rfl)⟩ ⟨Nat.zero_le _, Nat.zero_le _⟩ (Nat.le_of_ble_eq_true rfl) ?_
            refine V_ifB_eq C 91 dX4_copy_76 (by decide) (fun q16 => ?_) (fun q16 => ?_)
            · replace h := ite_n q16 h
              refine V_sub (lv' := [(0, .ref (ad 0))]) [2] rfl ?_
              exact vX4_copy_91 C M h
            · replace h := ite_p q16 h
              refine V_aload C 0 dX4_copy_79 rfl ?_
              refine V_iload C 6 dX4_copy_81 rfl ?_
              refine V_iload C 7 dX4_copy_83 rfl ?_
              refine V_callV C (st := []) (st' := [.int (b2i (fX2_hasItems M o6 x4 x5))]) (mX2_hasItems l o6 g7 x4 x5 M rfl) wmX2_hasItems lkX4_226 dX4_copy_85 (wS_get g7 T3 ad _) rfl rfl rfl rfl rfl rfl ⟨rfl, rfl, (Nat.le_of_ble_eq_true rfl), (Nat.le_of_ble_eq_true rfl)⟩ ⟨Nat.zero_le _, Nat.zero_le _⟩ (Nat.le_of_ble_eq_true rfl) ?_
              refine V_ifB_ne C 97 dX4_copy_88 (by decide) (fun q15 => ?_) (fun q15 => ?_)
              · replace h := ite_p q15 h
                refine V_aload C 1 dX4_copy_97 rfl ?_
                refine V_getN C 0 dX4_copy_99 (wS_get g4 T3 ad _) rfl inKX2 (by decide) flX4_229 rfl rfl ?_
                refine V_iload_n C 4 dX4_copy_102 rfl ?_
                refine V_aload C 0 dX4_copy_103 rfl ?_
                refine V_getN C 0 dX4_copy_105 (wS_get g7 T3 ad _) rfl inKX2 (by decide) flX4_229 rfl rfl ?_
                refine V_iload C 6 dX4_copy_108 rfl ?_
                refine V_iload C 7 dX4_copy_110 rfl ?_
                obtain ⟨g14, h⟩ := gd_t h
                obtain ⟨M13, hM13, h⟩ := lt_t h
                refine V_copy C M13 dX4_copy_112 lkX4_232 wC_n wC_s wC_i (isS_A g4) (isS_A g7) (isS_n g4) (isS_n g7) (cpOK_t g14).1 (cpOK_t g14).2.1 (cpOK_t g14).2.2.1 (cpOK_t g14).2.2.2.1 (cpOK_t g14).2.2.2.2 (Nat.le_of_ble_eq_true rfl) (Nat.le_of_ble_eq_true rfl) hM13 ?_
                refine V_iconst C (1 : Int32) dX4_copy_115 (by decide) ?_
                obtain ⟨rfl, rfl⟩ := ret_W h
                exact V_iret C dX4_copy_116
              · replace h := ite_n q15 h
                refine V_sub (lv' := [(0, .ref (ad 0))]) [2] rfl ?_
                exact vX4_copy_91 C M h
          · replace h := ite_n q19 h
            refine V_aload_n C 2 dX4_copy_62 rfl ?_
            refine V_iconst C (4 : Int32) dX4_copy_63 (by decide) ?_
            obtain ⟨z17, M18, hz17, h⟩ := bW_t h
            refine V_callV C (st := []) (st' := [.int z17]) (mX4_found l (4 : Int32) M hz17) wmX4_found lkX4_166 dX4_copy_64 (wo_0 T3 ad _) rfl rfl rfl rfl rfl rfl ⟨rfl, rfl, (Nat.le_of_ble_eq_true rfl), (Nat.le_of_ble_eq_true rfl)⟩ ⟨Nat.zero_le _, Nat.zero_le _⟩ (Nat.le_of_ble_eq_true rfl) ?_
            obtain ⟨rfl, rfl⟩ := ret_W h
            exact V_iret C dX4_copy_67
        · replace h := ite_p q20 h
          refine V_sub (lv' := [(0, .ref (ad 0))]) [2] rfl ?_
          exact vX4_copy_43 C M h
    · subst e8
      replace h := qm_n rfl h
      refine V_bipush C (-2 : Int32) dX4_copy_24 (by decide) ?_
      obtain ⟨rfl, rfl⟩ := ret_W h
      exact V_iret C dX4_copy_26
abbrev rmX4_write : Room := { frames := 4, cells := 0, slots := 0, locals := 92 }
def fX4_write_98 (kk51 : Int32 → Int32 → Nat → Int32 → Int32 → Mem → Option (Int32 × Mem)) (x1 : Int32) (x2 : Int32) (x4 : Nat) (x5 : Int32) (x6 : Int32) (t1 : Int32) (t2 : Int32) (M : Mem) : Option (Int32 × Mem) := bW (fX2_put x4 t1 t2 M) fun z6 M7 => kk51 x1 x2 x4 (x5 + 1) (x6 + 1) M7
def fX4_write_51 : Nat → Int32 → Int32 → Nat → Int32 → Int32 → Mem → Option (Int32 × Mem)
  | 0, _, _, _, _, _, _ => none
  | n + 1, x1, x2, x4, x5, x6, M => if (M 1 3) ≤ x6 then some (x5, M) else if (M x4 2) ≤ x6 then some (x5, M) else if x1 = 0 then bP (fX4_deep M x6 x2) fun z8 => fX4_write_98 (fX4_write_51 n) x1 x2 x4 x5 x6 x6 z8 M else bP (fX4_map M x6 x2) fun z5 => fX4_write_98 (fX4_write_51 n) x1 x2 x4 x5 x6 x6 z5 M
def fX4_write (x1 : Int32) (x2 : Int32) (x3 : Int32) (M : Mem) : Option (Int32 × Mem) := bP (fX4_sheetAt x3) fun z1 => if x1 < 0 then some ((-2 : Int32), M) else if (1 : Int32) < x1 then some ((-2 : Int32), M) else if (fX4_isNight x2) = true then qm z1 (some ((-2 : Int32), M)) fun o2 => gd (isS o2) (if (fX2_isLost M o2) = true then bW (fX4_found (1 : Int32) M) fun z12 M13 => some (z12, M13) else fX4_write_51 1000 x1 x2 o2 (0 : Int32) (0 : Int32) M) else some ((-2 : Int32), M)
set_option maxHeartbeats 4000000 in
set_option maxRecDepth 100000 in
theorem vX4_write_98 {p : Program} {l : Launch} {e : Env} {s : State} {m : MethodId} {args : Array Value} {below : List Frame} {meth : Method} {c : Code} {D : va_G} {T3 : ClassId × ClassId × ClassId} {ad sd : Nat → Nat} {A : Nat → Prop}  (C : CX p s m args meth c cX4_write 7 RX4 (some .int) D T3 ad sd A) {r : Int32} {M9 : Mem} (kk51 : Int32 → Int32 → Nat → Int32 → Int32 → Mem → Option (Int32 × Mem)) (hk51 : ∀ (x1 : Int32) (x2 : Int32) (x4 : Nat) (gx4 : isS x4 = true) (x5 : Int32) (x6 : Int32) (M : Mem), kk51 x1 x2 x4 x5 x6 M = some (r, M9) → VV p l e rmX4_write s m args below meth c D T3 ad A 7 0 0 (QM below D T3 ad A args s (fun _ => some (.int r)) M9) M [(0, .ref (ad 0)), (1, .int x1), (2, .int x2), (4, .ref (ad x4)), (5, .int x5), (6, .int x6)] 51 []) : ∀ (x1 : Int32) (x2 : Int32) (x4 : Nat) (gx4 : isS x4 = true) (x5 : Int32) (x6 : Int32) (t1 : Int32) (t2 : Int32) (M : Mem), fX4_write_98 kk51 x1 x2 x4 x5 x6 t1 t2 M = some (r, M9) → VV p l e rmX4_write s m args below meth c D T3 ad A 7 0 0 (QM below D T3 ad A args s (fun _ => some (.int r)) M9) M [(0, .ref (ad 0)), (1, .int x1), (2, .int x2), (4, .ref (ad x4)), (5, .int x5), (6, .int x6)] 98 [.int t2, .int t1, .ref (ad x4)] := by
  intro x1 x2 x4 gx4 x5 x6 t1 t2 M h
  unfold fX4_write_98 at h
  obtain ⟨z6, M7, hz6, h⟩ := bW_t h
  refine V_callV C (st := []) (st' := []) (mX2_put l x4 gx4 t1 t2 M hz6) wmX2_put lkX4_219 dX4_write_98 (wS_get gx4 T3 ad _) rfl rfl rfl rfl rfl rfl ⟨rfl, rfl, (Nat.le_of_ble_eq_true rfl), (Nat.le_of_ble_eq_true rfl)⟩ ⟨Nat.zero_le _, Nat.zero_le _⟩ (Nat.le_of_ble_eq_true rfl) ?_
  refine V_iinc C 4 (x5 + 1) [(5, .int (x5 + 1)), (0, .ref (ad 0)), (1, .int x1), (2, .int x2), (4, .ref (ad x4)), (6, .int x6)] dX4_write_101 rfl rfl (by decide) rfl ?_
  refine V_iinc C 5 (x6 + 1) [(6, .int (x6 + 1)), (5, .int (x5 + 1)), (0, .ref (ad 0)), (1, .int x1), (2, .int x2), (4, .ref (ad x4))] dX4_write_104 rfl rfl (by decide) rfl ?_
  refine V_goto C 51 dX4_write_107 (by decide) ?_
  refine V_sub (lv' := [(0, .ref (ad 0)), (1, .int x1), (2, .int x2), (4, .ref (ad x4)), (5, .int (x5 + 1)), (6, .int (x6 + 1))]) [2, 3, 4, 5, 1, 0] rfl ?_
  exact hk51 x1 x2 x4 gx4 (x5 + 1) (x6 + 1) M7 h
set_option maxHeartbeats 4000000 in
set_option maxRecDepth 100000 in
theorem vX4_write_51 {p : Program} {l : Launch} {e : Env} {s : State} {m : MethodId} {args : Array Value} {below : List Frame} {meth : Method} {c : Code} {D : va_G} {T3 : ClassId × ClassId × ClassId} {ad sd : Nat → Nat} {A : Nat → Prop}  (C : CX p s m args meth c cX4_write 7 RX4 (some .int) D T3 ad sd A) {r : Int32} {M9 : Mem} : ∀ (n : Nat) (x1 : Int32) (x2 : Int32) (x4 : Nat) (gx4 : isS x4 = true) (x5 : Int32) (x6 : Int32) (M : Mem), fX4_write_51 n x1 x2 x4 x5 x6 M = some (r, M9) → VV p l e rmX4_write s m args below meth c D T3 ad A 7 0 0 (QM below D T3 ad A args s (fun _ => some (.int r)) M9) M [(0, .ref (ad 0)), (1, .int x1), (2, .int x2), (4, .ref (ad x4)), (5, .int x5), (6, .int x6)] 51 [] := by
  intro n
  induction n with
  | zero => intro x1 x2 x4 gx4 x5 x6 M h; exact nomatch (show (none : Option (Int32 × Mem)) = some _ from h)
  | succ n ih =>
    intro x1 x2 x4 gx4 x5 x6 M h
    rw [fX4_write_51] at h
    refine V_iload C 5 dX4_write_51 rfl ?_
    refine V_aload_n C 0 dX4_write_53 rfl ?_
    refine V_get C 0 dX4_write_54 (wo_0 T3 ad _) rfl inKX4 (by decide) flX4_10 rfl rfl ?_
    refine V_getN C 3 dX4_write_57 (wo_1 T3 ad _) rfl inKX0 (by decide) flX4_62 rfl rfl ?_
    refine V_icmp_ge C 110 dX4_write_60 (by decide) (fun q11 => ?_) (fun q11 => ?_)
    · replace h := ite_p q11 h
      refine V_iload C 4 dX4_write_110 rfl ?_
      obtain ⟨rfl, rfl⟩ := ret_W h
      exact V_iret C dX4_write_112
    · replace h := ite_n q11 h
      refine V_iload C 5 dX4_write_63 rfl ?_
      refine V_aload C 3 dX4_write_65 rfl ?_
      refine V_getN C 2 dX4_write_67 (wS_get gx4 T3 ad _) rfl inKX2 (by decide) flX4_169 rfl rfl ?_
      refine V_icmp_ge C 110 dX4_write_70 (by decide) (fun q10 => ?_) (fun q10 => ?_)
      · replace h := ite_p q10 h
        refine V_iload C 4 dX4_write_110 rfl ?_
        obtain ⟨rfl, rfl⟩ := ret_W h
        exact V_iret C dX4_write_112
      · replace h := ite_n q10 h
        refine V_aload C 3 dX4_write_73 rfl ?_
        refine V_iload C 5 dX4_write_75 rfl ?_
        refine V_iload_n C 1 dX4_write_77 rfl ?_
        refine V_if_ne C 91 dX4_write_78 (by decide) (fun q9 => ?_) (fun q9 => ?_)
        · replace h := ite_n q9 h
          refine V_aload_n C 0 dX4_write_91 rfl ?_
          refine V_iload C 5 dX4_write_92 rfl ?_
          refine V_iload_n C 2 dX4_write_94 rfl ?_
          obtain ⟨z5, hz5, h⟩ := bP_t h
          refine V_callV C (st := [.int x6, .ref (ad x4)]) (st' := [.int z5, .int x6, .ref (ad x4)]) (mX4_map l x6 x2 M hz5) wmX4_map lkX4_238 dX4_write_95 (wo_0 T3 ad _) rfl rfl rfl rfl rfl rfl ⟨rfl, rfl, (Nat.le_of_ble_eq_true rfl), (Nat.le_of_ble_eq_true rfl)⟩ ⟨Nat.zero_le _, Nat.zero_le _⟩ (Nat.le_of_ble_eq_true rfl) ?_
          exact vX4_write_98 C (fX4_write_51 n) ih x1 x2 x4 gx4 x5 x6 x6 z5 M h
        · replace h := ite_p q9 h
          refine V_aload_n C 0 dX4_write_81 rfl ?_
          refine V_iload C 5 dX4_write_82 rfl ?_
          refine V_iload_n C 2 dX4_write_84 rfl ?_
          obtain ⟨z8, hz8, h⟩ := bP_t h
          refine V_callV C (st := [.int x6, .ref (ad x4)]) (st' := [.int z8, .int x6, .ref (ad x4)]) (mX4_deep l x6 x2 M hz8) wmX4_deep lkX4_102 dX4_write_85 (wo_0 T3 ad _) rfl rfl rfl rfl rfl rfl ⟨rfl, rfl, (Nat.le_of_ble_eq_true rfl), (Nat.le_of_ble_eq_true rfl)⟩ ⟨Nat.zero_le _, Nat.zero_le _⟩ (Nat.le_of_ble_eq_true rfl) ?_
          refine V_goto C 98 dX4_write_88 (by decide) ?_
          exact vX4_write_98 C (fX4_write_51 n) ih x1 x2 x4 gx4 x5 x6 x6 z8 M h
set_option maxHeartbeats 4000000 in
set_option maxRecDepth 100000 in
theorem mX4_write (l : Launch) (x1 : Int32) (x2 : Int32) (x3 : Int32) (M : Mem) {r : Int32} {M9 : Mem} (h : fX4_write x1 x2 x3 M = some (r, M9)) : MC l yX4_write cX4_write 7 (some .int) rmX4_write (fun ad sd => [.ref (ad 0), .int x1, .int x2, .int x3]) M (fun _ => some (.int r)) M9 := by
  refine MC_start (by decide) (fun ad sd => [(0, .ref (ad 0)), (1, .int x1), (2, .int x2), (3, .int x3)]) (fun _ _ => rfl) (fun _ _ => Nat.le_of_ble_eq_true rfl) ?_
  intro p e s m args below meth c D T3 ad sd A C
  unfold fX4_write at h
  refine V_aload_n C 0 dX4_write_0 rfl ?_
  refine V_iload_n C 3 dX4_write_1 rfl ?_
  obtain ⟨z1, hz1, h⟩ := bP_t h
  refine V_callV C (st := []) (st' := [nr ad z1]) (mX4_sheetAt l x3 M hz1) wmX4_sheetAt lkX4_159 dX4_write_2 (wo_0 T3 ad _) rfl rfl rfl rfl rfl rfl ⟨rfl, rfl, (Nat.le_of_ble_eq_true rfl), (Nat.le_of_ble_eq_true rfl)⟩ ⟨Nat.zero_le _, Nat.zero_le _⟩ (Nat.le_of_ble_eq_true rfl) ?_
  refine V_astoreq C [(4, nr ad z1), (0, .ref (ad 0)), (1, .int x1), (2, .int x2), (3, .int x3)] dX4_write_5 (by decide) (by cases z1 <;> rfl) ?_
  refine V_iload_n C 2 dX4_write_7 rfl ?_
  refine V_if_lt C 28 dX4_write_8 (by decide) (fun q17 => ?_) (fun q17 => ?_)
  · replace h := ite_p q17 h
    refine V_bipush C (-2 : Int32) dX4_write_28 (by decide) ?_
    obtain ⟨rfl, rfl⟩ := ret_W h
    exact V_iret C dX4_write_30
  · replace h := ite_n q17 h
    refine V_iload_n C 2 dX4_write_11 rfl ?_
    refine V_iconst C (1 : Int32) dX4_write_12 (by decide) ?_
    refine V_icmp_gt C 28 dX4_write_13 (by decide) (fun q16 => ?_) (fun q16 => ?_)
    · replace h := ite_p q16 h
      refine V_bipush C (-2 : Int32) dX4_write_28 (by decide) ?_
      obtain ⟨rfl, rfl⟩ := ret_W h
      exact V_iret C dX4_write_30
    · replace h := ite_n q16 h
      refine V_iload_n C 3 dX4_write_16 rfl ?_
      refine V_callS C (st := []) (st' := [.int (b2i (fX4_isNight x2))]) (mX4_isNight l x2 M rfl) wmX4_isNight lkX4_75 dX4_write_17 rfl rfl rfl ⟨rfl, rfl, (Nat.le_of_ble_eq_true rfl), (Nat.le_of_ble_eq_true rfl)⟩ ⟨Nat.zero_le _, Nat.zero_le _⟩ (Nat.le_of_ble_eq_true rfl) ?_
      refine V_ifB_eq C 28 dX4_write_20 (by decide) (fun q15 => ?_) (fun q15 => ?_)
      · replace h := ite_n q15 h
        refine V_bipush C (-2 : Int32) dX4_write_28 (by decide) ?_
        obtain ⟨rfl, rfl⟩ := ret_W h
        exact V_iret C dX4_write_30
      · replace h := ite_p q15 h
        refine V_aloadq C 0 dX4_write_23 rfl ?_
        refine V_ifnonnullq C 31 dX4_write_25 (by decide) (fun o2 e4 => ?_) (fun e4 => ?_)
        · subst e4
          replace h := qm_s rfl h
          obtain ⟨g3, h⟩ := gd_t h
          refine V_aload C 0 dX4_write_31 rfl ?_
          refine V_callV C (st := []) (st' := [.int (b2i (fX2_isLost M o2))]) (mX2_isLost l o2 g3 M rfl) wmX2_isLost lkX4_163 dX4_write_33 (wS_get g3 T3 ad _) rfl rfl rfl rfl rfl rfl ⟨rfl, rfl, (Nat.le_of_ble_eq_true rfl), (Nat.le_of_ble_eq_true rfl)⟩ ⟨Nat.zero_le _, Nat.zero_le _⟩ (Nat.le_of_ble_eq_true rfl) ?_
          refine V_ifB_eq C 45 dX4_write_36 (by decide) (fun q14 => ?_) (fun q14 => ?_)
          · replace h := ite_n q14 h
            refine V_iconst C (0 : Int32) dX4_write_45 (by decide) ?_
            refine V_istore C [(5, .int (0 : Int32)), (4, .ref (ad o2)), (0, .ref (ad 0)), (1, .int x1), (2, .int x2), (3, .int x3)] dX4_write_46 (by decide) rfl ?_
            refine V_iconst C (0 : Int32) dX4_write_48 (by decide) ?_
            refine V_istore C [(6, .int (0 : Int32)), (5, .int (0 : Int32)), (4, .ref (ad o2)), (0, .ref (ad 0)), (1, .int x1), (2, .int x2), (3, .int x3)] dX4_write_49 (by decide) rfl ?_
            refine V_sub (lv' := [(0, .ref (ad 0)), (1, .int x1), (2, .int x2), (4, .ref (ad o2)), (5, .int (0 : Int32)), (6, .int (0 : Int32))]) [3, 4, 5, 2, 1, 0] rfl ?_
            exact vX4_write_51 C 1000 x1 x2 o2 g3 (0 : Int32) (0 : Int32) M h
          · replace h := ite_p q14 h
            refine V_aload_n C 1 dX4_write_39 rfl ?_
            refine V_iconst C (1 : Int32) dX4_write_40 (by decide) ?_
            obtain ⟨z12, M13, hz12, h⟩ := bW_t h
            refine V_callV C (st := []) (st' := [.int z12]) (mX4_found l (1 : Int32) M hz12) wmX4_found lkX4_166 dX4_write_41 (wo_0 T3 ad _) rfl rfl rfl rfl rfl rfl ⟨rfl, rfl, (Nat.le_of_ble_eq_true rfl), (Nat.le_of_ble_eq_true rfl)⟩ ⟨Nat.zero_le _, Nat.zero_le _⟩ (Nat.le_of_ble_eq_true rfl) ?_
            obtain ⟨rfl, rfl⟩ := ret_W h
            exact V_iret C dX4_write_44
        · subst e4
          replace h := qm_n rfl h
          refine V_bipush C (-2 : Int32) dX4_write_28 (by decide) ?_
          obtain ⟨rfl, rfl⟩ := ret_W h
          exact V_iret C dX4_write_30
abbrev rmX4_allRows : Room := { frames := 3, cells := 0, slots := 0, locals := 72 }
def fX4_allRows (M : Mem) : Option (Int32 × Mem) := bW (fX0_fill 24 (0 : Int32) false M) fun z1 M2 => bW (fX1_tally 24 (0 : Int32) M2) fun z3 M4 => some (z3, M4)
set_option maxHeartbeats 4000000 in
set_option maxRecDepth 100000 in
theorem mX4_allRows (l : Launch) (M : Mem) {r : Int32} {M9 : Mem} (h : fX4_allRows M = some (r, M9)) : MC l yX4_allRows cX4_allRows 1 (some .int) rmX4_allRows (fun ad sd => [.ref (ad 0)]) M (fun _ => some (.int r)) M9 := by
  refine MC_start (by decide) (fun ad sd => [(0, .ref (ad 0))]) (fun _ _ => rfl) (fun _ _ => Nat.le_of_ble_eq_true rfl) ?_
  intro p e s m args below meth c D T3 ad sd A C
  unfold fX4_allRows at h
  refine V_aload_n C 0 dX4_allRows_0 rfl ?_
  refine V_get C 0 dX4_allRows_1 (wo_0 T3 ad _) rfl inKX4 (by decide) flX4_10 rfl rfl ?_
  refine V_aload_n C 0 dX4_allRows_4 rfl ?_
  refine V_get C 4 dX4_allRows_5 (wo_0 T3 ad _) rfl inKX4 (by decide) flX4_37 rfl rfl ?_
  refine V_iconst C (0 : Int32) dX4_allRows_8 (by decide) ?_
  refine V_iconst C (0 : Int32) dX4_allRows_9 (by decide) ?_
  obtain ⟨z1, M2, hz1, h⟩ := bW_t h
  refine V_callV C (st := []) (st' := []) (mX0_fill l 24 rfl (0 : Int32) false M hz1) wmX0_fill lkX4_109 dX4_allRows_10 (wo_1 T3 ad _) rfl rfl rfl rfl rfl rfl ⟨rfl, rfl, (Nat.le_of_ble_eq_true rfl), (Nat.le_of_ble_eq_true rfl)⟩ ⟨Nat.zero_le _, Nat.zero_le _⟩ (Nat.le_of_ble_eq_true rfl) ?_
  refine V_aload_n C 0 dX4_allRows_13 rfl ?_
  refine V_get C 2 dX4_allRows_14 (wo_0 T3 ad _) rfl inKX4 (by decide) flX4_26 rfl rfl ?_
  refine V_aload_n C 0 dX4_allRows_17 rfl ?_
  refine V_get C 0 dX4_allRows_18 (wo_0 T3 ad _) rfl inKX4 (by decide) flX4_10 rfl rfl ?_
  refine V_aload_n C 0 dX4_allRows_21 rfl ?_
  refine V_get C 4 dX4_allRows_22 (wo_0 T3 ad _) rfl inKX4 (by decide) flX4_37 rfl rfl ?_
  refine V_iconst C (0 : Int32) dX4_allRows_25 (by decide) ?_
  obtain ⟨z3, M4, hz3, h⟩ := bW_t h
  refine V_callV C (st := []) (st' := [.int z3]) (mX1_tally l 24 rfl (0 : Int32) M2 hz3) wmX1_tally lkX4_113 dX4_allRows_26 (wo_11 T3 ad _) rfl rfl rfl rfl rfl rfl ⟨rfl, rfl, (Nat.le_of_ble_eq_true rfl), (Nat.le_of_ble_eq_true rfl)⟩ ⟨Nat.zero_le _, Nat.zero_le _⟩ (Nat.le_of_ble_eq_true rfl) ?_
  obtain ⟨rfl, rfl⟩ := ret_W h
  exact V_iret C dX4_allRows_29
abbrev rmX4_count : Room := { frames := 4, cells := 0, slots := 0, locals := 92 }
def fX4_count (x1 : Int32) (M : Mem) : Option (Int32 × Mem) := if x1 = 0 then some ((M 1 3), M) else if x1 = 1 then some ((M 1 1), M) else if x1 = 2 then some ((M 1 7), M) else if x1 = 3 then some ((M 6 4), M) else if x1 = 4 then some ((M 0 6), M) else if x1 = 5 then bP (fX0_toldTogether M) fun z13 => some (z13, M) else if x1 = 6 then bP (fX0_jumping M) fun z12 => some (z12, M) else if x1 = 7 then bW (fX4_allRows M) fun z10 M11 => some (z10, M11) else if x1 = 8 then some ((M 0 7), M) else some ((-2 : Int32), M)
set_option maxHeartbeats 4000000 in
set_option maxRecDepth 100000 in
theorem mX4_count (l : Launch) (x1 : Int32) (M : Mem) {r : Int32} {M9 : Mem} (h : fX4_count x1 M = some (r, M9)) : MC l yX4_count cX4_count 2 (some .int) rmX4_count (fun ad sd => [.ref (ad 0), .int x1]) M (fun _ => some (.int r)) M9 := by
  refine MC_start (by decide) (fun ad sd => [(0, .ref (ad 0)), (1, .int x1)]) (fun _ _ => rfl) (fun _ _ => Nat.le_of_ble_eq_true rfl) ?_
  intro p e s m args below meth c D T3 ad sd A C
  unfold fX4_count at h
  refine V_iload_n C 1 dX4_count_0 rfl ?_
  by_cases q1 : x1 = 0
  · replace h := ite_p q1 h
    refine V_tblI C 52 dX4_count_1 (by rw [q1]; decide) (by rw [q1]; decide) (by rw [q1]; rfl) (by decide) ?_
    refine V_aload_n C 0 dX4_count_52 rfl ?_
    refine V_get C 0 dX4_count_53 (wo_0 T3 ad _) rfl inKX4 (by decide) flX4_10 rfl rfl ?_
    refine V_getN C 3 dX4_count_56 (wo_1 T3 ad _) rfl inKX0 (by decide) flX4_62 rfl rfl ?_
    obtain ⟨rfl, rfl⟩ := ret_W h
    exact V_iret C dX4_count_59
  · replace h := ite_n q1 h
    by_cases q2 : x1 = 1
    · replace h := ite_p q2 h
      refine V_tblI C 60 dX4_count_1 (by rw [q2]; decide) (by rw [q2]; decide) (by rw [q2]; rfl) (by decide) ?_
      refine V_aload_n C 0 dX4_count_60 rfl ?_
      refine V_get C 0 dX4_count_61 (wo_0 T3 ad _) rfl inKX4 (by decide) flX4_10 rfl rfl ?_
      refine V_getN C 1 dX4_count_64 (wo_1 T3 ad _) rfl inKX0 (by decide) flX4_55 rfl rfl ?_
      obtain ⟨rfl, rfl⟩ := ret_W h
      exact V_iret C dX4_count_67
    · replace h := ite_n q2 h
      by_cases q3 : x1 = 2
      · replace h := ite_p q3 h
        refine V_tblI C 68 dX4_count_1 (by rw [q3]; decide) (by rw [q3]; decide) (by rw [q3]; rfl) (by decide) ?_
        refine V_aload_n C 0 dX4_count_68 rfl ?_
        refine V_get C 0 dX4_count_69 (wo_0 T3 ad _) rfl inKX4 (by decide) flX4_10 rfl rfl ?_
        refine V_getN C 7 dX4_count_72 (wo_1 T3 ad _) rfl inKX0 (by decide) flX4_81 rfl rfl ?_
        obtain ⟨rfl, rfl⟩ := ret_W h
        exact V_iret C dX4_count_75
      · replace h := ite_n q3 h
        by_cases q4 : x1 = 3
        · replace h := ite_p q4 h
          refine V_tblI C 76 dX4_count_1 (by rw [q4]; decide) (by rw [q4]; decide) (by rw [q4]; rfl) (by decide) ?_
          refine V_aload_n C 0 dX4_count_76 rfl ?_
          refine V_get C 1 dX4_count_77 (wo_0 T3 ad _) rfl inKX4 (by decide) flX4_19 rfl rfl ?_
          refine V_getN C 4 dX4_count_80 (wo_6 T3 ad _) rfl inKX3 (by decide) flX4_153 rfl rfl ?_
          obtain ⟨rfl, rfl⟩ := ret_W h
          exact V_iret C dX4_count_83
        · replace h := ite_n q4 h
          by_cases q5 : x1 = 4
          · replace h := ite_p q5 h
            refine V_tblI C 84 dX4_count_1 (by rw [q5]; decide) (by rw [q5]; decide) (by rw [q5]; rfl) (by decide) ?_
            refine V_aload_n C 0 dX4_count_84 rfl ?_
            refine V_get C 6 dX4_count_85 (wo_0 T3 ad _) rfl inKX4 (by decide) flX4_44 rfl rfl ?_
            obtain ⟨rfl, rfl⟩ := ret_W h
            exact V_iret C dX4_count_88
          · replace h := ite_n q5 h
            by_cases q6 : x1 = 5
            · replace h := ite_p q6 h
              refine V_tblI C 89 dX4_count_1 (by rw [q6]; decide) (by rw [q6]; decide) (by rw [q6]; rfl) (by decide) ?_
              refine V_aload_n C 0 dX4_count_89 rfl ?_
              refine V_get C 0 dX4_count_90 (wo_0 T3 ad _) rfl inKX4 (by decide) flX4_10 rfl rfl ?_
              obtain ⟨z13, hz13, h⟩ := bP_t h
              refine V_callV C (st := []) (st' := [.int z13]) (mX0_toldTogether l M hz13) wmX0_toldTogether lkX4_241 dX4_count_93 (wo_1 T3 ad _) rfl rfl rfl rfl rfl rfl ⟨rfl, rfl, (Nat.le_of_ble_eq_true rfl), (Nat.le_of_ble_eq_true rfl)⟩ ⟨Nat.zero_le _, Nat.zero_le _⟩ (Nat.le_of_ble_eq_true rfl) ?_
              obtain ⟨rfl, rfl⟩ := ret_W h
              exact V_iret C dX4_count_96
            · replace h := ite_n q6 h
              by_cases q7 : x1 = 6
              · replace h := ite_p q7 h
                refine V_tblI C 97 dX4_count_1 (by rw [q7]; decide) (by rw [q7]; decide) (by rw [q7]; rfl) (by decide) ?_
                refine V_aload_n C 0 dX4_count_97 rfl ?_
                refine V_get C 0 dX4_count_98 (wo_0 T3 ad _) rfl inKX4 (by decide) flX4_10 rfl rfl ?_
                obtain ⟨z12, hz12, h⟩ := bP_t h
                refine V_callV C (st := []) (st' := [.int z12]) (mX0_jumping l M hz12) wmX0_jumping lkX4_245 dX4_count_101 (wo_1 T3 ad _) rfl rfl rfl rfl rfl rfl ⟨rfl, rfl, (Nat.le_of_ble_eq_true rfl), (Nat.le_of_ble_eq_true rfl)⟩ ⟨Nat.zero_le _, Nat.zero_le _⟩ (Nat.le_of_ble_eq_true rfl) ?_
                obtain ⟨rfl, rfl⟩ := ret_W h
                exact V_iret C dX4_count_104
              · replace h := ite_n q7 h
                by_cases q8 : x1 = 7
                · replace h := ite_p q8 h
                  refine V_tblI C 105 dX4_count_1 (by rw [q8]; decide) (by rw [q8]; decide) (by rw [q8]; rfl) (by decide) ?_
                  refine V_aload_n C 0 dX4_count_105 rfl ?_
                  obtain ⟨z10, M11, hz10, h⟩ := bW_t h
                  refine V_callV C (st := []) (st' := [.int z10]) (mX4_allRows l M hz10) wmX4_allRows lkX4_248 dX4_count_106 (wo_0 T3 ad _) rfl rfl rfl rfl rfl rfl ⟨rfl, rfl, (Nat.le_of_ble_eq_true rfl), (Nat.le_of_ble_eq_true rfl)⟩ ⟨Nat.zero_le _, Nat.zero_le _⟩ (Nat.le_of_ble_eq_true rfl) ?_
                  obtain ⟨rfl, rfl⟩ := ret_W h
                  exact V_iret C dX4_count_109
                · replace h := ite_n q8 h
                  by_cases q9 : x1 = 8
                  · replace h := ite_p q9 h
                    refine V_tblI C 110 dX4_count_1 (by rw [q9]; decide) (by rw [q9]; decide) (by rw [q9]; rfl) (by decide) ?_
                    refine V_aload_n C 0 dX4_count_110 rfl ?_
                    refine V_get C 7 dX4_count_111 (wo_0 T3 ad _) rfl inKX4 (by decide) flX4_48 rfl rfl ?_
                    obtain ⟨rfl, rfl⟩ := ret_W h
                    exact V_iret C dX4_count_114
                  · replace h := ite_n q9 h
                    refine V_tblO C 115 dX4_count_1 (tbl_out (fun k h1 h2 => by
                      rcases (show k = 0 ∨ k = 1 ∨ k = 2 ∨ k = 3 ∨ k = 4 ∨ k = 5 ∨ k = 6 ∨ k = 7 ∨ k = 8 by omega) with rfl | rfl | rfl | rfl | rfl | rfl | rfl | rfl | rfl
                      · exact q1
                      · exact q2
                      · exact q3
                      · exact q4
                      · exact q5
                      · exact q6
                      · exact q7
                      · exact q8
                      · exact q9
                      )) (by decide) ?_
                    refine V_bipush C (-2 : Int32) dX4_count_115 (by decide) ?_
                    obtain ⟨rfl, rfl⟩ := ret_W h
                    exact V_iret C dX4_count_117
abbrev rmX4_mix : Room := { frames := 0, cells := 0, slots := 0, locals := 0 }
def fX4_mix (x0 : Int64) (x2 : Int32) : Int64 := (((31 : Int64) * x0) + (Int32.toInt64 x2))
set_option maxHeartbeats 4000000 in
set_option maxRecDepth 100000 in
theorem mX4_mix (l : Launch) (x0 : Int64) (x2 : Int32) (M : Mem) {r : Int64} (h : fX4_mix x0 x2 = r) : MC l yX4_mix cX4_mix 3 (some .long) rmX4_mix (fun ad sd => [.long x0, .int x2]) M (fun _ => some (.long r)) M := by
  refine MC_start (by decide) (fun ad sd => [(0, .long x0), (2, .int x2)]) (fun _ _ => rfl) (fun _ _ => Nat.le_of_ble_eq_true rfl) ?_
  intro p e s m args below meth c D T3 ad sd A C
  unfold fX4_mix at h
  refine V_ldc2 C dX4_mix_0 kcX4_324 ?_
  refine V_lload_n C 0 dX4_mix_3 rfl ?_
  refine V_lmul C dX4_mix_4 ?_
  refine V_iload_n C 1 dX4_mix_5 rfl ?_
  refine V_i2l C dX4_mix_6 ?_
  refine V_ladd C dX4_mix_7 ?_
  subst h
  exact V_lret C dX4_mix_8
abbrev rmX4_digestChannel : Room := { frames := 5, cells := 0, slots := 0, locals := 128 }
def fX4_digestChannel_6 : Nat → Int32 → Int64 → Int32 → Mem → Option (Int64 × Mem)
  | 0, _, _, _, _ => none
  | n + 1, x3, x4, x6, M => if (5 : Int32) ≤ x6 then bP (fX4_deep M x3 (7 : Int32)) fun z1 => bP (fX4_map M x3 (7 : Int32)) fun z2 => bP (fX4_laws M x3 (-1 : Int32)) fun z3 => lt ((fX4_mix (fX4_mix (fX4_mix x4 z1) z2) z3)) fun y4 => bP (fX4_laws M x3 (0 : Int32)) fun z5 => bP (fX4_next M x3 (9 : Int32)) fun z6 => bW (fX4_tells x3 (3 : Int32) M) fun z7 M8 => some ((fX4_mix (fX4_mix (fX4_mix y4 z5) z6) z7), M8) else bP (fX4_channel M x3 x6) fun z9 => fX4_digestChannel_6 n x3 (fX4_mix x4 z9) (x6 + 1) M
def fX4_digestChannel (x1 : Int64) (x3 : Int32) (M : Mem) : Option (Int64 × Mem) := fX4_digestChannel_6 1000 x3 x1 (0 : Int32) M
set_option maxHeartbeats 4000000 in
set_option maxRecDepth 100000 in
theorem vX4_digestChannel_6 {p : Program} {l : Launch} {e : Env} {s : State} {m : MethodId} {args : Array Value} {below : List Frame} {meth : Method} {c : Code} {D : va_G} {T3 : ClassId × ClassId × ClassId} {ad sd : Nat → Nat} {A : Nat → Prop}  (C : CX p s m args meth c cX4_digestChannel 7 RX4 (some .long) D T3 ad sd A) {r : Int64} {M9 : Mem} : ∀ (n : Nat) (x3 : Int32) (x4 : Int64) (x6 : Int32) (M : Mem), fX4_digestChannel_6 n x3 x4 x6 M = some (r, M9) → VV p l e rmX4_digestChannel s m args below meth c D T3 ad A 7 0 0 (QM below D T3 ad A args s (fun _ => some (.long r)) M9) M [(0, .ref (ad 0)), (3, .int x3), (4, .long x4), (6, .int x6)] 6 [] := by
  intro n
  induction n with
  | zero => intro x3 x4 x6 M h; exact nomatch (show (none : Option (Int64 × Mem)) = some _ from h)
  | succ n ih =>
    intro x3 x4 x6 M h
    rw [fX4_digestChannel_6] at h
    refine V_iload C 3 dX4_digestChannel_6 rfl ?_
    refine V_iconst C (5 : Int32) dX4_digestChannel_8 (by decide) ?_
    refine V_icmp_ge C 32 dX4_digestChannel_9 (by decide) (fun q10 => ?_) (fun q10 => ?_)
    · replace h := ite_p q10 h
      refine V_lload C 2 dX4_digestChannel_32 rfl ?_
      refine V_aload_n C 0 dX4_digestChannel_34 rfl ?_
      refine V_iload_n C 1 dX4_digestChannel_35 rfl ?_
      refine V_bipush C (7 : Int32) dX4_digestChannel_36 (by decide) ?_
      obtain ⟨z1, hz1, h⟩ := bP_t h
      refine V_callV C (st := [.long x4]) (st' := [.int z1, .long x4]) (mX4_deep l x3 (7 : Int32) M hz1) wmX4_deep lkX4_102 dX4_digestChannel_38 (wo_0 T3 ad _) rfl rfl rfl rfl rfl rfl ⟨rfl, rfl, (Nat.le_of_ble_eq_true rfl), (Nat.le_of_ble_eq_true rfl)⟩ ⟨Nat.zero_le _, Nat.zero_le _⟩ (Nat.le_of_ble_eq_true rfl) ?_
      refine V_callS C (st := []) (st' := [.long (fX4_mix x4 z1)]) (mX4_mix l x4 z1 M rfl) wmX4_mix lkX4_256 dX4_digestChannel_41 rfl rfl rfl ⟨rfl, rfl, (Nat.le_of_ble_eq_true rfl), (Nat.le_of_ble_eq_true rfl)⟩ ⟨Nat.zero_le _, Nat.zero_le _⟩ (Nat.le_of_ble_eq_true rfl) ?_
      refine V_lstore C [(4, .long (fX4_mix x4 z1)), (0, .ref (ad 0)), (3, .int x3), (6, .int x6)] dX4_digestChannel_44 (by decide) rfl ?_
      refine V_lload C 0 dX4_digestChannel_46 rfl ?_
      refine V_aload_n C 1 dX4_digestChannel_48 rfl ?_
      refine V_iload_n C 2 dX4_digestChannel_49 rfl ?_
      refine V_bipush C (7 : Int32) dX4_digestChannel_50 (by decide) ?_
      obtain ⟨z2, hz2, h⟩ := bP_t h
      refine V_callV C (st := [.long (fX4_mix x4 z1)]) (st' := [.int z2, .long (fX4_mix x4 z1)]) (mX4_map l x3 (7 : Int32) M hz2) wmX4_map lkX4_238 dX4_digestChannel_52 (wo_0 T3 ad _) rfl rfl rfl rfl rfl rfl ⟨rfl, rfl, (Nat.le_of_ble_eq_true rfl), (Nat.le_of_ble_eq_true rfl)⟩ ⟨Nat.zero_le _, Nat.zero_le _⟩ (Nat.le_of_ble_eq_true rfl) ?_
      refine V_callS C (st := []) (st' := [.long (fX4_mix (fX4_mix x4 z1) z2)]) (mX4_mix l (fX4_mix x4 z1) z2 M rfl) wmX4_mix lkX4_256 dX4_digestChannel_55 rfl rfl rfl ⟨rfl, rfl, (Nat.le_of_ble_eq_true rfl), (Nat.le_of_ble_eq_true rfl)⟩ ⟨Nat.zero_le _, Nat.zero_le _⟩ (Nat.le_of_ble_eq_true rfl) ?_
      refine V_lstore C [(4, .long (fX4_mix (fX4_mix x4 z1) z2)), (0, .ref (ad 0)), (3, .int x3), (6, .int x6)] dX4_digestChannel_58 (by decide) rfl ?_
      refine V_lload C 0 dX4_digestChannel_60 rfl ?_
      refine V_aload_n C 1 dX4_digestChannel_62 rfl ?_
      refine V_iload_n C 2 dX4_digestChannel_63 rfl ?_
      refine V_iconst C (-1 : Int32) dX4_digestChannel_64 (by decide) ?_
      obtain ⟨z3, hz3, h⟩ := bP_t h
      refine V_callV C (st := [.long (fX4_mix (fX4_mix x4 z1) z2)]) (st' := [.int z3, .long (fX4_mix (fX4_mix x4 z1) z2)]) (mX4_laws l x3 (-1 : Int32) M hz3) wmX4_laws lkX4_288 dX4_digestChannel_65 (wo_0 T3 ad _) rfl rfl rfl rfl rfl rfl ⟨rfl, rfl, (Nat.le_of_ble_eq_true rfl), (Nat.le_of_ble_eq_true rfl)⟩ ⟨Nat.zero_le _, Nat.zero_le _⟩ (Nat.le_of_ble_eq_true rfl) ?_
      refine V_callS C (st := []) (st' := [.long (fX4_mix (fX4_mix (fX4_mix x4 z1) z2) z3)]) (mX4_mix l (fX4_mix (fX4_mix x4 z1) z2) z3 M rfl) wmX4_mix lkX4_256 dX4_digestChannel_68 rfl rfl rfl ⟨rfl, rfl, (Nat.le_of_ble_eq_true rfl), (Nat.le_of_ble_eq_true rfl)⟩ ⟨Nat.zero_le _, Nat.zero_le _⟩ (Nat.le_of_ble_eq_true rfl) ?_
      obtain ⟨y4, hy4, h⟩ := lt_t h
      refine V_topl C hy4 ?_
      refine V_lstore C [(4, .long y4), (0, .ref (ad 0)), (3, .int x3), (6, .int x6)] dX4_digestChannel_71 (by decide) rfl ?_
      refine V_lload C 0 dX4_digestChannel_73 rfl ?_
      refine V_aload_n C 1 dX4_digestChannel_75 rfl ?_
      refine V_iload_n C 2 dX4_digestChannel_76 rfl ?_
      refine V_iconst C (0 : Int32) dX4_digestChannel_77 (by decide) ?_
      obtain ⟨z5, hz5, h⟩ := bP_t h
      refine V_callV C (st := [.long y4]) (st' := [.int z5, .long y4]) (mX4_laws l x3 (0 : Int32) M hz5) wmX4_laws lkX4_288 dX4_digestChannel_78 (wo_0 T3 ad _) rfl rfl rfl rfl rfl rfl ⟨rfl, rfl, (Nat.le_of_ble_eq_true rfl), (Nat.le_of_ble_eq_true rfl)⟩ ⟨Nat.zero_le _, Nat.zero_le _⟩ (Nat.le_of_ble_eq_true rfl) ?_
      refine V_callS C (st := []) (st' := [.long (fX4_mix y4 z5)]) (mX4_mix l y4 z5 M rfl) wmX4_mix lkX4_256 dX4_digestChannel_81 rfl rfl rfl ⟨rfl, rfl, (Nat.le_of_ble_eq_true rfl), (Nat.le_of_ble_eq_true rfl)⟩ ⟨Nat.zero_le _, Nat.zero_le _⟩ (Nat.le_of_ble_eq_true rfl) ?_
      refine V_lstore C [(4, .long (fX4_mix y4 z5)), (0, .ref (ad 0)), (3, .int x3), (6, .int x6)] dX4_digestChannel_84 (by decide) rfl ?_
      refine V_lload C 0 dX4_digestChannel_86 rfl ?_
      refine V_aload_n C 1 dX4_digestChannel_88 rfl ?_
      refine V_iload_n C 2 dX4_digestChannel_89 rfl ?_
      refine V_bipush C (9 : Int32) dX4_digestChannel_90 (by decide) ?_
      obtain ⟨z6, hz6, h⟩ := bP_t h
      refine V_callV C (st := [.long (fX4_mix y4 z5)]) (st' := [.int z6, .long (fX4_mix y4 z5)]) (mX4_next l x3 (9 : Int32) M hz6) wmX4_next lkX4_291 dX4_digestChannel_92 (wo_0 T3 ad _) rfl rfl rfl rfl rfl rfl ⟨rfl, rfl, (Nat.le_of_ble_eq_true rfl), (Nat.le_of_ble_eq_true rfl)⟩ ⟨Nat.zero_le _, Nat.zero_le _⟩ (Nat.le_of_ble_eq_true rfl) ?_
      refine V_callS C (st := []) (st' := [.long (fX4_mix (fX4_mix y4 z5) z6)]) (mX4_mix l (fX4_mix y4 z5) z6 M rfl) wmX4_mix lkX4_256 dX4_digestChannel_95 rfl rfl rfl ⟨rfl, rfl, (Nat.le_of_ble_eq_true rfl), (Nat.le_of_ble_eq_true rfl)⟩ ⟨Nat.zero_le _, Nat.zero_le _⟩ (Nat.le_of_ble_eq_true rfl) ?_
      refine V_lstore C [(4, .long (fX4_mix (fX4_mix y4 z5) z6)), (0, .ref (ad 0)), (3, .int x3), (6, .int x6)] dX4_digestChannel_98 (by decide) rfl ?_
      refine V_lload C 0 dX4_digestChannel_100 rfl ?_
      refine V_aload_n C 1 dX4_digestChannel_102 rfl ?_
      refine V_iload_n C 2 dX4_digestChannel_103 rfl ?_
      refine V_iconst C (3 : Int32) dX4_digestChannel_104 (by decide) ?_
      obtain ⟨z7, M8, hz7, h⟩ := bW_t h
      refine V_callV C (st := [.long (fX4_mix (fX4_mix y4 z5) z6)]) (st' := [.int z7, .long (fX4_mix (fX4_mix y4 z5) z6)]) (mX4_tells l x3 (3 : Int32) M hz7) wmX4_tells lkX4_294 dX4_digestChannel_105 (wo_0 T3 ad _) rfl rfl rfl rfl rfl rfl ⟨rfl, rfl, (Nat.le_of_ble_eq_true rfl), (Nat.le_of_ble_eq_true rfl)⟩ ⟨Nat.zero_le _, Nat.zero_le _⟩ (Nat.le_of_ble_eq_true rfl) ?_
      refine V_callS C (st := []) (st' := [.long (fX4_mix (fX4_mix (fX4_mix y4 z5) z6) z7)]) (mX4_mix l (fX4_mix (fX4_mix y4 z5) z6) z7 M8 rfl) wmX4_mix lkX4_256 dX4_digestChannel_108 rfl rfl rfl ⟨rfl, rfl, (Nat.le_of_ble_eq_true rfl), (Nat.le_of_ble_eq_true rfl)⟩ ⟨Nat.zero_le _, Nat.zero_le _⟩ (Nat.le_of_ble_eq_true rfl) ?_
      obtain ⟨rfl, rfl⟩ := ret_W h
      exact V_lret C dX4_digestChannel_111
    · replace h := ite_n q10 h
      refine V_lload C 2 dX4_digestChannel_12 rfl ?_
      refine V_aload_n C 0 dX4_digestChannel_14 rfl ?_
      refine V_iload_n C 1 dX4_digestChannel_15 rfl ?_
      refine V_iload C 3 dX4_digestChannel_16 rfl ?_
      obtain ⟨z9, hz9, h⟩ := bP_t h
      refine V_callV C (st := [.long x4]) (st' := [.int z9, .long x4]) (mX4_channel l x3 x6 M hz9) wmX4_channel lkX4_285 dX4_digestChannel_18 (wo_0 T3 ad _) rfl rfl rfl rfl rfl rfl ⟨rfl, rfl, (Nat.le_of_ble_eq_true rfl), (Nat.le_of_ble_eq_true rfl)⟩ ⟨Nat.zero_le _, Nat.zero_le _⟩ (Nat.le_of_ble_eq_true rfl) ?_
      refine V_callS C (st := []) (st' := [.long (fX4_mix x4 z9)]) (mX4_mix l x4 z9 M rfl) wmX4_mix lkX4_256 dX4_digestChannel_21 rfl rfl rfl ⟨rfl, rfl, (Nat.le_of_ble_eq_true rfl), (Nat.le_of_ble_eq_true rfl)⟩ ⟨Nat.zero_le _, Nat.zero_le _⟩ (Nat.le_of_ble_eq_true rfl) ?_
      refine V_lstore C [(4, .long (fX4_mix x4 z9)), (0, .ref (ad 0)), (3, .int x3), (6, .int x6)] dX4_digestChannel_24 (by decide) rfl ?_
      refine V_iinc C 3 (x6 + 1) [(6, .int (x6 + 1)), (4, .long (fX4_mix x4 z9)), (0, .ref (ad 0)), (3, .int x3)] dX4_digestChannel_26 rfl rfl (by decide) rfl ?_
      refine V_goto C 6 dX4_digestChannel_29 (by decide) ?_
      refine V_sub (lv' := [(0, .ref (ad 0)), (3, .int x3), (4, .long (fX4_mix x4 z9)), (6, .int (x6 + 1))]) [2, 3, 1, 0] rfl ?_
      exact ih x3 (fX4_mix x4 z9) (x6 + 1) M h
set_option maxHeartbeats 4000000 in
set_option maxRecDepth 100000 in
theorem mX4_digestChannel (l : Launch) (x1 : Int64) (x3 : Int32) (M : Mem) {r : Int64} {M9 : Mem} (h : fX4_digestChannel x1 x3 M = some (r, M9)) : MC l yX4_digestChannel cX4_digestChannel 7 (some .long) rmX4_digestChannel (fun ad sd => [.ref (ad 0), .long x1, .int x3]) M (fun _ => some (.long r)) M9 := by
  refine MC_start (by decide) (fun ad sd => [(0, .ref (ad 0)), (1, .long x1), (3, .int x3)]) (fun _ _ => rfl) (fun _ _ => Nat.le_of_ble_eq_true rfl) ?_
  intro p e s m args below meth c D T3 ad sd A C
  unfold fX4_digestChannel at h
  refine V_lload_n C 1 dX4_digestChannel_0 rfl ?_
  refine V_lstore C [(4, .long x1), (0, .ref (ad 0)), (1, .long x1), (3, .int x3)] dX4_digestChannel_1 (by decide) rfl ?_
  refine V_iconst C (0 : Int32) dX4_digestChannel_3 (by decide) ?_
  refine V_istore C [(6, .int (0 : Int32)), (4, .long x1), (0, .ref (ad 0)), (1, .long x1), (3, .int x3)] dX4_digestChannel_4 (by decide) rfl ?_
  refine V_sub (lv' := [(0, .ref (ad 0)), (3, .int x3), (4, .long x1), (6, .int (0 : Int32))]) [2, 4, 1, 0] rfl ?_
  exact vX4_digestChannel_6 C 1000 x3 x1 (0 : Int32) M h
abbrev rmX4_digestNight : Room := { frames := 5, cells := 0, slots := 0, locals := 121 }
def fX4_digestNight_159 (kk24 : Int32 → Int64 → Int32 → Mem → Option (Int64 × Mem)) : Nat → Int32 → Int64 → Int32 → Int32 → Int32 → Mem → Option (Int64 × Mem)
  | 0, _, _, _, _, _, _ => none
  | n + 1, x3, x4, x8, x9, x10, M => if 0 < x10 then bW (fX4_worth x9 x3 M) fun z23 M24 => kk24 x3 (fX4_mix x4 z23) (x8 + 1) M24 else bW (fX4_safest x9 x3 x10 M) fun z25 M26 => fX4_digestNight_159 kk24 n x3 (fX4_mix x4 z25) x8 x9 (x10 + 1) M26
def fX4_digestNight_24 : Nat → Int32 → Int64 → Int32 → Mem → Option (Int64 × Mem)
  | 0, _, _, _, _ => none
  | n + 1, x3, x4, x8, M => if (2 : Int32) ≤ x8 then some (x4, M) else gd (inb x8 2) (bW (fX4_ways (tabD (x8).toNatClampNeg) x3 (-1 : Int32) M) fun z4 M5 => bW (fX4_ways (tabD (x8).toNatClampNeg) x3 (0 : Int32) M5) fun z6 M7 => bW (fX4_waits (tabD (x8).toNatClampNeg) x3 M7) fun z8 M9 => lt ((fX4_mix (fX4_mix (fX4_mix x4 z4) z6) z8)) fun y10 => bW (fX4_byMap (tabD (x8).toNatClampNeg) x3 M9) fun z11 M12 => bW (fX4_byChange (tabD (x8).toNatClampNeg) x3 M12) fun z13 M14 => lt ((fX4_mix (fX4_mix y10 z11) z13)) fun y15 => bW (fX4_through (tabD (x8).toNatClampNeg) x3 (0 : Int32) M14) fun z16 M17 => bW (fX4_through (tabD (x8).toNatClampNeg) x3 (1 : Int32) M17) fun z18 M19 => lt ((fX4_mix (fX4_mix y15 z16) z18)) fun y20 => bW (fX4_sure (tabD (x8).toNatClampNeg) x3 (0 : Int32) M19) fun z21 M22 => fX4_digestNight_159 (fX4_digestNight_24 n) 1000 x3 (fX4_mix y20 z21) x8 (tabD (x8).toNatClampNeg) (-2 : Int32) M22)
def fX4_digestNight (x1 : Int64) (x3 : Int32) (M : Mem) : Option (Int64 × Mem) := bW (fX4_draft x3 M) fun z1 M2 => fX4_digestNight_24 1000 x3 (fX4_mix x1 z1) (0 : Int32) M2
set_option maxHeartbeats 4000000 in
set_option maxRecDepth 100000 in
theorem vX4_digestNight_159 {p : Program} {l : Launch} {e : Env} {s : State} {m : MethodId} {args : Array Value} {below : List Frame} {meth : Method} {c : Code} {D : va_G} {T3 : ClassId × ClassId × ClassId} {ad sd : Nat → Nat} {A : Nat → Prop}  (C : CX p s m args meth c cX4_digestNight 11 RX4 (some .long) D T3 ad sd A) {r : Int64} {M9 : Mem} (kk24 : Int32 → Int64 → Int32 → Mem → Option (Int64 × Mem)) (hk24 : ∀ (x3 : Int32) (x4 : Int64) (x8 : Int32) (M : Mem), kk24 x3 x4 x8 M = some (r, M9) → VV p l e rmX4_digestNight s m args below meth c D T3 ad A 11 0 0 (QM below D T3 ad A args s (fun _ => some (.long r)) M9) M [(0, .ref (ad 0)), (3, .int x3), (4, .long x4), (6, .ref (sd 3)), (7, .int (2 : Int32)), (8, .int x8)] 24 []) : ∀ (n : Nat) (x3 : Int32) (x4 : Int64) (x8 : Int32) (x9 : Int32) (x10 : Int32) (M : Mem), fX4_digestNight_159 kk24 n x3 x4 x8 x9 x10 M = some (r, M9) → VV p l e rmX4_digestNight s m args below meth c D T3 ad A 11 0 0 (QM below D T3 ad A args s (fun _ => some (.long r)) M9) M [(0, .ref (ad 0)), (3, .int x3), (4, .long x4), (6, .ref (sd 3)), (7, .int (2 : Int32)), (8, .int x8), (9, .int x9), (10, .int x10)] 159 [] := by
  intro n
  induction n with
  | zero => intro x3 x4 x8 x9 x10 M h; exact nomatch (show (none : Option (Int64 × Mem)) = some _ from h)
  | succ n ih =>
    intro x3 x4 x8 x9 x10 M h
    rw [fX4_digestNight_159] at h
    refine V_iload C 7 dX4_digestNight_159 rfl ?_
    refine V_if_gt C 186 dX4_digestNight_161 (by decide) (fun q27 => ?_) (fun q27 => ?_)
    · replace h := ite_p q27 h
      refine V_lload C 2 dX4_digestNight_186 rfl ?_
      refine V_aload_n C 0 dX4_digestNight_188 rfl ?_
      refine V_iload C 6 dX4_digestNight_189 rfl ?_
      refine V_iload_n C 1 dX4_digestNight_191 rfl ?_
      obtain ⟨z23, M24, hz23, h⟩ := bW_t h
      refine V_callV C (st := [.long x4]) (st' := [.int z23, .long x4]) (mX4_worth l x9 x3 M hz23) wmX4_worth lkX4_321 dX4_digestNight_192 (wo_0 T3 ad _) rfl rfl rfl rfl rfl rfl ⟨rfl, rfl, (Nat.le_of_ble_eq_true rfl), (Nat.le_of_ble_eq_true rfl)⟩ ⟨Nat.zero_le _, Nat.zero_le _⟩ (Nat.le_of_ble_eq_true rfl) ?_
      refine V_callS C (st := []) (st' := [.long (fX4_mix x4 z23)]) (mX4_mix l x4 z23 M24 rfl) wmX4_mix lkX4_256 dX4_digestNight_195 rfl rfl rfl ⟨rfl, rfl, (Nat.le_of_ble_eq_true rfl), (Nat.le_of_ble_eq_true rfl)⟩ ⟨Nat.zero_le _, Nat.zero_le _⟩ (Nat.le_of_ble_eq_true rfl) ?_
      refine V_lstore C [(4, .long (fX4_mix x4 z23)), (0, .ref (ad 0)), (3, .int x3), (6, .ref (sd 3)), (7, .int (2 : Int32)), (8, .int x8), (9, .int x9), (10, .int x10)] dX4_digestNight_198 (by decide) rfl ?_
      refine V_iinc C 5 (x8 + 1) [(8, .int (x8 + 1)), (4, .long (fX4_mix x4 z23)), (0, .ref (ad 0)), (3, .int x3), (6, .ref (sd 3)), (7, .int (2 : Int32)), (9, .int x9), (10, .int x10)] dX4_digestNight_200 rfl rfl (by decide) rfl ?_
      refine V_goto C 24 dX4_digestNight_203 (by decide) ?_
      refine V_sub (lv' := [(0, .ref (ad 0)), (3, .int x3), (4, .long (fX4_mix x4 z23)), (6, .ref (sd 3)), (7, .int (2 : Int32)), (8, .int (x8 + 1))]) [2, 3, 1, 4, 5, 0] rfl ?_
      exact hk24 x3 (fX4_mix x4 z23) (x8 + 1) M24 h
    · replace h := ite_n q27 h
      refine V_lload C 2 dX4_digestNight_164 rfl ?_
      refine V_aload_n C 0 dX4_digestNight_166 rfl ?_
      refine V_iload C 6 dX4_digestNight_167 rfl ?_
      refine V_iload_n C 1 dX4_digestNight_169 rfl ?_
      refine V_iload C 7 dX4_digestNight_170 rfl ?_
      obtain ⟨z25, M26, hz25, h⟩ := bW_t h
      refine V_callV C (st := [.long x4]) (st' := [.int z25, .long x4]) (mX4_safest l x9 x3 x10 M hz25) wmX4_safest lkX4_318 dX4_digestNight_172 (wo_0 T3 ad _) rfl rfl rfl rfl rfl rfl ⟨rfl, rfl, (Nat.le_of_ble_eq_true rfl), (Nat.le_of_ble_eq_true rfl)⟩ ⟨Nat.zero_le _, Nat.zero_le _⟩ (Nat.le_of_ble_eq_true rfl) ?_
      refine V_callS C (st := []) (st' := [.long (fX4_mix x4 z25)]) (mX4_mix l x4 z25 M26 rfl) wmX4_mix lkX4_256 dX4_digestNight_175 rfl rfl rfl ⟨rfl, rfl, (Nat.le_of_ble_eq_true rfl), (Nat.le_of_ble_eq_true rfl)⟩ ⟨Nat.zero_le _, Nat.zero_le _⟩ (Nat.le_of_ble_eq_true rfl) ?_
      refine V_lstore C [(4, .long (fX4_mix x4 z25)), (0, .ref (ad 0)), (3, .int x3), (6, .ref (sd 3)), (7, .int (2 : Int32)), (8, .int x8), (9, .int x9), (10, .int x10)] dX4_digestNight_178 (by decide) rfl ?_
      refine V_iinc C 7 (x10 + 1) [(10, .int (x10 + 1)), (4, .long (fX4_mix x4 z25)), (0, .ref (ad 0)), (3, .int x3), (6, .ref (sd 3)), (7, .int (2 : Int32)), (8, .int x8), (9, .int x9)] dX4_digestNight_180 rfl rfl (by decide) rfl ?_
      refine V_goto C 159 dX4_digestNight_183 (by decide) ?_
      refine V_sub (lv' := [(0, .ref (ad 0)), (3, .int x3), (4, .long (fX4_mix x4 z25)), (6, .ref (sd 3)), (7, .int (2 : Int32)), (8, .int x8), (9, .int x9), (10, .int (x10 + 1))]) [2, 3, 1, 4, 5, 6, 7, 0] rfl ?_
      exact ih x3 (fX4_mix x4 z25) x8 x9 (x10 + 1) M26 h
set_option maxHeartbeats 4000000 in
set_option maxRecDepth 100000 in
theorem vX4_digestNight_24 {p : Program} {l : Launch} {e : Env} {s : State} {m : MethodId} {args : Array Value} {below : List Frame} {meth : Method} {c : Code} {D : va_G} {T3 : ClassId × ClassId × ClassId} {ad sd : Nat → Nat} {A : Nat → Prop}  (C : CX p s m args meth c cX4_digestNight 11 RX4 (some .long) D T3 ad sd A) {r : Int64} {M9 : Mem} : ∀ (n : Nat) (x3 : Int32) (x4 : Int64) (x8 : Int32) (M : Mem), fX4_digestNight_24 n x3 x4 x8 M = some (r, M9) → VV p l e rmX4_digestNight s m args below meth c D T3 ad A 11 0 0 (QM below D T3 ad A args s (fun _ => some (.long r)) M9) M [(0, .ref (ad 0)), (3, .int x3), (4, .long x4), (6, .ref (sd 3)), (7, .int (2 : Int32)), (8, .int x8)] 24 [] := by
  intro n
  induction n with
  | zero => intro x3 x4 x8 M h; exact nomatch (show (none : Option (Int64 × Mem)) = some _ from h)
  | succ n ih =>
    intro x3 x4 x8 M h
    rw [fX4_digestNight_24] at h
    refine V_iload C 5 dX4_digestNight_24 rfl ?_
    refine V_iload C 4 dX4_digestNight_26 rfl ?_
    refine V_icmp_ge C 206 dX4_digestNight_28 (by decide) (fun q28 => ?_) (fun q28 => ?_)
    · replace h := ite_p q28 h
      refine V_lload C 2 dX4_digestNight_206 rfl ?_
      obtain ⟨rfl, rfl⟩ := ret_W h
      exact V_lret C dX4_digestNight_208
    · replace h := ite_n q28 h
      refine V_aload C 3 dX4_digestNight_31 rfl ?_
      refine V_iload C 5 dX4_digestNight_33 rfl ?_
      obtain ⟨g3, h⟩ := gd_t h
      refine V_tald_D C (inb_in g3) dX4_digestNight_35 ?_
      refine V_istore C [(9, .int (tabD (x8).toNatClampNeg)), (0, .ref (ad 0)), (3, .int x3), (4, .long x4), (6, .ref (sd 3)), (7, .int (2 : Int32)), (8, .int x8)] dX4_digestNight_36 (by decide) rfl ?_
      refine V_lload C 3 dX4_digestNight_38 rfl ?_
      refine V_aload_n C 1 dX4_digestNight_40 rfl ?_
      refine V_iload C 0 dX4_digestNight_41 rfl ?_
      refine V_iload_n C 2 dX4_digestNight_43 rfl ?_
      refine V_iconst C (-1 : Int32) dX4_digestNight_44 (by decide) ?_
      obtain ⟨z4, M5, hz4, h⟩ := bW_t h
      refine V_callV C (st := [.long x4]) (st' := [.int z4, .long x4]) (mX4_ways l (tabD (x8).toNatClampNeg) x3 (-1 : Int32) M hz4) wmX4_ways lkX4_300 dX4_digestNight_45 (wo_0 T3 ad _) rfl rfl rfl rfl rfl rfl ⟨rfl, rfl, (Nat.le_of_ble_eq_true rfl), (Nat.le_of_ble_eq_true rfl)⟩ ⟨Nat.zero_le _, Nat.zero_le _⟩ (Nat.le_of_ble_eq_true rfl) ?_
      refine V_callS C (st := []) (st' := [.long (fX4_mix x4 z4)]) (mX4_mix l x4 z4 M5 rfl) wmX4_mix lkX4_256 dX4_digestNight_48 rfl rfl rfl ⟨rfl, rfl, (Nat.le_of_ble_eq_true rfl), (Nat.le_of_ble_eq_true rfl)⟩ ⟨Nat.zero_le _, Nat.zero_le _⟩ (Nat.le_of_ble_eq_true rfl) ?_
      refine V_lstore C [(4, .long (fX4_mix x4 z4)), (9, .int (tabD (x8).toNatClampNeg)), (0, .ref (ad 0)), (3, .int x3), (6, .ref (sd 3)), (7, .int (2 : Int32)), (8, .int x8)] dX4_digestNight_51 (by decide) rfl ?_
      refine V_lload C 0 dX4_digestNight_53 rfl ?_
      refine V_aload_n C 2 dX4_digestNight_55 rfl ?_
      refine V_iload C 1 dX4_digestNight_56 rfl ?_
      refine V_iload_n C 3 dX4_digestNight_58 rfl ?_
      refine V_iconst C (0 : Int32) dX4_digestNight_59 (by decide) ?_
      obtain ⟨z6, M7, hz6, h⟩ := bW_t h
      refine V_callV C (st := [.long (fX4_mix x4 z4)]) (st' := [.int z6, .long (fX4_mix x4 z4)]) (mX4_ways l (tabD (x8).toNatClampNeg) x3 (0 : Int32) M5 hz6) wmX4_ways lkX4_300 dX4_digestNight_60 (wo_0 T3 ad _) rfl rfl rfl rfl rfl rfl ⟨rfl, rfl, (Nat.le_of_ble_eq_true rfl), (Nat.le_of_ble_eq_true rfl)⟩ ⟨Nat.zero_le _, Nat.zero_le _⟩ (Nat.le_of_ble_eq_true rfl) ?_
      refine V_callS C (st := []) (st' := [.long (fX4_mix (fX4_mix x4 z4) z6)]) (mX4_mix l (fX4_mix x4 z4) z6 M7 rfl) wmX4_mix lkX4_256 dX4_digestNight_63 rfl rfl rfl ⟨rfl, rfl, (Nat.le_of_ble_eq_true rfl), (Nat.le_of_ble_eq_true rfl)⟩ ⟨Nat.zero_le _, Nat.zero_le _⟩ (Nat.le_of_ble_eq_true rfl) ?_
      refine V_lstore C [(4, .long (fX4_mix (fX4_mix x4 z4) z6)), (9, .int (tabD (x8).toNatClampNeg)), (0, .ref (ad 0)), (3, .int x3), (6, .ref (sd 3)), (7, .int (2 : Int32)), (8, .int x8)] dX4_digestNight_66 (by decide) rfl ?_
      refine V_lload C 0 dX4_digestNight_68 rfl ?_
      refine V_aload_n C 2 dX4_digestNight_70 rfl ?_
      refine V_iload C 1 dX4_digestNight_71 rfl ?_
      refine V_iload_n C 3 dX4_digestNight_73 rfl ?_
      obtain ⟨z8, M9, hz8, h⟩ := bW_t h
      refine V_callV C (st := [.long (fX4_mix (fX4_mix x4 z4) z6)]) (st' := [.int z8, .long (fX4_mix (fX4_mix x4 z4) z6)]) (mX4_waits l (tabD (x8).toNatClampNeg) x3 M7 hz8) wmX4_waits lkX4_303 dX4_digestNight_74 (wo_0 T3 ad _) rfl rfl rfl rfl rfl rfl ⟨rfl, rfl, (Nat.le_of_ble_eq_true rfl), (Nat.le_of_ble_eq_true rfl)⟩ ⟨Nat.zero_le _, Nat.zero_le _⟩ (Nat.le_of_ble_eq_true rfl) ?_
      refine V_callS C (st := []) (st' := [.long (fX4_mix (fX4_mix (fX4_mix x4 z4) z6) z8)]) (mX4_mix l (fX4_mix (fX4_mix x4 z4) z6) z8 M9 rfl) wmX4_mix lkX4_256 dX4_digestNight_77 rfl rfl rfl ⟨rfl, rfl, (Nat.le_of_ble_eq_true rfl), (Nat.le_of_ble_eq_true rfl)⟩ ⟨Nat.zero_le _, Nat.zero_le _⟩ (Nat.le_of_ble_eq_true rfl) ?_
      obtain ⟨y10, hy10, h⟩ := lt_t h
      refine V_topl C hy10 ?_
      refine V_lstore C [(4, .long y10), (9, .int (tabD (x8).toNatClampNeg)), (0, .ref (ad 0)), (3, .int x3), (6, .ref (sd 3)), (7, .int (2 : Int32)), (8, .int x8)] dX4_digestNight_80 (by decide) rfl ?_
      refine V_lload C 0 dX4_digestNight_82 rfl ?_
      refine V_aload_n C 2 dX4_digestNight_84 rfl ?_
      refine V_iload C 1 dX4_digestNight_85 rfl ?_
      refine V_iload_n C 3 dX4_digestNight_87 rfl ?_
      obtain ⟨z11, M12, hz11, h⟩ := bW_t h
      refine V_callV C (st := [.long y10]) (st' := [.int z11, .long y10]) (mX4_byMap l (tabD (x8).toNatClampNeg) x3 M9 hz11) wmX4_byMap lkX4_306 dX4_digestNight_88 (wo_0 T3 ad _) rfl rfl rfl rfl rfl rfl ⟨rfl, rfl, (Nat.le_of_ble_eq_true rfl), (Nat.le_of_ble_eq_true rfl)⟩ ⟨Nat.zero_le _, Nat.zero_le _⟩ (Nat.le_of_ble_eq_true rfl) ?_
      refine V_callS C (st := []) (st' := [.long (fX4_mix y10 z11)]) (mX4_mix l y10 z11 M12 rfl) wmX4_mix lkX4_256 dX4_digestNight_91 rfl rfl rfl ⟨rfl, rfl, (Nat.le_of_ble_eq_true rfl), (Nat.le_of_ble_eq_true rfl)⟩ ⟨Nat.zero_le _, Nat.zero_le _⟩ (Nat.le_of_ble_eq_true rfl) ?_
      refine V_lstore C [(4, .long (fX4_mix y10 z11)), (9, .int (tabD (x8).toNatClampNeg)), (0, .ref (ad 0)), (3, .int x3), (6, .ref (sd 3)), (7, .int (2 : Int32)), (8, .int x8)] dX4_digestNight_94 (by decide) rfl ?_
      refine V_lload C 0 dX4_digestNight_96 rfl ?_
      refine V_aload_n C 2 dX4_digestNight_98 rfl ?_
      refine V_iload C 1 dX4_digestNight_99 rfl ?_
      refine V_iload_n C 3 dX4_digestNight_101 rfl ?_
      obtain ⟨z13, M14, hz13, h⟩ := bW_t h
      refine V_callV C (st := [.long (fX4_mix y10 z11)]) (st' := [.int z13, .long (fX4_mix y10 z11)]) (mX4_byChange l (tabD (x8).toNatClampNeg) x3 M12 hz13) wmX4_byChange lkX4_309 dX4_digestNight_102 (wo_0 T3 ad _) rfl rfl rfl rfl rfl rfl ⟨rfl, rfl, (Nat.le_of_ble_eq_true rfl), (Nat.le_of_ble_eq_true rfl)⟩ ⟨Nat.zero_le _, Nat.zero_le _⟩ (Nat.le_of_ble_eq_true rfl) ?_
      refine V_callS C (st := []) (st' := [.long (fX4_mix (fX4_mix y10 z11) z13)]) (mX4_mix l (fX4_mix y10 z11) z13 M14 rfl) wmX4_mix lkX4_256 dX4_digestNight_105 rfl rfl rfl ⟨rfl, rfl, (Nat.le_of_ble_eq_true rfl), (Nat.le_of_ble_eq_true rfl)⟩ ⟨Nat.zero_le _, Nat.zero_le _⟩ (Nat.le_of_ble_eq_true rfl) ?_
      obtain ⟨y15, hy15, h⟩ := lt_t h
      refine V_topl C hy15 ?_
      refine V_lstore C [(4, .long y15), (9, .int (tabD (x8).toNatClampNeg)), (0, .ref (ad 0)), (3, .int x3), (6, .ref (sd 3)), (7, .int (2 : Int32)), (8, .int x8)] dX4_digestNight_108 (by decide) rfl ?_
      refine V_lload C 0 dX4_digestNight_110 rfl ?_
      refine V_aload_n C 2 dX4_digestNight_112 rfl ?_
      refine V_iload C 1 dX4_digestNight_113 rfl ?_
      refine V_iload_n C 3 dX4_digestNight_115 rfl ?_
      refine V_iconst C (0 : Int32) dX4_digestNight_116 (by decide) ?_
      obtain ⟨z16, M17, hz16, h⟩ := bW_t h
      refine V_callV C (st := [.long y15]) (st' := [.int z16, .long y15]) (mX4_through l (tabD (x8).toNatClampNeg) x3 (0 : Int32) M14 hz16) wmX4_through lkX4_312 dX4_digestNight_117 (wo_0 T3 ad _) rfl rfl rfl rfl rfl rfl ⟨rfl, rfl, (Nat.le_of_ble_eq_true rfl), (Nat.le_of_ble_eq_true rfl)⟩ ⟨Nat.zero_le _, Nat.zero_le _⟩ (Nat.le_of_ble_eq_true rfl) ?_
      refine V_callS C (st := []) (st' := [.long (fX4_mix y15 z16)]) (mX4_mix l y15 z16 M17 rfl) wmX4_mix lkX4_256 dX4_digestNight_120 rfl rfl rfl ⟨rfl, rfl, (Nat.le_of_ble_eq_true rfl), (Nat.le_of_ble_eq_true rfl)⟩ ⟨Nat.zero_le _, Nat.zero_le _⟩ (Nat.le_of_ble_eq_true rfl) ?_
      refine V_lstore C [(4, .long (fX4_mix y15 z16)), (9, .int (tabD (x8).toNatClampNeg)), (0, .ref (ad 0)), (3, .int x3), (6, .ref (sd 3)), (7, .int (2 : Int32)), (8, .int x8)] dX4_digestNight_123 (by decide) rfl ?_
      refine V_lload C 0 dX4_digestNight_125 rfl ?_
      refine V_aload_n C 2 dX4_digestNight_127 rfl ?_
      refine V_iload C 1 dX4_digestNight_128 rfl ?_
      refine V_iload_n C 3 dX4_digestNight_130 rfl ?_
      refine V_iconst C (1 : Int32) dX4_digestNight_131 (by decide) ?_
      obtain ⟨z18, M19, hz18, h⟩ := bW_t h
      refine V_callV C (st := [.long (fX4_mix y15 z16)]) (st' := [.int z18, .long (fX4_mix y15 z16)]) (mX4_through l (tabD (x8).toNatClampNeg) x3 (1 : Int32) M17 hz18) wmX4_through lkX4_312 dX4_digestNight_132 (wo_0 T3 ad _) rfl rfl rfl rfl rfl rfl ⟨rfl, rfl, (Nat.le_of_ble_eq_true rfl), (Nat.le_of_ble_eq_true rfl)⟩ ⟨Nat.zero_le _, Nat.zero_le _⟩ (Nat.le_of_ble_eq_true rfl) ?_
      refine V_callS C (st := []) (st' := [.long (fX4_mix (fX4_mix y15 z16) z18)]) (mX4_mix l (fX4_mix y15 z16) z18 M19 rfl) wmX4_mix lkX4_256 dX4_digestNight_135 rfl rfl rfl ⟨rfl, rfl, (Nat.le_of_ble_eq_true rfl), (Nat.le_of_ble_eq_true rfl)⟩ ⟨Nat.zero_le _, Nat.zero_le _⟩ (Nat.le_of_ble_eq_true rfl) ?_
      obtain ⟨y20, hy20, h⟩ := lt_t h
      refine V_topl C hy20 ?_
      refine V_lstore C [(4, .long y20), (9, .int (tabD (x8).toNatClampNeg)), (0, .ref (ad 0)), (3, .int x3), (6, .ref (sd 3)), (7, .int (2 : Int32)), (8, .int x8)] dX4_digestNight_138 (by decide) rfl ?_
      refine V_lload C 0 dX4_digestNight_140 rfl ?_
      refine V_aload_n C 2 dX4_digestNight_142 rfl ?_
      refine V_iload C 1 dX4_digestNight_143 rfl ?_
      refine V_iload_n C 3 dX4_digestNight_145 rfl ?_
      refine V_iconst C (0 : Int32) dX4_digestNight_146 (by decide) ?_
      obtain ⟨z21, M22, hz21, h⟩ := bW_t h
      refine V_callV C (st := [.long y20]) (st' := [.int z21, .long y20]) (mX4_sure l (tabD (x8).toNatClampNeg) x3 (0 : Int32) M19 hz21) wmX4_sure lkX4_315 dX4_digestNight_147 (wo_0 T3 ad _) rfl rfl rfl rfl rfl rfl ⟨rfl, rfl, (Nat.le_of_ble_eq_true rfl), (Nat.le_of_ble_eq_true rfl)⟩ ⟨Nat.zero_le _, Nat.zero_le _⟩ (Nat.le_of_ble_eq_true rfl) ?_
      refine V_callS C (st := []) (st' := [.long (fX4_mix y20 z21)]) (mX4_mix l y20 z21 M22 rfl) wmX4_mix lkX4_256 dX4_digestNight_150 rfl rfl rfl ⟨rfl, rfl, (Nat.le_of_ble_eq_true rfl), (Nat.le_of_ble_eq_true rfl)⟩ ⟨Nat.zero_le _, Nat.zero_le _⟩ (Nat.le_of_ble_eq_true rfl) ?_
      refine V_lstore C [(4, .long (fX4_mix y20 z21)), (9, .int (tabD (x8).toNatClampNeg)), (0, .ref (ad 0)), (3, .int x3), (6, .ref (sd 3)), (7, .int (2 : Int32)), (8, .int x8)] dX4_digestNight_153 (by decide) rfl ?_
      refine V_bipush C (-2 : Int32) dX4_digestNight_155 (by decide) ?_
      refine V_istore C [(10, .int (-2 : Int32)), (4, .long (fX4_mix y20 z21)), (9, .int (tabD (x8).toNatClampNeg)), (0, .ref (ad 0)), (3, .int x3), (6, .ref (sd 3)), (7, .int (2 : Int32)), (8, .int x8)] dX4_digestNight_157 (by decide) rfl ?_
      refine V_sub (lv' := [(0, .ref (ad 0)), (3, .int x3), (4, .long (fX4_mix y20 z21)), (6, .ref (sd 3)), (7, .int (2 : Int32)), (8, .int x8), (9, .int (tabD (x8).toNatClampNeg)), (10, .int (-2 : Int32))]) [3, 4, 1, 5, 6, 7, 2, 0] rfl ?_
      exact vX4_digestNight_159 C (fX4_digestNight_24 n) ih 1000 x3 (fX4_mix y20 z21) x8 (tabD (x8).toNatClampNeg) (-2 : Int32) M22 h
set_option maxHeartbeats 4000000 in
set_option maxRecDepth 100000 in
theorem mX4_digestNight (l : Launch) (x1 : Int64) (x3 : Int32) (M : Mem) {r : Int64} {M9 : Mem} (h : fX4_digestNight x1 x3 M = some (r, M9)) : MC l yX4_digestNight cX4_digestNight 11 (some .long) rmX4_digestNight (fun ad sd => [.ref (ad 0), .long x1, .int x3]) M (fun _ => some (.long r)) M9 := by
  refine MC_start (by decide) (fun ad sd => [(0, .ref (ad 0)), (1, .long x1), (3, .int x3)]) (fun _ _ => rfl) (fun _ _ => Nat.le_of_ble_eq_true rfl) ?_
  intro p e s m args below meth c D T3 ad sd A C
  unfold fX4_digestNight at h
  refine V_lload_n C 1 dX4_digestNight_0 rfl ?_
  refine V_aload_n C 0 dX4_digestNight_1 rfl ?_
  refine V_iload_n C 2 dX4_digestNight_2 rfl ?_
  obtain ⟨z1, M2, hz1, h⟩ := bW_t h
  refine V_callV C (st := [.long x1]) (st' := [.int z1, .long x1]) (mX4_draft l x3 M hz1) wmX4_draft lkX4_297 dX4_digestNight_3 (wo_0 T3 ad _) rfl rfl rfl rfl rfl rfl ⟨rfl, rfl, (Nat.le_of_ble_eq_true rfl), (Nat.le_of_ble_eq_true rfl)⟩ ⟨Nat.zero_le _, Nat.zero_le _⟩ (Nat.le_of_ble_eq_true rfl) ?_
  refine V_callS C (st := []) (st' := [.long (fX4_mix x1 z1)]) (mX4_mix l x1 z1 M2 rfl) wmX4_mix lkX4_256 dX4_digestNight_6 rfl rfl rfl ⟨rfl, rfl, (Nat.le_of_ble_eq_true rfl), (Nat.le_of_ble_eq_true rfl)⟩ ⟨Nat.zero_le _, Nat.zero_le _⟩ (Nat.le_of_ble_eq_true rfl) ?_
  refine V_lstore C [(4, .long (fX4_mix x1 z1)), (0, .ref (ad 0)), (1, .long x1), (3, .int x3)] dX4_digestNight_9 (by decide) rfl ?_
  refine V_gets_D C dX4_digestNight_11 flX4_272 ?_
  refine V_astore C [(6, .ref (sd 3)), (4, .long (fX4_mix x1 z1)), (0, .ref (ad 0)), (1, .long x1), (3, .int x3)] dX4_digestNight_14 (by decide) rfl ?_
  refine V_aload C 0 dX4_digestNight_16 rfl ?_
  refine V_tlen_D C dX4_digestNight_18 ?_
  refine V_istore C [(7, .int (2 : Int32)), (6, .ref (sd 3)), (4, .long (fX4_mix x1 z1)), (0, .ref (ad 0)), (1, .long x1), (3, .int x3)] dX4_digestNight_19 (by decide) rfl ?_
  refine V_iconst C (0 : Int32) dX4_digestNight_21 (by decide) ?_
  refine V_istore C [(8, .int (0 : Int32)), (7, .int (2 : Int32)), (6, .ref (sd 3)), (4, .long (fX4_mix x1 z1)), (0, .ref (ad 0)), (1, .long x1), (3, .int x3)] dX4_digestNight_22 (by decide) rfl ?_
  refine V_sub (lv' := [(0, .ref (ad 0)), (3, .int x3), (4, .long (fX4_mix x1 z1)), (6, .ref (sd 3)), (7, .int (2 : Int32)), (8, .int (0 : Int32))]) [4, 6, 3, 2, 1, 0] rfl ?_
  exact vX4_digestNight_24 C 1000 x3 (fX4_mix x1 z1) (0 : Int32) M2 h
abbrev rmX4_digest : Room := { frames := 6, cells := 0, slots := 0, locals := 154 }
def fX4_digest_112 : Nat → Int64 → Int32 → Mem → Option (Int64 × Mem)
  | 0, _, _, _ => none
  | n + 1, x1, x5, M => if (2 : Int32) ≤ x5 then some (x1, M) else gd (inb x5 2) (bW (fX4_saved (tabD (x5).toNatClampNeg) (0 : Int32) M) fun z2 M3 => bW (fX4_saved (tabD (x5).toNatClampNeg) (1 : Int32) M3) fun z4 M5 => bW (fX4_wreck (tabD (x5).toNatClampNeg) (1 : Int32) (9 : Int32) M5) fun z6 M7 => lt ((fX4_mix (fX4_mix (fX4_mix x1 z2) z4) z6)) fun y8 => bW (fX4_season (7 : Int32) (tabD (x5).toNatClampNeg) (3 : Int32) (20 : Int32) M7) fun z9 M10 => fX4_digest_112 n (fX4_mix y8 z9) (x5 + 1) M10)
def fX4_digest_74 : Nat → Int64 → Int32 → Mem → Option (Int64 × Mem)
  | 0, _, _, _ => none
  | n + 1, x1, x5, M => if (4 : Int32) ≤ x5 then fX4_digest_112 1000 x1 (0 : Int32) M else gd (inb x5 4) (bW (fX4_digestNight x1 (tabN (x5).toNatClampNeg) M) fun z13 M14 => fX4_digest_74 n z13 (x5 + 1) M14)
def fX4_digest_39 : Nat → Int64 → Int32 → Mem → Option (Int64 × Mem)
  | 0, _, _, _ => none
  | n + 1, x1, x3, M => if (M 1 3) ≤ x3 then fX4_digest_74 1000 x1 (0 : Int32) M else bW (fX4_digestChannel x1 x3 M) fun z16 M17 => fX4_digest_39 n z16 (x3 + 1) M17
def fX4_digest_6 : Nat → Int64 → Int32 → Mem → Option (Int64 × Mem)
  | 0, _, _, _ => none
  | n + 1, x1, x3, M => if (7 : Int32) < x3 then fX4_digest_39 1000 (fX4_mix x1 (fX4_fault M)) (0 : Int32) M else bW (fX4_count x3 M) fun z19 M20 => fX4_digest_6 n (fX4_mix x1 z19) (x3 + 1) M20
def fX4_digest (M : Mem) : Option (Int64 × Mem) := fX4_digest_6 1000 (17 : Int64) (0 : Int32) M
set_option maxHeartbeats 4000000 in
set_option maxRecDepth 100000 in
theorem vX4_digest_112 {p : Program} {l : Launch} {e : Env} {s : State} {m : MethodId} {args : Array Value} {below : List Frame} {meth : Method} {c : Code} {D : va_G} {T3 : ClassId × ClassId × ClassId} {ad sd : Nat → Nat} {A : Nat → Prop}  (C : CX p s m args meth c cX4_digest 7 RX4 (some .long) D T3 ad sd A) {r : Int64} {M9 : Mem} : ∀ (n : Nat) (x1 : Int64) (x5 : Int32) (M : Mem), fX4_digest_112 n x1 x5 M = some (r, M9) → VV p l e rmX4_digest s m args below meth c D T3 ad A 7 0 0 (QM below D T3 ad A args s (fun _ => some (.long r)) M9) M [(0, .ref (ad 0)), (1, .long x1), (3, .ref (sd 3)), (4, .int (2 : Int32)), (5, .int x5)] 112 [] := by
  intro n
  induction n with
  | zero => intro x1 x5 M h; exact nomatch (show (none : Option (Int64 × Mem)) = some _ from h)
  | succ n ih =>
    intro x1 x5 M h
    rw [fX4_digest_112] at h
    refine V_iload C 4 dX4_digest_112 rfl ?_
    refine V_iload C 3 dX4_digest_114 rfl ?_
    refine V_icmp_ge C 185 dX4_digest_116 (by decide) (fun q11 => ?_) (fun q11 => ?_)
    · replace h := ite_p q11 h
      refine V_lload_n C 1 dX4_digest_185 rfl ?_
      obtain ⟨rfl, rfl⟩ := ret_W h
      exact V_lret C dX4_digest_186
    · replace h := ite_n q11 h
      refine V_aload_n C 2 dX4_digest_119 rfl ?_
      refine V_iload C 4 dX4_digest_120 rfl ?_
      obtain ⟨g1, h⟩ := gd_t h
      refine V_tald_D C (inb_in g1) dX4_digest_122 ?_
      refine V_istore C [(6, .int (tabD (x5).toNatClampNeg)), (0, .ref (ad 0)), (1, .long x1), (3, .ref (sd 3)), (4, .int (2 : Int32)), (5, .int x5)] dX4_digest_123 (by decide) rfl ?_
      refine V_lload_n C 2 dX4_digest_125 rfl ?_
      refine V_aload_n C 1 dX4_digest_126 rfl ?_
      refine V_iload C 0 dX4_digest_127 rfl ?_
      refine V_iconst C (0 : Int32) dX4_digest_129 (by decide) ?_
      obtain ⟨z2, M3, hz2, h⟩ := bW_t h
      refine V_callV C (st := [.long x1]) (st' := [.int z2, .long x1]) (mX4_saved l (tabD (x5).toNatClampNeg) (0 : Int32) M hz2) wmX4_saved lkX4_275 dX4_digest_130 (wo_0 T3 ad _) rfl rfl rfl rfl rfl rfl ⟨rfl, rfl, (Nat.le_of_ble_eq_true rfl), (Nat.le_of_ble_eq_true rfl)⟩ ⟨Nat.zero_le _, Nat.zero_le _⟩ (Nat.le_of_ble_eq_true rfl) ?_
      refine V_callS C (st := []) (st' := [.long (fX4_mix x1 z2)]) (mX4_mix l x1 z2 M3 rfl) wmX4_mix lkX4_256 dX4_digest_133 rfl rfl rfl ⟨rfl, rfl, (Nat.le_of_ble_eq_true rfl), (Nat.le_of_ble_eq_true rfl)⟩ ⟨Nat.zero_le _, Nat.zero_le _⟩ (Nat.le_of_ble_eq_true rfl) ?_
      refine V_lstore_n C [(1, .long (fX4_mix x1 z2)), (6, .int (tabD (x5).toNatClampNeg)), (0, .ref (ad 0)), (3, .ref (sd 3)), (4, .int (2 : Int32)), (5, .int x5)] dX4_digest_136 rfl (by decide) rfl ?_
      refine V_lload_n C 0 dX4_digest_137 rfl ?_
      refine V_aload_n C 2 dX4_digest_138 rfl ?_
      refine V_iload C 1 dX4_digest_139 rfl ?_
      refine V_iconst C (1 : Int32) dX4_digest_141 (by decide) ?_
      obtain ⟨z4, M5, hz4, h⟩ := bW_t h
      refine V_callV C (st := [.long (fX4_mix x1 z2)]) (st' := [.int z4, .long (fX4_mix x1 z2)]) (mX4_saved l (tabD (x5).toNatClampNeg) (1 : Int32) M3 hz4) wmX4_saved lkX4_275 dX4_digest_142 (wo_0 T3 ad _) rfl rfl rfl rfl rfl rfl ⟨rfl, rfl, (Nat.le_of_ble_eq_true rfl), (Nat.le_of_ble_eq_true rfl)⟩ ⟨Nat.zero_le _, Nat.zero_le _⟩ (Nat.le_of_ble_eq_true rfl) ?_
      refine V_callS C (st := []) (st' := [.long (fX4_mix (fX4_mix x1 z2) z4)]) (mX4_mix l (fX4_mix x1 z2) z4 M5 rfl) wmX4_mix lkX4_256 dX4_digest_145 rfl rfl rfl ⟨rfl, rfl, (Nat.le_of_ble_eq_true rfl), (Nat.le_of_ble_eq_true rfl)⟩ ⟨Nat.zero_le _, Nat.zero_le _⟩ (Nat.le_of_ble_eq_true rfl) ?_
      refine V_lstore_n C [(1, .long (fX4_mix (fX4_mix x1 z2) z4)), (6, .int (tabD (x5).toNatClampNeg)), (0, .ref (ad 0)), (3, .ref (sd 3)), (4, .int (2 : Int32)), (5, .int x5)] dX4_digest_148 rfl (by decide) rfl ?_
      refine V_lload_n C 0 dX4_digest_149 rfl ?_
      refine V_aload_n C 2 dX4_digest_150 rfl ?_
      refine V_iload C 1 dX4_digest_151 rfl ?_
      refine V_iconst C (1 : Int32) dX4_digest_153 (by decide) ?_
      refine V_bipush C (9 : Int32) dX4_digest_154 (by decide) ?_
      obtain ⟨z6, M7, hz6, h⟩ := bW_t h
      refine V_callV C (st := [.long (fX4_mix (fX4_mix x1 z2) z4)]) (st' := [.int z6, .long (fX4_mix (fX4_mix x1 z2) z4)]) (mX4_wreck l (tabD (x5).toNatClampNeg) (1 : Int32) (9 : Int32) M5 hz6) wmX4_wreck lkX4_278 dX4_digest_156 (wo_0 T3 ad _) rfl rfl rfl rfl rfl rfl ⟨rfl, rfl, (Nat.le_of_ble_eq_true rfl), (Nat.le_of_ble_eq_true rfl)⟩ ⟨Nat.zero_le _, Nat.zero_le _⟩ (Nat.le_of_ble_eq_true rfl) ?_
      refine V_callS C (st := []) (st' := [.long (fX4_mix (fX4_mix (fX4_mix x1 z2) z4) z6)]) (mX4_mix l (fX4_mix (fX4_mix x1 z2) z4) z6 M7 rfl) wmX4_mix lkX4_256 dX4_digest_159 rfl rfl rfl ⟨rfl, rfl, (Nat.le_of_ble_eq_true rfl), (Nat.le_of_ble_eq_true rfl)⟩ ⟨Nat.zero_le _, Nat.zero_le _⟩ (Nat.le_of_ble_eq_true rfl) ?_
      obtain ⟨y8, hy8, h⟩ := lt_t h
      refine V_topl C hy8 ?_
      refine V_lstore_n C [(1, .long y8), (6, .int (tabD (x5).toNatClampNeg)), (0, .ref (ad 0)), (3, .ref (sd 3)), (4, .int (2 : Int32)), (5, .int x5)] dX4_digest_162 rfl (by decide) rfl ?_
      refine V_lload_n C 0 dX4_digest_163 rfl ?_
      refine V_aload_n C 2 dX4_digest_164 rfl ?_
      refine V_bipush C (7 : Int32) dX4_digest_165 (by decide) ?_
      refine V_iload C 1 dX4_digest_167 rfl ?_
      refine V_iconst C (3 : Int32) dX4_digest_169 (by decide) ?_
      refine V_bipush C (20 : Int32) dX4_digest_170 (by decide) ?_
      obtain ⟨z9, M10, hz9, h⟩ := bW_t h
      refine V_callV C (st := [.long y8]) (st' := [.int z9, .long y8]) (mX4_season l (7 : Int32) (tabD (x5).toNatClampNeg) (3 : Int32) (20 : Int32) M7 hz9) wmX4_season lkX4_281 dX4_digest_172 (wo_0 T3 ad _) rfl rfl rfl rfl rfl rfl ⟨rfl, rfl, (Nat.le_of_ble_eq_true rfl), (Nat.le_of_ble_eq_true rfl)⟩ ⟨Nat.zero_le _, Nat.zero_le _⟩ (Nat.le_of_ble_eq_true rfl) ?_
      refine V_callS C (st := []) (st' := [.long (fX4_mix y8 z9)]) (mX4_mix l y8 z9 M10 rfl) wmX4_mix lkX4_256 dX4_digest_175 rfl rfl rfl ⟨rfl, rfl, (Nat.le_of_ble_eq_true rfl), (Nat.le_of_ble_eq_true rfl)⟩ ⟨Nat.zero_le _, Nat.zero_le _⟩ (Nat.le_of_ble_eq_true rfl) ?_
      refine V_lstore_n C [(1, .long (fX4_mix y8 z9)), (6, .int (tabD (x5).toNatClampNeg)), (0, .ref (ad 0)), (3, .ref (sd 3)), (4, .int (2 : Int32)), (5, .int x5)] dX4_digest_178 rfl (by decide) rfl ?_
      refine V_iinc C 5 (x5 + 1) [(5, .int (x5 + 1)), (1, .long (fX4_mix y8 z9)), (6, .int (tabD (x5).toNatClampNeg)), (0, .ref (ad 0)), (3, .ref (sd 3)), (4, .int (2 : Int32))] dX4_digest_179 rfl rfl (by decide) rfl ?_
      refine V_goto C 112 dX4_digest_182 (by decide) ?_
      refine V_sub (lv' := [(0, .ref (ad 0)), (1, .long (fX4_mix y8 z9)), (3, .ref (sd 3)), (4, .int (2 : Int32)), (5, .int (x5 + 1))]) [3, 1, 4, 5, 0] rfl ?_
      exact ih (fX4_mix y8 z9) (x5 + 1) M10 h
set_option maxHeartbeats 4000000 in
set_option maxRecDepth 100000 in
theorem vX4_digest_74 {p : Program} {l : Launch} {e : Env} {s : State} {m : MethodId} {args : Array Value} {below : List Frame} {meth : Method} {c : Code} {D : va_G} {T3 : ClassId × ClassId × ClassId} {ad sd : Nat → Nat} {A : Nat → Prop}  (C : CX p s m args meth c cX4_digest 7 RX4 (some .long) D T3 ad sd A) {r : Int64} {M9 : Mem} : ∀ (n : Nat) (x1 : Int64) (x5 : Int32) (M : Mem), fX4_digest_74 n x1 x5 M = some (r, M9) → VV p l e rmX4_digest s m args below meth c D T3 ad A 7 0 0 (QM below D T3 ad A args s (fun _ => some (.long r)) M9) M [(0, .ref (ad 0)), (1, .long x1), (3, .ref (sd 2)), (4, .int (4 : Int32)), (5, .int x5)] 74 [] := by
  intro n
  induction n with
  | zero => intro x1 x5 M h; exact nomatch (show (none : Option (Int64 × Mem)) = some _ from h)
  | succ n ih =>
    intro x1 x5 M h
    rw [fX4_digest_74] at h
    refine V_iload C 4 dX4_digest_74 rfl ?_
    refine V_iload C 3 dX4_digest_76 rfl ?_
    refine V_icmp_ge C 101 dX4_digest_78 (by decide) (fun q15 => ?_) (fun q15 => ?_)
    · replace h := ite_p q15 h
      refine V_gets_D C dX4_digest_101 flX4_272 ?_
      refine V_astore_n C [(3, .ref (sd 3)), (0, .ref (ad 0)), (1, .long x1), (4, .int (4 : Int32)), (5, .int x5)] dX4_digest_104 rfl (by decide) rfl ?_
      refine V_aload_n C 0 dX4_digest_105 rfl ?_
      refine V_tlen_D C dX4_digest_106 ?_
      refine V_istore C [(4, .int (2 : Int32)), (3, .ref (sd 3)), (0, .ref (ad 0)), (1, .long x1), (5, .int x5)] dX4_digest_107 (by decide) rfl ?_
      refine V_iconst C (0 : Int32) dX4_digest_109 (by decide) ?_
      refine V_istore C [(5, .int (0 : Int32)), (4, .int (2 : Int32)), (3, .ref (sd 3)), (0, .ref (ad 0)), (1, .long x1)] dX4_digest_110 (by decide) rfl ?_
      refine V_sub (lv' := [(0, .ref (ad 0)), (1, .long x1), (3, .ref (sd 3)), (4, .int (2 : Int32)), (5, .int (0 : Int32))]) [3, 4, 2, 1, 0] rfl ?_
      exact vX4_digest_112 C 1000 x1 (0 : Int32) M h
    · replace h := ite_n q15 h
      refine V_aload_n C 2 dX4_digest_81 rfl ?_
      refine V_iload C 4 dX4_digest_82 rfl ?_
      obtain ⟨g12, h⟩ := gd_t h
      refine V_tald_N C (inb_in g12) dX4_digest_84 ?_
      refine V_istore C [(6, .int (tabN (x5).toNatClampNeg)), (0, .ref (ad 0)), (1, .long x1), (3, .ref (sd 2)), (4, .int (4 : Int32)), (5, .int x5)] dX4_digest_85 (by decide) rfl ?_
      refine V_aload_n C 1 dX4_digest_87 rfl ?_
      refine V_lload_n C 2 dX4_digest_88 rfl ?_
      refine V_iload C 0 dX4_digest_89 rfl ?_
      obtain ⟨z13, M14, hz13, h⟩ := bW_t h
      refine V_callV C (st := []) (st' := [.long z13]) (mX4_digestNight l x1 (tabN (x5).toNatClampNeg) M hz13) wmX4_digestNight lkX4_269 dX4_digest_91 (wo_0 T3 ad _) rfl rfl rfl rfl rfl rfl ⟨rfl, rfl, (Nat.le_of_ble_eq_true rfl), (Nat.le_of_ble_eq_true rfl)⟩ ⟨Nat.zero_le _, Nat.zero_le _⟩ (Nat.le_of_ble_eq_true rfl) ?_
      refine V_lstore_n C [(1, .long z13), (6, .int (tabN (x5).toNatClampNeg)), (0, .ref (ad 0)), (3, .ref (sd 2)), (4, .int (4 : Int32)), (5, .int x5)] dX4_digest_94 rfl (by decide) rfl ?_
      refine V_iinc C 5 (x5 + 1) [(5, .int (x5 + 1)), (1, .long z13), (6, .int (tabN (x5).toNatClampNeg)), (0, .ref (ad 0)), (3, .ref (sd 2)), (4, .int (4 : Int32))] dX4_digest_95 rfl rfl (by decide) rfl ?_
      refine V_goto C 74 dX4_digest_98 (by decide) ?_
      refine V_sub (lv' := [(0, .ref (ad 0)), (1, .long z13), (3, .ref (sd 2)), (4, .int (4 : Int32)), (5, .int (x5 + 1))]) [3, 1, 4, 5, 0] rfl ?_
      exact ih z13 (x5 + 1) M14 h
set_option maxHeartbeats 4000000 in
set_option maxRecDepth 100000 in
theorem vX4_digest_39 {p : Program} {l : Launch} {e : Env} {s : State} {m : MethodId} {args : Array Value} {below : List Frame} {meth : Method} {c : Code} {D : va_G} {T3 : ClassId × ClassId × ClassId} {ad sd : Nat → Nat} {A : Nat → Prop}  (C : CX p s m args meth c cX4_digest 7 RX4 (some .long) D T3 ad sd A) {r : Int64} {M9 : Mem} : ∀ (n : Nat) (x1 : Int64) (x3 : Int32) (M : Mem), fX4_digest_39 n x1 x3 M = some (r, M9) → VV p l e rmX4_digest s m args below meth c D T3 ad A 7 0 0 (QM below D T3 ad A args s (fun _ => some (.long r)) M9) M [(0, .ref (ad 0)), (1, .long x1), (3, .int x3)] 39 [] := by
  intro n
  induction n with
  | zero => intro x1 x3 M h; exact nomatch (show (none : Option (Int64 × Mem)) = some _ from h)
  | succ n ih =>
    intro x1 x3 M h
    rw [fX4_digest_39] at h
    refine V_iload_n C 2 dX4_digest_39 rfl ?_
    refine V_aload_n C 0 dX4_digest_40 rfl ?_
    refine V_get C 0 dX4_digest_41 (wo_0 T3 ad _) rfl inKX4 (by decide) flX4_10 rfl rfl ?_
    refine V_getN C 3 dX4_digest_44 (wo_1 T3 ad _) rfl inKX0 (by decide) flX4_62 rfl rfl ?_
    refine V_icmp_ge C 63 dX4_digest_47 (by decide) (fun q18 => ?_) (fun q18 => ?_)
    · replace h := ite_p q18 h
      refine V_gets_N C dX4_digest_63 flX4_266 ?_
      refine V_astore_n C [(3, .ref (sd 2)), (0, .ref (ad 0)), (1, .long x1)] dX4_digest_66 rfl (by decide) rfl ?_
      refine V_aload_n C 0 dX4_digest_67 rfl ?_
      refine V_tlen_N C dX4_digest_68 ?_
      refine V_istore C [(4, .int (4 : Int32)), (3, .ref (sd 2)), (0, .ref (ad 0)), (1, .long x1)] dX4_digest_69 (by decide) rfl ?_
      refine V_iconst C (0 : Int32) dX4_digest_71 (by decide) ?_
      refine V_istore C [(5, .int (0 : Int32)), (4, .int (4 : Int32)), (3, .ref (sd 2)), (0, .ref (ad 0)), (1, .long x1)] dX4_digest_72 (by decide) rfl ?_
      refine V_sub (lv' := [(0, .ref (ad 0)), (1, .long x1), (3, .ref (sd 2)), (4, .int (4 : Int32)), (5, .int (0 : Int32))]) [3, 4, 2, 1, 0] rfl ?_
      exact vX4_digest_74 C 1000 x1 (0 : Int32) M h
    · replace h := ite_n q18 h
      refine V_aload_n C 0 dX4_digest_50 rfl ?_
      refine V_lload_n C 1 dX4_digest_51 rfl ?_
      refine V_iload_n C 2 dX4_digest_52 rfl ?_
      obtain ⟨z16, M17, hz16, h⟩ := bW_t h
      refine V_callV C (st := []) (st' := [.long z16]) (mX4_digestChannel l x1 x3 M hz16) wmX4_digestChannel lkX4_263 dX4_digest_53 (wo_0 T3 ad _) rfl rfl rfl rfl rfl rfl ⟨rfl, rfl, (Nat.le_of_ble_eq_true rfl), (Nat.le_of_ble_eq_true rfl)⟩ ⟨Nat.zero_le _, Nat.zero_le _⟩ (Nat.le_of_ble_eq_true rfl) ?_
      refine V_lstore_n C [(1, .long z16), (0, .ref (ad 0)), (3, .int x3)] dX4_digest_56 rfl (by decide) rfl ?_
      refine V_iinc C 2 (x3 + 1) [(3, .int (x3 + 1)), (1, .long z16), (0, .ref (ad 0))] dX4_digest_57 rfl rfl (by decide) rfl ?_
      refine V_goto C 39 dX4_digest_60 (by decide) ?_
      refine V_sub (lv' := [(0, .ref (ad 0)), (1, .long z16), (3, .int (x3 + 1))]) [2, 1, 0] rfl ?_
      exact ih z16 (x3 + 1) M17 h
set_option maxHeartbeats 4000000 in
set_option maxRecDepth 100000 in
theorem vX4_digest_6 {p : Program} {l : Launch} {e : Env} {s : State} {m : MethodId} {args : Array Value} {below : List Frame} {meth : Method} {c : Code} {D : va_G} {T3 : ClassId × ClassId × ClassId} {ad sd : Nat → Nat} {A : Nat → Prop}  (C : CX p s m args meth c cX4_digest 7 RX4 (some .long) D T3 ad sd A) {r : Int64} {M9 : Mem} : ∀ (n : Nat) (x1 : Int64) (x3 : Int32) (M : Mem), fX4_digest_6 n x1 x3 M = some (r, M9) → VV p l e rmX4_digest s m args below meth c D T3 ad A 7 0 0 (QM below D T3 ad A args s (fun _ => some (.long r)) M9) M [(0, .ref (ad 0)), (1, .long x1), (3, .int x3)] 6 [] := by
  intro n
  induction n with
  | zero => intro x1 x3 M h; exact nomatch (show (none : Option (Int64 × Mem)) = some _ from h)
  | succ n ih =>
    intro x1 x3 M h
    rw [fX4_digest_6] at h
    refine V_iload_n C 2 dX4_digest_6 rfl ?_
    refine V_bipush C (7 : Int32) dX4_digest_7 (by decide) ?_
    refine V_icmp_gt C 28 dX4_digest_9 (by decide) (fun q21 => ?_) (fun q21 => ?_)
    · replace h := ite_p q21 h
      refine V_lload_n C 1 dX4_digest_28 rfl ?_
      refine V_aload_n C 0 dX4_digest_29 rfl ?_
      refine V_callV C (st := [.long x1]) (st' := [.int (fX4_fault M), .long x1]) (mX4_fault l M rfl) wmX4_fault lkX4_260 dX4_digest_30 (wo_0 T3 ad _) rfl rfl rfl rfl rfl rfl ⟨rfl, rfl, (Nat.le_of_ble_eq_true rfl), (Nat.le_of_ble_eq_true rfl)⟩ ⟨Nat.zero_le _, Nat.zero_le _⟩ (Nat.le_of_ble_eq_true rfl) ?_
      refine V_callS C (st := []) (st' := [.long (fX4_mix x1 (fX4_fault M))]) (mX4_mix l x1 (fX4_fault M) M rfl) wmX4_mix lkX4_256 dX4_digest_33 rfl rfl rfl ⟨rfl, rfl, (Nat.le_of_ble_eq_true rfl), (Nat.le_of_ble_eq_true rfl)⟩ ⟨Nat.zero_le _, Nat.zero_le _⟩ (Nat.le_of_ble_eq_true rfl) ?_
      refine V_lstore_n C [(1, .long (fX4_mix x1 (fX4_fault M))), (0, .ref (ad 0)), (3, .int x3)] dX4_digest_36 rfl (by decide) rfl ?_
      refine V_iconst C (0 : Int32) dX4_digest_37 (by decide) ?_
      refine V_istore_n C [(3, .int (0 : Int32)), (1, .long (fX4_mix x1 (fX4_fault M))), (0, .ref (ad 0))] dX4_digest_38 rfl (by decide) rfl ?_
      refine V_sub (lv' := [(0, .ref (ad 0)), (1, .long (fX4_mix x1 (fX4_fault M))), (3, .int (0 : Int32))]) [2, 1, 0] rfl ?_
      exact vX4_digest_39 C 1000 (fX4_mix x1 (fX4_fault M)) (0 : Int32) M h
    · replace h := ite_n q21 h
      refine V_lload_n C 1 dX4_digest_12 rfl ?_
      refine V_aload_n C 0 dX4_digest_13 rfl ?_
      refine V_iload_n C 2 dX4_digest_14 rfl ?_
      obtain ⟨z19, M20, hz19, h⟩ := bW_t h
      refine V_callV C (st := [.long x1]) (st' := [.int z19, .long x1]) (mX4_count l x3 M hz19) wmX4_count lkX4_253 dX4_digest_15 (wo_0 T3 ad _) rfl rfl rfl rfl rfl rfl ⟨rfl, rfl, (Nat.le_of_ble_eq_true rfl), (Nat.le_of_ble_eq_true rfl)⟩ ⟨Nat.zero_le _, Nat.zero_le _⟩ (Nat.le_of_ble_eq_true rfl) ?_
      refine V_callS C (st := []) (st' := [.long (fX4_mix x1 z19)]) (mX4_mix l x1 z19 M20 rfl) wmX4_mix lkX4_256 dX4_digest_18 rfl rfl rfl ⟨rfl, rfl, (Nat.le_of_ble_eq_true rfl), (Nat.le_of_ble_eq_true rfl)⟩ ⟨Nat.zero_le _, Nat.zero_le _⟩ (Nat.le_of_ble_eq_true rfl) ?_
      refine V_lstore_n C [(1, .long (fX4_mix x1 z19)), (0, .ref (ad 0)), (3, .int x3)] dX4_digest_21 rfl (by decide) rfl ?_
      refine V_iinc C 2 (x3 + 1) [(3, .int (x3 + 1)), (1, .long (fX4_mix x1 z19)), (0, .ref (ad 0))] dX4_digest_22 rfl rfl (by decide) rfl ?_
      refine V_goto C 6 dX4_digest_25 (by decide) ?_
      refine V_sub (lv' := [(0, .ref (ad 0)), (1, .long (fX4_mix x1 z19)), (3, .int (x3 + 1))]) [2, 1, 0] rfl ?_
      exact ih (fX4_mix x1 z19) (x3 + 1) M20 h
set_option maxHeartbeats 4000000 in
set_option maxRecDepth 100000 in
theorem mX4_digest (l : Launch) (M : Mem) {r : Int64} {M9 : Mem} (h : fX4_digest M = some (r, M9)) : MC l yX4_digest cX4_digest 7 (some .long) rmX4_digest (fun ad sd => [.ref (ad 0)]) M (fun _ => some (.long r)) M9 := by
  refine MC_start (by decide) (fun ad sd => [(0, .ref (ad 0))]) (fun _ _ => rfl) (fun _ _ => Nat.le_of_ble_eq_true rfl) ?_
  intro p e s m args below meth c D T3 ad sd A C
  unfold fX4_digest at h
  refine V_ldc2 C dX4_digest_0 kcX4_251 ?_
  refine V_lstore_n C [(1, .long (17 : Int64)), (0, .ref (ad 0))] dX4_digest_3 rfl (by decide) rfl ?_
  refine V_iconst C (0 : Int32) dX4_digest_4 (by decide) ?_
  refine V_istore_n C [(3, .int (0 : Int32)), (1, .long (17 : Int64)), (0, .ref (ad 0))] dX4_digest_5 rfl (by decide) rfl ?_
  refine V_sub (lv' := [(0, .ref (ad 0)), (1, .long (17 : Int64)), (3, .int (0 : Int32))]) [2, 1, 0] rfl ?_
  exact vX4_digest_6 C 1000 (17 : Int64) (0 : Int32) M h
