abbrev rmX5_in : Room := { frames := 0, cells := 0, slots := 0, locals := 0 }
def fX5_in (x0 : Int64) (x2 : Int64) (x4 : Int64) : Bool := if (lg_cmp x0 x2) < 0 then false else if 0 < (lg_cmp x0 x4) then false else true
set_option maxHeartbeats 4000000 in
set_option maxRecDepth 100000 in
theorem mX5_in (l : Launch) (x0 : Int64) (x2 : Int64) (x4 : Int64) (M : Mem) {r : Bool} (h : fX5_in x0 x2 x4 = r) : MC l yX5_in cX5_in 6 (some .boolean) rmX5_in (fun ad sd => [.long x0, .long x2, .long x4]) M (fun _ => some (.int (b2i r))) M := by
  refine MC_start (by decide) (fun ad sd => [(0, .long x0), (2, .long x2), (4, .long x4)]) (fun _ _ => rfl) (fun _ _ => Nat.le_of_ble_eq_true rfl) ?_
  intro p e s m args below meth c D T3 ad sd A C
  unfold fX5_in at h
  refine V_lload_n C 0 dX5_in_0 rfl ?_
  refine V_lload_n C 1 dX5_in_1 rfl ?_
  refine V_lcmp C dX5_in_2 ?_
  refine V_if_lt C 17 dX5_in_3 (by decide) (fun q2 => ?_) (fun q2 => ?_)
  · replace h := ite_p q2 h
    refine V_iconst C (0 : Int32) dX5_in_17 (by decide) ?_
    subst h
    exact V_zret (x := false) C dX5_in_18
  · replace h := ite_n q2 h
    refine V_lload_n C 0 dX5_in_6 rfl ?_
    refine V_lload C 2 dX5_in_7 rfl ?_
    refine V_lcmp C dX5_in_9 ?_
    refine V_if_gt C 17 dX5_in_10 (by decide) (fun q1 => ?_) (fun q1 => ?_)
    · replace h := ite_p q1 h
      refine V_iconst C (0 : Int32) dX5_in_17 (by decide) ?_
      subst h
      exact V_zret (x := false) C dX5_in_18
    · replace h := ite_n q1 h
      refine V_iconst C (1 : Int32) dX5_in_13 (by decide) ?_
      refine V_goto C 18 dX5_in_14 (by decide) ?_
      subst h
      exact V_zret (x := true) C dX5_in_18
abbrev rmX5_type : Room := { frames := 1, cells := 0, slots := 0, locals := 25 }
def fX5_type (x1 : Int32) (M : Mem) : Option (Int32 × Mem) := if (fX5_in (Int32.toInt64 x1) (0 : Int64) (255 : Int64)) = true then if (M 26 6) = (95 : Int32) then some ((-4 : Int32), M) else gd (inb (M 26 6) 95) (lt (up M 31 ((M 26 6)).toNatClampNeg x1) fun M1 => lt (up M1 26 6 ((M1 26 6) + (1 : Int32))) fun M3 => some ((M3 26 6), M3)) else some ((-2 : Int32), M)
set_option maxHeartbeats 4000000 in
set_option maxRecDepth 100000 in
theorem mX5_type (l : Launch) (x1 : Int32) (M : Mem) {r : Int32} {M9 : Mem} (h : fX5_type x1 M = some (r, M9)) : MC l yX5_type cX5_type 2 (some .int) rmX5_type (fun ad sd => [.ref (ad 26), .int x1]) M (fun _ => some (.int r)) M9 := by
  refine MC_start (by decide) (fun ad sd => [(0, .ref (ad 26)), (1, .int x1)]) (fun _ _ => rfl) (fun _ _ => Nat.le_of_ble_eq_true rfl) ?_
  intro p e s m args below meth c D T3 ad sd A C
  unfold fX5_type at h
  refine V_iload_n C 1 dX5_type_0 rfl ?_
  refine V_i2l C dX5_type_1 ?_
  refine V_lconst C (0 : Int64) dX5_type_2 (by decide) ?_
  refine V_ldc2 C dX5_type_3 kcX5_85 ?_
  refine V_callS C (st := []) (st' := [.int (b2i (fX5_in (Int32.toInt64 x1) (0 : Int64) (255 : Int64)))]) (mX5_in l (Int32.toInt64 x1) (0 : Int64) (255 : Int64) M rfl) wmX5_in lkX5_54 dX5_type_6 rfl rfl rfl ⟨rfl, rfl, (Nat.le_of_ble_eq_true rfl), (Nat.le_of_ble_eq_true rfl)⟩ ⟨Nat.zero_le _, Nat.zero_le _⟩ (Nat.le_of_ble_eq_true rfl) ?_
  refine V_ifB_ne C 15 dX5_type_9 (by decide) (fun q5 => ?_) (fun q5 => ?_)
  · replace h := ite_p q5 h
    refine V_aload_n C 0 dX5_type_15 rfl ?_
    refine V_get C 6 dX5_type_16 (wo_26 T3 ad _) rfl inKX5 (by decide) flX5_87 rfl rfl ?_
    refine V_bipush C (95 : Int32) dX5_type_19 (by decide) ?_
    refine V_icmp_ne C 27 dX5_type_21 (by decide) (fun q4 => ?_) (fun q4 => ?_)
    · replace h := ite_n q4 h
      refine V_aload_n C 0 dX5_type_27 rfl ?_
      refine V_get C 5 dX5_type_28 (wo_26 T3 ad _) rfl inKX5 (by decide) flX5_22 rfl rfl ?_
      refine V_aload_n C 0 dX5_type_31 rfl ?_
      refine V_get C 6 dX5_type_32 (wo_26 T3 ad _) rfl inKX5 (by decide) flX5_87 rfl rfl ?_
      refine V_iload_n C 1 dX5_type_35 rfl ?_
      obtain ⟨g2, h⟩ := gd_t h
      obtain ⟨M1, hM1, h⟩ := lt_t h
      refine V_iast C M1 rfl rfl (inb_in g2) dX5_type_36 hM1 ?_
      refine V_aload_n C 0 dX5_type_37 rfl ?_
      refine V_dup C dX5_type_38 rfl ?_
      refine V_get C 6 dX5_type_39 (wo_26 T3 ad _) rfl inKX5 (by decide) flX5_87 rfl rfl ?_
      refine V_iconst C (1 : Int32) dX5_type_42 (by decide) ?_
      refine V_iadd C dX5_type_43 ?_
      obtain ⟨M3, hM3, h⟩ := lt_t h
      refine V_put C M3 6 dX5_type_44 (wo_26 T3 ad _) (ws_26_6 T3 ad _ _) rfl inKX5 tyX5 tyX5_ok nmX5 (by decide) flX5_87 rfl rfl rfl (Nat.le_of_ble_eq_true rfl) hM3 ?_
      refine V_aload_n C 0 dX5_type_47 rfl ?_
      refine V_get C 6 dX5_type_48 (wo_26 T3 ad _) rfl inKX5 (by decide) flX5_87 rfl rfl ?_
      obtain ⟨rfl, rfl⟩ := ret_W h
      exact V_iret C dX5_type_51
    · replace h := ite_p q4 h
      refine V_bipush C (-4 : Int32) dX5_type_24 (by decide) ?_
      obtain ⟨rfl, rfl⟩ := ret_W h
      exact V_iret C dX5_type_26
  · replace h := ite_n q5 h
    refine V_bipush C (-2 : Int32) dX5_type_12 (by decide) ?_
    obtain ⟨rfl, rfl⟩ := ret_W h
    exact V_iret C dX5_type_14
abbrev rmX5_wipe : Room := { frames := 0, cells := 0, slots := 0, locals := 0 }
def fX5_wipe (M : Mem) : Option (Int32 × Mem) := lt (up M 26 6 (0 : Int32)) fun M1 => some ((M 26 6), M1)
set_option maxHeartbeats 4000000 in
set_option maxRecDepth 100000 in
theorem mX5_wipe (l : Launch) (M : Mem) {r : Int32} {M9 : Mem} (h : fX5_wipe M = some (r, M9)) : MC l yX5_wipe cX5_wipe 2 (some .int) rmX5_wipe (fun ad sd => [.ref (ad 26)]) M (fun _ => some (.int r)) M9 := by
  refine MC_start (by decide) (fun ad sd => [(0, .ref (ad 26))]) (fun _ _ => rfl) (fun _ _ => Nat.le_of_ble_eq_true rfl) ?_
  intro p e s m args below meth c D T3 ad sd A C
  unfold fX5_wipe at h
  refine V_aload_n C 0 dX5_wipe_0 rfl ?_
  refine V_get C 6 dX5_wipe_1 (wo_26 T3 ad _) rfl inKX5 (by decide) flX5_87 rfl rfl ?_
  refine V_istore_n C [(1, .int (M 26 6)), (0, .ref (ad 26))] dX5_wipe_4 rfl (by decide) rfl ?_
  refine V_aload_n C 1 dX5_wipe_5 rfl ?_
  refine V_iconst C (0 : Int32) dX5_wipe_6 (by decide) ?_
  obtain ⟨M1, hM1, h⟩ := lt_t h
  refine V_put C M1 6 dX5_wipe_7 (wo_26 T3 ad _) (ws_26_6 T3 ad _ _) rfl inKX5 tyX5 tyX5_ok nmX5 (by decide) flX5_87 rfl rfl rfl (Nat.le_of_ble_eq_true rfl) hM1 ?_
  refine V_iload_n C 0 dX5_wipe_10 rfl ?_
  obtain ⟨rfl, rfl⟩ := ret_W h
  exact V_iret C dX5_wipe_11
abbrev rmX5_shiftOf : Room := { frames := 0, cells := 0, slots := 0, locals := 0 }
def fX5_shiftOf (x0 : Int32) : Int32 := if x0 = (119 : Int32) then (0 : Int32) else if x0 = (114 : Int32) then (1 : Int32) else if x0 = (115 : Int32) then (2 : Int32) else if x0 = (112 : Int32) then (3 : Int32) else if x0 = (106 : Int32) then (4 : Int32) else (-1 : Int32)
set_option maxHeartbeats 4000000 in
set_option maxRecDepth 100000 in
theorem mX5_shiftOf (l : Launch) (x0 : Int32) (M : Mem) {r : Int32} (h : fX5_shiftOf x0 = r) : MC l yX5_shiftOf cX5_shiftOf 1 (some .int) rmX5_shiftOf (fun ad sd => [.int x0]) M (fun _ => some (.int r)) M := by
  refine MC_start (by decide) (fun ad sd => [(0, .int x0)]) (fun _ _ => rfl) (fun _ _ => Nat.le_of_ble_eq_true rfl) ?_
  intro p e s m args below meth c D T3 ad sd A C
  unfold fX5_shiftOf at h
  refine V_iload_n C 0 dX5_shiftOf_0 rfl ?_
  refine V_bipush C (119 : Int32) dX5_shiftOf_1 (by decide) ?_
  refine V_icmp_ne C 10 dX5_shiftOf_3 (by decide) (fun q5 => ?_) (fun q5 => ?_)
  · replace h := ite_n q5 h
    refine V_iload_n C 0 dX5_shiftOf_10 rfl ?_
    refine V_bipush C (114 : Int32) dX5_shiftOf_11 (by decide) ?_
    refine V_icmp_ne C 20 dX5_shiftOf_13 (by decide) (fun q4 => ?_) (fun q4 => ?_)
    · replace h := ite_n q4 h
      refine V_iload_n C 0 dX5_shiftOf_20 rfl ?_
      refine V_bipush C (115 : Int32) dX5_shiftOf_21 (by decide) ?_
      refine V_icmp_ne C 30 dX5_shiftOf_23 (by decide) (fun q3 => ?_) (fun q3 => ?_)
      · replace h := ite_n q3 h
        refine V_iload_n C 0 dX5_shiftOf_30 rfl ?_
        refine V_bipush C (112 : Int32) dX5_shiftOf_31 (by decide) ?_
        refine V_icmp_ne C 40 dX5_shiftOf_33 (by decide) (fun q2 => ?_) (fun q2 => ?_)
        · replace h := ite_n q2 h
          refine V_iload_n C 0 dX5_shiftOf_40 rfl ?_
          refine V_bipush C (106 : Int32) dX5_shiftOf_41 (by decide) ?_
          refine V_icmp_ne C 50 dX5_shiftOf_43 (by decide) (fun q1 => ?_) (fun q1 => ?_)
          · replace h := ite_n q1 h
            refine V_iconst C (-1 : Int32) dX5_shiftOf_50 (by decide) ?_
            subst h
            exact V_iret C dX5_shiftOf_51
          · replace h := ite_p q1 h
            refine V_iconst C (4 : Int32) dX5_shiftOf_46 (by decide) ?_
            refine V_goto C 51 dX5_shiftOf_47 (by decide) ?_
            subst h
            exact V_iret C dX5_shiftOf_51
        · replace h := ite_p q2 h
          refine V_iconst C (3 : Int32) dX5_shiftOf_36 (by decide) ?_
          refine V_goto C 51 dX5_shiftOf_37 (by decide) ?_
          subst h
          exact V_iret C dX5_shiftOf_51
      · replace h := ite_p q3 h
        refine V_iconst C (2 : Int32) dX5_shiftOf_26 (by decide) ?_
        refine V_goto C 51 dX5_shiftOf_27 (by decide) ?_
        subst h
        exact V_iret C dX5_shiftOf_51
    · replace h := ite_p q4 h
      refine V_iconst C (1 : Int32) dX5_shiftOf_16 (by decide) ?_
      refine V_goto C 51 dX5_shiftOf_17 (by decide) ?_
      subst h
      exact V_iret C dX5_shiftOf_51
  · replace h := ite_p q5 h
    refine V_iconst C (0 : Int32) dX5_shiftOf_6 (by decide) ?_
    refine V_goto C 51 dX5_shiftOf_7 (by decide) ?_
    subst h
    exact V_iret C dX5_shiftOf_51
abbrev rmX5_tellsOf : Room := { frames := 1, cells := 0, slots := 0, locals := 25 }
def fX5_tellsOf_78 (M : Mem) (x2 : Int32) (t0 : Int64) (t1 : Int64) : Option Int32 := if (fX5_in t0 t1 (57 : Int64)) = true then some (x2 - (48 : Int32)) else some (-1 : Int32)
def fX5_tellsOf (M : Mem) (x1 : Int32) (x2 : Int32) : Option Int32 := if (2 : Int32) ≤ x1 then if x1 = (3 : Int32) then some (fX5_shiftOf x2) else if x1 = (2 : Int32) then fX5_tellsOf_78 M x2 (Int32.toInt64 x2) (48 : Int64) else fX5_tellsOf_78 M x2 (Int32.toInt64 x2) (49 : Int64) else if (fX5_in (Int32.toInt64 x2) (97 : Int64) (102 : Int64)) = true then if x1 = 0 then some (x2 - (97 : Int32)) else gd (inb ((5 : Int32) * (M 26 8)) 80) (if (x2 - (97 : Int32)) ≤ (M 32 (((5 : Int32) * (M 26 8))).toNatClampNeg) then some (-1 : Int32) else some (x2 - (97 : Int32))) else some (-1 : Int32)
set_option maxHeartbeats 4000000 in
set_option maxRecDepth 100000 in
theorem vX5_tellsOf_78 {p : Program} {l : Launch} {e : Env} {s : State} {m : MethodId} {args : Array Value} {below : List Frame} {meth : Method} {c : Code} {D : va_G} {T3 : ClassId × ClassId × ClassId} {ad sd : Nat → Nat} {A : Nat → Prop}  (C : CX p s m args meth c cX5_tellsOf 3 RX5 (some .int) D T3 ad sd A) {r : Int32} (M : Mem) : ∀ (x2 : Int32) (t0 : Int64) (t1 : Int64), fX5_tellsOf_78 M x2 t0 t1 = some r → VV p l e rmX5_tellsOf s m args below meth c D T3 ad A 3 0 0 (QM below D T3 ad A args s (fun _ => some (.int r)) M) M [(2, .int x2)] 78 [.long t1, .long t0] := by
  intro x2 t0 t1 h
  unfold fX5_tellsOf_78 at h
  refine V_ldc2 C dX5_tellsOf_78 kcX5_104 ?_
  refine V_callS C (st := []) (st' := [.int (b2i (fX5_in t0 t1 (57 : Int64)))]) (mX5_in l t0 t1 (57 : Int64) M rfl) wmX5_in lkX5_54 dX5_tellsOf_81 rfl rfl rfl ⟨rfl, rfl, (Nat.le_of_ble_eq_true rfl), (Nat.le_of_ble_eq_true rfl)⟩ ⟨Nat.zero_le _, Nat.zero_le _⟩ (Nat.le_of_ble_eq_true rfl) ?_
  refine V_ifB_eq C 94 dX5_tellsOf_84 (by decide) (fun q1 => ?_) (fun q1 => ?_)
  · replace h := ite_n q1 h
    refine V_iconst C (-1 : Int32) dX5_tellsOf_94 (by decide) ?_
    obtain rfl := ret_P h
    exact V_iret C dX5_tellsOf_95
  · replace h := ite_p q1 h
    refine V_iload_n C 0 dX5_tellsOf_87 rfl ?_
    refine V_bipush C (48 : Int32) dX5_tellsOf_88 (by decide) ?_
    refine V_isub C dX5_tellsOf_90 ?_
    refine V_goto C 95 dX5_tellsOf_91 (by decide) ?_
    obtain rfl := ret_P h
    exact V_iret C dX5_tellsOf_95
set_option maxHeartbeats 4000000 in
set_option maxRecDepth 100000 in
theorem mX5_tellsOf (l : Launch) (x1 : Int32) (x2 : Int32) (M : Mem) {r : Int32} (h : fX5_tellsOf M x1 x2 = some r) : MC l yX5_tellsOf cX5_tellsOf 3 (some .int) rmX5_tellsOf (fun ad sd => [.ref (ad 26), .int x1, .int x2]) M (fun _ => some (.int r)) M := by
  refine MC_start (by decide) (fun ad sd => [(0, .ref (ad 26)), (1, .int x1), (2, .int x2)]) (fun _ _ => rfl) (fun _ _ => Nat.le_of_ble_eq_true rfl) ?_
  intro p e s m args below meth c D T3 ad sd A C
  unfold fX5_tellsOf at h
  refine V_iload_n C 1 dX5_tellsOf_0 rfl ?_
  refine V_iconst C (2 : Int32) dX5_tellsOf_1 (by decide) ?_
  refine V_icmp_ge C 50 dX5_tellsOf_2 (by decide) (fun q8 => ?_) (fun q8 => ?_)
  · replace h := ite_p q8 h
    refine V_iload_n C 1 dX5_tellsOf_50 rfl ?_
    refine V_iconst C (3 : Int32) dX5_tellsOf_51 (by decide) ?_
    refine V_icmp_ne C 62 dX5_tellsOf_52 (by decide) (fun q3 => ?_) (fun q3 => ?_)
    · replace h := ite_n q3 h
      refine V_iload_n C 2 dX5_tellsOf_62 rfl ?_
      refine V_i2l C dX5_tellsOf_63 ?_
      refine V_iload_n C 1 dX5_tellsOf_64 rfl ?_
      refine V_iconst C (2 : Int32) dX5_tellsOf_65 (by decide) ?_
      refine V_icmp_ne C 75 dX5_tellsOf_66 (by decide) (fun q2 => ?_) (fun q2 => ?_)
      · replace h := ite_n q2 h
        refine V_ldc2 C dX5_tellsOf_75 kcX5_102 ?_
        refine V_sub (lv' := [(2, .int x2)]) [2] rfl ?_
        exact vX5_tellsOf_78 C M x2 (Int32.toInt64 x2) (49 : Int64) h
      · replace h := ite_p q2 h
        refine V_ldc2 C dX5_tellsOf_69 kcX5_100 ?_
        refine V_goto C 78 dX5_tellsOf_72 (by decide) ?_
        refine V_sub (lv' := [(2, .int x2)]) [2] rfl ?_
        exact vX5_tellsOf_78 C M x2 (Int32.toInt64 x2) (48 : Int64) h
    · replace h := ite_p q3 h
      refine V_iload_n C 2 dX5_tellsOf_55 rfl ?_
      refine V_callS C (st := []) (st' := [.int (fX5_shiftOf x2)]) (mX5_shiftOf l x2 M rfl) wmX5_shiftOf lkX5_97 dX5_tellsOf_56 rfl rfl rfl ⟨rfl, rfl, (Nat.le_of_ble_eq_true rfl), (Nat.le_of_ble_eq_true rfl)⟩ ⟨Nat.zero_le _, Nat.zero_le _⟩ (Nat.le_of_ble_eq_true rfl) ?_
      refine V_goto C 95 dX5_tellsOf_59 (by decide) ?_
      obtain rfl := ret_P h
      exact V_iret C dX5_tellsOf_95
  · replace h := ite_n q8 h
    refine V_iload_n C 2 dX5_tellsOf_5 rfl ?_
    refine V_i2l C dX5_tellsOf_6 ?_
    refine V_ldc2 C dX5_tellsOf_7 kcX5_90 ?_
    refine V_ldc2 C dX5_tellsOf_10 kcX5_92 ?_
    refine V_callS C (st := []) (st' := [.int (b2i (fX5_in (Int32.toInt64 x2) (97 : Int64) (102 : Int64)))]) (mX5_in l (Int32.toInt64 x2) (97 : Int64) (102 : Int64) M rfl) wmX5_in lkX5_54 dX5_tellsOf_13 rfl rfl rfl ⟨rfl, rfl, (Nat.le_of_ble_eq_true rfl), (Nat.le_of_ble_eq_true rfl)⟩ ⟨Nat.zero_le _, Nat.zero_le _⟩ (Nat.le_of_ble_eq_true rfl) ?_
    refine V_ifB_eq C 48 dX5_tellsOf_16 (by decide) (fun q7 => ?_) (fun q7 => ?_)
    · replace h := ite_n q7 h
      refine V_iconst C (-1 : Int32) dX5_tellsOf_48 (by decide) ?_
      obtain rfl := ret_P h
      exact V_iret C dX5_tellsOf_49
    · replace h := ite_p q7 h
      refine V_iload_n C 1 dX5_tellsOf_19 rfl ?_
      refine V_if_eq C 41 dX5_tellsOf_20 (by decide) (fun q6 => ?_) (fun q6 => ?_)
      · replace h := ite_p q6 h
        refine V_iload_n C 2 dX5_tellsOf_41 rfl ?_
        refine V_bipush C (97 : Int32) dX5_tellsOf_42 (by decide) ?_
        refine V_isub C dX5_tellsOf_44 ?_
        refine V_goto C 49 dX5_tellsOf_45 (by decide) ?_
        obtain rfl := ret_P h
        exact V_iret C dX5_tellsOf_49
      · replace h := ite_n q6 h
        refine V_iload_n C 2 dX5_tellsOf_23 rfl ?_
        refine V_bipush C (97 : Int32) dX5_tellsOf_24 (by decide) ?_
        refine V_isub C dX5_tellsOf_26 ?_
        refine V_aload_n C 0 dX5_tellsOf_27 rfl ?_
        refine V_get C 9 dX5_tellsOf_28 (wo_26 T3 ad _) rfl inKX5 (by decide) flX5_25 rfl rfl ?_
        refine V_iconst C (5 : Int32) dX5_tellsOf_31 (by decide) ?_
        refine V_aload_n C 0 dX5_tellsOf_32 rfl ?_
        refine V_get C 8 dX5_tellsOf_33 (wo_26 T3 ad _) rfl inKX5 (by decide) flX5_94 rfl rfl ?_
        refine V_imul C dX5_tellsOf_36 ?_
        obtain ⟨g4, h⟩ := gd_t h
        refine V_iald C rfl rfl (inb_in g4) dX5_tellsOf_37 ?_
        refine V_icmp_le C 48 dX5_tellsOf_38 (by decide) (fun q5 => ?_) (fun q5 => ?_)
        · replace h := ite_p q5 h
          refine V_iconst C (-1 : Int32) dX5_tellsOf_48 (by decide) ?_
          obtain rfl := ret_P h
          exact V_iret C dX5_tellsOf_49
        · replace h := ite_n q5 h
          refine V_iload_n C 2 dX5_tellsOf_41 rfl ?_
          refine V_bipush C (97 : Int32) dX5_tellsOf_42 (by decide) ?_
          refine V_isub C dX5_tellsOf_44 ?_
          refine V_goto C 49 dX5_tellsOf_45 (by decide) ?_
          obtain rfl := ret_P h
          exact V_iret C dX5_tellsOf_49
abbrev rmX5_readsChannel : Room := { frames := 2, cells := 0, slots := 0, locals := 47 }
def fX5_readsChannel_47 (kk13 : Int32 → Mem → Option (Bool × Mem)) (x1 : Int32) (t0 : Int32) (M : Mem) : Option (Bool × Mem) := if t0 = (-1 : Int32) then some (false, M) else gd (inb (((5 : Int32) * (M 26 8)) + x1) 80) (lt (up M 32 ((((5 : Int32) * (M 26 8)) + x1)).toNatClampNeg t0) fun M2 => lt (up M2 26 7 ((M2 26 7) + (1 : Int32))) fun M4 => kk13 (x1 + 1) M4)
def fX5_readsChannel_13 : Nat → Int32 → Mem → Option (Bool × Mem)
  | 0, _, _ => none
  | n + 1, x1, M => if (5 : Int32) ≤ x1 then lt (up M 26 8 ((M 26 8) + (1 : Int32))) fun M1 => some (true, M1) else if (M 26 6) ≤ (M 26 7) then fX5_readsChannel_47 (fX5_readsChannel_13 n) x1 (-1 : Int32) M else gd (inb (M 26 7) 95) (bP (fX5_tellsOf M x1 (M 31 ((M 26 7)).toNatClampNeg)) fun z7 => fX5_readsChannel_47 (fX5_readsChannel_13 n) x1 z7 M)
def fX5_readsChannel (M : Mem) : Option (Bool × Mem) := if (M 26 8) = (16 : Int32) then some (false, M) else fX5_readsChannel_13 1000 (0 : Int32) M
set_option maxHeartbeats 4000000 in
set_option maxRecDepth 100000 in
theorem vX5_readsChannel_47 {p : Program} {l : Launch} {e : Env} {s : State} {m : MethodId} {args : Array Value} {below : List Frame} {meth : Method} {c : Code} {D : va_G} {T3 : ClassId × ClassId × ClassId} {ad sd : Nat → Nat} {A : Nat → Prop}  (C : CX p s m args meth c cX5_readsChannel 3 RX5 (some .boolean) D T3 ad sd A) {r : Bool} {M9 : Mem} (kk13 : Int32 → Mem → Option (Bool × Mem)) (hk13 : ∀ (x1 : Int32) (M : Mem), kk13 x1 M = some (r, M9) → VV p l e rmX5_readsChannel s m args below meth c D T3 ad A 3 0 0 (QM below D T3 ad A args s (fun _ => some (.int (b2i r))) M9) M [(0, .ref (ad 26)), (1, .int x1)] 13 []) : ∀ (x1 : Int32) (t0 : Int32) (M : Mem), fX5_readsChannel_47 kk13 x1 t0 M = some (r, M9) → VV p l e rmX5_readsChannel s m args below meth c D T3 ad A 3 0 0 (QM below D T3 ad A args s (fun _ => some (.int (b2i r))) M9) M [(0, .ref (ad 26)), (1, .int x1)] 47 [.int t0] := by
  intro x1 t0 M h
  unfold fX5_readsChannel_47 at h
  refine V_istore_n C [(2, .int t0), (0, .ref (ad 26)), (1, .int x1)] dX5_readsChannel_47 rfl (by decide) rfl ?_
  refine V_iload_n C 0 dX5_readsChannel_48 rfl ?_
  refine V_iconst C (-1 : Int32) dX5_readsChannel_49 (by decide) ?_
  refine V_icmp_ne C 55 dX5_readsChannel_50 (by decide) (fun q5 => ?_) (fun q5 => ?_)
  · replace h := ite_n q5 h
    refine V_aload_n C 1 dX5_readsChannel_55 rfl ?_
    refine V_get C 9 dX5_readsChannel_56 (wo_26 T3 ad _) rfl inKX5 (by decide) flX5_25 rfl rfl ?_
    refine V_iconst C (5 : Int32) dX5_readsChannel_59 (by decide) ?_
    refine V_aload_n C 1 dX5_readsChannel_60 rfl ?_
    refine V_get C 8 dX5_readsChannel_61 (wo_26 T3 ad _) rfl inKX5 (by decide) flX5_94 rfl rfl ?_
    refine V_imul C dX5_readsChannel_64 ?_
    refine V_iload_n C 2 dX5_readsChannel_65 rfl ?_
    refine V_iadd C dX5_readsChannel_66 ?_
    refine V_iload_n C 0 dX5_readsChannel_67 rfl ?_
    obtain ⟨g3, h⟩ := gd_t h
    obtain ⟨M2, hM2, h⟩ := lt_t h
    refine V_iast C M2 rfl rfl (inb_in g3) dX5_readsChannel_68 hM2 ?_
    refine V_aload_n C 1 dX5_readsChannel_69 rfl ?_
    refine V_dup C dX5_readsChannel_70 rfl ?_
    refine V_get C 7 dX5_readsChannel_71 (wo_26 T3 ad _) rfl inKX5 (by decide) flX5_106 rfl rfl ?_
    refine V_iconst C (1 : Int32) dX5_readsChannel_74 (by decide) ?_
    refine V_iadd C dX5_readsChannel_75 ?_
    obtain ⟨M4, hM4, h⟩ := lt_t h
    refine V_put C M4 7 dX5_readsChannel_76 (wo_26 T3 ad _) (ws_26_7 T3 ad _ _) rfl inKX5 tyX5 tyX5_ok nmX5 (by decide) flX5_106 rfl rfl rfl (Nat.le_of_ble_eq_true rfl) hM4 ?_
    refine V_iinc C 2 (x1 + 1) [(1, .int (x1 + 1)), (2, .int t0), (0, .ref (ad 26))] dX5_readsChannel_79 rfl rfl (by decide) rfl ?_
    refine V_goto C 13 dX5_readsChannel_82 (by decide) ?_
    refine V_sub (lv' := [(0, .ref (ad 26)), (1, .int (x1 + 1))]) [2, 0] rfl ?_
    exact hk13 (x1 + 1) M4 h
  · replace h := ite_p q5 h
    refine V_iconst C (0 : Int32) dX5_readsChannel_53 (by decide) ?_
    obtain ⟨rfl, rfl⟩ := ret_W h
    exact V_zret (x := false) C dX5_readsChannel_54
set_option maxHeartbeats 4000000 in
set_option maxRecDepth 100000 in
theorem vX5_readsChannel_13 {p : Program} {l : Launch} {e : Env} {s : State} {m : MethodId} {args : Array Value} {below : List Frame} {meth : Method} {c : Code} {D : va_G} {T3 : ClassId × ClassId × ClassId} {ad sd : Nat → Nat} {A : Nat → Prop}  (C : CX p s m args meth c cX5_readsChannel 3 RX5 (some .boolean) D T3 ad sd A) {r : Bool} {M9 : Mem} : ∀ (n : Nat) (x1 : Int32) (M : Mem), fX5_readsChannel_13 n x1 M = some (r, M9) → VV p l e rmX5_readsChannel s m args below meth c D T3 ad A 3 0 0 (QM below D T3 ad A args s (fun _ => some (.int (b2i r))) M9) M [(0, .ref (ad 26)), (1, .int x1)] 13 [] := by
  intro n
  induction n with
  | zero => intro x1 M h; exact nomatch (show (none : Option (Bool × Mem)) = some _ from h)
  | succ n ih =>
    intro x1 M h
    rw [fX5_readsChannel_13] at h
    refine V_iload_n C 1 dX5_readsChannel_13 rfl ?_
    refine V_iconst C (5 : Int32) dX5_readsChannel_14 (by decide) ?_
    refine V_icmp_ge C 85 dX5_readsChannel_15 (by decide) (fun q9 => ?_) (fun q9 => ?_)
    · replace h := ite_p q9 h
      refine V_aload_n C 0 dX5_readsChannel_85 rfl ?_
      refine V_dup C dX5_readsChannel_86 rfl ?_
      refine V_get C 8 dX5_readsChannel_87 (wo_26 T3 ad _) rfl inKX5 (by decide) flX5_94 rfl rfl ?_
      refine V_iconst C (1 : Int32) dX5_readsChannel_90 (by decide) ?_
      refine V_iadd C dX5_readsChannel_91 ?_
      obtain ⟨M1, hM1, h⟩ := lt_t h
      refine V_put C M1 8 dX5_readsChannel_92 (wo_26 T3 ad _) (ws_26_8 T3 ad _ _) rfl inKX5 tyX5 tyX5_ok nmX5 (by decide) flX5_94 rfl rfl rfl (Nat.le_of_ble_eq_true rfl) hM1 ?_
      refine V_iconst C (1 : Int32) dX5_readsChannel_95 (by decide) ?_
      obtain ⟨rfl, rfl⟩ := ret_W h
      exact V_zret (x := true) C dX5_readsChannel_96
    · replace h := ite_n q9 h
      refine V_aload_n C 0 dX5_readsChannel_18 rfl ?_
      refine V_get C 7 dX5_readsChannel_19 (wo_26 T3 ad _) rfl inKX5 (by decide) flX5_106 rfl rfl ?_
      refine V_aload_n C 0 dX5_readsChannel_22 rfl ?_
      refine V_get C 6 dX5_readsChannel_23 (wo_26 T3 ad _) rfl inKX5 (by decide) flX5_87 rfl rfl ?_
      refine V_icmp_ge C 46 dX5_readsChannel_26 (by decide) (fun q8 => ?_) (fun q8 => ?_)
      · replace h := ite_p q8 h
        refine V_iconst C (-1 : Int32) dX5_readsChannel_46 (by decide) ?_
        exact vX5_readsChannel_47 C (fX5_readsChannel_13 n) ih x1 (-1 : Int32) M h
      · replace h := ite_n q8 h
        refine V_aload_n C 0 dX5_readsChannel_29 rfl ?_
        refine V_iload_n C 1 dX5_readsChannel_30 rfl ?_
        refine V_aload_n C 0 dX5_readsChannel_31 rfl ?_
        refine V_get C 5 dX5_readsChannel_32 (wo_26 T3 ad _) rfl inKX5 (by decide) flX5_22 rfl rfl ?_
        refine V_aload_n C 0 dX5_readsChannel_35 rfl ?_
        refine V_get C 7 dX5_readsChannel_36 (wo_26 T3 ad _) rfl inKX5 (by decide) flX5_106 rfl rfl ?_
        obtain ⟨g6, h⟩ := gd_t h
        refine V_iald C rfl rfl (inb_in g6) dX5_readsChannel_39 ?_
        obtain ⟨z7, hz7, h⟩ := bP_t h
        refine V_callV C (st := []) (st' := [.int z7]) (mX5_tellsOf l x1 (M 31 ((M 26 7)).toNatClampNeg) M hz7) wmX5_tellsOf lkX5_109 dX5_readsChannel_40 (wo_26 T3 ad _) rfl rfl rfl rfl rfl rfl ⟨rfl, rfl, (Nat.le_of_ble_eq_true rfl), (Nat.le_of_ble_eq_true rfl)⟩ ⟨Nat.zero_le _, Nat.zero_le _⟩ (Nat.le_of_ble_eq_true rfl) ?_
        refine V_goto C 47 dX5_readsChannel_43 (by decide) ?_
        exact vX5_readsChannel_47 C (fX5_readsChannel_13 n) ih x1 z7 M h
set_option maxHeartbeats 4000000 in
set_option maxRecDepth 100000 in
theorem mX5_readsChannel (l : Launch) (M : Mem) {r : Bool} {M9 : Mem} (h : fX5_readsChannel M = some (r, M9)) : MC l yX5_readsChannel cX5_readsChannel 3 (some .boolean) rmX5_readsChannel (fun ad sd => [.ref (ad 26)]) M (fun _ => some (.int (b2i r))) M9 := by
  refine MC_start (by decide) (fun ad sd => [(0, .ref (ad 26))]) (fun _ _ => rfl) (fun _ _ => Nat.le_of_ble_eq_true rfl) ?_
  intro p e s m args below meth c D T3 ad sd A C
  unfold fX5_readsChannel at h
  refine V_aload_n C 0 dX5_readsChannel_0 rfl ?_
  refine V_get C 8 dX5_readsChannel_1 (wo_26 T3 ad _) rfl inKX5 (by decide) flX5_94 rfl rfl ?_
  refine V_bipush C (16 : Int32) dX5_readsChannel_4 (by decide) ?_
  refine V_icmp_ne C 11 dX5_readsChannel_6 (by decide) (fun q10 => ?_) (fun q10 => ?_)
  · replace h := ite_n q10 h
    refine V_iconst C (0 : Int32) dX5_readsChannel_11 (by decide) ?_
    refine V_istore_n C [(1, .int (0 : Int32)), (0, .ref (ad 26))] dX5_readsChannel_12 rfl (by decide) rfl ?_
    refine V_sub (lv' := [(0, .ref (ad 26)), (1, .int (0 : Int32))]) [1, 0] rfl ?_
    exact vX5_readsChannel_13 C 1000 (0 : Int32) M h
  · replace h := ite_p q10 h
    refine V_iconst C (0 : Int32) dX5_readsChannel_9 (by decide) ?_
    obtain ⟨rfl, rfl⟩ := ret_W h
    exact V_zret (x := false) C dX5_readsChannel_10
abbrev rmX5_reads : Room := { frames := 3, cells := 0, slots := 0, locals := 69 }
def fX5_reads_85 (kk23 : Bool → Mem → Option (Int32 × Mem)) (x1 : Bool) (M : Mem) : Option (Int32 × Mem) := if x1 = true then lt (up M 26 7 ((M 26 7) + (1 : Int32))) fun M7 => kk23 x1 M7 else lt (up M 26 7 ((M 26 7) + (0 : Int32))) fun M6 => kk23 x1 M6
def fX5_reads_52 (kk23 : Bool → Mem → Option (Int32 × Mem)) (x2 : Bool) (t0 : Bool) (M : Mem) : Option (Int32 × Mem) := if x2 = true then if t0 = true then gd (inb (M 26 7) 95) (if (M 31 ((M 26 7)).toNatClampNeg) = (59 : Int32) then fX5_reads_85 kk23 t0 M else lt (up M 26 8 (0 : Int32)) fun M10 => some ((M10 26 7), M10)) else fX5_reads_85 kk23 t0 M else lt (up M 26 8 (0 : Int32)) fun M5 => some ((M5 26 7), M5)
def fX5_reads_23 : Nat → Bool → Mem → Option (Int32 × Mem)
  | 0, _, _ => none
  | n + 1, x1, M => if x1 = true then bW (fX5_readsChannel M) fun z3 M4 => if z3 = true then if (M4 26 6) ≤ (M4 26 7) then fX5_reads_52 (fX5_reads_23 n) z3 false M4 else fX5_reads_52 (fX5_reads_23 n) z3 true M4 else fX5_reads_52 (fX5_reads_23 n) z3 false M4 else some ((-1 : Int32), M)
def fX5_reads (M : Mem) : Option (Int32 × Mem) := lt (up M 26 7 (0 : Int32)) fun M1 => lt (up M1 26 8 (0 : Int32)) fun M2 => if (M2 26 6) ≤ 0 then fX5_reads_23 1000 false M2 else fX5_reads_23 1000 true M2
set_option maxHeartbeats 4000000 in
set_option maxRecDepth 100000 in
theorem vX5_reads_85 {p : Program} {l : Launch} {e : Env} {s : State} {m : MethodId} {args : Array Value} {below : List Frame} {meth : Method} {c : Code} {D : va_G} {T3 : ClassId × ClassId × ClassId} {ad sd : Nat → Nat} {A : Nat → Prop}  (C : CX p s m args meth c cX5_reads 3 RX5 (some .int) D T3 ad sd A) {r : Int32} {M9 : Mem} (kk23 : Bool → Mem → Option (Int32 × Mem)) (hk23 : ∀ (x1 : Bool) (M : Mem), kk23 x1 M = some (r, M9) → VV p l e rmX5_reads s m args below meth c D T3 ad A 3 0 0 (QM below D T3 ad A args s (fun _ => some (.int r)) M9) M [(0, .ref (ad 26)), (1, .int (b2i x1))] 23 []) : ∀ (x1 : Bool) (M : Mem), fX5_reads_85 kk23 x1 M = some (r, M9) → VV p l e rmX5_reads s m args below meth c D T3 ad A 3 0 0 (QM below D T3 ad A args s (fun _ => some (.int r)) M9) M [(0, .ref (ad 26)), (1, .int (b2i x1))] 85 [] := by
  intro x1 M h
  unfold fX5_reads_85 at h
  refine V_aload_n C 0 dX5_reads_85 rfl ?_
  refine V_dup C dX5_reads_86 rfl ?_
  refine V_get C 7 dX5_reads_87 (wo_26 T3 ad _) rfl inKX5 (by decide) flX5_106 rfl rfl ?_
  refine V_iload_n C 1 dX5_reads_90 rfl ?_
  refine V_ifB_eq C 98 dX5_reads_91 (by decide) (fun q8 => ?_) (fun q8 => ?_)
  · replace h := ite_n q8 h
    refine V_iconst C (0 : Int32) dX5_reads_98 (by decide) ?_
    refine V_iadd C dX5_reads_99 ?_
    obtain ⟨M6, hM6, h⟩ := lt_t h
    refine V_put C M6 7 dX5_reads_100 (wo_26 T3 ad _) (ws_26_7 T3 ad _ _) rfl inKX5 tyX5 tyX5_ok nmX5 (by decide) flX5_106 rfl rfl rfl (Nat.le_of_ble_eq_true rfl) hM6 ?_
    refine V_goto C 23 dX5_reads_103 (by decide) ?_
    exact hk23 x1 M6 h
  · replace h := ite_p q8 h
    refine V_iconst C (1 : Int32) dX5_reads_94 (by decide) ?_
    refine V_goto C 99 dX5_reads_95 (by decide) ?_
    refine V_iadd C dX5_reads_99 ?_
    obtain ⟨M7, hM7, h⟩ := lt_t h
    refine V_put C M7 7 dX5_reads_100 (wo_26 T3 ad _) (ws_26_7 T3 ad _ _) rfl inKX5 tyX5 tyX5_ok nmX5 (by decide) flX5_106 rfl rfl rfl (Nat.le_of_ble_eq_true rfl) hM7 ?_
    refine V_goto C 23 dX5_reads_103 (by decide) ?_
    exact hk23 x1 M7 h
set_option maxHeartbeats 4000000 in
set_option maxRecDepth 100000 in
theorem vX5_reads_52 {p : Program} {l : Launch} {e : Env} {s : State} {m : MethodId} {args : Array Value} {below : List Frame} {meth : Method} {c : Code} {D : va_G} {T3 : ClassId × ClassId × ClassId} {ad sd : Nat → Nat} {A : Nat → Prop}  (C : CX p s m args meth c cX5_reads 3 RX5 (some .int) D T3 ad sd A) {r : Int32} {M9 : Mem} (kk23 : Bool → Mem → Option (Int32 × Mem)) (hk23 : ∀ (x1 : Bool) (M : Mem), kk23 x1 M = some (r, M9) → VV p l e rmX5_reads s m args below meth c D T3 ad A 3 0 0 (QM below D T3 ad A args s (fun _ => some (.int r)) M9) M [(0, .ref (ad 26)), (1, .int (b2i x1))] 23 []) : ∀ (x2 : Bool) (t0 : Bool) (M : Mem), fX5_reads_52 kk23 x2 t0 M = some (r, M9) → VV p l e rmX5_reads s m args below meth c D T3 ad A 3 0 0 (QM below D T3 ad A args s (fun _ => some (.int r)) M9) M [(0, .ref (ad 26)), (2, .int (b2i x2))] 52 [.int (b2i t0)] := by
  intro x2 t0 M h
  unfold fX5_reads_52 at h
  refine V_istore_n C [(1, .int (b2i t0)), (0, .ref (ad 26)), (2, .int (b2i x2))] dX5_reads_52 rfl (by decide) rfl ?_
  refine V_iload_n C 2 dX5_reads_53 rfl ?_
  refine V_ifB_eq C 75 dX5_reads_54 (by decide) (fun q13 => ?_) (fun q13 => ?_)
  · replace h := ite_n q13 h
    refine V_aload_n C 1 dX5_reads_75 rfl ?_
    refine V_iconst C (0 : Int32) dX5_reads_76 (by decide) ?_
    obtain ⟨M5, hM5, h⟩ := lt_t h
    refine V_put C M5 8 dX5_reads_77 (wo_26 T3 ad _) (ws_26_8 T3 ad _ _) rfl inKX5 tyX5 tyX5_ok nmX5 (by decide) flX5_94 rfl rfl rfl (Nat.le_of_ble_eq_true rfl) hM5 ?_
    refine V_aload_n C 1 dX5_reads_80 rfl ?_
    refine V_get C 7 dX5_reads_81 (wo_26 T3 ad _) rfl inKX5 (by decide) flX5_106 rfl rfl ?_
    obtain ⟨rfl, rfl⟩ := ret_W h
    exact V_iret C dX5_reads_84
  · replace h := ite_p q13 h
    refine V_iload_n C 0 dX5_reads_57 rfl ?_
    refine V_ifB_eq C 85 dX5_reads_58 (by decide) (fun q12 => ?_) (fun q12 => ?_)
    · replace h := ite_n q12 h
      refine V_sub (lv' := [(0, .ref (ad 26)), (1, .int (b2i t0))]) [1, 0] rfl ?_
      exact vX5_reads_85 C kk23 hk23 t0 M h
    · replace h := ite_p q12 h
      refine V_aload_n C 1 dX5_reads_61 rfl ?_
      refine V_get C 5 dX5_reads_62 (wo_26 T3 ad _) rfl inKX5 (by decide) flX5_22 rfl rfl ?_
      refine V_aload_n C 1 dX5_reads_65 rfl ?_
      refine V_get C 7 dX5_reads_66 (wo_26 T3 ad _) rfl inKX5 (by decide) flX5_106 rfl rfl ?_
      obtain ⟨g9, h⟩ := gd_t h
      refine V_iald C rfl rfl (inb_in g9) dX5_reads_69 ?_
      refine V_bipush C (59 : Int32) dX5_reads_70 (by decide) ?_
      refine V_icmp_eq C 85 dX5_reads_72 (by decide) (fun q11 => ?_) (fun q11 => ?_)
      · replace h := ite_p q11 h
        refine V_sub (lv' := [(0, .ref (ad 26)), (1, .int (b2i t0))]) [1, 0] rfl ?_
        exact vX5_reads_85 C kk23 hk23 t0 M h
      · replace h := ite_n q11 h
        refine V_aload_n C 1 dX5_reads_75 rfl ?_
        refine V_iconst C (0 : Int32) dX5_reads_76 (by decide) ?_
        obtain ⟨M10, hM10, h⟩ := lt_t h
        refine V_put C M10 8 dX5_reads_77 (wo_26 T3 ad _) (ws_26_8 T3 ad _ _) rfl inKX5 tyX5 tyX5_ok nmX5 (by decide) flX5_94 rfl rfl rfl (Nat.le_of_ble_eq_true rfl) hM10 ?_
        refine V_aload_n C 1 dX5_reads_80 rfl ?_
        refine V_get C 7 dX5_reads_81 (wo_26 T3 ad _) rfl inKX5 (by decide) flX5_106 rfl rfl ?_
        obtain ⟨rfl, rfl⟩ := ret_W h
        exact V_iret C dX5_reads_84
set_option maxHeartbeats 4000000 in
set_option maxRecDepth 100000 in
theorem vX5_reads_23 {p : Program} {l : Launch} {e : Env} {s : State} {m : MethodId} {args : Array Value} {below : List Frame} {meth : Method} {c : Code} {D : va_G} {T3 : ClassId × ClassId × ClassId} {ad sd : Nat → Nat} {A : Nat → Prop}  (C : CX p s m args meth c cX5_reads 3 RX5 (some .int) D T3 ad sd A) {r : Int32} {M9 : Mem} : ∀ (n : Nat) (x1 : Bool) (M : Mem), fX5_reads_23 n x1 M = some (r, M9) → VV p l e rmX5_reads s m args below meth c D T3 ad A 3 0 0 (QM below D T3 ad A args s (fun _ => some (.int r)) M9) M [(0, .ref (ad 26)), (1, .int (b2i x1))] 23 [] := by
  intro n
  induction n with
  | zero => intro x1 M h; exact nomatch (show (none : Option (Int32 × Mem)) = some _ from h)
  | succ n ih =>
    intro x1 M h
    rw [fX5_reads_23] at h
    refine V_iload_n C 1 dX5_reads_23 rfl ?_
    refine V_ifB_eq C 106 dX5_reads_24 (by decide) (fun q16 => ?_) (fun q16 => ?_)
    · replace h := ite_n q16 h
      refine V_iconst C (-1 : Int32) dX5_reads_106 (by decide) ?_
      obtain ⟨rfl, rfl⟩ := ret_W h
      exact V_iret C dX5_reads_107
    · replace h := ite_p q16 h
      refine V_aload_n C 0 dX5_reads_27 rfl ?_
      obtain ⟨z3, M4, hz3, h⟩ := bW_t h
      refine V_callV C (st := []) (st' := [.int (b2i z3)]) (mX5_readsChannel l M hz3) wmX5_readsChannel lkX5_112 dX5_reads_28 (wo_26 T3 ad _) rfl rfl rfl rfl rfl rfl ⟨rfl, rfl, (Nat.le_of_ble_eq_true rfl), (Nat.le_of_ble_eq_true rfl)⟩ ⟨Nat.zero_le _, Nat.zero_le _⟩ (Nat.le_of_ble_eq_true rfl) ?_
      refine V_istore_n C [(2, .int (b2i z3)), (0, .ref (ad 26)), (1, .int (b2i x1))] dX5_reads_31 rfl (by decide) rfl ?_
      refine V_iload_n C 0 dX5_reads_32 rfl ?_
      refine V_ifB_eq C 51 dX5_reads_33 (by decide) (fun q15 => ?_) (fun q15 => ?_)
      · replace h := ite_n q15 h
        refine V_iconst C (0 : Int32) dX5_reads_51 (by decide) ?_
        refine V_sub (lv' := [(0, .ref (ad 26)), (2, .int (b2i z3))]) [1, 0] rfl ?_
        exact vX5_reads_52 C (fX5_reads_23 n) ih z3 false M4 h
      · replace h := ite_p q15 h
        refine V_aload_n C 1 dX5_reads_36 rfl ?_
        refine V_get C 7 dX5_reads_37 (wo_26 T3 ad _) rfl inKX5 (by decide) flX5_106 rfl rfl ?_
        refine V_aload_n C 1 dX5_reads_40 rfl ?_
        refine V_get C 6 dX5_reads_41 (wo_26 T3 ad _) rfl inKX5 (by decide) flX5_87 rfl rfl ?_
        refine V_icmp_ge C 51 dX5_reads_44 (by decide) (fun q14 => ?_) (fun q14 => ?_)
        · replace h := ite_p q14 h
          refine V_iconst C (0 : Int32) dX5_reads_51 (by decide) ?_
          refine V_sub (lv' := [(0, .ref (ad 26)), (2, .int (b2i z3))]) [1, 0] rfl ?_
          exact vX5_reads_52 C (fX5_reads_23 n) ih z3 false M4 h
        · replace h := ite_n q14 h
          refine V_iconst C (1 : Int32) dX5_reads_47 (by decide) ?_
          refine V_goto C 52 dX5_reads_48 (by decide) ?_
          refine V_sub (lv' := [(0, .ref (ad 26)), (2, .int (b2i z3))]) [1, 0] rfl ?_
          exact vX5_reads_52 C (fX5_reads_23 n) ih z3 true M4 h
set_option maxHeartbeats 4000000 in
set_option maxRecDepth 100000 in
theorem mX5_reads (l : Launch) (M : Mem) {r : Int32} {M9 : Mem} (h : fX5_reads M = some (r, M9)) : MC l yX5_reads cX5_reads 3 (some .int) rmX5_reads (fun ad sd => [.ref (ad 26)]) M (fun _ => some (.int r)) M9 := by
  refine MC_start (by decide) (fun ad sd => [(0, .ref (ad 26))]) (fun _ _ => rfl) (fun _ _ => Nat.le_of_ble_eq_true rfl) ?_
  intro p e s m args below meth c D T3 ad sd A C
  unfold fX5_reads at h
  refine V_aload_n C 0 dX5_reads_0 rfl ?_
  refine V_iconst C (0 : Int32) dX5_reads_1 (by decide) ?_
  obtain ⟨M1, hM1, h⟩ := lt_t h
  refine V_put C M1 7 dX5_reads_2 (wo_26 T3 ad _) (ws_26_7 T3 ad _ _) rfl inKX5 tyX5 tyX5_ok nmX5 (by decide) flX5_106 rfl rfl rfl (Nat.le_of_ble_eq_true rfl) hM1 ?_
  refine V_aload_n C 0 dX5_reads_5 rfl ?_
  refine V_iconst C (0 : Int32) dX5_reads_6 (by decide) ?_
  obtain ⟨M2, hM2, h⟩ := lt_t h
  refine V_put C M2 8 dX5_reads_7 (wo_26 T3 ad _) (ws_26_8 T3 ad _ _) rfl inKX5 tyX5 tyX5_ok nmX5 (by decide) flX5_94 rfl rfl rfl (Nat.le_of_ble_eq_true rfl) hM2 ?_
  refine V_aload_n C 0 dX5_reads_10 rfl ?_
  refine V_get C 6 dX5_reads_11 (wo_26 T3 ad _) rfl inKX5 (by decide) flX5_87 rfl rfl ?_
  refine V_if_le C 21 dX5_reads_14 (by decide) (fun q17 => ?_) (fun q17 => ?_)
  · replace h := ite_p q17 h
    refine V_iconst C (0 : Int32) dX5_reads_21 (by decide) ?_
    refine V_istore_n C [(1, .int (0 : Int32)), (0, .ref (ad 26))] dX5_reads_22 rfl (by decide) rfl ?_
    refine V_sub (lv' := [(0, .ref (ad 26)), (1, .int (0 : Int32))]) [1, 0] rfl ?_
    exact vX5_reads_23 C 1000 false M2 h
  · replace h := ite_n q17 h
    refine V_iconst C (1 : Int32) dX5_reads_17 (by decide) ?_
    refine V_goto C 22 dX5_reads_18 (by decide) ?_
    refine V_istore_n C [(1, .int (1 : Int32)), (0, .ref (ad 26))] dX5_reads_22 rfl (by decide) rfl ?_
    refine V_sub (lv' := [(0, .ref (ad 26)), (1, .int (1 : Int32))]) [1, 0] rfl ?_
    exact vX5_reads_23 C 1000 true M2 h
abbrev rmX5_undo : Room := { frames := 4, cells := 0, slots := 0, locals := 91 }
def fX5_undo (M : Mem) : Option (Int32 × Mem) := bW (fX5_reads M) fun z1 M2 => if (M2 26 8) = 0 then some ((-3 : Int32), M2) else if (M2 26 8) = (1 : Int32) then lt (up M2 26 6 ((M2 26 6) - (5 : Int32))) fun M4 => some (((M4 26 8) - (1 : Int32)), M4) else lt (up M2 26 6 ((M2 26 6) - (6 : Int32))) fun M3 => some (((M3 26 8) - (1 : Int32)), M3)
set_option maxHeartbeats 4000000 in
set_option maxRecDepth 100000 in
theorem mX5_undo (l : Launch) (M : Mem) {r : Int32} {M9 : Mem} (h : fX5_undo M = some (r, M9)) : MC l yX5_undo cX5_undo 1 (some .int) rmX5_undo (fun ad sd => [.ref (ad 26)]) M (fun _ => some (.int r)) M9 := by
  refine MC_start (by decide) (fun ad sd => [(0, .ref (ad 26))]) (fun _ _ => rfl) (fun _ _ => Nat.le_of_ble_eq_true rfl) ?_
  intro p e s m args below meth c D T3 ad sd A C
  unfold fX5_undo at h
  refine V_aload_n C 0 dX5_undo_0 rfl ?_
  obtain ⟨z1, M2, hz1, h⟩ := bW_t h
  refine V_callV C (st := []) (st' := [.int z1]) (mX5_reads l M hz1) wmX5_reads lkX5_116 dX5_undo_1 (wo_26 T3 ad _) rfl rfl rfl rfl rfl rfl ⟨rfl, rfl, (Nat.le_of_ble_eq_true rfl), (Nat.le_of_ble_eq_true rfl)⟩ ⟨Nat.zero_le _, Nat.zero_le _⟩ (Nat.le_of_ble_eq_true rfl) ?_
  refine V_pop C dX5_undo_4 rfl ?_
  refine V_aload_n C 0 dX5_undo_5 rfl ?_
  refine V_get C 8 dX5_undo_6 (wo_26 T3 ad _) rfl inKX5 (by decide) flX5_94 rfl rfl ?_
  refine V_if_ne C 15 dX5_undo_9 (by decide) (fun q6 => ?_) (fun q6 => ?_)
  · replace h := ite_n q6 h
    refine V_aload_n C 0 dX5_undo_15 rfl ?_
    refine V_dup C dX5_undo_16 rfl ?_
    refine V_get C 6 dX5_undo_17 (wo_26 T3 ad _) rfl inKX5 (by decide) flX5_87 rfl rfl ?_
    refine V_aload_n C 0 dX5_undo_20 rfl ?_
    refine V_get C 8 dX5_undo_21 (wo_26 T3 ad _) rfl inKX5 (by decide) flX5_94 rfl rfl ?_
    refine V_iconst C (1 : Int32) dX5_undo_24 (by decide) ?_
    refine V_icmp_ne C 32 dX5_undo_25 (by decide) (fun q5 => ?_) (fun q5 => ?_)
    · replace h := ite_n q5 h
      refine V_bipush C (6 : Int32) dX5_undo_32 (by decide) ?_
      refine V_isub C dX5_undo_34 ?_
      obtain ⟨M3, hM3, h⟩ := lt_t h
      refine V_put C M3 6 dX5_undo_35 (wo_26 T3 ad _) (ws_26_6 T3 ad _ _) rfl inKX5 tyX5 tyX5_ok nmX5 (by decide) flX5_87 rfl rfl rfl (Nat.le_of_ble_eq_true rfl) hM3 ?_
      refine V_aload_n C 0 dX5_undo_38 rfl ?_
      refine V_get C 8 dX5_undo_39 (wo_26 T3 ad _) rfl inKX5 (by decide) flX5_94 rfl rfl ?_
      refine V_iconst C (1 : Int32) dX5_undo_42 (by decide) ?_
      refine V_isub C dX5_undo_43 ?_
      obtain ⟨rfl, rfl⟩ := ret_W h
      exact V_iret C dX5_undo_44
    · replace h := ite_p q5 h
      refine V_iconst C (5 : Int32) dX5_undo_28 (by decide) ?_
      refine V_goto C 34 dX5_undo_29 (by decide) ?_
      refine V_isub C dX5_undo_34 ?_
      obtain ⟨M4, hM4, h⟩ := lt_t h
      refine V_put C M4 6 dX5_undo_35 (wo_26 T3 ad _) (ws_26_6 T3 ad _ _) rfl inKX5 tyX5 tyX5_ok nmX5 (by decide) flX5_87 rfl rfl rfl (Nat.le_of_ble_eq_true rfl) hM4 ?_
      refine V_aload_n C 0 dX5_undo_38 rfl ?_
      refine V_get C 8 dX5_undo_39 (wo_26 T3 ad _) rfl inKX5 (by decide) flX5_94 rfl rfl ?_
      refine V_iconst C (1 : Int32) dX5_undo_42 (by decide) ?_
      refine V_isub C dX5_undo_43 ?_
      obtain ⟨rfl, rfl⟩ := ret_W h
      exact V_iret C dX5_undo_44
  · replace h := ite_p q6 h
    refine V_bipush C (-3 : Int32) dX5_undo_12 (by decide) ?_
    obtain ⟨rfl, rfl⟩ := ret_W h
    exact V_iret C dX5_undo_14
abbrev rmX5_fault : Room := { frames := 4, cells := 0, slots := 0, locals := 91 }
def fX5_fault (M : Mem) : Option (Int32 × Mem) := bW (fX5_reads M) fun z1 M2 => some (z1, M2)
set_option maxHeartbeats 4000000 in
set_option maxRecDepth 100000 in
theorem mX5_fault (l : Launch) (M : Mem) {r : Int32} {M9 : Mem} (h : fX5_fault M = some (r, M9)) : MC l yX5_fault cX5_fault 1 (some .int) rmX5_fault (fun ad sd => [.ref (ad 26)]) M (fun _ => some (.int r)) M9 := by
  refine MC_start (by decide) (fun ad sd => [(0, .ref (ad 26))]) (fun _ _ => rfl) (fun _ _ => Nat.le_of_ble_eq_true rfl) ?_
  intro p e s m args below meth c D T3 ad sd A C
  unfold fX5_fault at h
  refine V_aload_n C 0 dX5_fault_0 rfl ?_
  obtain ⟨z1, M2, hz1, h⟩ := bW_t h
  refine V_callV C (st := []) (st' := [.int z1]) (mX5_reads l M hz1) wmX5_reads lkX5_116 dX5_fault_1 (wo_26 T3 ad _) rfl rfl rfl rfl rfl rfl ⟨rfl, rfl, (Nat.le_of_ble_eq_true rfl), (Nat.le_of_ble_eq_true rfl)⟩ ⟨Nat.zero_le _, Nat.zero_le _⟩ (Nat.le_of_ble_eq_true rfl) ?_
  obtain ⟨rfl, rfl⟩ := ret_W h
  exact V_iret C dX5_fault_4
abbrev rmX5_isChannel : Room := { frames := 1, cells := 0, slots := 0, locals := 25 }
def fX5_isChannel (M : Mem) (x1 : Int32) : Bool := (fX5_in (Int32.toInt64 x1) (0 : Int64) (Int32.toInt64 ((M 26 8) - (1 : Int32))))
set_option maxHeartbeats 4000000 in
set_option maxRecDepth 100000 in
theorem mX5_isChannel (l : Launch) (x1 : Int32) (M : Mem) {r : Bool} (h : fX5_isChannel M x1 = r) : MC l yX5_isChannel cX5_isChannel 2 (some .boolean) rmX5_isChannel (fun ad sd => [.ref (ad 26), .int x1]) M (fun _ => some (.int (b2i r))) M := by
  refine MC_start (by decide) (fun ad sd => [(0, .ref (ad 26)), (1, .int x1)]) (fun _ _ => rfl) (fun _ _ => Nat.le_of_ble_eq_true rfl) ?_
  intro p e s m args below meth c D T3 ad sd A C
  unfold fX5_isChannel at h
  refine V_iload_n C 1 dX5_isChannel_0 rfl ?_
  refine V_i2l C dX5_isChannel_1 ?_
  refine V_lconst C (0 : Int64) dX5_isChannel_2 (by decide) ?_
  refine V_aload_n C 0 dX5_isChannel_3 rfl ?_
  refine V_get C 8 dX5_isChannel_4 (wo_26 T3 ad _) rfl inKX5 (by decide) flX5_94 rfl rfl ?_
  refine V_iconst C (1 : Int32) dX5_isChannel_7 (by decide) ?_
  refine V_isub C dX5_isChannel_8 ?_
  refine V_i2l C dX5_isChannel_9 ?_
  refine V_callS C (st := []) (st' := [.int (b2i (fX5_in (Int32.toInt64 x1) (0 : Int64) (Int32.toInt64 ((M 26 8) - (1 : Int32)))))]) (mX5_in l (Int32.toInt64 x1) (0 : Int64) (Int32.toInt64 ((M 26 8) - (1 : Int32))) M rfl) wmX5_in lkX5_54 dX5_isChannel_10 rfl rfl rfl ⟨rfl, rfl, (Nat.le_of_ble_eq_true rfl), (Nat.le_of_ble_eq_true rfl)⟩ ⟨Nat.zero_le _, Nat.zero_le _⟩ (Nat.le_of_ble_eq_true rfl) ?_
  subst h
  exact V_zret C dX5_isChannel_13
abbrev rmX5_channel : Room := { frames := 4, cells := 0, slots := 0, locals := 91 }
def fX5_channel (x1 : Int32) (x2 : Int32) (M : Mem) : Option (Int32 × Mem) := bW (fX5_reads M) fun z1 M2 => if (fX5_isChannel M2 x1) = true then if (fX5_in (Int32.toInt64 x2) (0 : Int64) (4 : Int64)) = true then gd (inb (((5 : Int32) * x1) + x2) 80) (some ((M2 32 ((((5 : Int32) * x1) + x2)).toNatClampNeg), M2)) else some ((-2 : Int32), M2) else some ((-2 : Int32), M2)
set_option maxHeartbeats 4000000 in
set_option maxRecDepth 100000 in
theorem mX5_channel (l : Launch) (x1 : Int32) (x2 : Int32) (M : Mem) {r : Int32} {M9 : Mem} (h : fX5_channel x1 x2 M = some (r, M9)) : MC l yX5_channel cX5_channel 3 (some .int) rmX5_channel (fun ad sd => [.ref (ad 26), .int x1, .int x2]) M (fun _ => some (.int r)) M9 := by
  refine MC_start (by decide) (fun ad sd => [(0, .ref (ad 26)), (1, .int x1), (2, .int x2)]) (fun _ _ => rfl) (fun _ _ => Nat.le_of_ble_eq_true rfl) ?_
  intro p e s m args below meth c D T3 ad sd A C
  unfold fX5_channel at h
  refine V_aload_n C 0 dX5_channel_0 rfl ?_
  obtain ⟨z1, M2, hz1, h⟩ := bW_t h
  refine V_callV C (st := []) (st' := [.int z1]) (mX5_reads l M hz1) wmX5_reads lkX5_116 dX5_channel_1 (wo_26 T3 ad _) rfl rfl rfl rfl rfl rfl ⟨rfl, rfl, (Nat.le_of_ble_eq_true rfl), (Nat.le_of_ble_eq_true rfl)⟩ ⟨Nat.zero_le _, Nat.zero_le _⟩ (Nat.le_of_ble_eq_true rfl) ?_
  refine V_pop C dX5_channel_4 rfl ?_
  refine V_aload_n C 0 dX5_channel_5 rfl ?_
  refine V_iload_n C 1 dX5_channel_6 rfl ?_
  refine V_callV C (st := []) (st' := [.int (b2i (fX5_isChannel M2 x1))]) (mX5_isChannel l x1 M2 rfl) wmX5_isChannel lkX5_124 dX5_channel_7 (wo_26 T3 ad _) rfl rfl rfl rfl rfl rfl ⟨rfl, rfl, (Nat.le_of_ble_eq_true rfl), (Nat.le_of_ble_eq_true rfl)⟩ ⟨Nat.zero_le _, Nat.zero_le _⟩ (Nat.le_of_ble_eq_true rfl) ?_
  refine V_ifB_eq C 38 dX5_channel_10 (by decide) (fun q5 => ?_) (fun q5 => ?_)
  · replace h := ite_n q5 h
    refine V_bipush C (-2 : Int32) dX5_channel_38 (by decide) ?_
    obtain ⟨rfl, rfl⟩ := ret_W h
    exact V_iret C dX5_channel_40
  · replace h := ite_p q5 h
    refine V_iload_n C 2 dX5_channel_13 rfl ?_
    refine V_i2l C dX5_channel_14 ?_
    refine V_lconst C (0 : Int64) dX5_channel_15 (by decide) ?_
    refine V_ldc2 C dX5_channel_16 kcX5_127 ?_
    refine V_callS C (st := []) (st' := [.int (b2i (fX5_in (Int32.toInt64 x2) (0 : Int64) (4 : Int64)))]) (mX5_in l (Int32.toInt64 x2) (0 : Int64) (4 : Int64) M2 rfl) wmX5_in lkX5_54 dX5_channel_19 rfl rfl rfl ⟨rfl, rfl, (Nat.le_of_ble_eq_true rfl), (Nat.le_of_ble_eq_true rfl)⟩ ⟨Nat.zero_le _, Nat.zero_le _⟩ (Nat.le_of_ble_eq_true rfl) ?_
    refine V_ifB_eq C 38 dX5_channel_22 (by decide) (fun q4 => ?_) (fun q4 => ?_)
    · replace h := ite_n q4 h
      refine V_bipush C (-2 : Int32) dX5_channel_38 (by decide) ?_
      obtain ⟨rfl, rfl⟩ := ret_W h
      exact V_iret C dX5_channel_40
    · replace h := ite_p q4 h
      refine V_aload_n C 0 dX5_channel_25 rfl ?_
      refine V_get C 9 dX5_channel_26 (wo_26 T3 ad _) rfl inKX5 (by decide) flX5_25 rfl rfl ?_
      refine V_iconst C (5 : Int32) dX5_channel_29 (by decide) ?_
      refine V_iload_n C 1 dX5_channel_30 rfl ?_
      refine V_imul C dX5_channel_31 ?_
      refine V_iload_n C 2 dX5_channel_32 rfl ?_
      refine V_iadd C dX5_channel_33 ?_
      obtain ⟨g3, h⟩ := gd_t h
      refine V_iald C rfl rfl (inb_in g3) dX5_channel_34 ?_
      refine V_goto C 40 dX5_channel_35 (by decide) ?_
      obtain ⟨rfl, rfl⟩ := ret_W h
      exact V_iret C dX5_channel_40
abbrev rmX5_isNight : Room := { frames := 1, cells := 0, slots := 0, locals := 25 }
def fX5_isNight (x0 : Int32) : Bool := (fX5_in (Int32.toInt64 x0) (0 : Int64) (99 : Int64))
set_option maxHeartbeats 4000000 in
set_option maxRecDepth 100000 in
theorem mX5_isNight (l : Launch) (x0 : Int32) (M : Mem) {r : Bool} (h : fX5_isNight x0 = r) : MC l yX5_isNight cX5_isNight 1 (some .boolean) rmX5_isNight (fun ad sd => [.int x0]) M (fun _ => some (.int (b2i r))) M := by
  refine MC_start (by decide) (fun ad sd => [(0, .int x0)]) (fun _ _ => rfl) (fun _ _ => Nat.le_of_ble_eq_true rfl) ?_
  intro p e s m args below meth c D T3 ad sd A C
  unfold fX5_isNight at h
  refine V_iload_n C 0 dX5_isNight_0 rfl ?_
  refine V_i2l C dX5_isNight_1 ?_
  refine V_lconst C (0 : Int64) dX5_isNight_2 (by decide) ?_
  refine V_ldc2 C dX5_isNight_3 kcX5_120 ?_
  refine V_callS C (st := []) (st' := [.int (b2i (fX5_in (Int32.toInt64 x0) (0 : Int64) (99 : Int64)))]) (mX5_in l (Int32.toInt64 x0) (0 : Int64) (99 : Int64) M rfl) wmX5_in lkX5_54 dX5_isNight_6 rfl rfl rfl ⟨rfl, rfl, (Nat.le_of_ble_eq_true rfl), (Nat.le_of_ble_eq_true rfl)⟩ ⟨Nat.zero_le _, Nat.zero_le _⟩ (Nat.le_of_ble_eq_true rfl) ?_
  subst h
  exact V_zret C dX5_isNight_9
abbrev rmX5_storm : Room := { frames := 2, cells := 0, slots := 0, locals := 45 }
def fX5_storm (x1 : Int32) (M : Mem) : Option (Int32 × Mem) := if (fX5_isNight x1) = true then if (M 26 10) = (8 : Int32) then some ((-4 : Int32), M) else gd (inb (M 26 10) 8) (lt (up M 33 ((M 26 10)).toNatClampNeg x1) fun M1 => lt (up M1 26 10 ((M1 26 10) + (1 : Int32))) fun M3 => some ((M3 26 10), M3)) else some ((-2 : Int32), M)
set_option maxHeartbeats 4000000 in
set_option maxRecDepth 100000 in
theorem mX5_storm (l : Launch) (x1 : Int32) (M : Mem) {r : Int32} {M9 : Mem} (h : fX5_storm x1 M = some (r, M9)) : MC l yX5_storm cX5_storm 2 (some .int) rmX5_storm (fun ad sd => [.ref (ad 26), .int x1]) M (fun _ => some (.int r)) M9 := by
  refine MC_start (by decide) (fun ad sd => [(0, .ref (ad 26)), (1, .int x1)]) (fun _ _ => rfl) (fun _ _ => Nat.le_of_ble_eq_true rfl) ?_
  intro p e s m args below meth c D T3 ad sd A C
  unfold fX5_storm at h
  refine V_iload_n C 1 dX5_storm_0 rfl ?_
  refine V_callS C (st := []) (st' := [.int (b2i (fX5_isNight x1))]) (mX5_isNight l x1 M rfl) wmX5_isNight lkX5_129 dX5_storm_1 rfl rfl rfl ⟨rfl, rfl, (Nat.le_of_ble_eq_true rfl), (Nat.le_of_ble_eq_true rfl)⟩ ⟨Nat.zero_le _, Nat.zero_le _⟩ (Nat.le_of_ble_eq_true rfl) ?_
  refine V_ifB_ne C 10 dX5_storm_4 (by decide) (fun q5 => ?_) (fun q5 => ?_)
  · replace h := ite_p q5 h
    refine V_aload_n C 0 dX5_storm_10 rfl ?_
    refine V_get C 10 dX5_storm_11 (wo_26 T3 ad _) rfl inKX5 (by decide) flX5_132 rfl rfl ?_
    refine V_bipush C (8 : Int32) dX5_storm_14 (by decide) ?_
    refine V_icmp_ne C 22 dX5_storm_16 (by decide) (fun q4 => ?_) (fun q4 => ?_)
    · replace h := ite_n q4 h
      refine V_aload_n C 0 dX5_storm_22 rfl ?_
      refine V_get C 11 dX5_storm_23 (wo_26 T3 ad _) rfl inKX5 (by decide) flX5_28 rfl rfl ?_
      refine V_aload_n C 0 dX5_storm_26 rfl ?_
      refine V_get C 10 dX5_storm_27 (wo_26 T3 ad _) rfl inKX5 (by decide) flX5_132 rfl rfl ?_
      refine V_iload_n C 1 dX5_storm_30 rfl ?_
      obtain ⟨g2, h⟩ := gd_t h
      obtain ⟨M1, hM1, h⟩ := lt_t h
      refine V_iast C M1 rfl rfl (inb_in g2) dX5_storm_31 hM1 ?_
      refine V_aload_n C 0 dX5_storm_32 rfl ?_
      refine V_dup C dX5_storm_33 rfl ?_
      refine V_get C 10 dX5_storm_34 (wo_26 T3 ad _) rfl inKX5 (by decide) flX5_132 rfl rfl ?_
      refine V_iconst C (1 : Int32) dX5_storm_37 (by decide) ?_
      refine V_iadd C dX5_storm_38 ?_
      obtain ⟨M3, hM3, h⟩ := lt_t h
      refine V_put C M3 10 dX5_storm_39 (wo_26 T3 ad _) (ws_26_10 T3 ad _ _) rfl inKX5 tyX5 tyX5_ok nmX5 (by decide) flX5_132 rfl rfl rfl (Nat.le_of_ble_eq_true rfl) hM3 ?_
      refine V_aload_n C 0 dX5_storm_42 rfl ?_
      refine V_get C 10 dX5_storm_43 (wo_26 T3 ad _) rfl inKX5 (by decide) flX5_132 rfl rfl ?_
      obtain ⟨rfl, rfl⟩ := ret_W h
      exact V_iret C dX5_storm_46
    · replace h := ite_p q4 h
      refine V_bipush C (-4 : Int32) dX5_storm_19 (by decide) ?_
      obtain ⟨rfl, rfl⟩ := ret_W h
      exact V_iret C dX5_storm_21
  · replace h := ite_n q5 h
    refine V_bipush C (-2 : Int32) dX5_storm_7 (by decide) ?_
    obtain ⟨rfl, rfl⟩ := ret_W h
    exact V_iret C dX5_storm_9
abbrev rmX5_calm : Room := { frames := 0, cells := 0, slots := 0, locals := 0 }
def fX5_calm (M : Mem) : Option (Int32 × Mem) := if (M 26 10) = 0 then some ((-3 : Int32), M) else lt (up M 26 10 ((M 26 10) - (1 : Int32))) fun M1 => some ((M1 26 10), M1)
set_option maxHeartbeats 4000000 in
set_option maxRecDepth 100000 in
theorem mX5_calm (l : Launch) (M : Mem) {r : Int32} {M9 : Mem} (h : fX5_calm M = some (r, M9)) : MC l yX5_calm cX5_calm 1 (some .int) rmX5_calm (fun ad sd => [.ref (ad 26)]) M (fun _ => some (.int r)) M9 := by
  refine MC_start (by decide) (fun ad sd => [(0, .ref (ad 26))]) (fun _ _ => rfl) (fun _ _ => Nat.le_of_ble_eq_true rfl) ?_
  intro p e s m args below meth c D T3 ad sd A C
  unfold fX5_calm at h
  refine V_aload_n C 0 dX5_calm_0 rfl ?_
  refine V_get C 10 dX5_calm_1 (wo_26 T3 ad _) rfl inKX5 (by decide) flX5_132 rfl rfl ?_
  refine V_if_ne C 10 dX5_calm_4 (by decide) (fun q2 => ?_) (fun q2 => ?_)
  · replace h := ite_n q2 h
    refine V_aload_n C 0 dX5_calm_10 rfl ?_
    refine V_dup C dX5_calm_11 rfl ?_
    refine V_get C 10 dX5_calm_12 (wo_26 T3 ad _) rfl inKX5 (by decide) flX5_132 rfl rfl ?_
    refine V_iconst C (1 : Int32) dX5_calm_15 (by decide) ?_
    refine V_isub C dX5_calm_16 ?_
    obtain ⟨M1, hM1, h⟩ := lt_t h
    refine V_put C M1 10 dX5_calm_17 (wo_26 T3 ad _) (ws_26_10 T3 ad _ _) rfl inKX5 tyX5 tyX5_ok nmX5 (by decide) flX5_132 rfl rfl rfl (Nat.le_of_ble_eq_true rfl) hM1 ?_
    refine V_aload_n C 0 dX5_calm_20 rfl ?_
    refine V_get C 10 dX5_calm_21 (wo_26 T3 ad _) rfl inKX5 (by decide) flX5_132 rfl rfl ?_
    obtain ⟨rfl, rfl⟩ := ret_W h
    exact V_iret C dX5_calm_24
  · replace h := ite_p q2 h
    refine V_bipush C (-3 : Int32) dX5_calm_7 (by decide) ?_
    obtain ⟨rfl, rfl⟩ := ret_W h
    exact V_iret C dX5_calm_9
abbrev rmX5_odds : Room := { frames := 1, cells := 0, slots := 0, locals := 25 }
def fX5_odds (x1 : Int32) (M : Mem) : Option (Int32 × Mem) := if (fX5_in (Int32.toInt64 x1) (0 : Int64) (16 : Int64)) = true then lt (up M 26 12 x1) fun M1 => some ((M 26 12), M1) else some ((-2 : Int32), M)
set_option maxHeartbeats 4000000 in
set_option maxRecDepth 100000 in
theorem mX5_odds (l : Launch) (x1 : Int32) (M : Mem) {r : Int32} {M9 : Mem} (h : fX5_odds x1 M = some (r, M9)) : MC l yX5_odds cX5_odds 3 (some .int) rmX5_odds (fun ad sd => [.ref (ad 26), .int x1]) M (fun _ => some (.int r)) M9 := by
  refine MC_start (by decide) (fun ad sd => [(0, .ref (ad 26)), (1, .int x1)]) (fun _ _ => rfl) (fun _ _ => Nat.le_of_ble_eq_true rfl) ?_
  intro p e s m args below meth c D T3 ad sd A C
  unfold fX5_odds at h
  refine V_iload_n C 1 dX5_odds_0 rfl ?_
  refine V_i2l C dX5_odds_1 ?_
  refine V_lconst C (0 : Int64) dX5_odds_2 (by decide) ?_
  refine V_ldc2 C dX5_odds_3 kcX5_135 ?_
  refine V_callS C (st := []) (st' := [.int (b2i (fX5_in (Int32.toInt64 x1) (0 : Int64) (16 : Int64)))]) (mX5_in l (Int32.toInt64 x1) (0 : Int64) (16 : Int64) M rfl) wmX5_in lkX5_54 dX5_odds_6 rfl rfl rfl ⟨rfl, rfl, (Nat.le_of_ble_eq_true rfl), (Nat.le_of_ble_eq_true rfl)⟩ ⟨Nat.zero_le _, Nat.zero_le _⟩ (Nat.le_of_ble_eq_true rfl) ?_
  refine V_ifB_ne C 15 dX5_odds_9 (by decide) (fun q2 => ?_) (fun q2 => ?_)
  · replace h := ite_p q2 h
    refine V_aload_n C 0 dX5_odds_15 rfl ?_
    refine V_get C 12 dX5_odds_16 (wo_26 T3 ad _) rfl inKX5 (by decide) flX5_50 rfl rfl ?_
    refine V_istore_n C [(2, .int (M 26 12)), (0, .ref (ad 26)), (1, .int x1)] dX5_odds_19 rfl (by decide) rfl ?_
    refine V_aload_n C 1 dX5_odds_20 rfl ?_
    refine V_iload_n C 2 dX5_odds_21 rfl ?_
    obtain ⟨M1, hM1, h⟩ := lt_t h
    refine V_put C M1 12 dX5_odds_22 (wo_26 T3 ad _) (ws_26_12 T3 ad _ _) rfl inKX5 tyX5 tyX5_ok nmX5 (by decide) flX5_50 rfl rfl rfl (Nat.le_of_ble_eq_true rfl) hM1 ?_
    refine V_iload_n C 0 dX5_odds_25 rfl ?_
    obtain ⟨rfl, rfl⟩ := ret_W h
    exact V_iret C dX5_odds_26
  · replace h := ite_n q2 h
    refine V_bipush C (-2 : Int32) dX5_odds_12 (by decide) ?_
    obtain ⟨rfl, rfl⟩ := ret_W h
    exact V_iret C dX5_odds_14
abbrev rmX5_isStorm : Room := { frames := 0, cells := 0, slots := 0, locals := 0 }
def fX5_isStorm_4 (M : Mem) : Nat → Int32 → Bool → Int32 → Option Bool
  | 0, _, _, _ => none
  | n + 1, x1, x2, x3 => if (M 26 10) ≤ x3 then some x2 else if x2 = true then fX5_isStorm_4 M n x1 true (x3 + 1) else gd (inb x3 8) (if (M 33 (x3).toNatClampNeg) = x1 then fX5_isStorm_4 M n x1 true (x3 + 1) else fX5_isStorm_4 M n x1 false (x3 + 1))
def fX5_isStorm (M : Mem) (x1 : Int32) : Option Bool := fX5_isStorm_4 M 1000 x1 false (0 : Int32)
set_option maxHeartbeats 4000000 in
set_option maxRecDepth 100000 in
theorem vX5_isStorm_4 {p : Program} {l : Launch} {e : Env} {s : State} {m : MethodId} {args : Array Value} {below : List Frame} {meth : Method} {c : Code} {D : va_G} {T3 : ClassId × ClassId × ClassId} {ad sd : Nat → Nat} {A : Nat → Prop}  (C : CX p s m args meth c cX5_isStorm 4 RX5 (some .boolean) D T3 ad sd A) {r : Bool} (M : Mem) : ∀ (n : Nat) (x1 : Int32) (x2 : Bool) (x3 : Int32), fX5_isStorm_4 M n x1 x2 x3 = some r → VV p l e rmX5_isStorm s m args below meth c D T3 ad A 4 0 0 (QM below D T3 ad A args s (fun _ => some (.int (b2i r))) M) M [(0, .ref (ad 26)), (1, .int x1), (2, .int (b2i x2)), (3, .int x3)] 4 [] := by
  intro n
  induction n with
  | zero => intro x1 x2 x3 h; exact nomatch (show (none : Option Bool) = some _ from h)
  | succ n ih =>
    intro x1 x2 x3 h
    rw [fX5_isStorm_4] at h
    refine V_iload_n C 3 dX5_isStorm_4 rfl ?_
    refine V_aload_n C 0 dX5_isStorm_5 rfl ?_
    refine V_get C 10 dX5_isStorm_6 (wo_26 T3 ad _) rfl inKX5 (by decide) flX5_132 rfl rfl ?_
    refine V_icmp_ge C 38 dX5_isStorm_9 (by decide) (fun q4 => ?_) (fun q4 => ?_)
    · replace h := ite_p q4 h
      refine V_iload_n C 2 dX5_isStorm_38 rfl ?_
      obtain rfl := ret_P h
      exact V_zret C dX5_isStorm_39
    · replace h := ite_n q4 h
      refine V_iload_n C 2 dX5_isStorm_12 rfl ?_
      refine V_ifB_ne C 26 dX5_isStorm_13 (by decide) (fun q3 => ?_) (fun q3 => ?_)
      · replace h := ite_p q3 h
        refine V_iconst C (1 : Int32) dX5_isStorm_26 (by decide) ?_
        refine V_goto C 31 dX5_isStorm_27 (by decide) ?_
        refine V_istore_n C [(2, .int (1 : Int32)), (0, .ref (ad 26)), (1, .int x1), (3, .int x3)] dX5_isStorm_31 rfl (by decide) rfl ?_
        refine V_iinc C 3 (x3 + 1) [(3, .int (x3 + 1)), (2, .int (1 : Int32)), (0, .ref (ad 26)), (1, .int x1)] dX5_isStorm_32 rfl rfl (by decide) rfl ?_
        refine V_goto C 4 dX5_isStorm_35 (by decide) ?_
        refine V_sub (lv' := [(0, .ref (ad 26)), (1, .int x1), (2, .int (1 : Int32)), (3, .int (x3 + 1))]) [2, 3, 1, 0] rfl ?_
        exact ih x1 true (x3 + 1) h
      · replace h := ite_n q3 h
        refine V_aload_n C 0 dX5_isStorm_16 rfl ?_
        refine V_get C 11 dX5_isStorm_17 (wo_26 T3 ad _) rfl inKX5 (by decide) flX5_28 rfl rfl ?_
        refine V_iload_n C 3 dX5_isStorm_20 rfl ?_
        obtain ⟨g1, h⟩ := gd_t h
        refine V_iald C rfl rfl (inb_in g1) dX5_isStorm_21 ?_
        refine V_iload_n C 1 dX5_isStorm_22 rfl ?_
        refine V_icmp_ne C 30 dX5_isStorm_23 (by decide) (fun q2 => ?_) (fun q2 => ?_)
        · replace h := ite_n q2 h
          refine V_iconst C (0 : Int32) dX5_isStorm_30 (by decide) ?_
          refine V_istore_n C [(2, .int (0 : Int32)), (0, .ref (ad 26)), (1, .int x1), (3, .int x3)] dX5_isStorm_31 rfl (by decide) rfl ?_
          refine V_iinc C 3 (x3 + 1) [(3, .int (x3 + 1)), (2, .int (0 : Int32)), (0, .ref (ad 26)), (1, .int x1)] dX5_isStorm_32 rfl rfl (by decide) rfl ?_
          refine V_goto C 4 dX5_isStorm_35 (by decide) ?_
          refine V_sub (lv' := [(0, .ref (ad 26)), (1, .int x1), (2, .int (0 : Int32)), (3, .int (x3 + 1))]) [2, 3, 1, 0] rfl ?_
          exact ih x1 false (x3 + 1) h
        · replace h := ite_p q2 h
          refine V_iconst C (1 : Int32) dX5_isStorm_26 (by decide) ?_
          refine V_goto C 31 dX5_isStorm_27 (by decide) ?_
          refine V_istore_n C [(2, .int (1 : Int32)), (0, .ref (ad 26)), (1, .int x1), (3, .int x3)] dX5_isStorm_31 rfl (by decide) rfl ?_
          refine V_iinc C 3 (x3 + 1) [(3, .int (x3 + 1)), (2, .int (1 : Int32)), (0, .ref (ad 26)), (1, .int x1)] dX5_isStorm_32 rfl rfl (by decide) rfl ?_
          refine V_goto C 4 dX5_isStorm_35 (by decide) ?_
          refine V_sub (lv' := [(0, .ref (ad 26)), (1, .int x1), (2, .int (1 : Int32)), (3, .int (x3 + 1))]) [2, 3, 1, 0] rfl ?_
          exact ih x1 true (x3 + 1) h
set_option maxHeartbeats 4000000 in
set_option maxRecDepth 100000 in
theorem mX5_isStorm (l : Launch) (x1 : Int32) (M : Mem) {r : Bool} (h : fX5_isStorm M x1 = some r) : MC l yX5_isStorm cX5_isStorm 4 (some .boolean) rmX5_isStorm (fun ad sd => [.ref (ad 26), .int x1]) M (fun _ => some (.int (b2i r))) M := by
  refine MC_start (by decide) (fun ad sd => [(0, .ref (ad 26)), (1, .int x1)]) (fun _ _ => rfl) (fun _ _ => Nat.le_of_ble_eq_true rfl) ?_
  intro p e s m args below meth c D T3 ad sd A C
  unfold fX5_isStorm at h
  refine V_iconst C (0 : Int32) dX5_isStorm_0 (by decide) ?_
  refine V_istore_n C [(2, .int (0 : Int32)), (0, .ref (ad 26)), (1, .int x1)] dX5_isStorm_1 rfl (by decide) rfl ?_
  refine V_iconst C (0 : Int32) dX5_isStorm_2 (by decide) ?_
  refine V_istore_n C [(3, .int (0 : Int32)), (2, .int (0 : Int32)), (0, .ref (ad 26)), (1, .int x1)] dX5_isStorm_3 rfl (by decide) rfl ?_
  refine V_sub (lv' := [(0, .ref (ad 26)), (1, .int x1), (2, .int (0 : Int32)), (3, .int (0 : Int32))]) [2, 3, 1, 0] rfl ?_
  exact vX5_isStorm_4 C M 1000 x1 false (0 : Int32) h
abbrev rmX5_lesser : Room := { frames := 0, cells := 0, slots := 0, locals := 0 }
def fX5_lesser (x0 : Int32) (x1 : Int32) : Int32 := if x1 ≤ x0 then x1 else x0
set_option maxHeartbeats 4000000 in
set_option maxRecDepth 100000 in
theorem mX5_lesser (l : Launch) (x0 : Int32) (x1 : Int32) (M : Mem) {r : Int32} (h : fX5_lesser x0 x1 = r) : MC l yX5_lesser cX5_lesser 2 (some .int) rmX5_lesser (fun ad sd => [.int x0, .int x1]) M (fun _ => some (.int r)) M := by
  refine MC_start (by decide) (fun ad sd => [(0, .int x0), (1, .int x1)]) (fun _ _ => rfl) (fun _ _ => Nat.le_of_ble_eq_true rfl) ?_
  intro p e s m args below meth c D T3 ad sd A C
  unfold fX5_lesser at h
  refine V_iload_n C 0 dX5_lesser_0 rfl ?_
  refine V_iload_n C 1 dX5_lesser_1 rfl ?_
  refine V_icmp_ge C 9 dX5_lesser_2 (by decide) (fun q1 => ?_) (fun q1 => ?_)
  · replace h := ite_p q1 h
    refine V_iload_n C 1 dX5_lesser_9 rfl ?_
    subst h
    exact V_iret C dX5_lesser_10
  · replace h := ite_n q1 h
    refine V_iload_n C 0 dX5_lesser_5 rfl ?_
    refine V_goto C 10 dX5_lesser_6 (by decide) ?_
    subst h
    exact V_iret C dX5_lesser_10
abbrev rmX5_within : Room := { frames := 1, cells := 0, slots := 0, locals := 21 }
def fX5_within (x0 : Int32) : Int32 := if 0 ≤ x0 then (fX5_lesser x0 (9 : Int32)) else (0 : Int32)
set_option maxHeartbeats 4000000 in
set_option maxRecDepth 100000 in
theorem mX5_within (l : Launch) (x0 : Int32) (M : Mem) {r : Int32} (h : fX5_within x0 = r) : MC l yX5_within cX5_within 1 (some .int) rmX5_within (fun ad sd => [.int x0]) M (fun _ => some (.int r)) M := by
  refine MC_start (by decide) (fun ad sd => [(0, .int x0)]) (fun _ _ => rfl) (fun _ _ => Nat.le_of_ble_eq_true rfl) ?_
  intro p e s m args below meth c D T3 ad sd A C
  unfold fX5_within at h
  refine V_iload_n C 0 dX5_within_0 rfl ?_
  refine V_if_ge C 8 dX5_within_1 (by decide) (fun q1 => ?_) (fun q1 => ?_)
  · replace h := ite_p q1 h
    refine V_iload_n C 0 dX5_within_8 rfl ?_
    refine V_bipush C (9 : Int32) dX5_within_9 (by decide) ?_
    refine V_callS C (st := []) (st' := [.int (fX5_lesser x0 (9 : Int32))]) (mX5_lesser l x0 (9 : Int32) M rfl) wmX5_lesser lkX5_58 dX5_within_11 rfl rfl rfl ⟨rfl, rfl, (Nat.le_of_ble_eq_true rfl), (Nat.le_of_ble_eq_true rfl)⟩ ⟨Nat.zero_le _, Nat.zero_le _⟩ (Nat.le_of_ble_eq_true rfl) ?_
    subst h
    exact V_iret C dX5_within_14
  · replace h := ite_n q1 h
    refine V_iconst C (0 : Int32) dX5_within_4 (by decide) ?_
    refine V_goto C 14 dX5_within_5 (by decide) ?_
    subst h
    exact V_iret C dX5_within_14
abbrev rmX5_deepBy : Room := { frames := 2, cells := 0, slots := 0, locals := 41 }
def fX5_deepBy (x0 : Int32) (x1 : Int32) (x2 : Int32) (x3 : Int32) : Option Int32 := gd (decide (¬ x1 = 0)) (if x0 = 0 then some (rmI (x2 + (x3 / x1)) (10 : Int32)) else if x0 = (1 : Int32) then gd (decide (¬ x1 = 0)) (if (rmI x3 x1) = 0 then some x2 else some (0 : Int32)) else if x0 = (2 : Int32) then some (fX5_within (x2 - (x3 / x1))) else if (rmI (x3 / x1) (2 : Int32)) = (1 : Int32) then some ((9 : Int32) - x2) else some x2)
set_option maxHeartbeats 4000000 in
set_option maxRecDepth 100000 in
theorem mX5_deepBy (l : Launch) (x0 : Int32) (x1 : Int32) (x2 : Int32) (x3 : Int32) (M : Mem) {r : Int32} (h : fX5_deepBy x0 x1 x2 x3 = some r) : MC l yX5_deepBy cX5_deepBy 5 (some .int) rmX5_deepBy (fun ad sd => [.int x0, .int x1, .int x2, .int x3]) M (fun _ => some (.int r)) M := by
  refine MC_start (by decide) (fun ad sd => [(0, .int x0), (1, .int x1), (2, .int x2), (3, .int x3)]) (fun _ _ => rfl) (fun _ _ => Nat.le_of_ble_eq_true rfl) ?_
  intro p e s m args below meth c D T3 ad sd A C
  unfold fX5_deepBy at h
  refine V_iload_n C 3 dX5_deepBy_0 rfl ?_
  refine V_iload_n C 1 dX5_deepBy_1 rfl ?_
  obtain ⟨g1, h⟩ := gd_t h
  refine V_idiv C dX5_deepBy_2 (of_decide_eq_true g1) ?_
  refine V_istore C [(4, .int (x3 / x1)), (0, .int x0), (1, .int x1), (2, .int x2), (3, .int x3)] dX5_deepBy_3 (by decide) rfl ?_
  refine V_iload_n C 1 dX5_deepBy_5 rfl ?_
  refine V_if_ne C 19 dX5_deepBy_6 (by decide) (fun q7 => ?_) (fun q7 => ?_)
  · replace h := ite_n q7 h
    refine V_iload_n C 1 dX5_deepBy_19 rfl ?_
    refine V_iconst C (1 : Int32) dX5_deepBy_20 (by decide) ?_
    refine V_icmp_ne C 38 dX5_deepBy_21 (by decide) (fun q6 => ?_) (fun q6 => ?_)
    · replace h := ite_n q6 h
      refine V_iload_n C 1 dX5_deepBy_38 rfl ?_
      refine V_iconst C (2 : Int32) dX5_deepBy_39 (by decide) ?_
      refine V_icmp_ne C 53 dX5_deepBy_40 (by decide) (fun q3 => ?_) (fun q3 => ?_)
      · replace h := ite_n q3 h
        refine V_iload C 0 dX5_deepBy_53 rfl ?_
        refine V_iconst C (2 : Int32) dX5_deepBy_55 (by decide) ?_
        refine V_irem C dX5_deepBy_56 (by decide) ?_
        refine V_iconst C (1 : Int32) dX5_deepBy_57 (by decide) ?_
        refine V_icmp_ne C 68 dX5_deepBy_58 (by decide) (fun q2 => ?_) (fun q2 => ?_)
        · replace h := ite_n q2 h
          refine V_iload_n C 3 dX5_deepBy_68 rfl ?_
          obtain rfl := ret_P h
          exact V_iret C dX5_deepBy_69
        · replace h := ite_p q2 h
          refine V_bipush C (9 : Int32) dX5_deepBy_61 (by decide) ?_
          refine V_iload_n C 3 dX5_deepBy_63 rfl ?_
          refine V_isub C dX5_deepBy_64 ?_
          refine V_goto C 69 dX5_deepBy_65 (by decide) ?_
          obtain rfl := ret_P h
          exact V_iret C dX5_deepBy_69
      · replace h := ite_p q3 h
        refine V_iload_n C 3 dX5_deepBy_43 rfl ?_
        refine V_iload C 0 dX5_deepBy_44 rfl ?_
        refine V_isub C dX5_deepBy_46 ?_
        refine V_callS C (st := []) (st' := [.int (fX5_within (x2 - (x3 / x1)))]) (mX5_within l (x2 - (x3 / x1)) M rfl) wmX5_within lkX5_137 dX5_deepBy_47 rfl rfl rfl ⟨rfl, rfl, (Nat.le_of_ble_eq_true rfl), (Nat.le_of_ble_eq_true rfl)⟩ ⟨Nat.zero_le _, Nat.zero_le _⟩ (Nat.le_of_ble_eq_true rfl) ?_
        refine V_goto C 69 dX5_deepBy_50 (by decide) ?_
        obtain rfl := ret_P h
        exact V_iret C dX5_deepBy_69
    · replace h := ite_p q6 h
      refine V_iload_n C 4 dX5_deepBy_24 rfl ?_
      refine V_iload_n C 2 dX5_deepBy_25 rfl ?_
      obtain ⟨g4, h⟩ := gd_t h
      refine V_irem C dX5_deepBy_26 (of_decide_eq_true g4) ?_
      refine V_if_ne C 34 dX5_deepBy_27 (by decide) (fun q5 => ?_) (fun q5 => ?_)
      · replace h := ite_n q5 h
        refine V_iconst C (0 : Int32) dX5_deepBy_34 (by decide) ?_
        refine V_goto C 69 dX5_deepBy_35 (by decide) ?_
        obtain rfl := ret_P h
        exact V_iret C dX5_deepBy_69
      · replace h := ite_p q5 h
        refine V_iload_n C 3 dX5_deepBy_30 rfl ?_
        refine V_goto C 69 dX5_deepBy_31 (by decide) ?_
        obtain rfl := ret_P h
        exact V_iret C dX5_deepBy_69
  · replace h := ite_p q7 h
    refine V_iload_n C 3 dX5_deepBy_9 rfl ?_
    refine V_iload C 0 dX5_deepBy_10 rfl ?_
    refine V_iadd C dX5_deepBy_12 ?_
    refine V_bipush C (10 : Int32) dX5_deepBy_13 (by decide) ?_
    refine V_irem C dX5_deepBy_15 (by decide) ?_
    refine V_goto C 69 dX5_deepBy_16 (by decide) ?_
    obtain rfl := ret_P h
    exact V_iret C dX5_deepBy_69
abbrev rmX5_deepIn : Room := { frames := 3, cells := 0, slots := 0, locals := 65 }
def fX5_deepIn (M : Mem) (x1 : Int32) (x2 : Int32) (x3 : Bool) : Option Int32 := gd (inb (((5 : Int32) * x1) + (2 : Int32)) 80) (lt ((M 32 ((((5 : Int32) * x1) + (2 : Int32))).toNatClampNeg)) fun y2 => gd (inb (((5 : Int32) * x1) + (3 : Int32)) 80) (lt ((M 32 ((((5 : Int32) * x1) + (3 : Int32))).toNatClampNeg)) fun y4 => if y4 = (4 : Int32) then if x3 = true then some ((9 : Int32) - y2) else some y2 else gd (inb (((5 : Int32) * x1) + (4 : Int32)) 80) (bP (fX5_deepBy y4 (M 32 ((((5 : Int32) * x1) + (4 : Int32))).toNatClampNeg) y2 x2) fun z6 => some z6)))
set_option maxHeartbeats 4000000 in
set_option maxRecDepth 100000 in
theorem mX5_deepIn (l : Launch) (x1 : Int32) (x2 : Int32) (x3 : Bool) (M : Mem) {r : Int32} (h : fX5_deepIn M x1 x2 x3 = some r) : MC l yX5_deepIn cX5_deepIn 6 (some .int) rmX5_deepIn (fun ad sd => [.ref (ad 26), .int x1, .int x2, .int (b2i x3)]) M (fun _ => some (.int r)) M := by
  refine MC_start (by decide) (fun ad sd => [(0, .ref (ad 26)), (1, .int x1), (2, .int x2), (3, .int (b2i x3))]) (fun _ _ => rfl) (fun _ _ => Nat.le_of_ble_eq_true rfl) ?_
  intro p e s m args below meth c D T3 ad sd A C
  unfold fX5_deepIn at h
  refine V_aload_n C 0 dX5_deepIn_0 rfl ?_
  refine V_get C 9 dX5_deepIn_1 (wo_26 T3 ad _) rfl inKX5 (by decide) flX5_25 rfl rfl ?_
  refine V_iconst C (5 : Int32) dX5_deepIn_4 (by decide) ?_
  refine V_iload_n C 1 dX5_deepIn_5 rfl ?_
  refine V_imul C dX5_deepIn_6 ?_
  refine V_iconst C (2 : Int32) dX5_deepIn_7 (by decide) ?_
  refine V_iadd C dX5_deepIn_8 ?_
  obtain ⟨g1, h⟩ := gd_t h
  refine V_iald C rfl rfl (inb_in g1) dX5_deepIn_9 ?_
  obtain ⟨y2, hy2, h⟩ := lt_t h
  refine V_topi C hy2 ?_
  refine V_istore C [(4, .int y2), (0, .ref (ad 26)), (1, .int x1), (2, .int x2), (3, .int (b2i x3))] dX5_deepIn_10 (by decide) rfl ?_
  refine V_aload_n C 1 dX5_deepIn_12 rfl ?_
  refine V_get C 9 dX5_deepIn_13 (wo_26 T3 ad _) rfl inKX5 (by decide) flX5_25 rfl rfl ?_
  refine V_iconst C (5 : Int32) dX5_deepIn_16 (by decide) ?_
  refine V_iload_n C 2 dX5_deepIn_17 rfl ?_
  refine V_imul C dX5_deepIn_18 ?_
  refine V_iconst C (3 : Int32) dX5_deepIn_19 (by decide) ?_
  refine V_iadd C dX5_deepIn_20 ?_
  obtain ⟨g3, h⟩ := gd_t h
  refine V_iald C rfl rfl (inb_in g3) dX5_deepIn_21 ?_
  obtain ⟨y4, hy4, h⟩ := lt_t h
  refine V_topi C hy4 ?_
  refine V_istore C [(5, .int y4), (4, .int y2), (0, .ref (ad 26)), (1, .int x1), (2, .int x2), (3, .int (b2i x3))] dX5_deepIn_22 (by decide) rfl ?_
  refine V_iload C 0 dX5_deepIn_24 rfl ?_
  refine V_iconst C (4 : Int32) dX5_deepIn_26 (by decide) ?_
  refine V_icmp_ne C 47 dX5_deepIn_27 (by decide) (fun q8 => ?_) (fun q8 => ?_)
  · replace h := ite_n q8 h
    refine V_iload C 0 dX5_deepIn_47 rfl ?_
    refine V_aload_n C 2 dX5_deepIn_49 rfl ?_
    refine V_get C 9 dX5_deepIn_50 (wo_26 T3 ad _) rfl inKX5 (by decide) flX5_25 rfl rfl ?_
    refine V_iconst C (5 : Int32) dX5_deepIn_53 (by decide) ?_
    refine V_iload_n C 3 dX5_deepIn_54 rfl ?_
    refine V_imul C dX5_deepIn_55 ?_
    refine V_iconst C (4 : Int32) dX5_deepIn_56 (by decide) ?_
    refine V_iadd C dX5_deepIn_57 ?_
    obtain ⟨g5, h⟩ := gd_t h
    refine V_iald C rfl rfl (inb_in g5) dX5_deepIn_58 ?_
    refine V_iload C 1 dX5_deepIn_59 rfl ?_
    refine V_iload_n C 4 dX5_deepIn_61 rfl ?_
    obtain ⟨z6, hz6, h⟩ := bP_t h
    refine V_callS C (st := []) (st' := [.int z6]) (mX5_deepBy l y4 (M 32 ((((5 : Int32) * x1) + (4 : Int32))).toNatClampNeg) y2 x2 M hz6) wmX5_deepBy lkX5_140 dX5_deepIn_62 rfl rfl rfl ⟨rfl, rfl, (Nat.le_of_ble_eq_true rfl), (Nat.le_of_ble_eq_true rfl)⟩ ⟨Nat.zero_le _, Nat.zero_le _⟩ (Nat.le_of_ble_eq_true rfl) ?_
    obtain rfl := ret_P h
    exact V_iret C dX5_deepIn_65
  · replace h := ite_p q8 h
    refine V_iload_n C 5 dX5_deepIn_30 rfl ?_
    refine V_ifB_eq C 42 dX5_deepIn_31 (by decide) (fun q7 => ?_) (fun q7 => ?_)
    · replace h := ite_n q7 h
      refine V_iload C 1 dX5_deepIn_42 rfl ?_
      refine V_goto C 65 dX5_deepIn_44 (by decide) ?_
      obtain rfl := ret_P h
      exact V_iret C dX5_deepIn_65
    · replace h := ite_p q7 h
      refine V_bipush C (9 : Int32) dX5_deepIn_34 (by decide) ?_
      refine V_iload C 1 dX5_deepIn_36 rfl ?_
      refine V_isub C dX5_deepIn_38 ?_
      refine V_goto C 65 dX5_deepIn_39 (by decide) ?_
      obtain rfl := ret_P h
      exact V_iret C dX5_deepIn_65
abbrev rmX5_deepOf : Room := { frames := 4, cells := 0, slots := 0, locals := 90 }
def fX5_deepOf (M : Mem) (x1 : Int32) (x2 : Int32) : Option Int32 := bP (fX5_isStorm M x2) fun z1 => bP (fX5_deepIn M x1 x2 z1) fun z2 => some z2
set_option maxHeartbeats 4000000 in
set_option maxRecDepth 100000 in
theorem mX5_deepOf (l : Launch) (x1 : Int32) (x2 : Int32) (M : Mem) {r : Int32} (h : fX5_deepOf M x1 x2 = some r) : MC l yX5_deepOf cX5_deepOf 3 (some .int) rmX5_deepOf (fun ad sd => [.ref (ad 26), .int x1, .int x2]) M (fun _ => some (.int r)) M := by
  refine MC_start (by decide) (fun ad sd => [(0, .ref (ad 26)), (1, .int x1), (2, .int x2)]) (fun _ _ => rfl) (fun _ _ => Nat.le_of_ble_eq_true rfl) ?_
  intro p e s m args below meth c D T3 ad sd A C
  unfold fX5_deepOf at h
  refine V_aload_n C 0 dX5_deepOf_0 rfl ?_
  refine V_iload_n C 1 dX5_deepOf_1 rfl ?_
  refine V_iload_n C 2 dX5_deepOf_2 rfl ?_
  refine V_aload_n C 0 dX5_deepOf_3 rfl ?_
  refine V_iload_n C 2 dX5_deepOf_4 rfl ?_
  obtain ⟨z1, hz1, h⟩ := bP_t h
  refine V_callV C (st := [.int x2, .int x1, .ref (ad 26)]) (st' := [.int (b2i z1), .int x2, .int x1, .ref (ad 26)]) (mX5_isStorm l x2 M hz1) wmX5_isStorm lkX5_144 dX5_deepOf_5 (wo_26 T3 ad _) rfl rfl rfl rfl rfl rfl ⟨rfl, rfl, (Nat.le_of_ble_eq_true rfl), (Nat.le_of_ble_eq_true rfl)⟩ ⟨Nat.zero_le _, Nat.zero_le _⟩ (Nat.le_of_ble_eq_true rfl) ?_
  obtain ⟨z2, hz2, h⟩ := bP_t h
  refine V_callV C (st := []) (st' := [.int z2]) (mX5_deepIn l x1 x2 z1 M hz2) wmX5_deepIn lkX5_147 dX5_deepOf_8 (wo_26 T3 ad _) rfl rfl rfl rfl rfl rfl ⟨rfl, rfl, (Nat.le_of_ble_eq_true rfl), (Nat.le_of_ble_eq_true rfl)⟩ ⟨Nat.zero_le _, Nat.zero_le _⟩ (Nat.le_of_ble_eq_true rfl) ?_
  obtain rfl := ret_P h
  exact V_iret C dX5_deepOf_11
abbrev rmX5_deep : Room := { frames := 5, cells := 0, slots := 0, locals := 112 }
def fX5_deep (x1 : Int32) (x2 : Int32) (M : Mem) : Option (Int32 × Mem) := bW (fX5_reads M) fun z1 M2 => if (fX5_isChannel M2 x1) = true then if (fX5_isNight x2) = true then bP (fX5_deepOf M2 x1 x2) fun z3 => some (z3, M2) else some ((-2 : Int32), M2) else some ((-2 : Int32), M2)
set_option maxHeartbeats 4000000 in
set_option maxRecDepth 100000 in
theorem mX5_deep (l : Launch) (x1 : Int32) (x2 : Int32) (M : Mem) {r : Int32} {M9 : Mem} (h : fX5_deep x1 x2 M = some (r, M9)) : MC l yX5_deep cX5_deep 3 (some .int) rmX5_deep (fun ad sd => [.ref (ad 26), .int x1, .int x2]) M (fun _ => some (.int r)) M9 := by
  refine MC_start (by decide) (fun ad sd => [(0, .ref (ad 26)), (1, .int x1), (2, .int x2)]) (fun _ _ => rfl) (fun _ _ => Nat.le_of_ble_eq_true rfl) ?_
  intro p e s m args below meth c D T3 ad sd A C
  unfold fX5_deep at h
  refine V_aload_n C 0 dX5_deep_0 rfl ?_
  obtain ⟨z1, M2, hz1, h⟩ := bW_t h
  refine V_callV C (st := []) (st' := [.int z1]) (mX5_reads l M hz1) wmX5_reads lkX5_116 dX5_deep_1 (wo_26 T3 ad _) rfl rfl rfl rfl rfl rfl ⟨rfl, rfl, (Nat.le_of_ble_eq_true rfl), (Nat.le_of_ble_eq_true rfl)⟩ ⟨Nat.zero_le _, Nat.zero_le _⟩ (Nat.le_of_ble_eq_true rfl) ?_
  refine V_pop C dX5_deep_4 rfl ?_
  refine V_aload_n C 0 dX5_deep_5 rfl ?_
  refine V_iload_n C 1 dX5_deep_6 rfl ?_
  refine V_callV C (st := []) (st' := [.int (b2i (fX5_isChannel M2 x1))]) (mX5_isChannel l x1 M2 rfl) wmX5_isChannel lkX5_124 dX5_deep_7 (wo_26 T3 ad _) rfl rfl rfl rfl rfl rfl ⟨rfl, rfl, (Nat.le_of_ble_eq_true rfl), (Nat.le_of_ble_eq_true rfl)⟩ ⟨Nat.zero_le _, Nat.zero_le _⟩ (Nat.le_of_ble_eq_true rfl) ?_
  refine V_ifB_eq C 29 dX5_deep_10 (by decide) (fun q5 => ?_) (fun q5 => ?_)
  · replace h := ite_n q5 h
    refine V_bipush C (-2 : Int32) dX5_deep_29 (by decide) ?_
    obtain ⟨rfl, rfl⟩ := ret_W h
    exact V_iret C dX5_deep_31
  · replace h := ite_p q5 h
    refine V_iload_n C 2 dX5_deep_13 rfl ?_
    refine V_callS C (st := []) (st' := [.int (b2i (fX5_isNight x2))]) (mX5_isNight l x2 M2 rfl) wmX5_isNight lkX5_129 dX5_deep_14 rfl rfl rfl ⟨rfl, rfl, (Nat.le_of_ble_eq_true rfl), (Nat.le_of_ble_eq_true rfl)⟩ ⟨Nat.zero_le _, Nat.zero_le _⟩ (Nat.le_of_ble_eq_true rfl) ?_
    refine V_ifB_eq C 29 dX5_deep_17 (by decide) (fun q4 => ?_) (fun q4 => ?_)
    · replace h := ite_n q4 h
      refine V_bipush C (-2 : Int32) dX5_deep_29 (by decide) ?_
      obtain ⟨rfl, rfl⟩ := ret_W h
      exact V_iret C dX5_deep_31
    · replace h := ite_p q4 h
      refine V_aload_n C 0 dX5_deep_20 rfl ?_
      refine V_iload_n C 1 dX5_deep_21 rfl ?_
      refine V_iload_n C 2 dX5_deep_22 rfl ?_
      obtain ⟨z3, hz3, h⟩ := bP_t h
      refine V_callV C (st := []) (st' := [.int z3]) (mX5_deepOf l x1 x2 M2 hz3) wmX5_deepOf lkX5_151 dX5_deep_23 (wo_26 T3 ad _) rfl rfl rfl rfl rfl rfl ⟨rfl, rfl, (Nat.le_of_ble_eq_true rfl), (Nat.le_of_ble_eq_true rfl)⟩ ⟨Nat.zero_le _, Nat.zero_le _⟩ (Nat.le_of_ble_eq_true rfl) ?_
      refine V_goto C 31 dX5_deep_26 (by decide) ?_
      obtain ⟨rfl, rfl⟩ := ret_W h
      exact V_iret C dX5_deep_31
abbrev rmX5_mapOf : Room := { frames := 5, cells := 0, slots := 0, locals := 112 }
def fX5_mapOf_13 (M : Mem) (t1 : Int32) (t2 : Int32) : Option Int32 := bP (fX5_deepOf M t1 t2) fun z1 => some z1
def fX5_mapOf (M : Mem) (x1 : Int32) (x2 : Int32) : Option Int32 := if x2 = 0 then fX5_mapOf_13 M x1 (0 : Int32) else fX5_mapOf_13 M x1 (x2 - (1 : Int32))
set_option maxHeartbeats 4000000 in
set_option maxRecDepth 100000 in
theorem vX5_mapOf_13 {p : Program} {l : Launch} {e : Env} {s : State} {m : MethodId} {args : Array Value} {below : List Frame} {meth : Method} {c : Code} {D : va_G} {T3 : ClassId × ClassId × ClassId} {ad sd : Nat → Nat} {A : Nat → Prop}  (C : CX p s m args meth c cX5_mapOf 3 RX5 (some .int) D T3 ad sd A) {r : Int32} (M : Mem) : ∀ (t1 : Int32) (t2 : Int32), fX5_mapOf_13 M t1 t2 = some r → VV p l e rmX5_mapOf s m args below meth c D T3 ad A 3 0 0 (QM below D T3 ad A args s (fun _ => some (.int r)) M) M [] 13 [.int t2, .int t1, .ref (ad 26)] := by
  intro t1 t2 h
  unfold fX5_mapOf_13 at h
  obtain ⟨z1, hz1, h⟩ := bP_t h
  refine V_callV C (st := []) (st' := [.int z1]) (mX5_deepOf l t1 t2 M hz1) wmX5_deepOf lkX5_151 dX5_mapOf_13 (wo_26 T3 ad _) rfl rfl rfl rfl rfl rfl ⟨rfl, rfl, (Nat.le_of_ble_eq_true rfl), (Nat.le_of_ble_eq_true rfl)⟩ ⟨Nat.zero_le _, Nat.zero_le _⟩ (Nat.le_of_ble_eq_true rfl) ?_
  obtain rfl := ret_P h
  exact V_iret C dX5_mapOf_16
set_option maxHeartbeats 4000000 in
set_option maxRecDepth 100000 in
theorem mX5_mapOf (l : Launch) (x1 : Int32) (x2 : Int32) (M : Mem) {r : Int32} (h : fX5_mapOf M x1 x2 = some r) : MC l yX5_mapOf cX5_mapOf 3 (some .int) rmX5_mapOf (fun ad sd => [.ref (ad 26), .int x1, .int x2]) M (fun _ => some (.int r)) M := by
  refine MC_start (by decide) (fun ad sd => [(0, .ref (ad 26)), (1, .int x1), (2, .int x2)]) (fun _ _ => rfl) (fun _ _ => Nat.le_of_ble_eq_true rfl) ?_
  intro p e s m args below meth c D T3 ad sd A C
  unfold fX5_mapOf at h
  refine V_aload_n C 0 dX5_mapOf_0 rfl ?_
  refine V_iload_n C 1 dX5_mapOf_1 rfl ?_
  refine V_iload_n C 2 dX5_mapOf_2 rfl ?_
  refine V_if_ne C 10 dX5_mapOf_3 (by decide) (fun q2 => ?_) (fun q2 => ?_)
  · replace h := ite_n q2 h
    refine V_iload_n C 2 dX5_mapOf_10 rfl ?_
    refine V_iconst C (1 : Int32) dX5_mapOf_11 (by decide) ?_
    refine V_isub C dX5_mapOf_12 ?_
    refine V_sub (lv' := []) [] rfl ?_
    exact vX5_mapOf_13 C M x1 (x2 - (1 : Int32)) h
  · replace h := ite_p q2 h
    refine V_iconst C (0 : Int32) dX5_mapOf_6 (by decide) ?_
    refine V_goto C 13 dX5_mapOf_7 (by decide) ?_
    refine V_sub (lv' := []) [] rfl ?_
    exact vX5_mapOf_13 C M x1 (0 : Int32) h
abbrev rmX5_map : Room := { frames := 6, cells := 0, slots := 0, locals := 134 }
def fX5_map (x1 : Int32) (x2 : Int32) (M : Mem) : Option (Int32 × Mem) := bW (fX5_reads M) fun z1 M2 => if (fX5_isChannel M2 x1) = true then if (fX5_isNight x2) = true then bP (fX5_mapOf M2 x1 x2) fun z3 => some (z3, M2) else some ((-2 : Int32), M2) else some ((-2 : Int32), M2)
set_option maxHeartbeats 4000000 in
set_option maxRecDepth 100000 in
theorem mX5_map (l : Launch) (x1 : Int32) (x2 : Int32) (M : Mem) {r : Int32} {M9 : Mem} (h : fX5_map x1 x2 M = some (r, M9)) : MC l yX5_map cX5_map 3 (some .int) rmX5_map (fun ad sd => [.ref (ad 26), .int x1, .int x2]) M (fun _ => some (.int r)) M9 := by
  refine MC_start (by decide) (fun ad sd => [(0, .ref (ad 26)), (1, .int x1), (2, .int x2)]) (fun _ _ => rfl) (fun _ _ => Nat.le_of_ble_eq_true rfl) ?_
  intro p e s m args below meth c D T3 ad sd A C
  unfold fX5_map at h
  refine V_aload_n C 0 dX5_map_0 rfl ?_
  obtain ⟨z1, M2, hz1, h⟩ := bW_t h
  refine V_callV C (st := []) (st' := [.int z1]) (mX5_reads l M hz1) wmX5_reads lkX5_116 dX5_map_1 (wo_26 T3 ad _) rfl rfl rfl rfl rfl rfl ⟨rfl, rfl, (Nat.le_of_ble_eq_true rfl), (Nat.le_of_ble_eq_true rfl)⟩ ⟨Nat.zero_le _, Nat.zero_le _⟩ (Nat.le_of_ble_eq_true rfl) ?_
  refine V_pop C dX5_map_4 rfl ?_
  refine V_aload_n C 0 dX5_map_5 rfl ?_
  refine V_iload_n C 1 dX5_map_6 rfl ?_
  refine V_callV C (st := []) (st' := [.int (b2i (fX5_isChannel M2 x1))]) (mX5_isChannel l x1 M2 rfl) wmX5_isChannel lkX5_124 dX5_map_7 (wo_26 T3 ad _) rfl rfl rfl rfl rfl rfl ⟨rfl, rfl, (Nat.le_of_ble_eq_true rfl), (Nat.le_of_ble_eq_true rfl)⟩ ⟨Nat.zero_le _, Nat.zero_le _⟩ (Nat.le_of_ble_eq_true rfl) ?_
  refine V_ifB_eq C 29 dX5_map_10 (by decide) (fun q5 => ?_) (fun q5 => ?_)
  · replace h := ite_n q5 h
    refine V_bipush C (-2 : Int32) dX5_map_29 (by decide) ?_
    obtain ⟨rfl, rfl⟩ := ret_W h
    exact V_iret C dX5_map_31
  · replace h := ite_p q5 h
    refine V_iload_n C 2 dX5_map_13 rfl ?_
    refine V_callS C (st := []) (st' := [.int (b2i (fX5_isNight x2))]) (mX5_isNight l x2 M2 rfl) wmX5_isNight lkX5_129 dX5_map_14 rfl rfl rfl ⟨rfl, rfl, (Nat.le_of_ble_eq_true rfl), (Nat.le_of_ble_eq_true rfl)⟩ ⟨Nat.zero_le _, Nat.zero_le _⟩ (Nat.le_of_ble_eq_true rfl) ?_
    refine V_ifB_eq C 29 dX5_map_17 (by decide) (fun q4 => ?_) (fun q4 => ?_)
    · replace h := ite_n q4 h
      refine V_bipush C (-2 : Int32) dX5_map_29 (by decide) ?_
      obtain ⟨rfl, rfl⟩ := ret_W h
      exact V_iret C dX5_map_31
    · replace h := ite_p q4 h
      refine V_aload_n C 0 dX5_map_20 rfl ?_
      refine V_iload_n C 1 dX5_map_21 rfl ?_
      refine V_iload_n C 2 dX5_map_22 rfl ?_
      obtain ⟨z3, hz3, h⟩ := bP_t h
      refine V_callV C (st := []) (st' := [.int z3]) (mX5_mapOf l x1 x2 M2 hz3) wmX5_mapOf lkX5_154 dX5_map_23 (wo_26 T3 ad _) rfl rfl rfl rfl rfl rfl ⟨rfl, rfl, (Nat.le_of_ble_eq_true rfl), (Nat.le_of_ble_eq_true rfl)⟩ ⟨Nat.zero_le _, Nat.zero_le _⟩ (Nat.le_of_ble_eq_true rfl) ?_
      refine V_goto C 31 dX5_map_26 (by decide) ?_
      obtain ⟨rfl, rfl⟩ := ret_W h
      exact V_iret C dX5_map_31
abbrev rmX5_isDraught : Room := { frames := 1, cells := 0, slots := 0, locals := 25 }
def fX5_isDraught (x0 : Int32) : Bool := (fX5_in (Int32.toInt64 x0) (1 : Int64) (9 : Int64))
set_option maxHeartbeats 4000000 in
set_option maxRecDepth 100000 in
theorem mX5_isDraught (l : Launch) (x0 : Int32) (M : Mem) {r : Bool} (h : fX5_isDraught x0 = r) : MC l yX5_isDraught cX5_isDraught 1 (some .boolean) rmX5_isDraught (fun ad sd => [.int x0]) M (fun _ => some (.int (b2i r))) M := by
  refine MC_start (by decide) (fun ad sd => [(0, .int x0)]) (fun _ _ => rfl) (fun _ _ => Nat.le_of_ble_eq_true rfl) ?_
  intro p e s m args below meth c D T3 ad sd A C
  unfold fX5_isDraught at h
  refine V_iload_n C 0 dX5_isDraught_0 rfl ?_
  refine V_i2l C dX5_isDraught_1 ?_
  refine V_lconst C (1 : Int64) dX5_isDraught_2 (by decide) ?_
  refine V_ldc2 C dX5_isDraught_3 kcX5_122 ?_
  refine V_callS C (st := []) (st' := [.int (b2i (fX5_in (Int32.toInt64 x0) (1 : Int64) (9 : Int64)))]) (mX5_in l (Int32.toInt64 x0) (1 : Int64) (9 : Int64) M rfl) wmX5_in lkX5_54 dX5_isDraught_6 rfl rfl rfl ⟨rfl, rfl, (Nat.le_of_ble_eq_true rfl), (Nat.le_of_ble_eq_true rfl)⟩ ⟨Nat.zero_le _, Nat.zero_le _⟩ (Nat.le_of_ble_eq_true rfl) ?_
  subst h
  exact V_zret C dX5_isDraught_9
abbrev rmX5_enoughIn : Room := { frames := 4, cells := 0, slots := 0, locals := 90 }
def fX5_enoughIn_6 (M : Mem) : Nat → Int32 → Int32 → Bool → Int32 → Int32 → Option Int32
  | 0, _, _, _, _, _ => none
  | n + 1, x1, x2, x3, x4, x5 => if (M 26 8) ≤ x5 then some x4 else bP (fX5_deepIn M x5 x2 x3) fun z1 => if z1 < x1 then fX5_enoughIn_6 M n x1 x2 x3 (x4 ||| (0 : Int32)) (x5 + 1) else fX5_enoughIn_6 M n x1 x2 x3 (x4 ||| (shlI (1 : Int32) x5)) (x5 + 1)
def fX5_enoughIn (M : Mem) (x1 : Int32) (x2 : Int32) (x3 : Bool) : Option Int32 := fX5_enoughIn_6 M 1000 x1 x2 x3 (0 : Int32) (0 : Int32)
set_option maxHeartbeats 4000000 in
set_option maxRecDepth 100000 in
theorem vX5_enoughIn_6 {p : Program} {l : Launch} {e : Env} {s : State} {m : MethodId} {args : Array Value} {below : List Frame} {meth : Method} {c : Code} {D : va_G} {T3 : ClassId × ClassId × ClassId} {ad sd : Nat → Nat} {A : Nat → Prop}  (C : CX p s m args meth c cX5_enoughIn 6 RX5 (some .int) D T3 ad sd A) {r : Int32} (M : Mem) : ∀ (n : Nat) (x1 : Int32) (x2 : Int32) (x3 : Bool) (x4 : Int32) (x5 : Int32), fX5_enoughIn_6 M n x1 x2 x3 x4 x5 = some r → VV p l e rmX5_enoughIn s m args below meth c D T3 ad A 6 0 0 (QM below D T3 ad A args s (fun _ => some (.int r)) M) M [(0, .ref (ad 26)), (1, .int x1), (2, .int x2), (3, .int (b2i x3)), (4, .int x4), (5, .int x5)] 6 [] := by
  intro n
  induction n with
  | zero => intro x1 x2 x3 x4 x5 h; exact nomatch (show (none : Option Int32) = some _ from h)
  | succ n ih =>
    intro x1 x2 x3 x4 x5 h
    rw [fX5_enoughIn_6] at h
    refine V_iload C 5 dX5_enoughIn_6 rfl ?_
    refine V_aload_n C 0 dX5_enoughIn_8 rfl ?_
    refine V_get C 8 dX5_enoughIn_9 (wo_26 T3 ad _) rfl inKX5 (by decide) flX5_94 rfl rfl ?_
    refine V_icmp_ge C 46 dX5_enoughIn_12 (by decide) (fun q3 => ?_) (fun q3 => ?_)
    · replace h := ite_p q3 h
      refine V_iload C 4 dX5_enoughIn_46 rfl ?_
      obtain rfl := ret_P h
      exact V_iret C dX5_enoughIn_48
    · replace h := ite_n q3 h
      refine V_iload C 4 dX5_enoughIn_15 rfl ?_
      refine V_aload_n C 0 dX5_enoughIn_17 rfl ?_
      refine V_iload C 5 dX5_enoughIn_18 rfl ?_
      refine V_iload_n C 2 dX5_enoughIn_20 rfl ?_
      refine V_iload_n C 3 dX5_enoughIn_21 rfl ?_
      obtain ⟨z1, hz1, h⟩ := bP_t h
      refine V_callV C (st := [.int x4]) (st' := [.int z1, .int x4]) (mX5_deepIn l x5 x2 x3 M hz1) wmX5_deepIn lkX5_147 dX5_enoughIn_22 (wo_26 T3 ad _) rfl rfl rfl rfl rfl rfl ⟨rfl, rfl, (Nat.le_of_ble_eq_true rfl), (Nat.le_of_ble_eq_true rfl)⟩ ⟨Nat.zero_le _, Nat.zero_le _⟩ (Nat.le_of_ble_eq_true rfl) ?_
      refine V_iload_n C 1 dX5_enoughIn_25 rfl ?_
      refine V_icmp_lt C 36 dX5_enoughIn_26 (by decide) (fun q2 => ?_) (fun q2 => ?_)
      · replace h := ite_p q2 h
        refine V_iconst C (0 : Int32) dX5_enoughIn_36 (by decide) ?_
        refine V_ior C dX5_enoughIn_37 ?_
        refine V_istore C [(4, .int (x4 ||| (0 : Int32))), (0, .ref (ad 26)), (1, .int x1), (2, .int x2), (3, .int (b2i x3)), (5, .int x5)] dX5_enoughIn_38 (by decide) rfl ?_
        refine V_iinc C 5 (x5 + 1) [(5, .int (x5 + 1)), (4, .int (x4 ||| (0 : Int32))), (0, .ref (ad 26)), (1, .int x1), (2, .int x2), (3, .int (b2i x3))] dX5_enoughIn_40 rfl rfl (by decide) rfl ?_
        refine V_goto C 6 dX5_enoughIn_43 (by decide) ?_
        refine V_sub (lv' := [(0, .ref (ad 26)), (1, .int x1), (2, .int x2), (3, .int (b2i x3)), (4, .int (x4 ||| (0 : Int32))), (5, .int (x5 + 1))]) [2, 3, 4, 5, 1, 0] rfl ?_
        exact ih x1 x2 x3 (x4 ||| (0 : Int32)) (x5 + 1) h
      · replace h := ite_n q2 h
        refine V_iconst C (1 : Int32) dX5_enoughIn_29 (by decide) ?_
        refine V_iload C 5 dX5_enoughIn_30 rfl ?_
        refine V_ishl C dX5_enoughIn_32 ?_
        refine V_goto C 37 dX5_enoughIn_33 (by decide) ?_
        refine V_ior C dX5_enoughIn_37 ?_
        refine V_istore C [(4, .int (x4 ||| (shlI (1 : Int32) x5))), (0, .ref (ad 26)), (1, .int x1), (2, .int x2), (3, .int (b2i x3)), (5, .int x5)] dX5_enoughIn_38 (by decide) rfl ?_
        refine V_iinc C 5 (x5 + 1) [(5, .int (x5 + 1)), (4, .int (x4 ||| (shlI (1 : Int32) x5))), (0, .ref (ad 26)), (1, .int x1), (2, .int x2), (3, .int (b2i x3))] dX5_enoughIn_40 rfl rfl (by decide) rfl ?_
        refine V_goto C 6 dX5_enoughIn_43 (by decide) ?_
        refine V_sub (lv' := [(0, .ref (ad 26)), (1, .int x1), (2, .int x2), (3, .int (b2i x3)), (4, .int (x4 ||| (shlI (1 : Int32) x5))), (5, .int (x5 + 1))]) [2, 3, 4, 5, 1, 0] rfl ?_
        exact ih x1 x2 x3 (x4 ||| (shlI (1 : Int32) x5)) (x5 + 1) h
set_option maxHeartbeats 4000000 in
set_option maxRecDepth 100000 in
theorem mX5_enoughIn (l : Launch) (x1 : Int32) (x2 : Int32) (x3 : Bool) (M : Mem) {r : Int32} (h : fX5_enoughIn M x1 x2 x3 = some r) : MC l yX5_enoughIn cX5_enoughIn 6 (some .int) rmX5_enoughIn (fun ad sd => [.ref (ad 26), .int x1, .int x2, .int (b2i x3)]) M (fun _ => some (.int r)) M := by
  refine MC_start (by decide) (fun ad sd => [(0, .ref (ad 26)), (1, .int x1), (2, .int x2), (3, .int (b2i x3))]) (fun _ _ => rfl) (fun _ _ => Nat.le_of_ble_eq_true rfl) ?_
  intro p e s m args below meth c D T3 ad sd A C
  unfold fX5_enoughIn at h
  refine V_iconst C (0 : Int32) dX5_enoughIn_0 (by decide) ?_
  refine V_istore C [(4, .int (0 : Int32)), (0, .ref (ad 26)), (1, .int x1), (2, .int x2), (3, .int (b2i x3))] dX5_enoughIn_1 (by decide) rfl ?_
  refine V_iconst C (0 : Int32) dX5_enoughIn_3 (by decide) ?_
  refine V_istore C [(5, .int (0 : Int32)), (4, .int (0 : Int32)), (0, .ref (ad 26)), (1, .int x1), (2, .int x2), (3, .int (b2i x3))] dX5_enoughIn_4 (by decide) rfl ?_
  refine V_sub (lv' := [(0, .ref (ad 26)), (1, .int x1), (2, .int x2), (3, .int (b2i x3)), (4, .int (0 : Int32)), (5, .int (0 : Int32))]) [2, 3, 4, 5, 1, 0] rfl ?_
  exact vX5_enoughIn_6 C M 1000 x1 x2 x3 (0 : Int32) (0 : Int32) h
abbrev rmX5_enough : Room := { frames := 5, cells := 0, slots := 0, locals := 115 }
def fX5_enough (M : Mem) (x1 : Int32) (x2 : Int32) : Option Int32 := bP (fX5_isStorm M x2) fun z1 => bP (fX5_enoughIn M x1 x2 z1) fun z2 => some z2
set_option maxHeartbeats 4000000 in
set_option maxRecDepth 100000 in
theorem mX5_enough (l : Launch) (x1 : Int32) (x2 : Int32) (M : Mem) {r : Int32} (h : fX5_enough M x1 x2 = some r) : MC l yX5_enough cX5_enough 3 (some .int) rmX5_enough (fun ad sd => [.ref (ad 26), .int x1, .int x2]) M (fun _ => some (.int r)) M := by
  refine MC_start (by decide) (fun ad sd => [(0, .ref (ad 26)), (1, .int x1), (2, .int x2)]) (fun _ _ => rfl) (fun _ _ => Nat.le_of_ble_eq_true rfl) ?_
  intro p e s m args below meth c D T3 ad sd A C
  unfold fX5_enough at h
  refine V_aload_n C 0 dX5_enough_0 rfl ?_
  refine V_iload_n C 1 dX5_enough_1 rfl ?_
  refine V_iload_n C 2 dX5_enough_2 rfl ?_
  refine V_aload_n C 0 dX5_enough_3 rfl ?_
  refine V_iload_n C 2 dX5_enough_4 rfl ?_
  obtain ⟨z1, hz1, h⟩ := bP_t h
  refine V_callV C (st := [.int x2, .int x1, .ref (ad 26)]) (st' := [.int (b2i z1), .int x2, .int x1, .ref (ad 26)]) (mX5_isStorm l x2 M hz1) wmX5_isStorm lkX5_144 dX5_enough_5 (wo_26 T3 ad _) rfl rfl rfl rfl rfl rfl ⟨rfl, rfl, (Nat.le_of_ble_eq_true rfl), (Nat.le_of_ble_eq_true rfl)⟩ ⟨Nat.zero_le _, Nat.zero_le _⟩ (Nat.le_of_ble_eq_true rfl) ?_
  obtain ⟨z2, hz2, h⟩ := bP_t h
  refine V_callV C (st := []) (st' := [.int z2]) (mX5_enoughIn l x1 x2 z1 M hz2) wmX5_enoughIn lkX5_164 dX5_enough_8 (wo_26 T3 ad _) rfl rfl rfl rfl rfl rfl ⟨rfl, rfl, (Nat.le_of_ble_eq_true rfl), (Nat.le_of_ble_eq_true rfl)⟩ ⟨Nat.zero_le _, Nat.zero_le _⟩ (Nat.le_of_ble_eq_true rfl) ?_
  obtain rfl := ret_P h
  exact V_iret C dX5_enough_11
abbrev rmX5_isIn : Room := { frames := 0, cells := 0, slots := 0, locals := 0 }
def fX5_isIn (x0 : Int32) (x1 : Int32) : Bool := if ((shrI x0 x1) &&& (1 : Int32)) = (1 : Int32) then true else false
set_option maxHeartbeats 4000000 in
set_option maxRecDepth 100000 in
theorem mX5_isIn (l : Launch) (x0 : Int32) (x1 : Int32) (M : Mem) {r : Bool} (h : fX5_isIn x0 x1 = r) : MC l yX5_isIn cX5_isIn 2 (some .boolean) rmX5_isIn (fun ad sd => [.int x0, .int x1]) M (fun _ => some (.int (b2i r))) M := by
  refine MC_start (by decide) (fun ad sd => [(0, .int x0), (1, .int x1)]) (fun _ _ => rfl) (fun _ _ => Nat.le_of_ble_eq_true rfl) ?_
  intro p e s m args below meth c D T3 ad sd A C
  unfold fX5_isIn at h
  refine V_iload_n C 0 dX5_isIn_0 rfl ?_
  refine V_iload_n C 1 dX5_isIn_1 rfl ?_
  refine V_ishr C dX5_isIn_2 ?_
  refine V_iconst C (1 : Int32) dX5_isIn_3 (by decide) ?_
  refine V_iand C dX5_isIn_4 ?_
  refine V_iconst C (1 : Int32) dX5_isIn_5 (by decide) ?_
  refine V_icmp_ne C 13 dX5_isIn_6 (by decide) (fun q1 => ?_) (fun q1 => ?_)
  · replace h := ite_n q1 h
    refine V_iconst C (0 : Int32) dX5_isIn_13 (by decide) ?_
    subst h
    exact V_zret (x := false) C dX5_isIn_14
  · replace h := ite_p q1 h
    refine V_iconst C (1 : Int32) dX5_isIn_9 (by decide) ?_
    refine V_goto C 14 dX5_isIn_10 (by decide) ?_
    subst h
    exact V_zret (x := true) C dX5_isIn_14
abbrev rmX5_findWays : Room := { frames := 1, cells := 0, slots := 0, locals := 21 }
def fX5_findWays_125 (kk110 : Int32 → Int32 → Mem → Option (Int32 × Mem)) : Nat → Int32 → Int32 → Int32 → Int32 → Mem → Option (Int32 × Mem)
  | 0, _, _, _, _, _ => none
  | n + 1, x1, x2, x3, x4, M => if x4 < 0 then gd (inb (M 26 15) 5) (lt (up M 35 ((M 26 15)).toNatClampNeg x3) fun M3 => lt (up M3 26 15 ((M3 26 15) + (1 : Int32))) fun M5 => gd (inb (((5 : Int32) * x3) + (1 : Int32)) 80) (lt ((M5 32 ((((5 : Int32) * x3) + (1 : Int32))).toNatClampNeg)) fun y7 => kk110 x1 y7 M5)) else if (fX5_isIn x1 x4) = true then gd (inb ((5 : Int32) * x4) 80) (if (M 32 (((5 : Int32) * x4)).toNatClampNeg) = x2 then gd (inb (((5 : Int32) * x4) + (1 : Int32)) 80) (gd (inb (M 32 ((((5 : Int32) * x4) + (1 : Int32))).toNatClampNeg) 6) (if (M 34 ((M 32 ((((5 : Int32) * x4) + (1 : Int32))).toNatClampNeg)).toNatClampNeg) ≤ 0 then fX5_findWays_125 kk110 n x1 x2 x3 (x4 + (-1)) M else fX5_findWays_125 kk110 n x1 x2 x4 (x4 + (-1)) M)) else fX5_findWays_125 kk110 n x1 x2 x3 (x4 + (-1)) M) else fX5_findWays_125 kk110 n x1 x2 x3 (x4 + (-1)) M
def fX5_findWays_110 : Nat → Int32 → Int32 → Mem → Option (Int32 × Mem)
  | 0, _, _, _ => none
  | n + 1, x1, x2, M => if (5 : Int32) ≤ x2 then some ((M 34 ((0 : Int32)).toNatClampNeg), M) else fX5_findWays_125 (fX5_findWays_110 n) 1000 x1 x2 (-1 : Int32) ((M 26 8) - (1 : Int32)) M
def fX5_findWays_22 (kk9 : Int32 → Int32 → Mem → Option (Int32 × Mem)) : Nat → Int32 → Int32 → Int32 → Mem → Option (Int32 × Mem)
  | 0, _, _, _, _ => none
  | n + 1, x1, x2, x3, M => if (M 26 8) ≤ x3 then kk9 x1 (x2 + (-1)) M else gd (inb x2 6) (if (fX5_isIn x1 x3) = true then gd (inb ((5 : Int32) * x3) 80) (if (M 32 (((5 : Int32) * x3)).toNatClampNeg) = x2 then gd (inb (((5 : Int32) * x3) + (1 : Int32)) 80) (gd (inb (M 32 ((((5 : Int32) * x3) + (1 : Int32))).toNatClampNeg) 6) (gd (inb x2 6) (lt (up M 34 (x2).toNatClampNeg ((M 34 (x2).toNatClampNeg) + (M 34 ((M 32 ((((5 : Int32) * x3) + (1 : Int32))).toNatClampNeg)).toNatClampNeg))) fun M27 => fX5_findWays_22 kk9 n x1 x2 (x3 + 1) M27))) else gd (inb x2 6) (lt (up M 34 (x2).toNatClampNeg ((M 34 (x2).toNatClampNeg) + (0 : Int32))) fun M23 => fX5_findWays_22 kk9 n x1 x2 (x3 + 1) M23)) else gd (inb x2 6) (lt (up M 34 (x2).toNatClampNeg ((M 34 (x2).toNatClampNeg) + (0 : Int32))) fun M20 => fX5_findWays_22 kk9 n x1 x2 (x3 + 1) M20))
def fX5_findWays_9 : Nat → Int32 → Int32 → Mem → Option (Int32 × Mem)
  | 0, _, _, _ => none
  | n + 1, x1, x2, M => if x2 < 0 then lt (up M 26 15 (0 : Int32)) fun M2 => if (M2 34 ((0 : Int32)).toNatClampNeg) ≤ 0 then fX5_findWays_110 1000 x1 (5 : Int32) M2 else fX5_findWays_110 1000 x1 (0 : Int32) M2 else gd (inb x2 6) (lt (up M 34 (x2).toNatClampNeg (0 : Int32)) fun M17 => fX5_findWays_22 (fX5_findWays_9 n) 1000 x1 x2 (0 : Int32) M17)
def fX5_findWays (x1 : Int32) (M : Mem) : Option (Int32 × Mem) := lt (up M 34 ((5 : Int32)).toNatClampNeg (1 : Int32)) fun M1 => fX5_findWays_9 1000 x1 (4 : Int32) M1
set_option maxHeartbeats 4000000 in
set_option maxRecDepth 100000 in
theorem vX5_findWays_125 {p : Program} {l : Launch} {e : Env} {s : State} {m : MethodId} {args : Array Value} {below : List Frame} {meth : Method} {c : Code} {D : va_G} {T3 : ClassId × ClassId × ClassId} {ad sd : Nat → Nat} {A : Nat → Prop}  (C : CX p s m args meth c cX5_findWays 5 RX5 (some .int) D T3 ad sd A) {r : Int32} {M9 : Mem} (kk110 : Int32 → Int32 → Mem → Option (Int32 × Mem)) (hk110 : ∀ (x1 : Int32) (x2 : Int32) (M : Mem), kk110 x1 x2 M = some (r, M9) → VV p l e rmX5_findWays s m args below meth c D T3 ad A 5 0 0 (QM below D T3 ad A args s (fun _ => some (.int r)) M9) M [(0, .ref (ad 26)), (1, .int x1), (2, .int x2)] 110 []) : ∀ (n : Nat) (x1 : Int32) (x2 : Int32) (x3 : Int32) (x4 : Int32) (M : Mem), fX5_findWays_125 kk110 n x1 x2 x3 x4 M = some (r, M9) → VV p l e rmX5_findWays s m args below meth c D T3 ad A 5 0 0 (QM below D T3 ad A args s (fun _ => some (.int r)) M9) M [(0, .ref (ad 26)), (1, .int x1), (2, .int x2), (3, .int x3), (4, .int x4)] 125 [] := by
  intro n
  induction n with
  | zero => intro x1 x2 x3 x4 M h; exact nomatch (show (none : Option (Int32 × Mem)) = some _ from h)
  | succ n ih =>
    intro x1 x2 x3 x4 M h
    rw [fX5_findWays_125] at h
    refine V_iload C 4 dX5_findWays_125 rfl ?_
    refine V_if_lt C 184 dX5_findWays_127 (by decide) (fun q14 => ?_) (fun q14 => ?_)
    · replace h := ite_p q14 h
      refine V_aload_n C 0 dX5_findWays_184 rfl ?_
      refine V_get C 14 dX5_findWays_185 (wo_26 T3 ad _) rfl inKX5 (by decide) flX5_34 rfl rfl ?_
      refine V_aload_n C 0 dX5_findWays_188 rfl ?_
      refine V_get C 15 dX5_findWays_189 (wo_26 T3 ad _) rfl inKX5 (by decide) flX5_161 rfl rfl ?_
      refine V_iload_n C 3 dX5_findWays_192 rfl ?_
      obtain ⟨g4, h⟩ := gd_t h
      obtain ⟨M3, hM3, h⟩ := lt_t h
      refine V_iast C M3 rfl rfl (inb_in g4) dX5_findWays_193 hM3 ?_
      refine V_aload_n C 0 dX5_findWays_194 rfl ?_
      refine V_dup C dX5_findWays_195 rfl ?_
      refine V_get C 15 dX5_findWays_196 (wo_26 T3 ad _) rfl inKX5 (by decide) flX5_161 rfl rfl ?_
      refine V_iconst C (1 : Int32) dX5_findWays_199 (by decide) ?_
      refine V_iadd C dX5_findWays_200 ?_
      obtain ⟨M5, hM5, h⟩ := lt_t h
      refine V_put C M5 15 dX5_findWays_201 (wo_26 T3 ad _) (ws_26_15 T3 ad _ _) rfl inKX5 tyX5 tyX5_ok nmX5 (by decide) flX5_161 rfl rfl rfl (Nat.le_of_ble_eq_true rfl) hM5 ?_
      refine V_aload_n C 0 dX5_findWays_204 rfl ?_
      refine V_get C 9 dX5_findWays_205 (wo_26 T3 ad _) rfl inKX5 (by decide) flX5_25 rfl rfl ?_
      refine V_iconst C (5 : Int32) dX5_findWays_208 (by decide) ?_
      refine V_iload_n C 3 dX5_findWays_209 rfl ?_
      refine V_imul C dX5_findWays_210 ?_
      refine V_iconst C (1 : Int32) dX5_findWays_211 (by decide) ?_
      refine V_iadd C dX5_findWays_212 ?_
      obtain ⟨g6, h⟩ := gd_t h
      refine V_iald C rfl rfl (inb_in g6) dX5_findWays_213 ?_
      obtain ⟨y7, hy7, h⟩ := lt_t h
      refine V_topi C hy7 ?_
      refine V_istore_n C [(2, .int y7), (0, .ref (ad 26)), (1, .int x1), (3, .int x3), (4, .int x4)] dX5_findWays_214 rfl (by decide) rfl ?_
      refine V_goto C 110 dX5_findWays_215 (by decide) ?_
      refine V_sub (lv' := [(0, .ref (ad 26)), (1, .int x1), (2, .int y7)]) [1, 2, 0] rfl ?_
      exact hk110 x1 y7 M5 h
    · replace h := ite_n q14 h
      refine V_iload_n C 1 dX5_findWays_130 rfl ?_
      refine V_iload C 4 dX5_findWays_131 rfl ?_
      refine V_callS C (st := []) (st' := [.int (b2i (fX5_isIn x1 x4))]) (mX5_isIn l x1 x4 M rfl) wmX5_isIn lkX5_157 dX5_findWays_133 rfl rfl rfl ⟨rfl, rfl, (Nat.le_of_ble_eq_true rfl), (Nat.le_of_ble_eq_true rfl)⟩ ⟨Nat.zero_le _, Nat.zero_le _⟩ (Nat.le_of_ble_eq_true rfl) ?_
      refine V_ifB_eq C 176 dX5_findWays_136 (by decide) (fun q13 => ?_) (fun q13 => ?_)
      · replace h := ite_n q13 h
        refine V_iload_n C 3 dX5_findWays_176 rfl ?_
        refine V_istore_n C [(3, .int x3), (0, .ref (ad 26)), (1, .int x1), (2, .int x2), (4, .int x4)] dX5_findWays_177 rfl (by decide) rfl ?_
        refine V_iinc C 4 (x4 + (-1)) [(4, .int (x4 + (-1))), (3, .int x3), (0, .ref (ad 26)), (1, .int x1), (2, .int x2)] dX5_findWays_178 rfl rfl (by decide) rfl ?_
        refine V_goto C 125 dX5_findWays_181 (by decide) ?_
        refine V_sub (lv' := [(0, .ref (ad 26)), (1, .int x1), (2, .int x2), (3, .int x3), (4, .int (x4 + (-1)))]) [2, 3, 4, 1, 0] rfl ?_
        exact ih x1 x2 x3 (x4 + (-1)) M h
      · replace h := ite_p q13 h
        refine V_aload_n C 0 dX5_findWays_139 rfl ?_
        refine V_get C 9 dX5_findWays_140 (wo_26 T3 ad _) rfl inKX5 (by decide) flX5_25 rfl rfl ?_
        refine V_iconst C (5 : Int32) dX5_findWays_143 (by decide) ?_
        refine V_iload C 4 dX5_findWays_144 rfl ?_
        refine V_imul C dX5_findWays_146 ?_
        obtain ⟨g8, h⟩ := gd_t h
        refine V_iald C rfl rfl (inb_in g8) dX5_findWays_147 ?_
        refine V_iload_n C 2 dX5_findWays_148 rfl ?_
        refine V_icmp_ne C 176 dX5_findWays_149 (by decide) (fun q12 => ?_) (fun q12 => ?_)
        · replace h := ite_n q12 h
          refine V_iload_n C 3 dX5_findWays_176 rfl ?_
          refine V_istore_n C [(3, .int x3), (0, .ref (ad 26)), (1, .int x1), (2, .int x2), (4, .int x4)] dX5_findWays_177 rfl (by decide) rfl ?_
          refine V_iinc C 4 (x4 + (-1)) [(4, .int (x4 + (-1))), (3, .int x3), (0, .ref (ad 26)), (1, .int x1), (2, .int x2)] dX5_findWays_178 rfl rfl (by decide) rfl ?_
          refine V_goto C 125 dX5_findWays_181 (by decide) ?_
          refine V_sub (lv' := [(0, .ref (ad 26)), (1, .int x1), (2, .int x2), (3, .int x3), (4, .int (x4 + (-1)))]) [2, 3, 4, 1, 0] rfl ?_
          exact ih x1 x2 x3 (x4 + (-1)) M h
        · replace h := ite_p q12 h
          refine V_aload_n C 0 dX5_findWays_152 rfl ?_
          refine V_get C 13 dX5_findWays_153 (wo_26 T3 ad _) rfl inKX5 (by decide) flX5_31 rfl rfl ?_
          refine V_aload_n C 0 dX5_findWays_156 rfl ?_
          refine V_get C 9 dX5_findWays_157 (wo_26 T3 ad _) rfl inKX5 (by decide) flX5_25 rfl rfl ?_
          refine V_iconst C (5 : Int32) dX5_findWays_160 (by decide) ?_
          refine V_iload C 4 dX5_findWays_161 rfl ?_
          refine V_imul C dX5_findWays_163 ?_
          refine V_iconst C (1 : Int32) dX5_findWays_164 (by decide) ?_
          refine V_iadd C dX5_findWays_165 ?_
          obtain ⟨g9, h⟩ := gd_t h
          refine V_iald C rfl rfl (inb_in g9) dX5_findWays_166 ?_
          obtain ⟨g10, h⟩ := gd_t h
          refine V_iald C rfl rfl (inb_in g10) dX5_findWays_167 ?_
          refine V_if_le C 176 dX5_findWays_168 (by decide) (fun q11 => ?_) (fun q11 => ?_)
          · replace h := ite_p q11 h
            refine V_iload_n C 3 dX5_findWays_176 rfl ?_
            refine V_istore_n C [(3, .int x3), (0, .ref (ad 26)), (1, .int x1), (2, .int x2), (4, .int x4)] dX5_findWays_177 rfl (by decide) rfl ?_
            refine V_iinc C 4 (x4 + (-1)) [(4, .int (x4 + (-1))), (3, .int x3), (0, .ref (ad 26)), (1, .int x1), (2, .int x2)] dX5_findWays_178 rfl rfl (by decide) rfl ?_
            refine V_goto C 125 dX5_findWays_181 (by decide) ?_
            refine V_sub (lv' := [(0, .ref (ad 26)), (1, .int x1), (2, .int x2), (3, .int x3), (4, .int (x4 + (-1)))]) [2, 3, 4, 1, 0] rfl ?_
            exact ih x1 x2 x3 (x4 + (-1)) M h
          · replace h := ite_n q11 h
            refine V_iload C 4 dX5_findWays_171 rfl ?_
            refine V_goto C 177 dX5_findWays_173 (by decide) ?_
            refine V_istore_n C [(3, .int x4), (0, .ref (ad 26)), (1, .int x1), (2, .int x2), (4, .int x4)] dX5_findWays_177 rfl (by decide) rfl ?_
            refine V_iinc C 4 (x4 + (-1)) [(4, .int (x4 + (-1))), (3, .int x4), (0, .ref (ad 26)), (1, .int x1), (2, .int x2)] dX5_findWays_178 rfl rfl (by decide) rfl ?_
            refine V_goto C 125 dX5_findWays_181 (by decide) ?_
            refine V_sub (lv' := [(0, .ref (ad 26)), (1, .int x1), (2, .int x2), (3, .int x4), (4, .int (x4 + (-1)))]) [2, 3, 4, 1, 0] rfl ?_
            exact ih x1 x2 x4 (x4 + (-1)) M h
set_option maxHeartbeats 4000000 in
set_option maxRecDepth 100000 in
theorem vX5_findWays_110 {p : Program} {l : Launch} {e : Env} {s : State} {m : MethodId} {args : Array Value} {below : List Frame} {meth : Method} {c : Code} {D : va_G} {T3 : ClassId × ClassId × ClassId} {ad sd : Nat → Nat} {A : Nat → Prop}  (C : CX p s m args meth c cX5_findWays 5 RX5 (some .int) D T3 ad sd A) {r : Int32} {M9 : Mem} : ∀ (n : Nat) (x1 : Int32) (x2 : Int32) (M : Mem), fX5_findWays_110 n x1 x2 M = some (r, M9) → VV p l e rmX5_findWays s m args below meth c D T3 ad A 5 0 0 (QM below D T3 ad A args s (fun _ => some (.int r)) M9) M [(0, .ref (ad 26)), (1, .int x1), (2, .int x2)] 110 [] := by
  intro n
  induction n with
  | zero => intro x1 x2 M h; exact nomatch (show (none : Option (Int32 × Mem)) = some _ from h)
  | succ n ih =>
    intro x1 x2 M h
    rw [fX5_findWays_110] at h
    refine V_iload_n C 2 dX5_findWays_110 rfl ?_
    refine V_iconst C (5 : Int32) dX5_findWays_111 (by decide) ?_
    refine V_icmp_ge C 218 dX5_findWays_112 (by decide) (fun q15 => ?_) (fun q15 => ?_)
    · replace h := ite_p q15 h
      refine V_aload_n C 0 dX5_findWays_218 rfl ?_
      refine V_get C 13 dX5_findWays_219 (wo_26 T3 ad _) rfl inKX5 (by decide) flX5_31 rfl rfl ?_
      refine V_iconst C (0 : Int32) dX5_findWays_222 (by decide) ?_
      refine V_iald C rfl rfl (inb_in rfl) dX5_findWays_223 ?_
      obtain ⟨rfl, rfl⟩ := ret_W h
      exact V_iret C dX5_findWays_224
    · replace h := ite_n q15 h
      refine V_iconst C (-1 : Int32) dX5_findWays_115 (by decide) ?_
      refine V_istore_n C [(3, .int (-1 : Int32)), (0, .ref (ad 26)), (1, .int x1), (2, .int x2)] dX5_findWays_116 rfl (by decide) rfl ?_
      refine V_aload_n C 1 dX5_findWays_117 rfl ?_
      refine V_get C 8 dX5_findWays_118 (wo_26 T3 ad _) rfl inKX5 (by decide) flX5_94 rfl rfl ?_
      refine V_iconst C (1 : Int32) dX5_findWays_121 (by decide) ?_
      refine V_isub C dX5_findWays_122 ?_
      refine V_istore C [(4, .int ((M 26 8) - (1 : Int32))), (3, .int (-1 : Int32)), (0, .ref (ad 26)), (1, .int x1), (2, .int x2)] dX5_findWays_123 (by decide) rfl ?_
      refine V_sub (lv' := [(0, .ref (ad 26)), (1, .int x1), (2, .int x2), (3, .int (-1 : Int32)), (4, .int ((M 26 8) - (1 : Int32)))]) [2, 3, 4, 1, 0] rfl ?_
      exact vX5_findWays_125 C (fX5_findWays_110 n) ih 1000 x1 x2 (-1 : Int32) ((M 26 8) - (1 : Int32)) M h
set_option maxHeartbeats 4000000 in
set_option maxRecDepth 100000 in
theorem vX5_findWays_22 {p : Program} {l : Launch} {e : Env} {s : State} {m : MethodId} {args : Array Value} {below : List Frame} {meth : Method} {c : Code} {D : va_G} {T3 : ClassId × ClassId × ClassId} {ad sd : Nat → Nat} {A : Nat → Prop}  (C : CX p s m args meth c cX5_findWays 5 RX5 (some .int) D T3 ad sd A) {r : Int32} {M9 : Mem} (kk9 : Int32 → Int32 → Mem → Option (Int32 × Mem)) (hk9 : ∀ (x1 : Int32) (x2 : Int32) (M : Mem), kk9 x1 x2 M = some (r, M9) → VV p l e rmX5_findWays s m args below meth c D T3 ad A 5 0 0 (QM below D T3 ad A args s (fun _ => some (.int r)) M9) M [(0, .ref (ad 26)), (1, .int x1), (2, .int x2)] 9 []) : ∀ (n : Nat) (x1 : Int32) (x2 : Int32) (x3 : Int32) (M : Mem), fX5_findWays_22 kk9 n x1 x2 x3 M = some (r, M9) → VV p l e rmX5_findWays s m args below meth c D T3 ad A 5 0 0 (QM below D T3 ad A args s (fun _ => some (.int r)) M9) M [(0, .ref (ad 26)), (1, .int x1), (2, .int x2), (3, .int x3)] 22 [] := by
  intro n
  induction n with
  | zero => intro x1 x2 x3 M h; exact nomatch (show (none : Option (Int32 × Mem)) = some _ from h)
  | succ n ih =>
    intro x1 x2 x3 M h
    rw [fX5_findWays_22] at h
    refine V_iload_n C 3 dX5_findWays_22 rfl ?_
    refine V_aload_n C 0 dX5_findWays_23 rfl ?_
    refine V_get C 8 dX5_findWays_24 (wo_26 T3 ad _) rfl inKX5 (by decide) flX5_94 rfl rfl ?_
    refine V_icmp_ge C 84 dX5_findWays_27 (by decide) (fun q31 => ?_) (fun q31 => ?_)
    · replace h := ite_p q31 h
      refine V_iinc C 2 (x2 + (-1)) [(2, .int (x2 + (-1))), (0, .ref (ad 26)), (1, .int x1), (3, .int x3)] dX5_findWays_84 rfl rfl (by decide) rfl ?_
      refine V_goto C 9 dX5_findWays_87 (by decide) ?_
      refine V_sub (lv' := [(0, .ref (ad 26)), (1, .int x1), (2, .int (x2 + (-1)))]) [1, 2, 0] rfl ?_
      exact hk9 x1 (x2 + (-1)) M h
    · replace h := ite_n q31 h
      refine V_aload_n C 0 dX5_findWays_30 rfl ?_
      refine V_get C 13 dX5_findWays_31 (wo_26 T3 ad _) rfl inKX5 (by decide) flX5_31 rfl rfl ?_
      refine V_iload_n C 2 dX5_findWays_34 rfl ?_
      refine V_dup2 C dX5_findWays_35 rfl rfl ?_
      obtain ⟨g19, h⟩ := gd_t h
      refine V_iald C rfl rfl (inb_in g19) dX5_findWays_36 ?_
      refine V_iload_n C 1 dX5_findWays_37 rfl ?_
      refine V_iload_n C 3 dX5_findWays_38 rfl ?_
      refine V_callS C (st := [.int (M 34 (x2).toNatClampNeg), .int x2, .ref (ad 34)]) (st' := [.int (b2i (fX5_isIn x1 x3)), .int (M 34 (x2).toNatClampNeg), .int x2, .ref (ad 34)]) (mX5_isIn l x1 x3 M rfl) wmX5_isIn lkX5_157 dX5_findWays_39 rfl rfl rfl ⟨rfl, rfl, (Nat.le_of_ble_eq_true rfl), (Nat.le_of_ble_eq_true rfl)⟩ ⟨Nat.zero_le _, Nat.zero_le _⟩ (Nat.le_of_ble_eq_true rfl) ?_
      refine V_ifB_eq C 75 dX5_findWays_42 (by decide) (fun q30 => ?_) (fun q30 => ?_)
      · replace h := ite_n q30 h
        refine V_iconst C (0 : Int32) dX5_findWays_75 (by decide) ?_
        refine V_iadd C dX5_findWays_76 ?_
        obtain ⟨g21, h⟩ := gd_t h
        obtain ⟨M20, hM20, h⟩ := lt_t h
        refine V_iast C M20 rfl rfl (inb_in g21) dX5_findWays_77 hM20 ?_
        refine V_iinc C 3 (x3 + 1) [(3, .int (x3 + 1)), (0, .ref (ad 26)), (1, .int x1), (2, .int x2)] dX5_findWays_78 rfl rfl (by decide) rfl ?_
        refine V_goto C 22 dX5_findWays_81 (by decide) ?_
        refine V_sub (lv' := [(0, .ref (ad 26)), (1, .int x1), (2, .int x2), (3, .int (x3 + 1))]) [1, 2, 3, 0] rfl ?_
        exact ih x1 x2 (x3 + 1) M20 h
      · replace h := ite_p q30 h
        refine V_aload_n C 0 dX5_findWays_45 rfl ?_
        refine V_get C 9 dX5_findWays_46 (wo_26 T3 ad _) rfl inKX5 (by decide) flX5_25 rfl rfl ?_
        refine V_iconst C (5 : Int32) dX5_findWays_49 (by decide) ?_
        refine V_iload_n C 3 dX5_findWays_50 rfl ?_
        refine V_imul C dX5_findWays_51 ?_
        obtain ⟨g22, h⟩ := gd_t h
        refine V_iald C rfl rfl (inb_in g22) dX5_findWays_52 ?_
        refine V_iload_n C 2 dX5_findWays_53 rfl ?_
        refine V_icmp_ne C 75 dX5_findWays_54 (by decide) (fun q29 => ?_) (fun q29 => ?_)
        · replace h := ite_n q29 h
          refine V_iconst C (0 : Int32) dX5_findWays_75 (by decide) ?_
          refine V_iadd C dX5_findWays_76 ?_
          obtain ⟨g24, h⟩ := gd_t h
          obtain ⟨M23, hM23, h⟩ := lt_t h
          refine V_iast C M23 rfl rfl (inb_in g24) dX5_findWays_77 hM23 ?_
          refine V_iinc C 3 (x3 + 1) [(3, .int (x3 + 1)), (0, .ref (ad 26)), (1, .int x1), (2, .int x2)] dX5_findWays_78 rfl rfl (by decide) rfl ?_
          refine V_goto C 22 dX5_findWays_81 (by decide) ?_
          refine V_sub (lv' := [(0, .ref (ad 26)), (1, .int x1), (2, .int x2), (3, .int (x3 + 1))]) [1, 2, 3, 0] rfl ?_
          exact ih x1 x2 (x3 + 1) M23 h
        · replace h := ite_p q29 h
          refine V_aload_n C 0 dX5_findWays_57 rfl ?_
          refine V_get C 13 dX5_findWays_58 (wo_26 T3 ad _) rfl inKX5 (by decide) flX5_31 rfl rfl ?_
          refine V_aload_n C 0 dX5_findWays_61 rfl ?_
          refine V_get C 9 dX5_findWays_62 (wo_26 T3 ad _) rfl inKX5 (by decide) flX5_25 rfl rfl ?_
          refine V_iconst C (5 : Int32) dX5_findWays_65 (by decide) ?_
          refine V_iload_n C 3 dX5_findWays_66 rfl ?_
          refine V_imul C dX5_findWays_67 ?_
          refine V_iconst C (1 : Int32) dX5_findWays_68 (by decide) ?_
          refine V_iadd C dX5_findWays_69 ?_
          obtain ⟨g25, h⟩ := gd_t h
          refine V_iald C rfl rfl (inb_in g25) dX5_findWays_70 ?_
          obtain ⟨g26, h⟩ := gd_t h
          refine V_iald C rfl rfl (inb_in g26) dX5_findWays_71 ?_
          refine V_goto C 76 dX5_findWays_72 (by decide) ?_
          refine V_iadd C dX5_findWays_76 ?_
          obtain ⟨g28, h⟩ := gd_t h
          obtain ⟨M27, hM27, h⟩ := lt_t h
          refine V_iast C M27 rfl rfl (inb_in g28) dX5_findWays_77 hM27 ?_
          refine V_iinc C 3 (x3 + 1) [(3, .int (x3 + 1)), (0, .ref (ad 26)), (1, .int x1), (2, .int x2)] dX5_findWays_78 rfl rfl (by decide) rfl ?_
          refine V_goto C 22 dX5_findWays_81 (by decide) ?_
          refine V_sub (lv' := [(0, .ref (ad 26)), (1, .int x1), (2, .int x2), (3, .int (x3 + 1))]) [1, 2, 3, 0] rfl ?_
          exact ih x1 x2 (x3 + 1) M27 h
set_option maxHeartbeats 4000000 in
set_option maxRecDepth 100000 in
theorem vX5_findWays_9 {p : Program} {l : Launch} {e : Env} {s : State} {m : MethodId} {args : Array Value} {below : List Frame} {meth : Method} {c : Code} {D : va_G} {T3 : ClassId × ClassId × ClassId} {ad sd : Nat → Nat} {A : Nat → Prop}  (C : CX p s m args meth c cX5_findWays 5 RX5 (some .int) D T3 ad sd A) {r : Int32} {M9 : Mem} : ∀ (n : Nat) (x1 : Int32) (x2 : Int32) (M : Mem), fX5_findWays_9 n x1 x2 M = some (r, M9) → VV p l e rmX5_findWays s m args below meth c D T3 ad A 5 0 0 (QM below D T3 ad A args s (fun _ => some (.int r)) M9) M [(0, .ref (ad 26)), (1, .int x1), (2, .int x2)] 9 [] := by
  intro n
  induction n with
  | zero => intro x1 x2 M h; exact nomatch (show (none : Option (Int32 × Mem)) = some _ from h)
  | succ n ih =>
    intro x1 x2 M h
    rw [fX5_findWays_9] at h
    refine V_iload_n C 2 dX5_findWays_9 rfl ?_
    refine V_if_lt C 90 dX5_findWays_10 (by decide) (fun q32 => ?_) (fun q32 => ?_)
    · replace h := ite_p q32 h
      refine V_aload_n C 0 dX5_findWays_90 rfl ?_
      refine V_iconst C (0 : Int32) dX5_findWays_91 (by decide) ?_
      obtain ⟨M2, hM2, h⟩ := lt_t h
      refine V_put C M2 15 dX5_findWays_92 (wo_26 T3 ad _) (ws_26_15 T3 ad _ _) rfl inKX5 tyX5 tyX5_ok nmX5 (by decide) flX5_161 rfl rfl rfl (Nat.le_of_ble_eq_true rfl) hM2 ?_
      refine V_aload_n C 0 dX5_findWays_95 rfl ?_
      refine V_get C 13 dX5_findWays_96 (wo_26 T3 ad _) rfl inKX5 (by decide) flX5_31 rfl rfl ?_
      refine V_iconst C (0 : Int32) dX5_findWays_99 (by decide) ?_
      refine V_iald C rfl rfl (inb_in rfl) dX5_findWays_100 ?_
      refine V_if_le C 108 dX5_findWays_101 (by decide) (fun q16 => ?_) (fun q16 => ?_)
      · replace h := ite_p q16 h
        refine V_iconst C (5 : Int32) dX5_findWays_108 (by decide) ?_
        refine V_istore_n C [(2, .int (5 : Int32)), (0, .ref (ad 26)), (1, .int x1)] dX5_findWays_109 rfl (by decide) rfl ?_
        refine V_sub (lv' := [(0, .ref (ad 26)), (1, .int x1), (2, .int (5 : Int32))]) [1, 2, 0] rfl ?_
        exact vX5_findWays_110 C 1000 x1 (5 : Int32) M2 h
      · replace h := ite_n q16 h
        refine V_iconst C (0 : Int32) dX5_findWays_104 (by decide) ?_
        refine V_goto C 109 dX5_findWays_105 (by decide) ?_
        refine V_istore_n C [(2, .int (0 : Int32)), (0, .ref (ad 26)), (1, .int x1)] dX5_findWays_109 rfl (by decide) rfl ?_
        refine V_sub (lv' := [(0, .ref (ad 26)), (1, .int x1), (2, .int (0 : Int32))]) [1, 2, 0] rfl ?_
        exact vX5_findWays_110 C 1000 x1 (0 : Int32) M2 h
    · replace h := ite_n q32 h
      refine V_aload_n C 0 dX5_findWays_13 rfl ?_
      refine V_get C 13 dX5_findWays_14 (wo_26 T3 ad _) rfl inKX5 (by decide) flX5_31 rfl rfl ?_
      refine V_iload_n C 2 dX5_findWays_17 rfl ?_
      refine V_iconst C (0 : Int32) dX5_findWays_18 (by decide) ?_
      obtain ⟨g18, h⟩ := gd_t h
      obtain ⟨M17, hM17, h⟩ := lt_t h
      refine V_iast C M17 rfl rfl (inb_in g18) dX5_findWays_19 hM17 ?_
      refine V_iconst C (0 : Int32) dX5_findWays_20 (by decide) ?_
      refine V_istore_n C [(3, .int (0 : Int32)), (0, .ref (ad 26)), (1, .int x1), (2, .int x2)] dX5_findWays_21 rfl (by decide) rfl ?_
      refine V_sub (lv' := [(0, .ref (ad 26)), (1, .int x1), (2, .int x2), (3, .int (0 : Int32))]) [1, 2, 3, 0] rfl ?_
      exact vX5_findWays_22 C (fX5_findWays_9 n) ih 1000 x1 x2 (0 : Int32) M17 h
set_option maxHeartbeats 4000000 in
set_option maxRecDepth 100000 in
theorem mX5_findWays (l : Launch) (x1 : Int32) (M : Mem) {r : Int32} {M9 : Mem} (h : fX5_findWays x1 M = some (r, M9)) : MC l yX5_findWays cX5_findWays 5 (some .int) rmX5_findWays (fun ad sd => [.ref (ad 26), .int x1]) M (fun _ => some (.int r)) M9 := by
  refine MC_start (by decide) (fun ad sd => [(0, .ref (ad 26)), (1, .int x1)]) (fun _ _ => rfl) (fun _ _ => Nat.le_of_ble_eq_true rfl) ?_
  intro p e s m args below meth c D T3 ad sd A C
  unfold fX5_findWays at h
  refine V_aload_n C 0 dX5_findWays_0 rfl ?_
  refine V_get C 13 dX5_findWays_1 (wo_26 T3 ad _) rfl inKX5 (by decide) flX5_31 rfl rfl ?_
  refine V_iconst C (5 : Int32) dX5_findWays_4 (by decide) ?_
  refine V_iconst C (1 : Int32) dX5_findWays_5 (by decide) ?_
  obtain ⟨M1, hM1, h⟩ := lt_t h
  refine V_iast C M1 rfl rfl (inb_in rfl) dX5_findWays_6 hM1 ?_
  refine V_iconst C (4 : Int32) dX5_findWays_7 (by decide) ?_
  refine V_istore_n C [(2, .int (4 : Int32)), (0, .ref (ad 26)), (1, .int x1)] dX5_findWays_8 rfl (by decide) rfl ?_
  refine V_sub (lv' := [(0, .ref (ad 26)), (1, .int x1), (2, .int (4 : Int32))]) [1, 2, 0] rfl ?_
  exact vX5_findWays_9 C 1000 x1 (4 : Int32) M1 h
abbrev rmX5_waysOf : Room := { frames := 6, cells := 0, slots := 0, locals := 137 }
def fX5_waysOf (x1 : Int32) (x2 : Int32) (x3 : Int32) (M : Mem) : Option (Int32 × Mem) := bP (fX5_enough M x1 x2) fun z1 => bW (fX5_findWays z1 M) fun z2 M3 => if x3 = (-1 : Int32) then some (z2, M3) else if (M3 26 15) ≤ x3 then some ((-1 : Int32), M3) else gd (inb x3 5) (some ((M3 35 (x3).toNatClampNeg), M3))
set_option maxHeartbeats 4000000 in
set_option maxRecDepth 100000 in
theorem mX5_waysOf (l : Launch) (x1 : Int32) (x2 : Int32) (x3 : Int32) (M : Mem) {r : Int32} {M9 : Mem} (h : fX5_waysOf x1 x2 x3 M = some (r, M9)) : MC l yX5_waysOf cX5_waysOf 5 (some .int) rmX5_waysOf (fun ad sd => [.ref (ad 26), .int x1, .int x2, .int x3]) M (fun _ => some (.int r)) M9 := by
  refine MC_start (by decide) (fun ad sd => [(0, .ref (ad 26)), (1, .int x1), (2, .int x2), (3, .int x3)]) (fun _ _ => rfl) (fun _ _ => Nat.le_of_ble_eq_true rfl) ?_
  intro p e s m args below meth c D T3 ad sd A C
  unfold fX5_waysOf at h
  refine V_aload_n C 0 dX5_waysOf_0 rfl ?_
  refine V_aload_n C 0 dX5_waysOf_1 rfl ?_
  refine V_iload_n C 1 dX5_waysOf_2 rfl ?_
  refine V_iload_n C 2 dX5_waysOf_3 rfl ?_
  obtain ⟨z1, hz1, h⟩ := bP_t h
  refine V_callV C (st := [.ref (ad 26)]) (st' := [.int z1, .ref (ad 26)]) (mX5_enough l x1 x2 M hz1) wmX5_enough lkX5_167 dX5_waysOf_4 (wo_26 T3 ad _) rfl rfl rfl rfl rfl rfl ⟨rfl, rfl, (Nat.le_of_ble_eq_true rfl), (Nat.le_of_ble_eq_true rfl)⟩ ⟨Nat.zero_le _, Nat.zero_le _⟩ (Nat.le_of_ble_eq_true rfl) ?_
  obtain ⟨z2, M3, hz2, h⟩ := bW_t h
  refine V_callV C (st := []) (st' := [.int z2]) (mX5_findWays l z1 M hz2) wmX5_findWays lkX5_170 dX5_waysOf_7 (wo_26 T3 ad _) rfl rfl rfl rfl rfl rfl ⟨rfl, rfl, (Nat.le_of_ble_eq_true rfl), (Nat.le_of_ble_eq_true rfl)⟩ ⟨Nat.zero_le _, Nat.zero_le _⟩ (Nat.le_of_ble_eq_true rfl) ?_
  refine V_istore C [(4, .int z2), (0, .ref (ad 26)), (1, .int x1), (2, .int x2), (3, .int x3)] dX5_waysOf_10 (by decide) rfl ?_
  refine V_iload_n C 4 dX5_waysOf_12 rfl ?_
  refine V_iconst C (-1 : Int32) dX5_waysOf_13 (by decide) ?_
  refine V_icmp_ne C 22 dX5_waysOf_14 (by decide) (fun q6 => ?_) (fun q6 => ?_)
  · replace h := ite_n q6 h
    refine V_iload_n C 4 dX5_waysOf_22 rfl ?_
    refine V_aload_n C 1 dX5_waysOf_23 rfl ?_
    refine V_get C 15 dX5_waysOf_24 (wo_26 T3 ad _) rfl inKX5 (by decide) flX5_161 rfl rfl ?_
    refine V_icmp_ge C 39 dX5_waysOf_27 (by decide) (fun q5 => ?_) (fun q5 => ?_)
    · replace h := ite_p q5 h
      refine V_iconst C (-1 : Int32) dX5_waysOf_39 (by decide) ?_
      obtain ⟨rfl, rfl⟩ := ret_W h
      exact V_iret C dX5_waysOf_40
    · replace h := ite_n q5 h
      refine V_aload_n C 1 dX5_waysOf_30 rfl ?_
      refine V_get C 14 dX5_waysOf_31 (wo_26 T3 ad _) rfl inKX5 (by decide) flX5_34 rfl rfl ?_
      refine V_iload_n C 4 dX5_waysOf_34 rfl ?_
      obtain ⟨g4, h⟩ := gd_t h
      refine V_iald C rfl rfl (inb_in g4) dX5_waysOf_35 ?_
      refine V_goto C 40 dX5_waysOf_36 (by decide) ?_
      obtain ⟨rfl, rfl⟩ := ret_W h
      exact V_iret C dX5_waysOf_40
  · replace h := ite_p q6 h
    refine V_iload C 0 dX5_waysOf_17 rfl ?_
    refine V_goto C 40 dX5_waysOf_19 (by decide) ?_
    obtain ⟨rfl, rfl⟩ := ret_W h
    exact V_iret C dX5_waysOf_40
abbrev rmX5_ways : Room := { frames := 7, cells := 0, slots := 0, locals := 161 }
def fX5_ways (x1 : Int32) (x2 : Int32) (x3 : Int32) (M : Mem) : Option (Int32 × Mem) := bW (fX5_reads M) fun z1 M2 => if (fX5_isDraught x1) = true then if (fX5_isNight x2) = true then if (fX5_in (Int32.toInt64 x3) (-1 : Int64) (4 : Int64)) = true then bW (fX5_waysOf x1 x2 x3 M2) fun z3 M4 => some (z3, M4) else some ((-2 : Int32), M2) else some ((-2 : Int32), M2) else some ((-2 : Int32), M2)
set_option maxHeartbeats 4000000 in
set_option maxRecDepth 100000 in
theorem mX5_ways (l : Launch) (x1 : Int32) (x2 : Int32) (x3 : Int32) (M : Mem) {r : Int32} {M9 : Mem} (h : fX5_ways x1 x2 x3 M = some (r, M9)) : MC l yX5_ways cX5_ways 4 (some .int) rmX5_ways (fun ad sd => [.ref (ad 26), .int x1, .int x2, .int x3]) M (fun _ => some (.int r)) M9 := by
  refine MC_start (by decide) (fun ad sd => [(0, .ref (ad 26)), (1, .int x1), (2, .int x2), (3, .int x3)]) (fun _ _ => rfl) (fun _ _ => Nat.le_of_ble_eq_true rfl) ?_
  intro p e s m args below meth c D T3 ad sd A C
  unfold fX5_ways at h
  refine V_aload_n C 0 dX5_ways_0 rfl ?_
  obtain ⟨z1, M2, hz1, h⟩ := bW_t h
  refine V_callV C (st := []) (st' := [.int z1]) (mX5_reads l M hz1) wmX5_reads lkX5_116 dX5_ways_1 (wo_26 T3 ad _) rfl rfl rfl rfl rfl rfl ⟨rfl, rfl, (Nat.le_of_ble_eq_true rfl), (Nat.le_of_ble_eq_true rfl)⟩ ⟨Nat.zero_le _, Nat.zero_le _⟩ (Nat.le_of_ble_eq_true rfl) ?_
  refine V_pop C dX5_ways_4 rfl ?_
  refine V_iload_n C 1 dX5_ways_5 rfl ?_
  refine V_callS C (st := []) (st' := [.int (b2i (fX5_isDraught x1))]) (mX5_isDraught l x1 M2 rfl) wmX5_isDraught lkX5_176 dX5_ways_6 rfl rfl rfl ⟨rfl, rfl, (Nat.le_of_ble_eq_true rfl), (Nat.le_of_ble_eq_true rfl)⟩ ⟨Nat.zero_le _, Nat.zero_le _⟩ (Nat.le_of_ble_eq_true rfl) ?_
  refine V_ifB_eq C 43 dX5_ways_9 (by decide) (fun q7 => ?_) (fun q7 => ?_)
  · replace h := ite_n q7 h
    refine V_bipush C (-2 : Int32) dX5_ways_43 (by decide) ?_
    obtain ⟨rfl, rfl⟩ := ret_W h
    exact V_iret C dX5_ways_45
  · replace h := ite_p q7 h
    refine V_iload_n C 2 dX5_ways_12 rfl ?_
    refine V_callS C (st := []) (st' := [.int (b2i (fX5_isNight x2))]) (mX5_isNight l x2 M2 rfl) wmX5_isNight lkX5_129 dX5_ways_13 rfl rfl rfl ⟨rfl, rfl, (Nat.le_of_ble_eq_true rfl), (Nat.le_of_ble_eq_true rfl)⟩ ⟨Nat.zero_le _, Nat.zero_le _⟩ (Nat.le_of_ble_eq_true rfl) ?_
    refine V_ifB_eq C 43 dX5_ways_16 (by decide) (fun q6 => ?_) (fun q6 => ?_)
    · replace h := ite_n q6 h
      refine V_bipush C (-2 : Int32) dX5_ways_43 (by decide) ?_
      obtain ⟨rfl, rfl⟩ := ret_W h
      exact V_iret C dX5_ways_45
    · replace h := ite_p q6 h
      refine V_iload_n C 3 dX5_ways_19 rfl ?_
      refine V_i2l C dX5_ways_20 ?_
      refine V_ldc2 C dX5_ways_21 kcX5_179 ?_
      refine V_ldc2 C dX5_ways_24 kcX5_127 ?_
      refine V_callS C (st := []) (st' := [.int (b2i (fX5_in (Int32.toInt64 x3) (-1 : Int64) (4 : Int64)))]) (mX5_in l (Int32.toInt64 x3) (-1 : Int64) (4 : Int64) M2 rfl) wmX5_in lkX5_54 dX5_ways_27 rfl rfl rfl ⟨rfl, rfl, (Nat.le_of_ble_eq_true rfl), (Nat.le_of_ble_eq_true rfl)⟩ ⟨Nat.zero_le _, Nat.zero_le _⟩ (Nat.le_of_ble_eq_true rfl) ?_
      refine V_ifB_eq C 43 dX5_ways_30 (by decide) (fun q5 => ?_) (fun q5 => ?_)
      · replace h := ite_n q5 h
        refine V_bipush C (-2 : Int32) dX5_ways_43 (by decide) ?_
        obtain ⟨rfl, rfl⟩ := ret_W h
        exact V_iret C dX5_ways_45
      · replace h := ite_p q5 h
        refine V_aload_n C 0 dX5_ways_33 rfl ?_
        refine V_iload_n C 1 dX5_ways_34 rfl ?_
        refine V_iload_n C 2 dX5_ways_35 rfl ?_
        refine V_iload_n C 3 dX5_ways_36 rfl ?_
        obtain ⟨z3, M4, hz3, h⟩ := bW_t h
        refine V_callV C (st := []) (st' := [.int z3]) (mX5_waysOf l x1 x2 x3 M2 hz3) wmX5_waysOf lkX5_181 dX5_ways_37 (wo_26 T3 ad _) rfl rfl rfl rfl rfl rfl ⟨rfl, rfl, (Nat.le_of_ble_eq_true rfl), (Nat.le_of_ble_eq_true rfl)⟩ ⟨Nat.zero_le _, Nat.zero_le _⟩ (Nat.le_of_ble_eq_true rfl) ?_
        refine V_goto C 45 dX5_ways_40 (by decide) ?_
        obtain ⟨rfl, rfl⟩ := ret_W h
        exact V_iret C dX5_ways_45
abbrev rmX5_draftOf : Room := { frames := 6, cells := 0, slots := 0, locals := 137 }
def fX5_draftOf_3 : Nat → Int32 → Int32 → Mem → Option (Int32 × Mem)
  | 0, _, _, _ => none
  | n + 1, x1, x2, M => if x2 ≤ 0 then some ((-1 : Int32), M) else bP (fX5_enough M x2 x1) fun z1 => bW (fX5_findWays z1 M) fun z2 M3 => if z2 ≤ 0 then fX5_draftOf_3 n x1 (x2 + (-1)) M3 else some (x2, M3)
def fX5_draftOf (x1 : Int32) (M : Mem) : Option (Int32 × Mem) := fX5_draftOf_3 1000 x1 (9 : Int32) M
set_option maxHeartbeats 4000000 in
set_option maxRecDepth 100000 in
theorem vX5_draftOf_3 {p : Program} {l : Launch} {e : Env} {s : State} {m : MethodId} {args : Array Value} {below : List Frame} {meth : Method} {c : Code} {D : va_G} {T3 : ClassId × ClassId × ClassId} {ad sd : Nat → Nat} {A : Nat → Prop}  (C : CX p s m args meth c cX5_draftOf 3 RX5 (some .int) D T3 ad sd A) {r : Int32} {M9 : Mem} : ∀ (n : Nat) (x1 : Int32) (x2 : Int32) (M : Mem), fX5_draftOf_3 n x1 x2 M = some (r, M9) → VV p l e rmX5_draftOf s m args below meth c D T3 ad A 3 0 0 (QM below D T3 ad A args s (fun _ => some (.int r)) M9) M [(0, .ref (ad 26)), (1, .int x1), (2, .int x2)] 3 [] := by
  intro n
  induction n with
  | zero => intro x1 x2 M h; exact nomatch (show (none : Option (Int32 × Mem)) = some _ from h)
  | succ n ih =>
    intro x1 x2 M h
    rw [fX5_draftOf_3] at h
    refine V_iload_n C 2 dX5_draftOf_3 rfl ?_
    refine V_if_le C 28 dX5_draftOf_4 (by decide) (fun q5 => ?_) (fun q5 => ?_)
    · replace h := ite_p q5 h
      refine V_iconst C (-1 : Int32) dX5_draftOf_28 (by decide) ?_
      obtain ⟨rfl, rfl⟩ := ret_W h
      exact V_iret C dX5_draftOf_29
    · replace h := ite_n q5 h
      refine V_aload_n C 0 dX5_draftOf_7 rfl ?_
      refine V_aload_n C 0 dX5_draftOf_8 rfl ?_
      refine V_iload_n C 2 dX5_draftOf_9 rfl ?_
      refine V_iload_n C 1 dX5_draftOf_10 rfl ?_
      obtain ⟨z1, hz1, h⟩ := bP_t h
      refine V_callV C (st := [.ref (ad 26)]) (st' := [.int z1, .ref (ad 26)]) (mX5_enough l x2 x1 M hz1) wmX5_enough lkX5_167 dX5_draftOf_11 (wo_26 T3 ad _) rfl rfl rfl rfl rfl rfl ⟨rfl, rfl, (Nat.le_of_ble_eq_true rfl), (Nat.le_of_ble_eq_true rfl)⟩ ⟨Nat.zero_le _, Nat.zero_le _⟩ (Nat.le_of_ble_eq_true rfl) ?_
      obtain ⟨z2, M3, hz2, h⟩ := bW_t h
      refine V_callV C (st := []) (st' := [.int z2]) (mX5_findWays l z1 M hz2) wmX5_findWays lkX5_170 dX5_draftOf_14 (wo_26 T3 ad _) rfl rfl rfl rfl rfl rfl ⟨rfl, rfl, (Nat.le_of_ble_eq_true rfl), (Nat.le_of_ble_eq_true rfl)⟩ ⟨Nat.zero_le _, Nat.zero_le _⟩ (Nat.le_of_ble_eq_true rfl) ?_
      refine V_if_le C 22 dX5_draftOf_17 (by decide) (fun q4 => ?_) (fun q4 => ?_)
      · replace h := ite_p q4 h
        refine V_iinc C 2 (x2 + (-1)) [(2, .int (x2 + (-1))), (0, .ref (ad 26)), (1, .int x1)] dX5_draftOf_22 rfl rfl (by decide) rfl ?_
        refine V_goto C 3 dX5_draftOf_25 (by decide) ?_
        refine V_sub (lv' := [(0, .ref (ad 26)), (1, .int x1), (2, .int (x2 + (-1)))]) [1, 2, 0] rfl ?_
        exact ih x1 (x2 + (-1)) M3 h
      · replace h := ite_n q4 h
        refine V_iload_n C 2 dX5_draftOf_20 rfl ?_
        obtain ⟨rfl, rfl⟩ := ret_W h
        exact V_iret C dX5_draftOf_21
set_option maxHeartbeats 4000000 in
set_option maxRecDepth 100000 in
theorem mX5_draftOf (l : Launch) (x1 : Int32) (M : Mem) {r : Int32} {M9 : Mem} (h : fX5_draftOf x1 M = some (r, M9)) : MC l yX5_draftOf cX5_draftOf 3 (some .int) rmX5_draftOf (fun ad sd => [.ref (ad 26), .int x1]) M (fun _ => some (.int r)) M9 := by
  refine MC_start (by decide) (fun ad sd => [(0, .ref (ad 26)), (1, .int x1)]) (fun _ _ => rfl) (fun _ _ => Nat.le_of_ble_eq_true rfl) ?_
  intro p e s m args below meth c D T3 ad sd A C
  unfold fX5_draftOf at h
  refine V_bipush C (9 : Int32) dX5_draftOf_0 (by decide) ?_
  refine V_istore_n C [(2, .int (9 : Int32)), (0, .ref (ad 26)), (1, .int x1)] dX5_draftOf_2 rfl (by decide) rfl ?_
  refine V_sub (lv' := [(0, .ref (ad 26)), (1, .int x1), (2, .int (9 : Int32))]) [1, 2, 0] rfl ?_
  exact vX5_draftOf_3 C 1000 x1 (9 : Int32) M h
abbrev rmX5_draft : Room := { frames := 7, cells := 0, slots := 0, locals := 159 }
def fX5_draft (x1 : Int32) (M : Mem) : Option (Int32 × Mem) := bW (fX5_reads M) fun z1 M2 => if (fX5_isNight x1) = true then bW (fX5_draftOf x1 M2) fun z3 M4 => some (z3, M4) else some ((-2 : Int32), M2)
set_option maxHeartbeats 4000000 in
set_option maxRecDepth 100000 in
theorem mX5_draft (l : Launch) (x1 : Int32) (M : Mem) {r : Int32} {M9 : Mem} (h : fX5_draft x1 M = some (r, M9)) : MC l yX5_draft cX5_draft 2 (some .int) rmX5_draft (fun ad sd => [.ref (ad 26), .int x1]) M (fun _ => some (.int r)) M9 := by
  refine MC_start (by decide) (fun ad sd => [(0, .ref (ad 26)), (1, .int x1)]) (fun _ _ => rfl) (fun _ _ => Nat.le_of_ble_eq_true rfl) ?_
  intro p e s m args below meth c D T3 ad sd A C
  unfold fX5_draft at h
  refine V_aload_n C 0 dX5_draft_0 rfl ?_
  obtain ⟨z1, M2, hz1, h⟩ := bW_t h
  refine V_callV C (st := []) (st' := [.int z1]) (mX5_reads l M hz1) wmX5_reads lkX5_116 dX5_draft_1 (wo_26 T3 ad _) rfl rfl rfl rfl rfl rfl ⟨rfl, rfl, (Nat.le_of_ble_eq_true rfl), (Nat.le_of_ble_eq_true rfl)⟩ ⟨Nat.zero_le _, Nat.zero_le _⟩ (Nat.le_of_ble_eq_true rfl) ?_
  refine V_pop C dX5_draft_4 rfl ?_
  refine V_iload_n C 1 dX5_draft_5 rfl ?_
  refine V_callS C (st := []) (st' := [.int (b2i (fX5_isNight x1))]) (mX5_isNight l x1 M2 rfl) wmX5_isNight lkX5_129 dX5_draft_6 rfl rfl rfl ⟨rfl, rfl, (Nat.le_of_ble_eq_true rfl), (Nat.le_of_ble_eq_true rfl)⟩ ⟨Nat.zero_le _, Nat.zero_le _⟩ (Nat.le_of_ble_eq_true rfl) ?_
  refine V_ifB_eq C 20 dX5_draft_9 (by decide) (fun q5 => ?_) (fun q5 => ?_)
  · replace h := ite_n q5 h
    refine V_bipush C (-2 : Int32) dX5_draft_20 (by decide) ?_
    obtain ⟨rfl, rfl⟩ := ret_W h
    exact V_iret C dX5_draft_22
  · replace h := ite_p q5 h
    refine V_aload_n C 0 dX5_draft_12 rfl ?_
    refine V_iload_n C 1 dX5_draft_13 rfl ?_
    obtain ⟨z3, M4, hz3, h⟩ := bW_t h
    refine V_callV C (st := []) (st' := [.int z3]) (mX5_draftOf l x1 M2 hz3) wmX5_draftOf lkX5_184 dX5_draft_14 (wo_26 T3 ad _) rfl rfl rfl rfl rfl rfl ⟨rfl, rfl, (Nat.le_of_ble_eq_true rfl), (Nat.le_of_ble_eq_true rfl)⟩ ⟨Nat.zero_le _, Nat.zero_le _⟩ (Nat.le_of_ble_eq_true rfl) ?_
    refine V_goto C 22 dX5_draft_17 (by decide) ?_
    obtain ⟨rfl, rfl⟩ := ret_W h
    exact V_iret C dX5_draft_22
abbrev rmX5_waitsOf : Room := { frames := 6, cells := 0, slots := 0, locals := 137 }
def fX5_waitsOf_2 : Nat → Int32 → Int32 → Mem → Option (Int32 × Mem)
  | 0, _, _, _ => none
  | n + 1, x1, x3, M => if (100 : Int32) ≤ x3 then some ((-1 : Int32), M) else bP (fX5_enough M x1 x3) fun z1 => bW (fX5_findWays z1 M) fun z2 M3 => if z2 ≤ 0 then fX5_waitsOf_2 n x1 (x3 + 1) M3 else some (x3, M3)
def fX5_waitsOf (x1 : Int32) (x2 : Int32) (M : Mem) : Option (Int32 × Mem) := fX5_waitsOf_2 1000 x1 x2 M
set_option maxHeartbeats 4000000 in
set_option maxRecDepth 100000 in
theorem vX5_waitsOf_2 {p : Program} {l : Launch} {e : Env} {s : State} {m : MethodId} {args : Array Value} {below : List Frame} {meth : Method} {c : Code} {D : va_G} {T3 : ClassId × ClassId × ClassId} {ad sd : Nat → Nat} {A : Nat → Prop}  (C : CX p s m args meth c cX5_waitsOf 4 RX5 (some .int) D T3 ad sd A) {r : Int32} {M9 : Mem} : ∀ (n : Nat) (x1 : Int32) (x3 : Int32) (M : Mem), fX5_waitsOf_2 n x1 x3 M = some (r, M9) → VV p l e rmX5_waitsOf s m args below meth c D T3 ad A 4 0 0 (QM below D T3 ad A args s (fun _ => some (.int r)) M9) M [(0, .ref (ad 26)), (1, .int x1), (3, .int x3)] 2 [] := by
  intro n
  induction n with
  | zero => intro x1 x3 M h; exact nomatch (show (none : Option (Int32 × Mem)) = some _ from h)
  | succ n ih =>
    intro x1 x3 M h
    rw [fX5_waitsOf_2] at h
    refine V_iload_n C 2 dX5_waitsOf_2 rfl ?_
    refine V_bipush C (100 : Int32) dX5_waitsOf_3 (by decide) ?_
    refine V_icmp_ge C 29 dX5_waitsOf_5 (by decide) (fun q5 => ?_) (fun q5 => ?_)
    · replace h := ite_p q5 h
      refine V_iconst C (-1 : Int32) dX5_waitsOf_29 (by decide) ?_
      obtain ⟨rfl, rfl⟩ := ret_W h
      exact V_iret C dX5_waitsOf_30
    · replace h := ite_n q5 h
      refine V_aload_n C 0 dX5_waitsOf_8 rfl ?_
      refine V_aload_n C 0 dX5_waitsOf_9 rfl ?_
      refine V_iload_n C 1 dX5_waitsOf_10 rfl ?_
      refine V_iload_n C 2 dX5_waitsOf_11 rfl ?_
      obtain ⟨z1, hz1, h⟩ := bP_t h
      refine V_callV C (st := [.ref (ad 26)]) (st' := [.int z1, .ref (ad 26)]) (mX5_enough l x1 x3 M hz1) wmX5_enough lkX5_167 dX5_waitsOf_12 (wo_26 T3 ad _) rfl rfl rfl rfl rfl rfl ⟨rfl, rfl, (Nat.le_of_ble_eq_true rfl), (Nat.le_of_ble_eq_true rfl)⟩ ⟨Nat.zero_le _, Nat.zero_le _⟩ (Nat.le_of_ble_eq_true rfl) ?_
      obtain ⟨z2, M3, hz2, h⟩ := bW_t h
      refine V_callV C (st := []) (st' := [.int z2]) (mX5_findWays l z1 M hz2) wmX5_findWays lkX5_170 dX5_waitsOf_15 (wo_26 T3 ad _) rfl rfl rfl rfl rfl rfl ⟨rfl, rfl, (Nat.le_of_ble_eq_true rfl), (Nat.le_of_ble_eq_true rfl)⟩ ⟨Nat.zero_le _, Nat.zero_le _⟩ (Nat.le_of_ble_eq_true rfl) ?_
      refine V_if_le C 23 dX5_waitsOf_18 (by decide) (fun q4 => ?_) (fun q4 => ?_)
      · replace h := ite_p q4 h
        refine V_iinc C 2 (x3 + 1) [(3, .int (x3 + 1)), (0, .ref (ad 26)), (1, .int x1)] dX5_waitsOf_23 rfl rfl (by decide) rfl ?_
        refine V_goto C 2 dX5_waitsOf_26 (by decide) ?_
        refine V_sub (lv' := [(0, .ref (ad 26)), (1, .int x1), (3, .int (x3 + 1))]) [1, 2, 0] rfl ?_
        exact ih x1 (x3 + 1) M3 h
      · replace h := ite_n q4 h
        refine V_iload_n C 2 dX5_waitsOf_21 rfl ?_
        obtain ⟨rfl, rfl⟩ := ret_W h
        exact V_iret C dX5_waitsOf_22
set_option maxHeartbeats 4000000 in
set_option maxRecDepth 100000 in
theorem mX5_waitsOf (l : Launch) (x1 : Int32) (x2 : Int32) (M : Mem) {r : Int32} {M9 : Mem} (h : fX5_waitsOf x1 x2 M = some (r, M9)) : MC l yX5_waitsOf cX5_waitsOf 4 (some .int) rmX5_waitsOf (fun ad sd => [.ref (ad 26), .int x1, .int x2]) M (fun _ => some (.int r)) M9 := by
  refine MC_start (by decide) (fun ad sd => [(0, .ref (ad 26)), (1, .int x1), (2, .int x2)]) (fun _ _ => rfl) (fun _ _ => Nat.le_of_ble_eq_true rfl) ?_
  intro p e s m args below meth c D T3 ad sd A C
  unfold fX5_waitsOf at h
  refine V_iload_n C 2 dX5_waitsOf_0 rfl ?_
  refine V_istore_n C [(3, .int x2), (0, .ref (ad 26)), (1, .int x1), (2, .int x2)] dX5_waitsOf_1 rfl (by decide) rfl ?_
  refine V_sub (lv' := [(0, .ref (ad 26)), (1, .int x1), (3, .int x2)]) [1, 2, 0] rfl ?_
  exact vX5_waitsOf_2 C 1000 x1 x2 M h
abbrev rmX5_waits : Room := { frames := 7, cells := 0, slots := 0, locals := 160 }
def fX5_waits (x1 : Int32) (x2 : Int32) (M : Mem) : Option (Int32 × Mem) := bW (fX5_reads M) fun z1 M2 => if (fX5_isDraught x1) = true then if (fX5_isNight x2) = true then bW (fX5_waitsOf x1 x2 M2) fun z3 M4 => some (z3, M4) else some ((-2 : Int32), M2) else some ((-2 : Int32), M2)
set_option maxHeartbeats 4000000 in
set_option maxRecDepth 100000 in
theorem mX5_waits (l : Launch) (x1 : Int32) (x2 : Int32) (M : Mem) {r : Int32} {M9 : Mem} (h : fX5_waits x1 x2 M = some (r, M9)) : MC l yX5_waits cX5_waits 3 (some .int) rmX5_waits (fun ad sd => [.ref (ad 26), .int x1, .int x2]) M (fun _ => some (.int r)) M9 := by
  refine MC_start (by decide) (fun ad sd => [(0, .ref (ad 26)), (1, .int x1), (2, .int x2)]) (fun _ _ => rfl) (fun _ _ => Nat.le_of_ble_eq_true rfl) ?_
  intro p e s m args below meth c D T3 ad sd A C
  unfold fX5_waits at h
  refine V_aload_n C 0 dX5_waits_0 rfl ?_
  obtain ⟨z1, M2, hz1, h⟩ := bW_t h
  refine V_callV C (st := []) (st' := [.int z1]) (mX5_reads l M hz1) wmX5_reads lkX5_116 dX5_waits_1 (wo_26 T3 ad _) rfl rfl rfl rfl rfl rfl ⟨rfl, rfl, (Nat.le_of_ble_eq_true rfl), (Nat.le_of_ble_eq_true rfl)⟩ ⟨Nat.zero_le _, Nat.zero_le _⟩ (Nat.le_of_ble_eq_true rfl) ?_
  refine V_pop C dX5_waits_4 rfl ?_
  refine V_iload_n C 1 dX5_waits_5 rfl ?_
  refine V_callS C (st := []) (st' := [.int (b2i (fX5_isDraught x1))]) (mX5_isDraught l x1 M2 rfl) wmX5_isDraught lkX5_176 dX5_waits_6 rfl rfl rfl ⟨rfl, rfl, (Nat.le_of_ble_eq_true rfl), (Nat.le_of_ble_eq_true rfl)⟩ ⟨Nat.zero_le _, Nat.zero_le _⟩ (Nat.le_of_ble_eq_true rfl) ?_
  refine V_ifB_eq C 28 dX5_waits_9 (by decide) (fun q6 => ?_) (fun q6 => ?_)
  · replace h := ite_n q6 h
    refine V_bipush C (-2 : Int32) dX5_waits_28 (by decide) ?_
    obtain ⟨rfl, rfl⟩ := ret_W h
    exact V_iret C dX5_waits_30
  · replace h := ite_p q6 h
    refine V_iload_n C 2 dX5_waits_12 rfl ?_
    refine V_callS C (st := []) (st' := [.int (b2i (fX5_isNight x2))]) (mX5_isNight l x2 M2 rfl) wmX5_isNight lkX5_129 dX5_waits_13 rfl rfl rfl ⟨rfl, rfl, (Nat.le_of_ble_eq_true rfl), (Nat.le_of_ble_eq_true rfl)⟩ ⟨Nat.zero_le _, Nat.zero_le _⟩ (Nat.le_of_ble_eq_true rfl) ?_
    refine V_ifB_eq C 28 dX5_waits_16 (by decide) (fun q5 => ?_) (fun q5 => ?_)
    · replace h := ite_n q5 h
      refine V_bipush C (-2 : Int32) dX5_waits_28 (by decide) ?_
      obtain ⟨rfl, rfl⟩ := ret_W h
      exact V_iret C dX5_waits_30
    · replace h := ite_p q5 h
      refine V_aload_n C 0 dX5_waits_19 rfl ?_
      refine V_iload_n C 1 dX5_waits_20 rfl ?_
      refine V_iload_n C 2 dX5_waits_21 rfl ?_
      obtain ⟨z3, M4, hz3, h⟩ := bW_t h
      refine V_callV C (st := []) (st' := [.int z3]) (mX5_waitsOf l x1 x2 M2 hz3) wmX5_waitsOf lkX5_187 dX5_waits_22 (wo_26 T3 ad _) rfl rfl rfl rfl rfl rfl ⟨rfl, rfl, (Nat.le_of_ble_eq_true rfl), (Nat.le_of_ble_eq_true rfl)⟩ ⟨Nat.zero_le _, Nat.zero_le _⟩ (Nat.le_of_ble_eq_true rfl) ?_
      refine V_goto C 30 dX5_waits_25 (by decide) ?_
      obtain ⟨rfl, rfl⟩ := ret_W h
      exact V_iret C dX5_waits_30
abbrev rmX5_mapped : Room := { frames := 6, cells := 0, slots := 0, locals := 137 }
def fX5_mapped_13 (M : Mem) (t1 : Int32) (t2 : Int32) : Option Int32 := bP (fX5_enough M t1 t2) fun z1 => some z1
def fX5_mapped (M : Mem) (x1 : Int32) (x2 : Int32) : Option Int32 := if x2 = 0 then fX5_mapped_13 M x1 (0 : Int32) else fX5_mapped_13 M x1 (x2 - (1 : Int32))
set_option maxHeartbeats 4000000 in
set_option maxRecDepth 100000 in
theorem vX5_mapped_13 {p : Program} {l : Launch} {e : Env} {s : State} {m : MethodId} {args : Array Value} {below : List Frame} {meth : Method} {c : Code} {D : va_G} {T3 : ClassId × ClassId × ClassId} {ad sd : Nat → Nat} {A : Nat → Prop}  (C : CX p s m args meth c cX5_mapped 3 RX5 (some .int) D T3 ad sd A) {r : Int32} (M : Mem) : ∀ (t1 : Int32) (t2 : Int32), fX5_mapped_13 M t1 t2 = some r → VV p l e rmX5_mapped s m args below meth c D T3 ad A 3 0 0 (QM below D T3 ad A args s (fun _ => some (.int r)) M) M [] 13 [.int t2, .int t1, .ref (ad 26)] := by
  intro t1 t2 h
  unfold fX5_mapped_13 at h
  obtain ⟨z1, hz1, h⟩ := bP_t h
  refine V_callV C (st := []) (st' := [.int z1]) (mX5_enough l t1 t2 M hz1) wmX5_enough lkX5_167 dX5_mapped_13 (wo_26 T3 ad _) rfl rfl rfl rfl rfl rfl ⟨rfl, rfl, (Nat.le_of_ble_eq_true rfl), (Nat.le_of_ble_eq_true rfl)⟩ ⟨Nat.zero_le _, Nat.zero_le _⟩ (Nat.le_of_ble_eq_true rfl) ?_
  obtain rfl := ret_P h
  exact V_iret C dX5_mapped_16
set_option maxHeartbeats 4000000 in
set_option maxRecDepth 100000 in
theorem mX5_mapped (l : Launch) (x1 : Int32) (x2 : Int32) (M : Mem) {r : Int32} (h : fX5_mapped M x1 x2 = some r) : MC l yX5_mapped cX5_mapped 3 (some .int) rmX5_mapped (fun ad sd => [.ref (ad 26), .int x1, .int x2]) M (fun _ => some (.int r)) M := by
  refine MC_start (by decide) (fun ad sd => [(0, .ref (ad 26)), (1, .int x1), (2, .int x2)]) (fun _ _ => rfl) (fun _ _ => Nat.le_of_ble_eq_true rfl) ?_
  intro p e s m args below meth c D T3 ad sd A C
  unfold fX5_mapped at h
  refine V_aload_n C 0 dX5_mapped_0 rfl ?_
  refine V_iload_n C 1 dX5_mapped_1 rfl ?_
  refine V_iload_n C 2 dX5_mapped_2 rfl ?_
  refine V_if_ne C 10 dX5_mapped_3 (by decide) (fun q2 => ?_) (fun q2 => ?_)
  · replace h := ite_n q2 h
    refine V_iload_n C 2 dX5_mapped_10 rfl ?_
    refine V_iconst C (1 : Int32) dX5_mapped_11 (by decide) ?_
    refine V_isub C dX5_mapped_12 ?_
    refine V_sub (lv' := []) [] rfl ?_
    exact vX5_mapped_13 C M x1 (x2 - (1 : Int32)) h
  · replace h := ite_p q2 h
    refine V_iconst C (0 : Int32) dX5_mapped_6 (by decide) ?_
    refine V_goto C 13 dX5_mapped_7 (by decide) ?_
    refine V_sub (lv' := []) [] rfl ?_
    exact vX5_mapped_13 C M x1 (0 : Int32) h
abbrev rmX5_aground : Room := { frames := 1, cells := 0, slots := 0, locals := 21 }
def fX5_aground_2 (M : Mem) : Nat → Int32 → Int32 → Option Int32
  | 0, _, _ => none
  | n + 1, x1, x2 => if (M 26 15) ≤ x2 then some (-1 : Int32) else gd (inb x2 5) (if (fX5_isIn x1 (M 35 (x2).toNatClampNeg)) = true then fX5_aground_2 M n x1 (x2 + 1) else gd (inb x2 5) (some (M 35 (x2).toNatClampNeg)))
def fX5_aground (M : Mem) (x1 : Int32) : Option Int32 := fX5_aground_2 M 1000 x1 (0 : Int32)
set_option maxHeartbeats 4000000 in
set_option maxRecDepth 100000 in
theorem vX5_aground_2 {p : Program} {l : Launch} {e : Env} {s : State} {m : MethodId} {args : Array Value} {below : List Frame} {meth : Method} {c : Code} {D : va_G} {T3 : ClassId × ClassId × ClassId} {ad sd : Nat → Nat} {A : Nat → Prop}  (C : CX p s m args meth c cX5_aground 3 RX5 (some .int) D T3 ad sd A) {r : Int32} (M : Mem) : ∀ (n : Nat) (x1 : Int32) (x2 : Int32), fX5_aground_2 M n x1 x2 = some r → VV p l e rmX5_aground s m args below meth c D T3 ad A 3 0 0 (QM below D T3 ad A args s (fun _ => some (.int r)) M) M [(0, .ref (ad 26)), (1, .int x1), (2, .int x2)] 2 [] := by
  intro n
  induction n with
  | zero => intro x1 x2 h; exact nomatch (show (none : Option Int32) = some _ from h)
  | succ n ih =>
    intro x1 x2 h
    rw [fX5_aground_2] at h
    refine V_iload_n C 2 dX5_aground_2 rfl ?_
    refine V_aload_n C 0 dX5_aground_3 rfl ?_
    refine V_get C 15 dX5_aground_4 (wo_26 T3 ad _) rfl inKX5 (by decide) flX5_161 rfl rfl ?_
    refine V_icmp_ge C 36 dX5_aground_7 (by decide) (fun q4 => ?_) (fun q4 => ?_)
    · replace h := ite_p q4 h
      refine V_iconst C (-1 : Int32) dX5_aground_36 (by decide) ?_
      obtain rfl := ret_P h
      exact V_iret C dX5_aground_37
    · replace h := ite_n q4 h
      refine V_iload_n C 1 dX5_aground_10 rfl ?_
      refine V_aload_n C 0 dX5_aground_11 rfl ?_
      refine V_get C 14 dX5_aground_12 (wo_26 T3 ad _) rfl inKX5 (by decide) flX5_34 rfl rfl ?_
      refine V_iload_n C 2 dX5_aground_15 rfl ?_
      obtain ⟨g1, h⟩ := gd_t h
      refine V_iald C rfl rfl (inb_in g1) dX5_aground_16 ?_
      refine V_callS C (st := []) (st' := [.int (b2i (fX5_isIn x1 (M 35 (x2).toNatClampNeg)))]) (mX5_isIn l x1 (M 35 (x2).toNatClampNeg) M rfl) wmX5_isIn lkX5_157 dX5_aground_17 rfl rfl rfl ⟨rfl, rfl, (Nat.le_of_ble_eq_true rfl), (Nat.le_of_ble_eq_true rfl)⟩ ⟨Nat.zero_le _, Nat.zero_le _⟩ (Nat.le_of_ble_eq_true rfl) ?_
      refine V_ifB_ne C 30 dX5_aground_20 (by decide) (fun q3 => ?_) (fun q3 => ?_)
      · replace h := ite_p q3 h
        refine V_iinc C 2 (x2 + 1) [(2, .int (x2 + 1)), (0, .ref (ad 26)), (1, .int x1)] dX5_aground_30 rfl rfl (by decide) rfl ?_
        refine V_goto C 2 dX5_aground_33 (by decide) ?_
        refine V_sub (lv' := [(0, .ref (ad 26)), (1, .int x1), (2, .int (x2 + 1))]) [1, 2, 0] rfl ?_
        exact ih x1 (x2 + 1) h
      · replace h := ite_n q3 h
        refine V_aload_n C 0 dX5_aground_23 rfl ?_
        refine V_get C 14 dX5_aground_24 (wo_26 T3 ad _) rfl inKX5 (by decide) flX5_34 rfl rfl ?_
        refine V_iload_n C 2 dX5_aground_27 rfl ?_
        obtain ⟨g2, h⟩ := gd_t h
        refine V_iald C rfl rfl (inb_in g2) dX5_aground_28 ?_
        obtain rfl := ret_P h
        exact V_iret C dX5_aground_29
set_option maxHeartbeats 4000000 in
set_option maxRecDepth 100000 in
theorem mX5_aground (l : Launch) (x1 : Int32) (M : Mem) {r : Int32} (h : fX5_aground M x1 = some r) : MC l yX5_aground cX5_aground 3 (some .int) rmX5_aground (fun ad sd => [.ref (ad 26), .int x1]) M (fun _ => some (.int r)) M := by
  refine MC_start (by decide) (fun ad sd => [(0, .ref (ad 26)), (1, .int x1)]) (fun _ _ => rfl) (fun _ _ => Nat.le_of_ble_eq_true rfl) ?_
  intro p e s m args below meth c D T3 ad sd A C
  unfold fX5_aground at h
  refine V_iconst C (0 : Int32) dX5_aground_0 (by decide) ?_
  refine V_istore_n C [(2, .int (0 : Int32)), (0, .ref (ad 26)), (1, .int x1)] dX5_aground_1 rfl (by decide) rfl ?_
  refine V_sub (lv' := [(0, .ref (ad 26)), (1, .int x1), (2, .int (0 : Int32))]) [1, 2, 0] rfl ?_
  exact vX5_aground_2 C M 1000 x1 (0 : Int32) h
abbrev rmX5_goes : Room := { frames := 2, cells := 0, slots := 0, locals := 45 }
def fX5_goes (x1 : Int32) (x2 : Int32) (M : Mem) : Option (Int32 × Mem) := bW (fX5_findWays x1 M) fun z1 M2 => if z1 = 0 then some ((-3 : Int32), M2) else bP (fX5_aground M2 x2) fun z3 => some (z3, M2)
set_option maxHeartbeats 4000000 in
set_option maxRecDepth 100000 in
theorem mX5_goes (l : Launch) (x1 : Int32) (x2 : Int32) (M : Mem) {r : Int32} {M9 : Mem} (h : fX5_goes x1 x2 M = some (r, M9)) : MC l yX5_goes cX5_goes 3 (some .int) rmX5_goes (fun ad sd => [.ref (ad 26), .int x1, .int x2]) M (fun _ => some (.int r)) M9 := by
  refine MC_start (by decide) (fun ad sd => [(0, .ref (ad 26)), (1, .int x1), (2, .int x2)]) (fun _ _ => rfl) (fun _ _ => Nat.le_of_ble_eq_true rfl) ?_
  intro p e s m args below meth c D T3 ad sd A C
  unfold fX5_goes at h
  refine V_aload_n C 0 dX5_goes_0 rfl ?_
  refine V_iload_n C 1 dX5_goes_1 rfl ?_
  obtain ⟨z1, M2, hz1, h⟩ := bW_t h
  refine V_callV C (st := []) (st' := [.int z1]) (mX5_findWays l x1 M hz1) wmX5_findWays lkX5_170 dX5_goes_2 (wo_26 T3 ad _) rfl rfl rfl rfl rfl rfl ⟨rfl, rfl, (Nat.le_of_ble_eq_true rfl), (Nat.le_of_ble_eq_true rfl)⟩ ⟨Nat.zero_le _, Nat.zero_le _⟩ (Nat.le_of_ble_eq_true rfl) ?_
  refine V_if_ne C 13 dX5_goes_5 (by decide) (fun q4 => ?_) (fun q4 => ?_)
  · replace h := ite_n q4 h
    refine V_aload_n C 0 dX5_goes_13 rfl ?_
    refine V_iload_n C 2 dX5_goes_14 rfl ?_
    obtain ⟨z3, hz3, h⟩ := bP_t h
    refine V_callV C (st := []) (st' := [.int z3]) (mX5_aground l x2 M2 hz3) wmX5_aground lkX5_173 dX5_goes_15 (wo_26 T3 ad _) rfl rfl rfl rfl rfl rfl ⟨rfl, rfl, (Nat.le_of_ble_eq_true rfl), (Nat.le_of_ble_eq_true rfl)⟩ ⟨Nat.zero_le _, Nat.zero_le _⟩ (Nat.le_of_ble_eq_true rfl) ?_
    obtain ⟨rfl, rfl⟩ := ret_W h
    exact V_iret C dX5_goes_18
  · replace h := ite_p q4 h
    refine V_bipush C (-3 : Int32) dX5_goes_8 (by decide) ?_
    refine V_goto C 18 dX5_goes_10 (by decide) ?_
    obtain ⟨rfl, rfl⟩ := ret_W h
    exact V_iret C dX5_goes_18
abbrev rmX5_byMapOf : Room := { frames := 7, cells := 0, slots := 0, locals := 159 }
def fX5_byMapOf (x1 : Int32) (x2 : Int32) (M : Mem) : Option (Int32 × Mem) := bP (fX5_mapped M x1 x2) fun z1 => bP (fX5_enough M x1 x2) fun z2 => bW (fX5_goes z1 z2 M) fun z3 M4 => some (z3, M4)
set_option maxHeartbeats 4000000 in
set_option maxRecDepth 100000 in
theorem mX5_byMapOf (l : Launch) (x1 : Int32) (x2 : Int32) (M : Mem) {r : Int32} {M9 : Mem} (h : fX5_byMapOf x1 x2 M = some (r, M9)) : MC l yX5_byMapOf cX5_byMapOf 3 (some .int) rmX5_byMapOf (fun ad sd => [.ref (ad 26), .int x1, .int x2]) M (fun _ => some (.int r)) M9 := by
  refine MC_start (by decide) (fun ad sd => [(0, .ref (ad 26)), (1, .int x1), (2, .int x2)]) (fun _ _ => rfl) (fun _ _ => Nat.le_of_ble_eq_true rfl) ?_
  intro p e s m args below meth c D T3 ad sd A C
  unfold fX5_byMapOf at h
  refine V_aload_n C 0 dX5_byMapOf_0 rfl ?_
  refine V_aload_n C 0 dX5_byMapOf_1 rfl ?_
  refine V_iload_n C 1 dX5_byMapOf_2 rfl ?_
  refine V_iload_n C 2 dX5_byMapOf_3 rfl ?_
  obtain ⟨z1, hz1, h⟩ := bP_t h
  refine V_callV C (st := [.ref (ad 26)]) (st' := [.int z1, .ref (ad 26)]) (mX5_mapped l x1 x2 M hz1) wmX5_mapped lkX5_190 dX5_byMapOf_4 (wo_26 T3 ad _) rfl rfl rfl rfl rfl rfl ⟨rfl, rfl, (Nat.le_of_ble_eq_true rfl), (Nat.le_of_ble_eq_true rfl)⟩ ⟨Nat.zero_le _, Nat.zero_le _⟩ (Nat.le_of_ble_eq_true rfl) ?_
  refine V_aload_n C 0 dX5_byMapOf_7 rfl ?_
  refine V_iload_n C 1 dX5_byMapOf_8 rfl ?_
  refine V_iload_n C 2 dX5_byMapOf_9 rfl ?_
  obtain ⟨z2, hz2, h⟩ := bP_t h
  refine V_callV C (st := [.int z1, .ref (ad 26)]) (st' := [.int z2, .int z1, .ref (ad 26)]) (mX5_enough l x1 x2 M hz2) wmX5_enough lkX5_167 dX5_byMapOf_10 (wo_26 T3 ad _) rfl rfl rfl rfl rfl rfl ⟨rfl, rfl, (Nat.le_of_ble_eq_true rfl), (Nat.le_of_ble_eq_true rfl)⟩ ⟨Nat.zero_le _, Nat.zero_le _⟩ (Nat.le_of_ble_eq_true rfl) ?_
  obtain ⟨z3, M4, hz3, h⟩ := bW_t h
  refine V_callV C (st := []) (st' := [.int z3]) (mX5_goes l z1 z2 M hz3) wmX5_goes lkX5_193 dX5_byMapOf_13 (wo_26 T3 ad _) rfl rfl rfl rfl rfl rfl ⟨rfl, rfl, (Nat.le_of_ble_eq_true rfl), (Nat.le_of_ble_eq_true rfl)⟩ ⟨Nat.zero_le _, Nat.zero_le _⟩ (Nat.le_of_ble_eq_true rfl) ?_
  obtain ⟨rfl, rfl⟩ := ret_W h
  exact V_iret C dX5_byMapOf_16
abbrev rmX5_byMap : Room := { frames := 8, cells := 0, slots := 0, locals := 181 }
def fX5_byMap (x1 : Int32) (x2 : Int32) (M : Mem) : Option (Int32 × Mem) := bW (fX5_reads M) fun z1 M2 => if (fX5_isDraught x1) = true then if (fX5_isNight x2) = true then bW (fX5_byMapOf x1 x2 M2) fun z3 M4 => some (z3, M4) else some ((-2 : Int32), M2) else some ((-2 : Int32), M2)
set_option maxHeartbeats 4000000 in
set_option maxRecDepth 100000 in
theorem mX5_byMap (l : Launch) (x1 : Int32) (x2 : Int32) (M : Mem) {r : Int32} {M9 : Mem} (h : fX5_byMap x1 x2 M = some (r, M9)) : MC l yX5_byMap cX5_byMap 3 (some .int) rmX5_byMap (fun ad sd => [.ref (ad 26), .int x1, .int x2]) M (fun _ => some (.int r)) M9 := by
  refine MC_start (by decide) (fun ad sd => [(0, .ref (ad 26)), (1, .int x1), (2, .int x2)]) (fun _ _ => rfl) (fun _ _ => Nat.le_of_ble_eq_true rfl) ?_
  intro p e s m args below meth c D T3 ad sd A C
  unfold fX5_byMap at h
  refine V_aload_n C 0 dX5_byMap_0 rfl ?_
  obtain ⟨z1, M2, hz1, h⟩ := bW_t h
  refine V_callV C (st := []) (st' := [.int z1]) (mX5_reads l M hz1) wmX5_reads lkX5_116 dX5_byMap_1 (wo_26 T3 ad _) rfl rfl rfl rfl rfl rfl ⟨rfl, rfl, (Nat.le_of_ble_eq_true rfl), (Nat.le_of_ble_eq_true rfl)⟩ ⟨Nat.zero_le _, Nat.zero_le _⟩ (Nat.le_of_ble_eq_true rfl) ?_
  refine V_pop C dX5_byMap_4 rfl ?_
  refine V_iload_n C 1 dX5_byMap_5 rfl ?_
  refine V_callS C (st := []) (st' := [.int (b2i (fX5_isDraught x1))]) (mX5_isDraught l x1 M2 rfl) wmX5_isDraught lkX5_176 dX5_byMap_6 rfl rfl rfl ⟨rfl, rfl, (Nat.le_of_ble_eq_true rfl), (Nat.le_of_ble_eq_true rfl)⟩ ⟨Nat.zero_le _, Nat.zero_le _⟩ (Nat.le_of_ble_eq_true rfl) ?_
  refine V_ifB_eq C 28 dX5_byMap_9 (by decide) (fun q6 => ?_) (fun q6 => ?_)
  · replace h := ite_n q6 h
    refine V_bipush C (-2 : Int32) dX5_byMap_28 (by decide) ?_
    obtain ⟨rfl, rfl⟩ := ret_W h
    exact V_iret C dX5_byMap_30
  · replace h := ite_p q6 h
    refine V_iload_n C 2 dX5_byMap_12 rfl ?_
    refine V_callS C (st := []) (st' := [.int (b2i (fX5_isNight x2))]) (mX5_isNight l x2 M2 rfl) wmX5_isNight lkX5_129 dX5_byMap_13 rfl rfl rfl ⟨rfl, rfl, (Nat.le_of_ble_eq_true rfl), (Nat.le_of_ble_eq_true rfl)⟩ ⟨Nat.zero_le _, Nat.zero_le _⟩ (Nat.le_of_ble_eq_true rfl) ?_
    refine V_ifB_eq C 28 dX5_byMap_16 (by decide) (fun q5 => ?_) (fun q5 => ?_)
    · replace h := ite_n q5 h
      refine V_bipush C (-2 : Int32) dX5_byMap_28 (by decide) ?_
      obtain ⟨rfl, rfl⟩ := ret_W h
      exact V_iret C dX5_byMap_30
    · replace h := ite_p q5 h
      refine V_aload_n C 0 dX5_byMap_19 rfl ?_
      refine V_iload_n C 1 dX5_byMap_20 rfl ?_
      refine V_iload_n C 2 dX5_byMap_21 rfl ?_
      obtain ⟨z3, M4, hz3, h⟩ := bW_t h
      refine V_callV C (st := []) (st' := [.int z3]) (mX5_byMapOf l x1 x2 M2 hz3) wmX5_byMapOf lkX5_196 dX5_byMap_22 (wo_26 T3 ad _) rfl rfl rfl rfl rfl rfl ⟨rfl, rfl, (Nat.le_of_ble_eq_true rfl), (Nat.le_of_ble_eq_true rfl)⟩ ⟨Nat.zero_le _, Nat.zero_le _⟩ (Nat.le_of_ble_eq_true rfl) ?_
      refine V_goto C 30 dX5_byMap_25 (by decide) ?_
      obtain ⟨rfl, rfl⟩ := ret_W h
      exact V_iret C dX5_byMap_30
abbrev rmX5_changed : Room := { frames := 6, cells := 0, slots := 0, locals := 134 }
def fX5_changed_41 (M : Mem) (kk5 : Int32 → Int32 → Int32 → Int32 → Option Int32) (x1 : Int32) (x2 : Int32) (x3 : Int32) (x4 : Int32) (x5 : Int32) (t0 : Int32) : Option Int32 := if (fX5_within (((2 : Int32) * x5) - t0)) < x1 then kk5 x1 x2 (x3 ||| (0 : Int32)) (x4 + 1) else kk5 x1 x2 (x3 ||| (shlI (1 : Int32) x4)) (x4 + 1)
def fX5_changed_5 (M : Mem) : Nat → Int32 → Int32 → Int32 → Int32 → Option Int32
  | 0, _, _, _, _ => none
  | n + 1, x1, x2, x3, x4 => if (M 26 8) ≤ x4 then some x3 else bP (fX5_mapOf M x4 x2) fun z1 => if x2 = 0 then fX5_changed_41 M (fX5_changed_5 M n) x1 x2 x3 x4 z1 z1 else bP (fX5_mapOf M x4 (x2 - (1 : Int32))) fun z2 => fX5_changed_41 M (fX5_changed_5 M n) x1 x2 x3 x4 z1 z2
def fX5_changed (M : Mem) (x1 : Int32) (x2 : Int32) : Option Int32 := fX5_changed_5 M 1000 x1 x2 (0 : Int32) (0 : Int32)
set_option maxHeartbeats 4000000 in
set_option maxRecDepth 100000 in
theorem vX5_changed_41 {p : Program} {l : Launch} {e : Env} {s : State} {m : MethodId} {args : Array Value} {below : List Frame} {meth : Method} {c : Code} {D : va_G} {T3 : ClassId × ClassId × ClassId} {ad sd : Nat → Nat} {A : Nat → Prop}  (C : CX p s m args meth c cX5_changed 7 RX5 (some .int) D T3 ad sd A) {r : Int32} (M : Mem) (kk5 : Int32 → Int32 → Int32 → Int32 → Option Int32) (hk5 : ∀ (x1 : Int32) (x2 : Int32) (x3 : Int32) (x4 : Int32), kk5 x1 x2 x3 x4 = some r → VV p l e rmX5_changed s m args below meth c D T3 ad A 7 0 0 (QM below D T3 ad A args s (fun _ => some (.int r)) M) M [(0, .ref (ad 26)), (1, .int x1), (2, .int x2), (3, .int x3), (4, .int x4)] 5 []) : ∀ (x1 : Int32) (x2 : Int32) (x3 : Int32) (x4 : Int32) (x5 : Int32) (t0 : Int32), fX5_changed_41 M kk5 x1 x2 x3 x4 x5 t0 = some r → VV p l e rmX5_changed s m args below meth c D T3 ad A 7 0 0 (QM below D T3 ad A args s (fun _ => some (.int r)) M) M [(0, .ref (ad 26)), (1, .int x1), (2, .int x2), (3, .int x3), (4, .int x4), (5, .int x5)] 41 [.int t0] := by
  intro x1 x2 x3 x4 x5 t0 h
  unfold fX5_changed_41 at h
  refine V_istore C [(6, .int t0), (0, .ref (ad 26)), (1, .int x1), (2, .int x2), (3, .int x3), (4, .int x4), (5, .int x5)] dX5_changed_41 (by decide) rfl ?_
  refine V_iload_n C 4 dX5_changed_43 rfl ?_
  refine V_iconst C (2 : Int32) dX5_changed_44 (by decide) ?_
  refine V_iload C 6 dX5_changed_45 rfl ?_
  refine V_imul C dX5_changed_47 ?_
  refine V_iload C 0 dX5_changed_48 rfl ?_
  refine V_isub C dX5_changed_50 ?_
  refine V_callS C (st := [.int x3]) (st' := [.int (fX5_within (((2 : Int32) * x5) - t0)), .int x3]) (mX5_within l (((2 : Int32) * x5) - t0) M rfl) wmX5_within lkX5_137 dX5_changed_51 rfl rfl rfl ⟨rfl, rfl, (Nat.le_of_ble_eq_true rfl), (Nat.le_of_ble_eq_true rfl)⟩ ⟨Nat.zero_le _, Nat.zero_le _⟩ (Nat.le_of_ble_eq_true rfl) ?_
  refine V_iload_n C 2 dX5_changed_54 rfl ?_
  refine V_icmp_lt C 65 dX5_changed_55 (by decide) (fun q3 => ?_) (fun q3 => ?_)
  · replace h := ite_p q3 h
    refine V_iconst C (0 : Int32) dX5_changed_65 (by decide) ?_
    refine V_ior C dX5_changed_66 ?_
    refine V_istore_n C [(3, .int (x3 ||| (0 : Int32))), (6, .int t0), (0, .ref (ad 26)), (1, .int x1), (2, .int x2), (4, .int x4), (5, .int x5)] dX5_changed_67 rfl (by decide) rfl ?_
    refine V_iinc C 5 (x4 + 1) [(4, .int (x4 + 1)), (3, .int (x3 ||| (0 : Int32))), (6, .int t0), (0, .ref (ad 26)), (1, .int x1), (2, .int x2), (5, .int x5)] dX5_changed_68 rfl rfl (by decide) rfl ?_
    refine V_goto C 5 dX5_changed_71 (by decide) ?_
    refine V_sub (lv' := [(0, .ref (ad 26)), (1, .int x1), (2, .int x2), (3, .int (x3 ||| (0 : Int32))), (4, .int (x4 + 1))]) [3, 4, 5, 1, 0] rfl ?_
    exact hk5 x1 x2 (x3 ||| (0 : Int32)) (x4 + 1) h
  · replace h := ite_n q3 h
    refine V_iconst C (1 : Int32) dX5_changed_58 (by decide) ?_
    refine V_iload C 5 dX5_changed_59 rfl ?_
    refine V_ishl C dX5_changed_61 ?_
    refine V_goto C 66 dX5_changed_62 (by decide) ?_
    refine V_ior C dX5_changed_66 ?_
    refine V_istore_n C [(3, .int (x3 ||| (shlI (1 : Int32) x4))), (6, .int t0), (0, .ref (ad 26)), (1, .int x1), (2, .int x2), (4, .int x4), (5, .int x5)] dX5_changed_67 rfl (by decide) rfl ?_
    refine V_iinc C 5 (x4 + 1) [(4, .int (x4 + 1)), (3, .int (x3 ||| (shlI (1 : Int32) x4))), (6, .int t0), (0, .ref (ad 26)), (1, .int x1), (2, .int x2), (5, .int x5)] dX5_changed_68 rfl rfl (by decide) rfl ?_
    refine V_goto C 5 dX5_changed_71 (by decide) ?_
    refine V_sub (lv' := [(0, .ref (ad 26)), (1, .int x1), (2, .int x2), (3, .int (x3 ||| (shlI (1 : Int32) x4))), (4, .int (x4 + 1))]) [3, 4, 5, 1, 0] rfl ?_
    exact hk5 x1 x2 (x3 ||| (shlI (1 : Int32) x4)) (x4 + 1) h
set_option maxHeartbeats 4000000 in
set_option maxRecDepth 100000 in
theorem vX5_changed_5 {p : Program} {l : Launch} {e : Env} {s : State} {m : MethodId} {args : Array Value} {below : List Frame} {meth : Method} {c : Code} {D : va_G} {T3 : ClassId × ClassId × ClassId} {ad sd : Nat → Nat} {A : Nat → Prop}  (C : CX p s m args meth c cX5_changed 7 RX5 (some .int) D T3 ad sd A) {r : Int32} (M : Mem) : ∀ (n : Nat) (x1 : Int32) (x2 : Int32) (x3 : Int32) (x4 : Int32), fX5_changed_5 M n x1 x2 x3 x4 = some r → VV p l e rmX5_changed s m args below meth c D T3 ad A 7 0 0 (QM below D T3 ad A args s (fun _ => some (.int r)) M) M [(0, .ref (ad 26)), (1, .int x1), (2, .int x2), (3, .int x3), (4, .int x4)] 5 [] := by
  intro n
  induction n with
  | zero => intro x1 x2 x3 x4 h; exact nomatch (show (none : Option Int32) = some _ from h)
  | succ n ih =>
    intro x1 x2 x3 x4 h
    rw [fX5_changed_5] at h
    refine V_iload C 4 dX5_changed_5 rfl ?_
    refine V_aload_n C 0 dX5_changed_7 rfl ?_
    refine V_get C 8 dX5_changed_8 (wo_26 T3 ad _) rfl inKX5 (by decide) flX5_94 rfl rfl ?_
    refine V_icmp_ge C 74 dX5_changed_11 (by decide) (fun q5 => ?_) (fun q5 => ?_)
    · replace h := ite_p q5 h
      refine V_iload_n C 3 dX5_changed_74 rfl ?_
      obtain rfl := ret_P h
      exact V_iret C dX5_changed_75
    · replace h := ite_n q5 h
      refine V_aload_n C 0 dX5_changed_14 rfl ?_
      refine V_iload C 4 dX5_changed_15 rfl ?_
      refine V_iload_n C 2 dX5_changed_17 rfl ?_
      obtain ⟨z1, hz1, h⟩ := bP_t h
      refine V_callV C (st := []) (st' := [.int z1]) (mX5_mapOf l x4 x2 M hz1) wmX5_mapOf lkX5_154 dX5_changed_18 (wo_26 T3 ad _) rfl rfl rfl rfl rfl rfl ⟨rfl, rfl, (Nat.le_of_ble_eq_true rfl), (Nat.le_of_ble_eq_true rfl)⟩ ⟨Nat.zero_le _, Nat.zero_le _⟩ (Nat.le_of_ble_eq_true rfl) ?_
      refine V_istore C [(5, .int z1), (0, .ref (ad 26)), (1, .int x1), (2, .int x2), (3, .int x3), (4, .int x4)] dX5_changed_21 (by decide) rfl ?_
      refine V_iload_n C 3 dX5_changed_23 rfl ?_
      refine V_if_ne C 32 dX5_changed_24 (by decide) (fun q4 => ?_) (fun q4 => ?_)
      · replace h := ite_n q4 h
        refine V_aload_n C 1 dX5_changed_32 rfl ?_
        refine V_iload C 5 dX5_changed_33 rfl ?_
        refine V_iload_n C 3 dX5_changed_35 rfl ?_
        refine V_iconst C (1 : Int32) dX5_changed_36 (by decide) ?_
        refine V_isub C dX5_changed_37 ?_
        obtain ⟨z2, hz2, h⟩ := bP_t h
        refine V_callV C (st := []) (st' := [.int z2]) (mX5_mapOf l x4 (x2 - (1 : Int32)) M hz2) wmX5_mapOf lkX5_154 dX5_changed_38 (wo_26 T3 ad _) rfl rfl rfl rfl rfl rfl ⟨rfl, rfl, (Nat.le_of_ble_eq_true rfl), (Nat.le_of_ble_eq_true rfl)⟩ ⟨Nat.zero_le _, Nat.zero_le _⟩ (Nat.le_of_ble_eq_true rfl) ?_
        refine V_sub (lv' := [(0, .ref (ad 26)), (1, .int x1), (2, .int x2), (3, .int x3), (4, .int x4), (5, .int z1)]) [1, 2, 3, 4, 5, 0] rfl ?_
        exact vX5_changed_41 C M (fX5_changed_5 M n) ih x1 x2 x3 x4 z1 z2 h
      · replace h := ite_p q4 h
        refine V_iload C 0 dX5_changed_27 rfl ?_
        refine V_goto C 41 dX5_changed_29 (by decide) ?_
        refine V_sub (lv' := [(0, .ref (ad 26)), (1, .int x1), (2, .int x2), (3, .int x3), (4, .int x4), (5, .int z1)]) [1, 2, 3, 4, 5, 0] rfl ?_
        exact vX5_changed_41 C M (fX5_changed_5 M n) ih x1 x2 x3 x4 z1 z1 h
set_option maxHeartbeats 4000000 in
set_option maxRecDepth 100000 in
theorem mX5_changed (l : Launch) (x1 : Int32) (x2 : Int32) (M : Mem) {r : Int32} (h : fX5_changed M x1 x2 = some r) : MC l yX5_changed cX5_changed 7 (some .int) rmX5_changed (fun ad sd => [.ref (ad 26), .int x1, .int x2]) M (fun _ => some (.int r)) M := by
  refine MC_start (by decide) (fun ad sd => [(0, .ref (ad 26)), (1, .int x1), (2, .int x2)]) (fun _ _ => rfl) (fun _ _ => Nat.le_of_ble_eq_true rfl) ?_
  intro p e s m args below meth c D T3 ad sd A C
  unfold fX5_changed at h
  refine V_iconst C (0 : Int32) dX5_changed_0 (by decide) ?_
  refine V_istore_n C [(3, .int (0 : Int32)), (0, .ref (ad 26)), (1, .int x1), (2, .int x2)] dX5_changed_1 rfl (by decide) rfl ?_
  refine V_iconst C (0 : Int32) dX5_changed_2 (by decide) ?_
  refine V_istore C [(4, .int (0 : Int32)), (3, .int (0 : Int32)), (0, .ref (ad 26)), (1, .int x1), (2, .int x2)] dX5_changed_3 (by decide) rfl ?_
  refine V_sub (lv' := [(0, .ref (ad 26)), (1, .int x1), (2, .int x2), (3, .int (0 : Int32)), (4, .int (0 : Int32))]) [2, 3, 4, 1, 0] rfl ?_
  exact vX5_changed_5 C M 1000 x1 x2 (0 : Int32) (0 : Int32) h
abbrev rmX5_byChangeOf : Room := { frames := 7, cells := 0, slots := 0, locals := 160 }
def fX5_byChangeOf (x1 : Int32) (x2 : Int32) (M : Mem) : Option (Int32 × Mem) := bP (fX5_changed M x1 x2) fun z1 => bP (fX5_enough M x1 x2) fun z2 => bW (fX5_goes z1 z2 M) fun z3 M4 => some (z3, M4)
set_option maxHeartbeats 4000000 in
set_option maxRecDepth 100000 in
theorem mX5_byChangeOf (l : Launch) (x1 : Int32) (x2 : Int32) (M : Mem) {r : Int32} {M9 : Mem} (h : fX5_byChangeOf x1 x2 M = some (r, M9)) : MC l yX5_byChangeOf cX5_byChangeOf 3 (some .int) rmX5_byChangeOf (fun ad sd => [.ref (ad 26), .int x1, .int x2]) M (fun _ => some (.int r)) M9 := by
  refine MC_start (by decide) (fun ad sd => [(0, .ref (ad 26)), (1, .int x1), (2, .int x2)]) (fun _ _ => rfl) (fun _ _ => Nat.le_of_ble_eq_true rfl) ?_
  intro p e s m args below meth c D T3 ad sd A C
  unfold fX5_byChangeOf at h
  refine V_aload_n C 0 dX5_byChangeOf_0 rfl ?_
  refine V_aload_n C 0 dX5_byChangeOf_1 rfl ?_
  refine V_iload_n C 1 dX5_byChangeOf_2 rfl ?_
  refine V_iload_n C 2 dX5_byChangeOf_3 rfl ?_
  obtain ⟨z1, hz1, h⟩ := bP_t h
  refine V_callV C (st := [.ref (ad 26)]) (st' := [.int z1, .ref (ad 26)]) (mX5_changed l x1 x2 M hz1) wmX5_changed lkX5_199 dX5_byChangeOf_4 (wo_26 T3 ad _) rfl rfl rfl rfl rfl rfl ⟨rfl, rfl, (Nat.le_of_ble_eq_true rfl), (Nat.le_of_ble_eq_true rfl)⟩ ⟨Nat.zero_le _, Nat.zero_le _⟩ (Nat.le_of_ble_eq_true rfl) ?_
  refine V_aload_n C 0 dX5_byChangeOf_7 rfl ?_
  refine V_iload_n C 1 dX5_byChangeOf_8 rfl ?_
  refine V_iload_n C 2 dX5_byChangeOf_9 rfl ?_
  obtain ⟨z2, hz2, h⟩ := bP_t h
  refine V_callV C (st := [.int z1, .ref (ad 26)]) (st' := [.int z2, .int z1, .ref (ad 26)]) (mX5_enough l x1 x2 M hz2) wmX5_enough lkX5_167 dX5_byChangeOf_10 (wo_26 T3 ad _) rfl rfl rfl rfl rfl rfl ⟨rfl, rfl, (Nat.le_of_ble_eq_true rfl), (Nat.le_of_ble_eq_true rfl)⟩ ⟨Nat.zero_le _, Nat.zero_le _⟩ (Nat.le_of_ble_eq_true rfl) ?_
  obtain ⟨z3, M4, hz3, h⟩ := bW_t h
  refine V_callV C (st := []) (st' := [.int z3]) (mX5_goes l z1 z2 M hz3) wmX5_goes lkX5_193 dX5_byChangeOf_13 (wo_26 T3 ad _) rfl rfl rfl rfl rfl rfl ⟨rfl, rfl, (Nat.le_of_ble_eq_true rfl), (Nat.le_of_ble_eq_true rfl)⟩ ⟨Nat.zero_le _, Nat.zero_le _⟩ (Nat.le_of_ble_eq_true rfl) ?_
  obtain ⟨rfl, rfl⟩ := ret_W h
  exact V_iret C dX5_byChangeOf_16
abbrev rmX5_byChange : Room := { frames := 8, cells := 0, slots := 0, locals := 182 }
def fX5_byChange (x1 : Int32) (x2 : Int32) (M : Mem) : Option (Int32 × Mem) := bW (fX5_reads M) fun z1 M2 => if (fX5_isDraught x1) = true then if (fX5_isNight x2) = true then bW (fX5_byChangeOf x1 x2 M2) fun z3 M4 => some (z3, M4) else some ((-2 : Int32), M2) else some ((-2 : Int32), M2)
set_option maxHeartbeats 4000000 in
set_option maxRecDepth 100000 in
theorem mX5_byChange (l : Launch) (x1 : Int32) (x2 : Int32) (M : Mem) {r : Int32} {M9 : Mem} (h : fX5_byChange x1 x2 M = some (r, M9)) : MC l yX5_byChange cX5_byChange 3 (some .int) rmX5_byChange (fun ad sd => [.ref (ad 26), .int x1, .int x2]) M (fun _ => some (.int r)) M9 := by
  refine MC_start (by decide) (fun ad sd => [(0, .ref (ad 26)), (1, .int x1), (2, .int x2)]) (fun _ _ => rfl) (fun _ _ => Nat.le_of_ble_eq_true rfl) ?_
  intro p e s m args below meth c D T3 ad sd A C
  unfold fX5_byChange at h
  refine V_aload_n C 0 dX5_byChange_0 rfl ?_
  obtain ⟨z1, M2, hz1, h⟩ := bW_t h
  refine V_callV C (st := []) (st' := [.int z1]) (mX5_reads l M hz1) wmX5_reads lkX5_116 dX5_byChange_1 (wo_26 T3 ad _) rfl rfl rfl rfl rfl rfl ⟨rfl, rfl, (Nat.le_of_ble_eq_true rfl), (Nat.le_of_ble_eq_true rfl)⟩ ⟨Nat.zero_le _, Nat.zero_le _⟩ (Nat.le_of_ble_eq_true rfl) ?_
  refine V_pop C dX5_byChange_4 rfl ?_
  refine V_iload_n C 1 dX5_byChange_5 rfl ?_
  refine V_callS C (st := []) (st' := [.int (b2i (fX5_isDraught x1))]) (mX5_isDraught l x1 M2 rfl) wmX5_isDraught lkX5_176 dX5_byChange_6 rfl rfl rfl ⟨rfl, rfl, (Nat.le_of_ble_eq_true rfl), (Nat.le_of_ble_eq_true rfl)⟩ ⟨Nat.zero_le _, Nat.zero_le _⟩ (Nat.le_of_ble_eq_true rfl) ?_
  refine V_ifB_eq C 28 dX5_byChange_9 (by decide) (fun q6 => ?_) (fun q6 => ?_)
  · replace h := ite_n q6 h
    refine V_bipush C (-2 : Int32) dX5_byChange_28 (by decide) ?_
    obtain ⟨rfl, rfl⟩ := ret_W h
    exact V_iret C dX5_byChange_30
  · replace h := ite_p q6 h
    refine V_iload_n C 2 dX5_byChange_12 rfl ?_
    refine V_callS C (st := []) (st' := [.int (b2i (fX5_isNight x2))]) (mX5_isNight l x2 M2 rfl) wmX5_isNight lkX5_129 dX5_byChange_13 rfl rfl rfl ⟨rfl, rfl, (Nat.le_of_ble_eq_true rfl), (Nat.le_of_ble_eq_true rfl)⟩ ⟨Nat.zero_le _, Nat.zero_le _⟩ (Nat.le_of_ble_eq_true rfl) ?_
    refine V_ifB_eq C 28 dX5_byChange_16 (by decide) (fun q5 => ?_) (fun q5 => ?_)
    · replace h := ite_n q5 h
      refine V_bipush C (-2 : Int32) dX5_byChange_28 (by decide) ?_
      obtain ⟨rfl, rfl⟩ := ret_W h
      exact V_iret C dX5_byChange_30
    · replace h := ite_p q5 h
      refine V_aload_n C 0 dX5_byChange_19 rfl ?_
      refine V_iload_n C 1 dX5_byChange_20 rfl ?_
      refine V_iload_n C 2 dX5_byChange_21 rfl ?_
      obtain ⟨z3, M4, hz3, h⟩ := bW_t h
      refine V_callV C (st := []) (st' := [.int z3]) (mX5_byChangeOf l x1 x2 M2 hz3) wmX5_byChangeOf lkX5_202 dX5_byChange_22 (wo_26 T3 ad _) rfl rfl rfl rfl rfl rfl ⟨rfl, rfl, (Nat.le_of_ble_eq_true rfl), (Nat.le_of_ble_eq_true rfl)⟩ ⟨Nat.zero_le _, Nat.zero_le _⟩ (Nat.le_of_ble_eq_true rfl) ?_
      refine V_goto C 30 dX5_byChange_25 (by decide) ?_
      obtain ⟨rfl, rfl⟩ := ret_W h
      exact V_iret C dX5_byChange_30
abbrev rmX5_isTwo : Room := { frames := 1, cells := 0, slots := 0, locals := 25 }
def fX5_isTwo (x0 : Int32) : Bool := (fX5_in (Int32.toInt64 x0) (0 : Int64) (1 : Int64))
set_option maxHeartbeats 4000000 in
set_option maxRecDepth 100000 in
theorem mX5_isTwo (l : Launch) (x0 : Int32) (M : Mem) {r : Bool} (h : fX5_isTwo x0 = r) : MC l yX5_isTwo cX5_isTwo 1 (some .boolean) rmX5_isTwo (fun ad sd => [.int x0]) M (fun _ => some (.int (b2i r))) M := by
  refine MC_start (by decide) (fun ad sd => [(0, .int x0)]) (fun _ _ => rfl) (fun _ _ => Nat.le_of_ble_eq_true rfl) ?_
  intro p e s m args below meth c D T3 ad sd A C
  unfold fX5_isTwo at h
  refine V_iload_n C 0 dX5_isTwo_0 rfl ?_
  refine V_i2l C dX5_isTwo_1 ?_
  refine V_lconst C (0 : Int64) dX5_isTwo_2 (by decide) ?_
  refine V_lconst C (1 : Int64) dX5_isTwo_3 (by decide) ?_
  refine V_callS C (st := []) (st' := [.int (b2i (fX5_in (Int32.toInt64 x0) (0 : Int64) (1 : Int64)))]) (mX5_in l (Int32.toInt64 x0) (0 : Int64) (1 : Int64) M rfl) wmX5_in lkX5_54 dX5_isTwo_4 rfl rfl rfl ⟨rfl, rfl, (Nat.le_of_ble_eq_true rfl), (Nat.le_of_ble_eq_true rfl)⟩ ⟨Nat.zero_le _, Nat.zero_le _⟩ (Nat.le_of_ble_eq_true rfl) ?_
  subst h
  exact V_zret C dX5_isTwo_7
abbrev rmX5_savedOf : Room := { frames := 8, cells := 0, slots := 0, locals := 182 }
def fX5_savedOf_67 (kk5 : Int32 → Int32 → Int32 → Int32 → Mem → Option (Int32 × Mem)) (x1 : Int32) (x2 : Int32) (x4 : Int32) (t0 : Int32) (t1 : Bool) (t2 : Bool) (M : Mem) : Option (Int32 × Mem) := if (b2i t1) = (b2i t2) then kk5 x1 x2 (t0 + (1 : Int32)) (x4 + 1) M else kk5 x1 x2 (t0 + (0 : Int32)) (x4 + 1) M
def fX5_savedOf_46 (kk5 : Int32 → Int32 → Int32 → Int32 → Mem → Option (Int32 × Mem)) (x1 : Int32) (x2 : Int32) (x3 : Int32) (x4 : Int32) (x5 : Bool) (t0 : Bool) (M : Mem) : Option (Int32 × Mem) := if (b2i x5) = (b2i t0) then kk5 x1 x2 (x3 + (0 : Int32)) (x4 + 1) M else if x2 = 0 then fX5_savedOf_67 kk5 x1 x2 x4 x3 t0 true M else fX5_savedOf_67 kk5 x1 x2 x4 x3 t0 false M
def fX5_savedOf_28 (kk5 : Int32 → Int32 → Int32 → Int32 → Mem → Option (Int32 × Mem)) (x1 : Int32) (x2 : Int32) (x3 : Int32) (x4 : Int32) (t0 : Bool) (M : Mem) : Option (Int32 × Mem) := bW (fX5_byChangeOf x1 x4 M) fun z3 M4 => if z3 = (-1 : Int32) then fX5_savedOf_46 kk5 x1 x2 x3 x4 t0 true M4 else fX5_savedOf_46 kk5 x1 x2 x3 x4 t0 false M4
def fX5_savedOf_5 : Nat → Int32 → Int32 → Int32 → Int32 → Mem → Option (Int32 × Mem)
  | 0, _, _, _, _, _ => none
  | n + 1, x1, x2, x3, x4, M => if (100 : Int32) ≤ x4 then some (x3, M) else bW (fX5_byMapOf x1 x4 M) fun z1 M2 => if z1 = (-1 : Int32) then fX5_savedOf_28 (fX5_savedOf_5 n) x1 x2 x3 x4 true M2 else fX5_savedOf_28 (fX5_savedOf_5 n) x1 x2 x3 x4 false M2
def fX5_savedOf (x1 : Int32) (x2 : Int32) (M : Mem) : Option (Int32 × Mem) := fX5_savedOf_5 1000 x1 x2 (0 : Int32) (2 : Int32) M
set_option maxHeartbeats 4000000 in
set_option maxRecDepth 100000 in
theorem vX5_savedOf_67 {p : Program} {l : Launch} {e : Env} {s : State} {m : MethodId} {args : Array Value} {below : List Frame} {meth : Method} {c : Code} {D : va_G} {T3 : ClassId × ClassId × ClassId} {ad sd : Nat → Nat} {A : Nat → Prop}  (C : CX p s m args meth c cX5_savedOf 7 RX5 (some .int) D T3 ad sd A) {r : Int32} {M9 : Mem} (kk5 : Int32 → Int32 → Int32 → Int32 → Mem → Option (Int32 × Mem)) (hk5 : ∀ (x1 : Int32) (x2 : Int32) (x3 : Int32) (x4 : Int32) (M : Mem), kk5 x1 x2 x3 x4 M = some (r, M9) → VV p l e rmX5_savedOf s m args below meth c D T3 ad A 7 0 0 (QM below D T3 ad A args s (fun _ => some (.int r)) M9) M [(0, .ref (ad 26)), (1, .int x1), (2, .int x2), (3, .int x3), (4, .int x4)] 5 []) : ∀ (x1 : Int32) (x2 : Int32) (x4 : Int32) (t0 : Int32) (t1 : Bool) (t2 : Bool) (M : Mem), fX5_savedOf_67 kk5 x1 x2 x4 t0 t1 t2 M = some (r, M9) → VV p l e rmX5_savedOf s m args below meth c D T3 ad A 7 0 0 (QM below D T3 ad A args s (fun _ => some (.int r)) M9) M [(0, .ref (ad 26)), (1, .int x1), (2, .int x2), (4, .int x4)] 67 [.int (b2i t2), .int (b2i t1), .int t0] := by
  intro x1 x2 x4 t0 t1 t2 M h
  unfold fX5_savedOf_67 at h
  refine V_icmp_ne C 74 dX5_savedOf_67 (by decide) (fun q5 => ?_) (fun q5 => ?_)
  · replace h := ite_n q5 h
    refine V_iconst C (0 : Int32) dX5_savedOf_74 (by decide) ?_
    refine V_iadd C dX5_savedOf_75 ?_
    refine V_istore_n C [(3, .int (t0 + (0 : Int32))), (0, .ref (ad 26)), (1, .int x1), (2, .int x2), (4, .int x4)] dX5_savedOf_76 rfl (by decide) rfl ?_
    refine V_iinc C 4 (x4 + 1) [(4, .int (x4 + 1)), (3, .int (t0 + (0 : Int32))), (0, .ref (ad 26)), (1, .int x1), (2, .int x2)] dX5_savedOf_77 rfl rfl (by decide) rfl ?_
    refine V_goto C 5 dX5_savedOf_80 (by decide) ?_
    refine V_sub (lv' := [(0, .ref (ad 26)), (1, .int x1), (2, .int x2), (3, .int (t0 + (0 : Int32))), (4, .int (x4 + 1))]) [2, 3, 4, 1, 0] rfl ?_
    exact hk5 x1 x2 (t0 + (0 : Int32)) (x4 + 1) M h
  · replace h := ite_p q5 h
    refine V_iconst C (1 : Int32) dX5_savedOf_70 (by decide) ?_
    refine V_goto C 75 dX5_savedOf_71 (by decide) ?_
    refine V_iadd C dX5_savedOf_75 ?_
    refine V_istore_n C [(3, .int (t0 + (1 : Int32))), (0, .ref (ad 26)), (1, .int x1), (2, .int x2), (4, .int x4)] dX5_savedOf_76 rfl (by decide) rfl ?_
    refine V_iinc C 4 (x4 + 1) [(4, .int (x4 + 1)), (3, .int (t0 + (1 : Int32))), (0, .ref (ad 26)), (1, .int x1), (2, .int x2)] dX5_savedOf_77 rfl rfl (by decide) rfl ?_
    refine V_goto C 5 dX5_savedOf_80 (by decide) ?_
    refine V_sub (lv' := [(0, .ref (ad 26)), (1, .int x1), (2, .int x2), (3, .int (t0 + (1 : Int32))), (4, .int (x4 + 1))]) [2, 3, 4, 1, 0] rfl ?_
    exact hk5 x1 x2 (t0 + (1 : Int32)) (x4 + 1) M h
set_option maxHeartbeats 4000000 in
set_option maxRecDepth 100000 in
theorem vX5_savedOf_46 {p : Program} {l : Launch} {e : Env} {s : State} {m : MethodId} {args : Array Value} {below : List Frame} {meth : Method} {c : Code} {D : va_G} {T3 : ClassId × ClassId × ClassId} {ad sd : Nat → Nat} {A : Nat → Prop}  (C : CX p s m args meth c cX5_savedOf 7 RX5 (some .int) D T3 ad sd A) {r : Int32} {M9 : Mem} (kk5 : Int32 → Int32 → Int32 → Int32 → Mem → Option (Int32 × Mem)) (hk5 : ∀ (x1 : Int32) (x2 : Int32) (x3 : Int32) (x4 : Int32) (M : Mem), kk5 x1 x2 x3 x4 M = some (r, M9) → VV p l e rmX5_savedOf s m args below meth c D T3 ad A 7 0 0 (QM below D T3 ad A args s (fun _ => some (.int r)) M9) M [(0, .ref (ad 26)), (1, .int x1), (2, .int x2), (3, .int x3), (4, .int x4)] 5 []) : ∀ (x1 : Int32) (x2 : Int32) (x3 : Int32) (x4 : Int32) (x5 : Bool) (t0 : Bool) (M : Mem), fX5_savedOf_46 kk5 x1 x2 x3 x4 x5 t0 M = some (r, M9) → VV p l e rmX5_savedOf s m args below meth c D T3 ad A 7 0 0 (QM below D T3 ad A args s (fun _ => some (.int r)) M9) M [(0, .ref (ad 26)), (1, .int x1), (2, .int x2), (3, .int x3), (4, .int x4), (5, .int (b2i x5))] 46 [.int (b2i t0)] := by
  intro x1 x2 x3 x4 x5 t0 M h
  unfold fX5_savedOf_46 at h
  refine V_istore C [(6, .int (b2i t0)), (0, .ref (ad 26)), (1, .int x1), (2, .int x2), (3, .int x3), (4, .int x4), (5, .int (b2i x5))] dX5_savedOf_46 (by decide) rfl ?_
  refine V_iload_n C 4 dX5_savedOf_48 rfl ?_
  refine V_iload C 6 dX5_savedOf_49 rfl ?_
  refine V_iload C 0 dX5_savedOf_51 rfl ?_
  refine V_icmp_eq C 74 dX5_savedOf_53 (by decide) (fun q7 => ?_) (fun q7 => ?_)
  · replace h := ite_p q7 h
    refine V_iconst C (0 : Int32) dX5_savedOf_74 (by decide) ?_
    refine V_iadd C dX5_savedOf_75 ?_
    refine V_istore_n C [(3, .int (x3 + (0 : Int32))), (6, .int (b2i t0)), (0, .ref (ad 26)), (1, .int x1), (2, .int x2), (4, .int x4), (5, .int (b2i x5))] dX5_savedOf_76 rfl (by decide) rfl ?_
    refine V_iinc C 5 (x4 + 1) [(4, .int (x4 + 1)), (3, .int (x3 + (0 : Int32))), (6, .int (b2i t0)), (0, .ref (ad 26)), (1, .int x1), (2, .int x2), (5, .int (b2i x5))] dX5_savedOf_77 rfl rfl (by decide) rfl ?_
    refine V_goto C 5 dX5_savedOf_80 (by decide) ?_
    refine V_sub (lv' := [(0, .ref (ad 26)), (1, .int x1), (2, .int x2), (3, .int (x3 + (0 : Int32))), (4, .int (x4 + 1))]) [3, 4, 5, 1, 0] rfl ?_
    exact hk5 x1 x2 (x3 + (0 : Int32)) (x4 + 1) M h
  · replace h := ite_n q7 h
    refine V_iload C 0 dX5_savedOf_56 rfl ?_
    refine V_iload_n C 3 dX5_savedOf_58 rfl ?_
    refine V_if_ne C 66 dX5_savedOf_59 (by decide) (fun q6 => ?_) (fun q6 => ?_)
    · replace h := ite_n q6 h
      refine V_iconst C (0 : Int32) dX5_savedOf_66 (by decide) ?_
      refine V_sub (lv' := [(0, .ref (ad 26)), (1, .int x1), (2, .int x2), (4, .int x4)]) [1, 2, 3, 5] rfl ?_
      exact vX5_savedOf_67 C kk5 hk5 x1 x2 x4 x3 t0 false M h
    · replace h := ite_p q6 h
      refine V_iconst C (1 : Int32) dX5_savedOf_62 (by decide) ?_
      refine V_goto C 67 dX5_savedOf_63 (by decide) ?_
      refine V_sub (lv' := [(0, .ref (ad 26)), (1, .int x1), (2, .int x2), (4, .int x4)]) [1, 2, 3, 5] rfl ?_
      exact vX5_savedOf_67 C kk5 hk5 x1 x2 x4 x3 t0 true M h
set_option maxHeartbeats 4000000 in
set_option maxRecDepth 100000 in
theorem vX5_savedOf_28 {p : Program} {l : Launch} {e : Env} {s : State} {m : MethodId} {args : Array Value} {below : List Frame} {meth : Method} {c : Code} {D : va_G} {T3 : ClassId × ClassId × ClassId} {ad sd : Nat → Nat} {A : Nat → Prop}  (C : CX p s m args meth c cX5_savedOf 7 RX5 (some .int) D T3 ad sd A) {r : Int32} {M9 : Mem} (kk5 : Int32 → Int32 → Int32 → Int32 → Mem → Option (Int32 × Mem)) (hk5 : ∀ (x1 : Int32) (x2 : Int32) (x3 : Int32) (x4 : Int32) (M : Mem), kk5 x1 x2 x3 x4 M = some (r, M9) → VV p l e rmX5_savedOf s m args below meth c D T3 ad A 7 0 0 (QM below D T3 ad A args s (fun _ => some (.int r)) M9) M [(0, .ref (ad 26)), (1, .int x1), (2, .int x2), (3, .int x3), (4, .int x4)] 5 []) : ∀ (x1 : Int32) (x2 : Int32) (x3 : Int32) (x4 : Int32) (t0 : Bool) (M : Mem), fX5_savedOf_28 kk5 x1 x2 x3 x4 t0 M = some (r, M9) → VV p l e rmX5_savedOf s m args below meth c D T3 ad A 7 0 0 (QM below D T3 ad A args s (fun _ => some (.int r)) M9) M [(0, .ref (ad 26)), (1, .int x1), (2, .int x2), (3, .int x3), (4, .int x4)] 28 [.int (b2i t0)] := by
  intro x1 x2 x3 x4 t0 M h
  unfold fX5_savedOf_28 at h
  refine V_istore C [(5, .int (b2i t0)), (0, .ref (ad 26)), (1, .int x1), (2, .int x2), (3, .int x3), (4, .int x4)] dX5_savedOf_28 (by decide) rfl ?_
  refine V_aload_n C 1 dX5_savedOf_30 rfl ?_
  refine V_iload_n C 2 dX5_savedOf_31 rfl ?_
  refine V_iload C 5 dX5_savedOf_32 rfl ?_
  obtain ⟨z3, M4, hz3, h⟩ := bW_t h
  refine V_callV C (st := []) (st' := [.int z3]) (mX5_byChangeOf l x1 x4 M hz3) wmX5_byChangeOf lkX5_202 dX5_savedOf_34 (wo_26 T3 ad _) rfl rfl rfl rfl rfl rfl ⟨rfl, rfl, (Nat.le_of_ble_eq_true rfl), (Nat.le_of_ble_eq_true rfl)⟩ ⟨Nat.zero_le _, Nat.zero_le _⟩ (Nat.le_of_ble_eq_true rfl) ?_
  refine V_iconst C (-1 : Int32) dX5_savedOf_37 (by decide) ?_
  refine V_icmp_ne C 45 dX5_savedOf_38 (by decide) (fun q8 => ?_) (fun q8 => ?_)
  · replace h := ite_n q8 h
    refine V_iconst C (0 : Int32) dX5_savedOf_45 (by decide) ?_
    refine V_sub (lv' := [(0, .ref (ad 26)), (1, .int x1), (2, .int x2), (3, .int x3), (4, .int x4), (5, .int (b2i t0))]) [1, 2, 3, 4, 5, 0] rfl ?_
    exact vX5_savedOf_46 C kk5 hk5 x1 x2 x3 x4 t0 false M4 h
  · replace h := ite_p q8 h
    refine V_iconst C (1 : Int32) dX5_savedOf_41 (by decide) ?_
    refine V_goto C 46 dX5_savedOf_42 (by decide) ?_
    refine V_sub (lv' := [(0, .ref (ad 26)), (1, .int x1), (2, .int x2), (3, .int x3), (4, .int x4), (5, .int (b2i t0))]) [1, 2, 3, 4, 5, 0] rfl ?_
    exact vX5_savedOf_46 C kk5 hk5 x1 x2 x3 x4 t0 true M4 h
set_option maxHeartbeats 4000000 in
set_option maxRecDepth 100000 in
theorem vX5_savedOf_5 {p : Program} {l : Launch} {e : Env} {s : State} {m : MethodId} {args : Array Value} {below : List Frame} {meth : Method} {c : Code} {D : va_G} {T3 : ClassId × ClassId × ClassId} {ad sd : Nat → Nat} {A : Nat → Prop}  (C : CX p s m args meth c cX5_savedOf 7 RX5 (some .int) D T3 ad sd A) {r : Int32} {M9 : Mem} : ∀ (n : Nat) (x1 : Int32) (x2 : Int32) (x3 : Int32) (x4 : Int32) (M : Mem), fX5_savedOf_5 n x1 x2 x3 x4 M = some (r, M9) → VV p l e rmX5_savedOf s m args below meth c D T3 ad A 7 0 0 (QM below D T3 ad A args s (fun _ => some (.int r)) M9) M [(0, .ref (ad 26)), (1, .int x1), (2, .int x2), (3, .int x3), (4, .int x4)] 5 [] := by
  intro n
  induction n with
  | zero => intro x1 x2 x3 x4 M h; exact nomatch (show (none : Option (Int32 × Mem)) = some _ from h)
  | succ n ih =>
    intro x1 x2 x3 x4 M h
    rw [fX5_savedOf_5] at h
    refine V_iload C 4 dX5_savedOf_5 rfl ?_
    refine V_bipush C (100 : Int32) dX5_savedOf_7 (by decide) ?_
    refine V_icmp_ge C 83 dX5_savedOf_9 (by decide) (fun q10 => ?_) (fun q10 => ?_)
    · replace h := ite_p q10 h
      refine V_iload_n C 3 dX5_savedOf_83 rfl ?_
      obtain ⟨rfl, rfl⟩ := ret_W h
      exact V_iret C dX5_savedOf_84
    · replace h := ite_n q10 h
      refine V_aload_n C 0 dX5_savedOf_12 rfl ?_
      refine V_iload_n C 1 dX5_savedOf_13 rfl ?_
      refine V_iload C 4 dX5_savedOf_14 rfl ?_
      obtain ⟨z1, M2, hz1, h⟩ := bW_t h
      refine V_callV C (st := []) (st' := [.int z1]) (mX5_byMapOf l x1 x4 M hz1) wmX5_byMapOf lkX5_196 dX5_savedOf_16 (wo_26 T3 ad _) rfl rfl rfl rfl rfl rfl ⟨rfl, rfl, (Nat.le_of_ble_eq_true rfl), (Nat.le_of_ble_eq_true rfl)⟩ ⟨Nat.zero_le _, Nat.zero_le _⟩ (Nat.le_of_ble_eq_true rfl) ?_
      refine V_iconst C (-1 : Int32) dX5_savedOf_19 (by decide) ?_
      refine V_icmp_ne C 27 dX5_savedOf_20 (by decide) (fun q9 => ?_) (fun q9 => ?_)
      · replace h := ite_n q9 h
        refine V_iconst C (0 : Int32) dX5_savedOf_27 (by decide) ?_
        exact vX5_savedOf_28 C (fX5_savedOf_5 n) ih x1 x2 x3 x4 false M2 h
      · replace h := ite_p q9 h
        refine V_iconst C (1 : Int32) dX5_savedOf_23 (by decide) ?_
        refine V_goto C 28 dX5_savedOf_24 (by decide) ?_
        exact vX5_savedOf_28 C (fX5_savedOf_5 n) ih x1 x2 x3 x4 true M2 h
set_option maxHeartbeats 4000000 in
set_option maxRecDepth 100000 in
theorem mX5_savedOf (l : Launch) (x1 : Int32) (x2 : Int32) (M : Mem) {r : Int32} {M9 : Mem} (h : fX5_savedOf x1 x2 M = some (r, M9)) : MC l yX5_savedOf cX5_savedOf 7 (some .int) rmX5_savedOf (fun ad sd => [.ref (ad 26), .int x1, .int x2]) M (fun _ => some (.int r)) M9 := by
  refine MC_start (by decide) (fun ad sd => [(0, .ref (ad 26)), (1, .int x1), (2, .int x2)]) (fun _ _ => rfl) (fun _ _ => Nat.le_of_ble_eq_true rfl) ?_
  intro p e s m args below meth c D T3 ad sd A C
  unfold fX5_savedOf at h
  refine V_iconst C (0 : Int32) dX5_savedOf_0 (by decide) ?_
  refine V_istore_n C [(3, .int (0 : Int32)), (0, .ref (ad 26)), (1, .int x1), (2, .int x2)] dX5_savedOf_1 rfl (by decide) rfl ?_
  refine V_iconst C (2 : Int32) dX5_savedOf_2 (by decide) ?_
  refine V_istore C [(4, .int (2 : Int32)), (3, .int (0 : Int32)), (0, .ref (ad 26)), (1, .int x1), (2, .int x2)] dX5_savedOf_3 (by decide) rfl ?_
  refine V_sub (lv' := [(0, .ref (ad 26)), (1, .int x1), (2, .int x2), (3, .int (0 : Int32)), (4, .int (2 : Int32))]) [2, 3, 4, 1, 0] rfl ?_
  exact vX5_savedOf_5 C 1000 x1 x2 (0 : Int32) (2 : Int32) M h
abbrev rmX5_saved : Room := { frames := 9, cells := 0, slots := 0, locals := 208 }
def fX5_saved (x1 : Int32) (x2 : Int32) (M : Mem) : Option (Int32 × Mem) := bW (fX5_reads M) fun z1 M2 => if (fX5_isDraught x1) = true then if (fX5_isTwo x2) = true then bW (fX5_savedOf x1 x2 M2) fun z3 M4 => some (z3, M4) else some ((-2 : Int32), M2) else some ((-2 : Int32), M2)
set_option maxHeartbeats 4000000 in
set_option maxRecDepth 100000 in
theorem mX5_saved (l : Launch) (x1 : Int32) (x2 : Int32) (M : Mem) {r : Int32} {M9 : Mem} (h : fX5_saved x1 x2 M = some (r, M9)) : MC l yX5_saved cX5_saved 3 (some .int) rmX5_saved (fun ad sd => [.ref (ad 26), .int x1, .int x2]) M (fun _ => some (.int r)) M9 := by
  refine MC_start (by decide) (fun ad sd => [(0, .ref (ad 26)), (1, .int x1), (2, .int x2)]) (fun _ _ => rfl) (fun _ _ => Nat.le_of_ble_eq_true rfl) ?_
  intro p e s m args below meth c D T3 ad sd A C
  unfold fX5_saved at h
  refine V_aload_n C 0 dX5_saved_0 rfl ?_
  obtain ⟨z1, M2, hz1, h⟩ := bW_t h
  refine V_callV C (st := []) (st' := [.int z1]) (mX5_reads l M hz1) wmX5_reads lkX5_116 dX5_saved_1 (wo_26 T3 ad _) rfl rfl rfl rfl rfl rfl ⟨rfl, rfl, (Nat.le_of_ble_eq_true rfl), (Nat.le_of_ble_eq_true rfl)⟩ ⟨Nat.zero_le _, Nat.zero_le _⟩ (Nat.le_of_ble_eq_true rfl) ?_
  refine V_pop C dX5_saved_4 rfl ?_
  refine V_iload_n C 1 dX5_saved_5 rfl ?_
  refine V_callS C (st := []) (st' := [.int (b2i (fX5_isDraught x1))]) (mX5_isDraught l x1 M2 rfl) wmX5_isDraught lkX5_176 dX5_saved_6 rfl rfl rfl ⟨rfl, rfl, (Nat.le_of_ble_eq_true rfl), (Nat.le_of_ble_eq_true rfl)⟩ ⟨Nat.zero_le _, Nat.zero_le _⟩ (Nat.le_of_ble_eq_true rfl) ?_
  refine V_ifB_eq C 28 dX5_saved_9 (by decide) (fun q6 => ?_) (fun q6 => ?_)
  · replace h := ite_n q6 h
    refine V_bipush C (-2 : Int32) dX5_saved_28 (by decide) ?_
    obtain ⟨rfl, rfl⟩ := ret_W h
    exact V_iret C dX5_saved_30
  · replace h := ite_p q6 h
    refine V_iload_n C 2 dX5_saved_12 rfl ?_
    refine V_callS C (st := []) (st' := [.int (b2i (fX5_isTwo x2))]) (mX5_isTwo l x2 M2 rfl) wmX5_isTwo lkX5_205 dX5_saved_13 rfl rfl rfl ⟨rfl, rfl, (Nat.le_of_ble_eq_true rfl), (Nat.le_of_ble_eq_true rfl)⟩ ⟨Nat.zero_le _, Nat.zero_le _⟩ (Nat.le_of_ble_eq_true rfl) ?_
    refine V_ifB_eq C 28 dX5_saved_16 (by decide) (fun q5 => ?_) (fun q5 => ?_)
    · replace h := ite_n q5 h
      refine V_bipush C (-2 : Int32) dX5_saved_28 (by decide) ?_
      obtain ⟨rfl, rfl⟩ := ret_W h
      exact V_iret C dX5_saved_30
    · replace h := ite_p q5 h
      refine V_aload_n C 0 dX5_saved_19 rfl ?_
      refine V_iload_n C 1 dX5_saved_20 rfl ?_
      refine V_iload_n C 2 dX5_saved_21 rfl ?_
      obtain ⟨z3, M4, hz3, h⟩ := bW_t h
      refine V_callV C (st := []) (st' := [.int z3]) (mX5_savedOf l x1 x2 M2 hz3) wmX5_savedOf lkX5_208 dX5_saved_22 (wo_26 T3 ad _) rfl rfl rfl rfl rfl rfl ⟨rfl, rfl, (Nat.le_of_ble_eq_true rfl), (Nat.le_of_ble_eq_true rfl)⟩ ⟨Nat.zero_le _, Nat.zero_le _⟩ (Nat.le_of_ble_eq_true rfl) ?_
      refine V_goto C 30 dX5_saved_25 (by decide) ?_
      obtain ⟨rfl, rfl⟩ := ret_W h
      exact V_iret C dX5_saved_30
abbrev rmX5_sounded : Room := { frames := 2, cells := 0, slots := 0, locals := 45 }
def fX5_sounded (x1 : Int32) (x2 : Int32) (x3 : Int32) (M : Mem) : Option (Int32 × Mem) := if (fX5_isNight x1) = true then if (fX5_in (Int32.toInt64 x2) (0 : Int64) (15 : Int64)) = true then if (fX5_in (Int32.toInt64 x3) (0 : Int64) (9 : Int64)) = true then if (M 26 16) = (12 : Int32) then some ((-4 : Int32), M) else gd (inb ((3 : Int32) * (M 26 16)) 36) (lt (up M 36 (((3 : Int32) * (M 26 16))).toNatClampNeg x1) fun M1 => gd (inb (((3 : Int32) * (M1 26 16)) + (1 : Int32)) 36) (lt (up M1 36 ((((3 : Int32) * (M1 26 16)) + (1 : Int32))).toNatClampNeg x2) fun M3 => gd (inb (((3 : Int32) * (M3 26 16)) + (2 : Int32)) 36) (lt (up M3 36 ((((3 : Int32) * (M3 26 16)) + (2 : Int32))).toNatClampNeg x3) fun M5 => lt (up M5 26 16 ((M5 26 16) + (1 : Int32))) fun M7 => some ((M7 26 16), M7)))) else some ((-2 : Int32), M) else some ((-2 : Int32), M) else some ((-2 : Int32), M)
set_option maxHeartbeats 4000000 in
set_option maxRecDepth 100000 in
theorem mX5_sounded (l : Launch) (x1 : Int32) (x2 : Int32) (x3 : Int32) (M : Mem) {r : Int32} {M9 : Mem} (h : fX5_sounded x1 x2 x3 M = some (r, M9)) : MC l yX5_sounded cX5_sounded 4 (some .int) rmX5_sounded (fun ad sd => [.ref (ad 26), .int x1, .int x2, .int x3]) M (fun _ => some (.int r)) M9 := by
  refine MC_start (by decide) (fun ad sd => [(0, .ref (ad 26)), (1, .int x1), (2, .int x2), (3, .int x3)]) (fun _ _ => rfl) (fun _ _ => Nat.le_of_ble_eq_true rfl) ?_
  intro p e s m args below meth c D T3 ad sd A C
  unfold fX5_sounded at h
  refine V_iload_n C 1 dX5_sounded_0 rfl ?_
  refine V_callS C (st := []) (st' := [.int (b2i (fX5_isNight x1))]) (mX5_isNight l x1 M rfl) wmX5_isNight lkX5_129 dX5_sounded_1 rfl rfl rfl ⟨rfl, rfl, (Nat.le_of_ble_eq_true rfl), (Nat.le_of_ble_eq_true rfl)⟩ ⟨Nat.zero_le _, Nat.zero_le _⟩ (Nat.le_of_ble_eq_true rfl) ?_
  refine V_ifB_eq C 31 dX5_sounded_4 (by decide) (fun q11 => ?_) (fun q11 => ?_)
  · replace h := ite_n q11 h
    refine V_bipush C (-2 : Int32) dX5_sounded_31 (by decide) ?_
    obtain ⟨rfl, rfl⟩ := ret_W h
    exact V_iret C dX5_sounded_33
  · replace h := ite_p q11 h
    refine V_iload_n C 2 dX5_sounded_7 rfl ?_
    refine V_i2l C dX5_sounded_8 ?_
    refine V_lconst C (0 : Int64) dX5_sounded_9 (by decide) ?_
    refine V_ldc2 C dX5_sounded_10 kcX5_211 ?_
    refine V_callS C (st := []) (st' := [.int (b2i (fX5_in (Int32.toInt64 x2) (0 : Int64) (15 : Int64)))]) (mX5_in l (Int32.toInt64 x2) (0 : Int64) (15 : Int64) M rfl) wmX5_in lkX5_54 dX5_sounded_13 rfl rfl rfl ⟨rfl, rfl, (Nat.le_of_ble_eq_true rfl), (Nat.le_of_ble_eq_true rfl)⟩ ⟨Nat.zero_le _, Nat.zero_le _⟩ (Nat.le_of_ble_eq_true rfl) ?_
    refine V_ifB_eq C 31 dX5_sounded_16 (by decide) (fun q10 => ?_) (fun q10 => ?_)
    · replace h := ite_n q10 h
      refine V_bipush C (-2 : Int32) dX5_sounded_31 (by decide) ?_
      obtain ⟨rfl, rfl⟩ := ret_W h
      exact V_iret C dX5_sounded_33
    · replace h := ite_p q10 h
      refine V_iload_n C 3 dX5_sounded_19 rfl ?_
      refine V_i2l C dX5_sounded_20 ?_
      refine V_lconst C (0 : Int64) dX5_sounded_21 (by decide) ?_
      refine V_ldc2 C dX5_sounded_22 kcX5_122 ?_
      refine V_callS C (st := []) (st' := [.int (b2i (fX5_in (Int32.toInt64 x3) (0 : Int64) (9 : Int64)))]) (mX5_in l (Int32.toInt64 x3) (0 : Int64) (9 : Int64) M rfl) wmX5_in lkX5_54 dX5_sounded_25 rfl rfl rfl ⟨rfl, rfl, (Nat.le_of_ble_eq_true rfl), (Nat.le_of_ble_eq_true rfl)⟩ ⟨Nat.zero_le _, Nat.zero_le _⟩ (Nat.le_of_ble_eq_true rfl) ?_
      refine V_ifB_ne C 34 dX5_sounded_28 (by decide) (fun q9 => ?_) (fun q9 => ?_)
      · replace h := ite_p q9 h
        refine V_aload_n C 0 dX5_sounded_34 rfl ?_
        refine V_get C 16 dX5_sounded_35 (wo_26 T3 ad _) rfl inKX5 (by decide) flX5_213 rfl rfl ?_
        refine V_bipush C (12 : Int32) dX5_sounded_38 (by decide) ?_
        refine V_icmp_ne C 46 dX5_sounded_40 (by decide) (fun q8 => ?_) (fun q8 => ?_)
        · replace h := ite_n q8 h
          refine V_aload_n C 0 dX5_sounded_46 rfl ?_
          refine V_get C 17 dX5_sounded_47 (wo_26 T3 ad _) rfl inKX5 (by decide) flX5_37 rfl rfl ?_
          refine V_iconst C (3 : Int32) dX5_sounded_50 (by decide) ?_
          refine V_aload_n C 0 dX5_sounded_51 rfl ?_
          refine V_get C 16 dX5_sounded_52 (wo_26 T3 ad _) rfl inKX5 (by decide) flX5_213 rfl rfl ?_
          refine V_imul C dX5_sounded_55 ?_
          refine V_iload_n C 1 dX5_sounded_56 rfl ?_
          obtain ⟨g2, h⟩ := gd_t h
          obtain ⟨M1, hM1, h⟩ := lt_t h
          refine V_iast C M1 rfl rfl (inb_in g2) dX5_sounded_57 hM1 ?_
          refine V_aload_n C 0 dX5_sounded_58 rfl ?_
          refine V_get C 17 dX5_sounded_59 (wo_26 T3 ad _) rfl inKX5 (by decide) flX5_37 rfl rfl ?_
          refine V_iconst C (3 : Int32) dX5_sounded_62 (by decide) ?_
          refine V_aload_n C 0 dX5_sounded_63 rfl ?_
          refine V_get C 16 dX5_sounded_64 (wo_26 T3 ad _) rfl inKX5 (by decide) flX5_213 rfl rfl ?_
          refine V_imul C dX5_sounded_67 ?_
          refine V_iconst C (1 : Int32) dX5_sounded_68 (by decide) ?_
          refine V_iadd C dX5_sounded_69 ?_
          refine V_iload_n C 2 dX5_sounded_70 rfl ?_
          obtain ⟨g4, h⟩ := gd_t h
          obtain ⟨M3, hM3, h⟩ := lt_t h
          refine V_iast C M3 rfl rfl (inb_in g4) dX5_sounded_71 hM3 ?_
          refine V_aload_n C 0 dX5_sounded_72 rfl ?_
          refine V_get C 17 dX5_sounded_73 (wo_26 T3 ad _) rfl inKX5 (by decide) flX5_37 rfl rfl ?_
          refine V_iconst C (3 : Int32) dX5_sounded_76 (by decide) ?_
          refine V_aload_n C 0 dX5_sounded_77 rfl ?_
          refine V_get C 16 dX5_sounded_78 (wo_26 T3 ad _) rfl inKX5 (by decide) flX5_213 rfl rfl ?_
          refine V_imul C dX5_sounded_81 ?_
          refine V_iconst C (2 : Int32) dX5_sounded_82 (by decide) ?_
          refine V_iadd C dX5_sounded_83 ?_
          refine V_iload_n C 3 dX5_sounded_84 rfl ?_
          obtain ⟨g6, h⟩ := gd_t h
          obtain ⟨M5, hM5, h⟩ := lt_t h
          refine V_iast C M5 rfl rfl (inb_in g6) dX5_sounded_85 hM5 ?_
          refine V_aload_n C 0 dX5_sounded_86 rfl ?_
          refine V_dup C dX5_sounded_87 rfl ?_
          refine V_get C 16 dX5_sounded_88 (wo_26 T3 ad _) rfl inKX5 (by decide) flX5_213 rfl rfl ?_
          refine V_iconst C (1 : Int32) dX5_sounded_91 (by decide) ?_
          refine V_iadd C dX5_sounded_92 ?_
          obtain ⟨M7, hM7, h⟩ := lt_t h
          refine V_put C M7 16 dX5_sounded_93 (wo_26 T3 ad _) (ws_26_16 T3 ad _ _) rfl inKX5 tyX5 tyX5_ok nmX5 (by decide) flX5_213 rfl rfl rfl (Nat.le_of_ble_eq_true rfl) hM7 ?_
          refine V_aload_n C 0 dX5_sounded_96 rfl ?_
          refine V_get C 16 dX5_sounded_97 (wo_26 T3 ad _) rfl inKX5 (by decide) flX5_213 rfl rfl ?_
          obtain ⟨rfl, rfl⟩ := ret_W h
          exact V_iret C dX5_sounded_100
        · replace h := ite_p q8 h
          refine V_bipush C (-4 : Int32) dX5_sounded_43 (by decide) ?_
          obtain ⟨rfl, rfl⟩ := ret_W h
          exact V_iret C dX5_sounded_45
      · replace h := ite_n q9 h
        refine V_bipush C (-2 : Int32) dX5_sounded_31 (by decide) ?_
        obtain ⟨rfl, rfl⟩ := ret_W h
        exact V_iret C dX5_sounded_33
abbrev rmX5_forget : Room := { frames := 0, cells := 0, slots := 0, locals := 0 }
def fX5_forget (M : Mem) : Option (Int32 × Mem) := lt (up M 26 16 (0 : Int32)) fun M1 => some ((M 26 16), M1)
set_option maxHeartbeats 4000000 in
set_option maxRecDepth 100000 in
theorem mX5_forget (l : Launch) (M : Mem) {r : Int32} {M9 : Mem} (h : fX5_forget M = some (r, M9)) : MC l yX5_forget cX5_forget 2 (some .int) rmX5_forget (fun ad sd => [.ref (ad 26)]) M (fun _ => some (.int r)) M9 := by
  refine MC_start (by decide) (fun ad sd => [(0, .ref (ad 26))]) (fun _ _ => rfl) (fun _ _ => Nat.le_of_ble_eq_true rfl) ?_
  intro p e s m args below meth c D T3 ad sd A C
  unfold fX5_forget at h
  refine V_aload_n C 0 dX5_forget_0 rfl ?_
  refine V_get C 16 dX5_forget_1 (wo_26 T3 ad _) rfl inKX5 (by decide) flX5_213 rfl rfl ?_
  refine V_istore_n C [(1, .int (M 26 16)), (0, .ref (ad 26))] dX5_forget_4 rfl (by decide) rfl ?_
  refine V_aload_n C 1 dX5_forget_5 rfl ?_
  refine V_iconst C (0 : Int32) dX5_forget_6 (by decide) ?_
  obtain ⟨M1, hM1, h⟩ := lt_t h
  refine V_put C M1 16 dX5_forget_7 (wo_26 T3 ad _) (ws_26_16 T3 ad _ _) rfl inKX5 tyX5 tyX5_ok nmX5 (by decide) flX5_213 rfl rfl rfl (Nat.le_of_ble_eq_true rfl) hM1 ?_
  refine V_iload_n C 0 dX5_forget_10 rfl ?_
  obtain ⟨rfl, rfl⟩ := ret_W h
  exact V_iret C dX5_forget_11
abbrev rmX5_isSheet : Room := { frames := 1, cells := 0, slots := 0, locals := 25 }
def fX5_isSheet (x0 : Int32) : Bool := (fX5_in (Int32.toInt64 x0) (0 : Int64) (3 : Int64))
set_option maxHeartbeats 4000000 in
set_option maxRecDepth 100000 in
theorem mX5_isSheet (l : Launch) (x0 : Int32) (M : Mem) {r : Bool} (h : fX5_isSheet x0 = r) : MC l yX5_isSheet cX5_isSheet 1 (some .boolean) rmX5_isSheet (fun ad sd => [.int x0]) M (fun _ => some (.int (b2i r))) M := by
  refine MC_start (by decide) (fun ad sd => [(0, .int x0)]) (fun _ _ => rfl) (fun _ _ => Nat.le_of_ble_eq_true rfl) ?_
  intro p e s m args below meth c D T3 ad sd A C
  unfold fX5_isSheet at h
  refine V_iload_n C 0 dX5_isSheet_0 rfl ?_
  refine V_i2l C dX5_isSheet_1 ?_
  refine V_lconst C (0 : Int64) dX5_isSheet_2 (by decide) ?_
  refine V_ldc2 C dX5_isSheet_3 kcX5_65 ?_
  refine V_callS C (st := []) (st' := [.int (b2i (fX5_in (Int32.toInt64 x0) (0 : Int64) (3 : Int64)))]) (mX5_in l (Int32.toInt64 x0) (0 : Int64) (3 : Int64) M rfl) wmX5_in lkX5_54 dX5_isSheet_6 rfl rfl rfl ⟨rfl, rfl, (Nat.le_of_ble_eq_true rfl), (Nat.le_of_ble_eq_true rfl)⟩ ⟨Nat.zero_le _, Nat.zero_le _⟩ (Nat.le_of_ble_eq_true rfl) ?_
  subst h
  exact V_zret C dX5_isSheet_9
abbrev rmX5_met : Room := { frames := 0, cells := 0, slots := 0, locals := 0 }
def fX5_met (x1 : Int32) (M : Mem) : Option (Int32 × Mem) := lt (up M 26 4 x1) fun M1 => some (((-10 : Int32) - x1), M1)
set_option maxHeartbeats 4000000 in
set_option maxRecDepth 100000 in
theorem mX5_met (l : Launch) (x1 : Int32) (M : Mem) {r : Int32} {M9 : Mem} (h : fX5_met x1 M = some (r, M9)) : MC l yX5_met cX5_met 2 (some .int) rmX5_met (fun ad sd => [.ref (ad 26), .int x1]) M (fun _ => some (.int r)) M9 := by
  refine MC_start (by decide) (fun ad sd => [(0, .ref (ad 26)), (1, .int x1)]) (fun _ _ => rfl) (fun _ _ => Nat.le_of_ble_eq_true rfl) ?_
  intro p e s m args below meth c D T3 ad sd A C
  unfold fX5_met at h
  refine V_aload_n C 0 dX5_met_0 rfl ?_
  refine V_iload_n C 1 dX5_met_1 rfl ?_
  obtain ⟨M1, hM1, h⟩ := lt_t h
  refine V_put C M1 4 dX5_met_2 (wo_26 T3 ad _) (ws_26_4 T3 ad _ _) rfl inKX5 tyX5 tyX5_ok nmX5 (by decide) flX5_62 rfl rfl rfl (Nat.le_of_ble_eq_true rfl) hM1 ?_
  refine V_bipush C (-10 : Int32) dX5_met_5 (by decide) ?_
  refine V_iload_n C 1 dX5_met_7 rfl ?_
  refine V_isub C dX5_met_8 ?_
  obtain ⟨rfl, rfl⟩ := ret_W h
  exact V_iret C dX5_met_9
abbrev rmX5_read : Room := { frames := 3, cells := 0, slots := 0, locals := 68 }
def fX5_read_94 (kk29 : Int32 → Int32 → Bool → Mem → Option (Int32 × Mem)) (x1 : Int32) (x2 : Int32) (t0 : Bool) (M : Mem) : Option (Int32 × Mem) := if t0 = true then kk29 x1 (x2 + (1 : Int32)) t0 M else kk29 x1 (x2 + (0 : Int32)) t0 M
def fX5_read_29 : Nat → Int32 → Int32 → Bool → Mem → Option (Int32 × Mem)
  | 0, _, _, _, _ => none
  | n + 1, x1, x2, x3, M => if x3 = true then gd (inb x1 4) (if (M 28 (x1).toNatClampNeg) < (((3 : Int32) * x2) + (3 : Int32)) then some (x2, M) else lt ((((60 : Int32) * x1) + ((3 : Int32) * x2))) fun y3 => gd (inb y3 240) (gd (inb (y3 + (1 : Int32)) 240) (gd (inb (y3 + (2 : Int32)) 240) (bW (fX5_sounded (M 29 (y3).toNatClampNeg) (M 29 ((y3 + (1 : Int32))).toNatClampNeg) (M 29 ((y3 + (2 : Int32))).toNatClampNeg) M) fun z7 M8 => if z7 < 0 then fX5_read_94 (fX5_read_29 n) x1 x2 false M8 else fX5_read_94 (fX5_read_29 n) x1 x2 true M8)))) else some (x2, M)
def fX5_read (x1 : Int32) (M : Mem) : Option (Int32 × Mem) := if (fX5_isSheet x1) = true then gd (inb x1 4) (if 0 ≤ (M 27 (x1).toNatClampNeg) then fX5_read_29 1000 x1 (0 : Int32) true M else bW (fX5_met (1 : Int32) M) fun z13 M14 => some (z13, M14)) else some ((-2 : Int32), M)
set_option maxHeartbeats 4000000 in
set_option maxRecDepth 100000 in
theorem vX5_read_94 {p : Program} {l : Launch} {e : Env} {s : State} {m : MethodId} {args : Array Value} {below : List Frame} {meth : Method} {c : Code} {D : va_G} {T3 : ClassId × ClassId × ClassId} {ad sd : Nat → Nat} {A : Nat → Prop}  (C : CX p s m args meth c cX5_read 5 RX5 (some .int) D T3 ad sd A) {r : Int32} {M9 : Mem} (kk29 : Int32 → Int32 → Bool → Mem → Option (Int32 × Mem)) (hk29 : ∀ (x1 : Int32) (x2 : Int32) (x3 : Bool) (M : Mem), kk29 x1 x2 x3 M = some (r, M9) → VV p l e rmX5_read s m args below meth c D T3 ad A 5 0 0 (QM below D T3 ad A args s (fun _ => some (.int r)) M9) M [(0, .ref (ad 26)), (1, .int x1), (2, .int x2), (3, .int (b2i x3))] 29 []) : ∀ (x1 : Int32) (x2 : Int32) (t0 : Bool) (M : Mem), fX5_read_94 kk29 x1 x2 t0 M = some (r, M9) → VV p l e rmX5_read s m args below meth c D T3 ad A 5 0 0 (QM below D T3 ad A args s (fun _ => some (.int r)) M9) M [(0, .ref (ad 26)), (1, .int x1), (2, .int x2)] 94 [.int (b2i t0)] := by
  intro x1 x2 t0 M h
  unfold fX5_read_94 at h
  refine V_istore_n C [(3, .int (b2i t0)), (0, .ref (ad 26)), (1, .int x1), (2, .int x2)] dX5_read_94 rfl (by decide) rfl ?_
  refine V_iload_n C 3 dX5_read_95 rfl ?_
  refine V_iload_n C 0 dX5_read_96 rfl ?_
  refine V_ifB_eq C 104 dX5_read_97 (by decide) (fun q9 => ?_) (fun q9 => ?_)
  · replace h := ite_n q9 h
    refine V_iconst C (0 : Int32) dX5_read_104 (by decide) ?_
    refine V_iadd C dX5_read_105 ?_
    refine V_istore_n C [(2, .int (x2 + (0 : Int32))), (3, .int (b2i t0)), (0, .ref (ad 26)), (1, .int x1)] dX5_read_106 rfl (by decide) rfl ?_
    refine V_goto C 29 dX5_read_107 (by decide) ?_
    refine V_sub (lv' := [(0, .ref (ad 26)), (1, .int x1), (2, .int (x2 + (0 : Int32))), (3, .int (b2i t0))]) [2, 3, 0, 1] rfl ?_
    exact hk29 x1 (x2 + (0 : Int32)) t0 M h
  · replace h := ite_p q9 h
    refine V_iconst C (1 : Int32) dX5_read_100 (by decide) ?_
    refine V_goto C 105 dX5_read_101 (by decide) ?_
    refine V_iadd C dX5_read_105 ?_
    refine V_istore_n C [(2, .int (x2 + (1 : Int32))), (3, .int (b2i t0)), (0, .ref (ad 26)), (1, .int x1)] dX5_read_106 rfl (by decide) rfl ?_
    refine V_goto C 29 dX5_read_107 (by decide) ?_
    refine V_sub (lv' := [(0, .ref (ad 26)), (1, .int x1), (2, .int (x2 + (1 : Int32))), (3, .int (b2i t0))]) [2, 3, 0, 1] rfl ?_
    exact hk29 x1 (x2 + (1 : Int32)) t0 M h
set_option maxHeartbeats 4000000 in
set_option maxRecDepth 100000 in
theorem vX5_read_29 {p : Program} {l : Launch} {e : Env} {s : State} {m : MethodId} {args : Array Value} {below : List Frame} {meth : Method} {c : Code} {D : va_G} {T3 : ClassId × ClassId × ClassId} {ad sd : Nat → Nat} {A : Nat → Prop}  (C : CX p s m args meth c cX5_read 5 RX5 (some .int) D T3 ad sd A) {r : Int32} {M9 : Mem} : ∀ (n : Nat) (x1 : Int32) (x2 : Int32) (x3 : Bool) (M : Mem), fX5_read_29 n x1 x2 x3 M = some (r, M9) → VV p l e rmX5_read s m args below meth c D T3 ad A 5 0 0 (QM below D T3 ad A args s (fun _ => some (.int r)) M9) M [(0, .ref (ad 26)), (1, .int x1), (2, .int x2), (3, .int (b2i x3))] 29 [] := by
  intro n
  induction n with
  | zero => intro x1 x2 x3 M h; exact nomatch (show (none : Option (Int32 × Mem)) = some _ from h)
  | succ n ih =>
    intro x1 x2 x3 M h
    rw [fX5_read_29] at h
    refine V_iload_n C 3 dX5_read_29 rfl ?_
    refine V_ifB_eq C 110 dX5_read_30 (by decide) (fun q12 => ?_) (fun q12 => ?_)
    · replace h := ite_n q12 h
      refine V_iload_n C 2 dX5_read_110 rfl ?_
      obtain ⟨rfl, rfl⟩ := ret_W h
      exact V_iret C dX5_read_111
    · replace h := ite_p q12 h
      refine V_iconst C (3 : Int32) dX5_read_33 (by decide) ?_
      refine V_iload_n C 2 dX5_read_34 rfl ?_
      refine V_imul C dX5_read_35 ?_
      refine V_iconst C (3 : Int32) dX5_read_36 (by decide) ?_
      refine V_iadd C dX5_read_37 ?_
      refine V_aload_n C 0 dX5_read_38 rfl ?_
      refine V_get C 1 dX5_read_39 (wo_26 T3 ad _) rfl inKX5 (by decide) flX5_13 rfl rfl ?_
      refine V_iload_n C 1 dX5_read_42 rfl ?_
      obtain ⟨g2, h⟩ := gd_t h
      refine V_iald C rfl rfl (inb_in g2) dX5_read_43 ?_
      refine V_icmp_gt C 110 dX5_read_44 (by decide) (fun q11 => ?_) (fun q11 => ?_)
      · replace h := ite_p q11 h
        refine V_iload_n C 2 dX5_read_110 rfl ?_
        obtain ⟨rfl, rfl⟩ := ret_W h
        exact V_iret C dX5_read_111
      · replace h := ite_n q11 h
        refine V_bipush C (60 : Int32) dX5_read_47 (by decide) ?_
        refine V_iload_n C 1 dX5_read_49 rfl ?_
        refine V_imul C dX5_read_50 ?_
        refine V_iconst C (3 : Int32) dX5_read_51 (by decide) ?_
        refine V_iload_n C 2 dX5_read_52 rfl ?_
        refine V_imul C dX5_read_53 ?_
        refine V_iadd C dX5_read_54 ?_
        obtain ⟨y3, hy3, h⟩ := lt_t h
        refine V_topi C hy3 ?_
        refine V_istore C [(4, .int y3), (0, .ref (ad 26)), (1, .int x1), (2, .int x2), (3, .int (b2i x3))] dX5_read_55 (by decide) rfl ?_
        refine V_aload_n C 1 dX5_read_57 rfl ?_
        refine V_aload_n C 1 dX5_read_58 rfl ?_
        refine V_get C 2 dX5_read_59 (wo_26 T3 ad _) rfl inKX5 (by decide) flX5_16 rfl rfl ?_
        refine V_iload C 0 dX5_read_62 rfl ?_
        obtain ⟨g4, h⟩ := gd_t h
        refine V_iald C rfl rfl (inb_in g4) dX5_read_64 ?_
        refine V_aload_n C 1 dX5_read_65 rfl ?_
        refine V_get C 2 dX5_read_66 (wo_26 T3 ad _) rfl inKX5 (by decide) flX5_16 rfl rfl ?_
        refine V_iload C 0 dX5_read_69 rfl ?_
        refine V_iconst C (1 : Int32) dX5_read_71 (by decide) ?_
        refine V_iadd C dX5_read_72 ?_
        obtain ⟨g5, h⟩ := gd_t h
        refine V_iald C rfl rfl (inb_in g5) dX5_read_73 ?_
        refine V_aload_n C 1 dX5_read_74 rfl ?_
        refine V_get C 2 dX5_read_75 (wo_26 T3 ad _) rfl inKX5 (by decide) flX5_16 rfl rfl ?_
        refine V_iload C 0 dX5_read_78 rfl ?_
        refine V_iconst C (2 : Int32) dX5_read_80 (by decide) ?_
        refine V_iadd C dX5_read_81 ?_
        obtain ⟨g6, h⟩ := gd_t h
        refine V_iald C rfl rfl (inb_in g6) dX5_read_82 ?_
        obtain ⟨z7, M8, hz7, h⟩ := bW_t h
        refine V_callV C (st := []) (st' := [.int z7]) (mX5_sounded l (M 29 (y3).toNatClampNeg) (M 29 ((y3 + (1 : Int32))).toNatClampNeg) (M 29 ((y3 + (2 : Int32))).toNatClampNeg) M hz7) wmX5_sounded lkX5_216 dX5_read_83 (wo_26 T3 ad _) rfl rfl rfl rfl rfl rfl ⟨rfl, rfl, (Nat.le_of_ble_eq_true rfl), (Nat.le_of_ble_eq_true rfl)⟩ ⟨Nat.zero_le _, Nat.zero_le _⟩ (Nat.le_of_ble_eq_true rfl) ?_
        refine V_if_lt C 93 dX5_read_86 (by decide) (fun q10 => ?_) (fun q10 => ?_)
        · replace h := ite_p q10 h
          refine V_iconst C (0 : Int32) dX5_read_93 (by decide) ?_
          refine V_sub (lv' := [(0, .ref (ad 26)), (1, .int x1), (2, .int x2)]) [1, 2, 3] rfl ?_
          exact vX5_read_94 C (fX5_read_29 n) ih x1 x2 false M8 h
        · replace h := ite_n q10 h
          refine V_iconst C (1 : Int32) dX5_read_89 (by decide) ?_
          refine V_goto C 94 dX5_read_90 (by decide) ?_
          refine V_sub (lv' := [(0, .ref (ad 26)), (1, .int x1), (2, .int x2)]) [1, 2, 3] rfl ?_
          exact vX5_read_94 C (fX5_read_29 n) ih x1 x2 true M8 h
set_option maxHeartbeats 4000000 in
set_option maxRecDepth 100000 in
theorem mX5_read (l : Launch) (x1 : Int32) (M : Mem) {r : Int32} {M9 : Mem} (h : fX5_read x1 M = some (r, M9)) : MC l yX5_read cX5_read 5 (some .int) rmX5_read (fun ad sd => [.ref (ad 26), .int x1]) M (fun _ => some (.int r)) M9 := by
  refine MC_start (by decide) (fun ad sd => [(0, .ref (ad 26)), (1, .int x1)]) (fun _ _ => rfl) (fun _ _ => Nat.le_of_ble_eq_true rfl) ?_
  intro p e s m args below meth c D T3 ad sd A C
  unfold fX5_read at h
  refine V_iload_n C 1 dX5_read_0 rfl ?_
  refine V_callS C (st := []) (st' := [.int (b2i (fX5_isSheet x1))]) (mX5_isSheet l x1 M rfl) wmX5_isSheet lkX5_67 dX5_read_1 rfl rfl rfl ⟨rfl, rfl, (Nat.le_of_ble_eq_true rfl), (Nat.le_of_ble_eq_true rfl)⟩ ⟨Nat.zero_le _, Nat.zero_le _⟩ (Nat.le_of_ble_eq_true rfl) ?_
  refine V_ifB_ne C 10 dX5_read_4 (by decide) (fun q16 => ?_) (fun q16 => ?_)
  · replace h := ite_p q16 h
    refine V_aload_n C 0 dX5_read_10 rfl ?_
    refine V_get C 0 dX5_read_11 (wo_26 T3 ad _) rfl inKX5 (by decide) flX5_7 rfl rfl ?_
    refine V_iload_n C 1 dX5_read_14 rfl ?_
    obtain ⟨g1, h⟩ := gd_t h
    refine V_iald C rfl rfl (inb_in g1) dX5_read_15 ?_
    refine V_if_ge C 25 dX5_read_16 (by decide) (fun q15 => ?_) (fun q15 => ?_)
    · replace h := ite_p q15 h
      refine V_iconst C (0 : Int32) dX5_read_25 (by decide) ?_
      refine V_istore_n C [(2, .int (0 : Int32)), (0, .ref (ad 26)), (1, .int x1)] dX5_read_26 rfl (by decide) rfl ?_
      refine V_iconst C (1 : Int32) dX5_read_27 (by decide) ?_
      refine V_istore_n C [(3, .int (1 : Int32)), (2, .int (0 : Int32)), (0, .ref (ad 26)), (1, .int x1)] dX5_read_28 rfl (by decide) rfl ?_
      refine V_sub (lv' := [(0, .ref (ad 26)), (1, .int x1), (2, .int (0 : Int32)), (3, .int (1 : Int32))]) [2, 3, 1, 0] rfl ?_
      exact vX5_read_29 C 1000 x1 (0 : Int32) true M h
    · replace h := ite_n q15 h
      refine V_aload_n C 0 dX5_read_19 rfl ?_
      refine V_iconst C (1 : Int32) dX5_read_20 (by decide) ?_
      obtain ⟨z13, M14, hz13, h⟩ := bW_t h
      refine V_callV C (st := []) (st' := [.int z13]) (mX5_met l (1 : Int32) M hz13) wmX5_met lkX5_73 dX5_read_21 (wo_26 T3 ad _) rfl rfl rfl rfl rfl rfl ⟨rfl, rfl, (Nat.le_of_ble_eq_true rfl), (Nat.le_of_ble_eq_true rfl)⟩ ⟨Nat.zero_le _, Nat.zero_le _⟩ (Nat.le_of_ble_eq_true rfl) ?_
      obtain ⟨rfl, rfl⟩ := ret_W h
      exact V_iret C dX5_read_24
  · replace h := ite_n q16 h
    refine V_bipush C (-2 : Int32) dX5_read_7 (by decide) ?_
    obtain ⟨rfl, rfl⟩ := ret_W h
    exact V_iret C dX5_read_9
abbrev rmX5_fits : Room := { frames := 3, cells := 0, slots := 0, locals := 65 }
def fX5_fits_5 (M : Mem) : Nat → Int32 → Int32 → Bool → Int32 → Option Bool
  | 0, _, _, _, _ => none
  | n + 1, x1, x2, x3, x4 => if (M 26 16) ≤ x4 then some x3 else gd (inb (((5 : Int32) * x1) + (2 : Int32)) 80) (gd (inb ((3 : Int32) * x4) 36) (bP (fX5_deepBy (x2 / (9 : Int32)) ((rmI x2 (9 : Int32)) + (1 : Int32)) (M 32 ((((5 : Int32) * x1) + (2 : Int32))).toNatClampNeg) (M 36 (((3 : Int32) * x4)).toNatClampNeg)) fun z3 => if x3 = true then gd (inb (((3 : Int32) * x4) + (1 : Int32)) 36) (if (M 36 ((((3 : Int32) * x4) + (1 : Int32))).toNatClampNeg) = x1 then gd (inb (((3 : Int32) * x4) + (2 : Int32)) 36) (if z3 = (M 36 ((((3 : Int32) * x4) + (2 : Int32))).toNatClampNeg) then fX5_fits_5 M n x1 x2 true (x4 + 1) else fX5_fits_5 M n x1 x2 false (x4 + 1)) else fX5_fits_5 M n x1 x2 true (x4 + 1)) else fX5_fits_5 M n x1 x2 false (x4 + 1)))
def fX5_fits (M : Mem) (x1 : Int32) (x2 : Int32) : Option Bool := fX5_fits_5 M 1000 x1 x2 true (0 : Int32)
set_option maxHeartbeats 4000000 in
set_option maxRecDepth 100000 in
theorem vX5_fits_5 {p : Program} {l : Launch} {e : Env} {s : State} {m : MethodId} {args : Array Value} {below : List Frame} {meth : Method} {c : Code} {D : va_G} {T3 : ClassId × ClassId × ClassId} {ad sd : Nat → Nat} {A : Nat → Prop}  (C : CX p s m args meth c cX5_fits 6 RX5 (some .boolean) D T3 ad sd A) {r : Bool} (M : Mem) : ∀ (n : Nat) (x1 : Int32) (x2 : Int32) (x3 : Bool) (x4 : Int32), fX5_fits_5 M n x1 x2 x3 x4 = some r → VV p l e rmX5_fits s m args below meth c D T3 ad A 6 0 0 (QM below D T3 ad A args s (fun _ => some (.int (b2i r))) M) M [(0, .ref (ad 26)), (1, .int x1), (2, .int x2), (3, .int (b2i x3)), (4, .int x4)] 5 [] := by
  intro n
  induction n with
  | zero => intro x1 x2 x3 x4 h; exact nomatch (show (none : Option Bool) = some _ from h)
  | succ n ih =>
    intro x1 x2 x3 x4 h
    rw [fX5_fits_5] at h
    refine V_iload C 4 dX5_fits_5 rfl ?_
    refine V_aload_n C 0 dX5_fits_7 rfl ?_
    refine V_get C 16 dX5_fits_8 (wo_26 T3 ad _) rfl inKX5 (by decide) flX5_213 rfl rfl ?_
    refine V_icmp_ge C 95 dX5_fits_11 (by decide) (fun q9 => ?_) (fun q9 => ?_)
    · replace h := ite_p q9 h
      refine V_iload_n C 3 dX5_fits_95 rfl ?_
      obtain rfl := ret_P h
      exact V_zret C dX5_fits_96
    · replace h := ite_n q9 h
      refine V_iload_n C 2 dX5_fits_14 rfl ?_
      refine V_bipush C (9 : Int32) dX5_fits_15 (by decide) ?_
      refine V_idiv C dX5_fits_17 (by decide) ?_
      refine V_iload_n C 2 dX5_fits_18 rfl ?_
      refine V_bipush C (9 : Int32) dX5_fits_19 (by decide) ?_
      refine V_irem C dX5_fits_21 (by decide) ?_
      refine V_iconst C (1 : Int32) dX5_fits_22 (by decide) ?_
      refine V_iadd C dX5_fits_23 ?_
      refine V_aload_n C 0 dX5_fits_24 rfl ?_
      refine V_get C 9 dX5_fits_25 (wo_26 T3 ad _) rfl inKX5 (by decide) flX5_25 rfl rfl ?_
      refine V_iconst C (5 : Int32) dX5_fits_28 (by decide) ?_
      refine V_iload_n C 1 dX5_fits_29 rfl ?_
      refine V_imul C dX5_fits_30 ?_
      refine V_iconst C (2 : Int32) dX5_fits_31 (by decide) ?_
      refine V_iadd C dX5_fits_32 ?_
      obtain ⟨g1, h⟩ := gd_t h
      refine V_iald C rfl rfl (inb_in g1) dX5_fits_33 ?_
      refine V_aload_n C 0 dX5_fits_34 rfl ?_
      refine V_get C 17 dX5_fits_35 (wo_26 T3 ad _) rfl inKX5 (by decide) flX5_37 rfl rfl ?_
      refine V_iconst C (3 : Int32) dX5_fits_38 (by decide) ?_
      refine V_iload C 4 dX5_fits_39 rfl ?_
      refine V_imul C dX5_fits_41 ?_
      obtain ⟨g2, h⟩ := gd_t h
      refine V_iald C rfl rfl (inb_in g2) dX5_fits_42 ?_
      obtain ⟨z3, hz3, h⟩ := bP_t h
      refine V_callS C (st := []) (st' := [.int z3]) (mX5_deepBy l (x2 / (9 : Int32)) ((rmI x2 (9 : Int32)) + (1 : Int32)) (M 32 ((((5 : Int32) * x1) + (2 : Int32))).toNatClampNeg) (M 36 (((3 : Int32) * x4)).toNatClampNeg) M hz3) wmX5_deepBy lkX5_140 dX5_fits_43 rfl rfl rfl ⟨rfl, rfl, (Nat.le_of_ble_eq_true rfl), (Nat.le_of_ble_eq_true rfl)⟩ ⟨Nat.zero_le _, Nat.zero_le _⟩ (Nat.le_of_ble_eq_true rfl) ?_
      refine V_istore C [(5, .int z3), (0, .ref (ad 26)), (1, .int x1), (2, .int x2), (3, .int (b2i x3)), (4, .int x4)] dX5_fits_46 (by decide) rfl ?_
      refine V_iload_n C 4 dX5_fits_48 rfl ?_
      refine V_ifB_eq C 87 dX5_fits_49 (by decide) (fun q8 => ?_) (fun q8 => ?_)
      · replace h := ite_n q8 h
        refine V_iconst C (0 : Int32) dX5_fits_87 (by decide) ?_
        refine V_istore_n C [(3, .int (0 : Int32)), (5, .int z3), (0, .ref (ad 26)), (1, .int x1), (2, .int x2), (4, .int x4)] dX5_fits_88 rfl (by decide) rfl ?_
        refine V_iinc C 5 (x4 + 1) [(4, .int (x4 + 1)), (3, .int (0 : Int32)), (5, .int z3), (0, .ref (ad 26)), (1, .int x1), (2, .int x2)] dX5_fits_89 rfl rfl (by decide) rfl ?_
        refine V_goto C 5 dX5_fits_92 (by decide) ?_
        refine V_sub (lv' := [(0, .ref (ad 26)), (1, .int x1), (2, .int x2), (3, .int (0 : Int32)), (4, .int (x4 + 1))]) [3, 4, 5, 1, 0] rfl ?_
        exact ih x1 x2 false (x4 + 1) h
      · replace h := ite_p q8 h
        refine V_aload_n C 1 dX5_fits_52 rfl ?_
        refine V_get C 17 dX5_fits_53 (wo_26 T3 ad _) rfl inKX5 (by decide) flX5_37 rfl rfl ?_
        refine V_iconst C (3 : Int32) dX5_fits_56 (by decide) ?_
        refine V_iload C 5 dX5_fits_57 rfl ?_
        refine V_imul C dX5_fits_59 ?_
        refine V_iconst C (1 : Int32) dX5_fits_60 (by decide) ?_
        refine V_iadd C dX5_fits_61 ?_
        obtain ⟨g4, h⟩ := gd_t h
        refine V_iald C rfl rfl (inb_in g4) dX5_fits_62 ?_
        refine V_iload_n C 2 dX5_fits_63 rfl ?_
        refine V_icmp_ne C 83 dX5_fits_64 (by decide) (fun q7 => ?_) (fun q7 => ?_)
        · replace h := ite_n q7 h
          refine V_iconst C (1 : Int32) dX5_fits_83 (by decide) ?_
          refine V_goto C 88 dX5_fits_84 (by decide) ?_
          refine V_istore_n C [(3, .int (1 : Int32)), (5, .int z3), (0, .ref (ad 26)), (1, .int x1), (2, .int x2), (4, .int x4)] dX5_fits_88 rfl (by decide) rfl ?_
          refine V_iinc C 5 (x4 + 1) [(4, .int (x4 + 1)), (3, .int (1 : Int32)), (5, .int z3), (0, .ref (ad 26)), (1, .int x1), (2, .int x2)] dX5_fits_89 rfl rfl (by decide) rfl ?_
          refine V_goto C 5 dX5_fits_92 (by decide) ?_
          refine V_sub (lv' := [(0, .ref (ad 26)), (1, .int x1), (2, .int x2), (3, .int (1 : Int32)), (4, .int (x4 + 1))]) [3, 4, 5, 1, 0] rfl ?_
          exact ih x1 x2 true (x4 + 1) h
        · replace h := ite_p q7 h
          refine V_iload C 0 dX5_fits_67 rfl ?_
          refine V_aload_n C 1 dX5_fits_69 rfl ?_
          refine V_get C 17 dX5_fits_70 (wo_26 T3 ad _) rfl inKX5 (by decide) flX5_37 rfl rfl ?_
          refine V_iconst C (3 : Int32) dX5_fits_73 (by decide) ?_
          refine V_iload C 5 dX5_fits_74 rfl ?_
          refine V_imul C dX5_fits_76 ?_
          refine V_iconst C (2 : Int32) dX5_fits_77 (by decide) ?_
          refine V_iadd C dX5_fits_78 ?_
          obtain ⟨g5, h⟩ := gd_t h
          refine V_iald C rfl rfl (inb_in g5) dX5_fits_79 ?_
          refine V_icmp_ne C 87 dX5_fits_80 (by decide) (fun q6 => ?_) (fun q6 => ?_)
          · replace h := ite_n q6 h
            refine V_iconst C (0 : Int32) dX5_fits_87 (by decide) ?_
            refine V_istore_n C [(3, .int (0 : Int32)), (5, .int z3), (0, .ref (ad 26)), (1, .int x1), (2, .int x2), (4, .int x4)] dX5_fits_88 rfl (by decide) rfl ?_
            refine V_iinc C 5 (x4 + 1) [(4, .int (x4 + 1)), (3, .int (0 : Int32)), (5, .int z3), (0, .ref (ad 26)), (1, .int x1), (2, .int x2)] dX5_fits_89 rfl rfl (by decide) rfl ?_
            refine V_goto C 5 dX5_fits_92 (by decide) ?_
            refine V_sub (lv' := [(0, .ref (ad 26)), (1, .int x1), (2, .int x2), (3, .int (0 : Int32)), (4, .int (x4 + 1))]) [3, 4, 5, 1, 0] rfl ?_
            exact ih x1 x2 false (x4 + 1) h
          · replace h := ite_p q6 h
            refine V_iconst C (1 : Int32) dX5_fits_83 (by decide) ?_
            refine V_goto C 88 dX5_fits_84 (by decide) ?_
            refine V_istore_n C [(3, .int (1 : Int32)), (5, .int z3), (0, .ref (ad 26)), (1, .int x1), (2, .int x2), (4, .int x4)] dX5_fits_88 rfl (by decide) rfl ?_
            refine V_iinc C 5 (x4 + 1) [(4, .int (x4 + 1)), (3, .int (1 : Int32)), (5, .int z3), (0, .ref (ad 26)), (1, .int x1), (2, .int x2)] dX5_fits_89 rfl rfl (by decide) rfl ?_
            refine V_goto C 5 dX5_fits_92 (by decide) ?_
            refine V_sub (lv' := [(0, .ref (ad 26)), (1, .int x1), (2, .int x2), (3, .int (1 : Int32)), (4, .int (x4 + 1))]) [3, 4, 5, 1, 0] rfl ?_
            exact ih x1 x2 true (x4 + 1) h
set_option maxHeartbeats 4000000 in
set_option maxRecDepth 100000 in
theorem mX5_fits (l : Launch) (x1 : Int32) (x2 : Int32) (M : Mem) {r : Bool} (h : fX5_fits M x1 x2 = some r) : MC l yX5_fits cX5_fits 6 (some .boolean) rmX5_fits (fun ad sd => [.ref (ad 26), .int x1, .int x2]) M (fun _ => some (.int (b2i r))) M := by
  refine MC_start (by decide) (fun ad sd => [(0, .ref (ad 26)), (1, .int x1), (2, .int x2)]) (fun _ _ => rfl) (fun _ _ => Nat.le_of_ble_eq_true rfl) ?_
  intro p e s m args below meth c D T3 ad sd A C
  unfold fX5_fits at h
  refine V_iconst C (1 : Int32) dX5_fits_0 (by decide) ?_
  refine V_istore_n C [(3, .int (1 : Int32)), (0, .ref (ad 26)), (1, .int x1), (2, .int x2)] dX5_fits_1 rfl (by decide) rfl ?_
  refine V_iconst C (0 : Int32) dX5_fits_2 (by decide) ?_
  refine V_istore C [(4, .int (0 : Int32)), (3, .int (1 : Int32)), (0, .ref (ad 26)), (1, .int x1), (2, .int x2)] dX5_fits_3 (by decide) rfl ?_
  refine V_sub (lv' := [(0, .ref (ad 26)), (1, .int x1), (2, .int x2), (3, .int (1 : Int32)), (4, .int (0 : Int32))]) [2, 3, 4, 1, 0] rfl ?_
  exact vX5_fits_5 C M 1000 x1 x2 true (0 : Int32) h
abbrev rmX5_lawsOf : Room := { frames := 4, cells := 0, slots := 0, locals := 90 }
def fX5_lawsOf_5 (M : Mem) : Nat → Int32 → Int32 → Int32 → Int32 → Option Int32
  | 0, _, _, _, _ => none
  | n + 1, x1, x2, x3, x4 => if (36 : Int32) ≤ x4 then if x2 = (-1 : Int32) then some x3 else some (-1 : Int32) else bP (fX5_fits M x1 x4) fun z2 => if z2 = true then if x3 = x2 then some ((((10 : Int32) * (x4 / (9 : Int32))) + (rmI x4 (9 : Int32))) + (1 : Int32)) else fX5_lawsOf_5 M n x1 x2 (x3 + 1) (x4 + 1) else fX5_lawsOf_5 M n x1 x2 x3 (x4 + 1)
def fX5_lawsOf (M : Mem) (x1 : Int32) (x2 : Int32) : Option Int32 := fX5_lawsOf_5 M 1000 x1 x2 (0 : Int32) (0 : Int32)
set_option maxHeartbeats 4000000 in
set_option maxRecDepth 100000 in
theorem vX5_lawsOf_5 {p : Program} {l : Launch} {e : Env} {s : State} {m : MethodId} {args : Array Value} {below : List Frame} {meth : Method} {c : Code} {D : va_G} {T3 : ClassId × ClassId × ClassId} {ad sd : Nat → Nat} {A : Nat → Prop}  (C : CX p s m args meth c cX5_lawsOf 5 RX5 (some .int) D T3 ad sd A) {r : Int32} (M : Mem) : ∀ (n : Nat) (x1 : Int32) (x2 : Int32) (x3 : Int32) (x4 : Int32), fX5_lawsOf_5 M n x1 x2 x3 x4 = some r → VV p l e rmX5_lawsOf s m args below meth c D T3 ad A 5 0 0 (QM below D T3 ad A args s (fun _ => some (.int r)) M) M [(0, .ref (ad 26)), (1, .int x1), (2, .int x2), (3, .int x3), (4, .int x4)] 5 [] := by
  intro n
  induction n with
  | zero => intro x1 x2 x3 x4 h; exact nomatch (show (none : Option Int32) = some _ from h)
  | succ n ih =>
    intro x1 x2 x3 x4 h
    rw [fX5_lawsOf_5] at h
    refine V_iload C 4 dX5_lawsOf_5 rfl ?_
    refine V_bipush C (36 : Int32) dX5_lawsOf_7 (by decide) ?_
    refine V_icmp_ge C 53 dX5_lawsOf_9 (by decide) (fun q5 => ?_) (fun q5 => ?_)
    · replace h := ite_p q5 h
      refine V_iload_n C 2 dX5_lawsOf_53 rfl ?_
      refine V_iconst C (-1 : Int32) dX5_lawsOf_54 (by decide) ?_
      refine V_icmp_ne C 62 dX5_lawsOf_55 (by decide) (fun q1 => ?_) (fun q1 => ?_)
      · replace h := ite_n q1 h
        refine V_iconst C (-1 : Int32) dX5_lawsOf_62 (by decide) ?_
        obtain rfl := ret_P h
        exact V_iret C dX5_lawsOf_63
      · replace h := ite_p q1 h
        refine V_iload_n C 3 dX5_lawsOf_58 rfl ?_
        refine V_goto C 63 dX5_lawsOf_59 (by decide) ?_
        obtain rfl := ret_P h
        exact V_iret C dX5_lawsOf_63
    · replace h := ite_n q5 h
      refine V_aload_n C 0 dX5_lawsOf_12 rfl ?_
      refine V_iload_n C 1 dX5_lawsOf_13 rfl ?_
      refine V_iload C 4 dX5_lawsOf_14 rfl ?_
      obtain ⟨z2, hz2, h⟩ := bP_t h
      refine V_callV C (st := []) (st' := [.int (b2i z2)]) (mX5_fits l x1 x4 M hz2) wmX5_fits lkX5_219 dX5_lawsOf_16 (wo_26 T3 ad _) rfl rfl rfl rfl rfl rfl ⟨rfl, rfl, (Nat.le_of_ble_eq_true rfl), (Nat.le_of_ble_eq_true rfl)⟩ ⟨Nat.zero_le _, Nat.zero_le _⟩ (Nat.le_of_ble_eq_true rfl) ?_
      refine V_ifB_eq C 47 dX5_lawsOf_19 (by decide) (fun q4 => ?_) (fun q4 => ?_)
      · replace h := ite_n q4 h
        refine V_iinc C 4 (x4 + 1) [(4, .int (x4 + 1)), (0, .ref (ad 26)), (1, .int x1), (2, .int x2), (3, .int x3)] dX5_lawsOf_47 rfl rfl (by decide) rfl ?_
        refine V_goto C 5 dX5_lawsOf_50 (by decide) ?_
        refine V_sub (lv' := [(0, .ref (ad 26)), (1, .int x1), (2, .int x2), (3, .int x3), (4, .int (x4 + 1))]) [1, 2, 3, 4, 0] rfl ?_
        exact ih x1 x2 x3 (x4 + 1) h
      · replace h := ite_p q4 h
        refine V_iload_n C 3 dX5_lawsOf_22 rfl ?_
        refine V_iload_n C 2 dX5_lawsOf_23 rfl ?_
        refine V_icmp_ne C 44 dX5_lawsOf_24 (by decide) (fun q3 => ?_) (fun q3 => ?_)
        · replace h := ite_n q3 h
          refine V_iinc C 3 (x3 + 1) [(3, .int (x3 + 1)), (0, .ref (ad 26)), (1, .int x1), (2, .int x2), (4, .int x4)] dX5_lawsOf_44 rfl rfl (by decide) rfl ?_
          refine V_iinc C 4 (x4 + 1) [(4, .int (x4 + 1)), (3, .int (x3 + 1)), (0, .ref (ad 26)), (1, .int x1), (2, .int x2)] dX5_lawsOf_47 rfl rfl (by decide) rfl ?_
          refine V_goto C 5 dX5_lawsOf_50 (by decide) ?_
          refine V_sub (lv' := [(0, .ref (ad 26)), (1, .int x1), (2, .int x2), (3, .int (x3 + 1)), (4, .int (x4 + 1))]) [2, 3, 4, 1, 0] rfl ?_
          exact ih x1 x2 (x3 + 1) (x4 + 1) h
        · replace h := ite_p q3 h
          refine V_bipush C (10 : Int32) dX5_lawsOf_27 (by decide) ?_
          refine V_iload C 4 dX5_lawsOf_29 rfl ?_
          refine V_bipush C (9 : Int32) dX5_lawsOf_31 (by decide) ?_
          refine V_idiv C dX5_lawsOf_33 (by decide) ?_
          refine V_imul C dX5_lawsOf_34 ?_
          refine V_iload C 4 dX5_lawsOf_35 rfl ?_
          refine V_bipush C (9 : Int32) dX5_lawsOf_37 (by decide) ?_
          refine V_irem C dX5_lawsOf_39 (by decide) ?_
          refine V_iadd C dX5_lawsOf_40 ?_
          refine V_iconst C (1 : Int32) dX5_lawsOf_41 (by decide) ?_
          refine V_iadd C dX5_lawsOf_42 ?_
          obtain rfl := ret_P h
          exact V_iret C dX5_lawsOf_43
set_option maxHeartbeats 4000000 in
set_option maxRecDepth 100000 in
theorem mX5_lawsOf (l : Launch) (x1 : Int32) (x2 : Int32) (M : Mem) {r : Int32} (h : fX5_lawsOf M x1 x2 = some r) : MC l yX5_lawsOf cX5_lawsOf 5 (some .int) rmX5_lawsOf (fun ad sd => [.ref (ad 26), .int x1, .int x2]) M (fun _ => some (.int r)) M := by
  refine MC_start (by decide) (fun ad sd => [(0, .ref (ad 26)), (1, .int x1), (2, .int x2)]) (fun _ _ => rfl) (fun _ _ => Nat.le_of_ble_eq_true rfl) ?_
  intro p e s m args below meth c D T3 ad sd A C
  unfold fX5_lawsOf at h
  refine V_iconst C (0 : Int32) dX5_lawsOf_0 (by decide) ?_
  refine V_istore_n C [(3, .int (0 : Int32)), (0, .ref (ad 26)), (1, .int x1), (2, .int x2)] dX5_lawsOf_1 rfl (by decide) rfl ?_
  refine V_iconst C (0 : Int32) dX5_lawsOf_2 (by decide) ?_
  refine V_istore C [(4, .int (0 : Int32)), (3, .int (0 : Int32)), (0, .ref (ad 26)), (1, .int x1), (2, .int x2)] dX5_lawsOf_3 (by decide) rfl ?_
  refine V_sub (lv' := [(0, .ref (ad 26)), (1, .int x1), (2, .int x2), (3, .int (0 : Int32)), (4, .int (0 : Int32))]) [2, 3, 4, 1, 0] rfl ?_
  exact vX5_lawsOf_5 C M 1000 x1 x2 (0 : Int32) (0 : Int32) h
abbrev rmX5_laws : Room := { frames := 5, cells := 0, slots := 0, locals := 114 }
def fX5_laws (x1 : Int32) (x2 : Int32) (M : Mem) : Option (Int32 × Mem) := bW (fX5_reads M) fun z1 M2 => if (fX5_isChannel M2 x1) = true then if (fX5_in (Int32.toInt64 x2) (-1 : Int64) (35 : Int64)) = true then bP (fX5_lawsOf M2 x1 x2) fun z3 => some (z3, M2) else some ((-2 : Int32), M2) else some ((-2 : Int32), M2)
set_option maxHeartbeats 4000000 in
set_option maxRecDepth 100000 in
theorem mX5_laws (l : Launch) (x1 : Int32) (x2 : Int32) (M : Mem) {r : Int32} {M9 : Mem} (h : fX5_laws x1 x2 M = some (r, M9)) : MC l yX5_laws cX5_laws 3 (some .int) rmX5_laws (fun ad sd => [.ref (ad 26), .int x1, .int x2]) M (fun _ => some (.int r)) M9 := by
  refine MC_start (by decide) (fun ad sd => [(0, .ref (ad 26)), (1, .int x1), (2, .int x2)]) (fun _ _ => rfl) (fun _ _ => Nat.le_of_ble_eq_true rfl) ?_
  intro p e s m args below meth c D T3 ad sd A C
  unfold fX5_laws at h
  refine V_aload_n C 0 dX5_laws_0 rfl ?_
  obtain ⟨z1, M2, hz1, h⟩ := bW_t h
  refine V_callV C (st := []) (st' := [.int z1]) (mX5_reads l M hz1) wmX5_reads lkX5_116 dX5_laws_1 (wo_26 T3 ad _) rfl rfl rfl rfl rfl rfl ⟨rfl, rfl, (Nat.le_of_ble_eq_true rfl), (Nat.le_of_ble_eq_true rfl)⟩ ⟨Nat.zero_le _, Nat.zero_le _⟩ (Nat.le_of_ble_eq_true rfl) ?_
  refine V_pop C dX5_laws_4 rfl ?_
  refine V_aload_n C 0 dX5_laws_5 rfl ?_
  refine V_iload_n C 1 dX5_laws_6 rfl ?_
  refine V_callV C (st := []) (st' := [.int (b2i (fX5_isChannel M2 x1))]) (mX5_isChannel l x1 M2 rfl) wmX5_isChannel lkX5_124 dX5_laws_7 (wo_26 T3 ad _) rfl rfl rfl rfl rfl rfl ⟨rfl, rfl, (Nat.le_of_ble_eq_true rfl), (Nat.le_of_ble_eq_true rfl)⟩ ⟨Nat.zero_le _, Nat.zero_le _⟩ (Nat.le_of_ble_eq_true rfl) ?_
  refine V_ifB_eq C 36 dX5_laws_10 (by decide) (fun q5 => ?_) (fun q5 => ?_)
  · replace h := ite_n q5 h
    refine V_bipush C (-2 : Int32) dX5_laws_36 (by decide) ?_
    obtain ⟨rfl, rfl⟩ := ret_W h
    exact V_iret C dX5_laws_38
  · replace h := ite_p q5 h
    refine V_iload_n C 2 dX5_laws_13 rfl ?_
    refine V_i2l C dX5_laws_14 ?_
    refine V_ldc2 C dX5_laws_15 kcX5_179 ?_
    refine V_ldc2 C dX5_laws_18 kcX5_222 ?_
    refine V_callS C (st := []) (st' := [.int (b2i (fX5_in (Int32.toInt64 x2) (-1 : Int64) (35 : Int64)))]) (mX5_in l (Int32.toInt64 x2) (-1 : Int64) (35 : Int64) M2 rfl) wmX5_in lkX5_54 dX5_laws_21 rfl rfl rfl ⟨rfl, rfl, (Nat.le_of_ble_eq_true rfl), (Nat.le_of_ble_eq_true rfl)⟩ ⟨Nat.zero_le _, Nat.zero_le _⟩ (Nat.le_of_ble_eq_true rfl) ?_
    refine V_ifB_eq C 36 dX5_laws_24 (by decide) (fun q4 => ?_) (fun q4 => ?_)
    · replace h := ite_n q4 h
      refine V_bipush C (-2 : Int32) dX5_laws_36 (by decide) ?_
      obtain ⟨rfl, rfl⟩ := ret_W h
      exact V_iret C dX5_laws_38
    · replace h := ite_p q4 h
      refine V_aload_n C 0 dX5_laws_27 rfl ?_
      refine V_iload_n C 1 dX5_laws_28 rfl ?_
      refine V_iload_n C 2 dX5_laws_29 rfl ?_
      obtain ⟨z3, hz3, h⟩ := bP_t h
      refine V_callV C (st := []) (st' := [.int z3]) (mX5_lawsOf l x1 x2 M2 hz3) wmX5_lawsOf lkX5_224 dX5_laws_30 (wo_26 T3 ad _) rfl rfl rfl rfl rfl rfl ⟨rfl, rfl, (Nat.le_of_ble_eq_true rfl), (Nat.le_of_ble_eq_true rfl)⟩ ⟨Nat.zero_le _, Nat.zero_le _⟩ (Nat.le_of_ble_eq_true rfl) ?_
      refine V_goto C 38 dX5_laws_33 (by decide) ?_
      obtain ⟨rfl, rfl⟩ := ret_W h
      exact V_iret C dX5_laws_38
abbrev rmX5_nextOf : Room := { frames := 4, cells := 0, slots := 0, locals := 90 }
def fX5_nextOf_5 (M : Mem) : Nat → Int32 → Int32 → Int32 → Int32 → Option Int32
  | 0, _, _, _, _ => none
  | n + 1, x1, x2, x3, x4 => if (36 : Int32) ≤ x4 then some x3 else bP (fX5_fits M x1 x4) fun z1 => if z1 = true then gd (inb (((5 : Int32) * x1) + (2 : Int32)) 80) (bP (fX5_deepBy (x4 / (9 : Int32)) ((rmI x4 (9 : Int32)) + (1 : Int32)) (M 32 ((((5 : Int32) * x1) + (2 : Int32))).toNatClampNeg) x2) fun z3 => fX5_nextOf_5 M n x1 x2 (x3 ||| (shlI (1 : Int32) z3)) (x4 + 1)) else fX5_nextOf_5 M n x1 x2 (x3 ||| (0 : Int32)) (x4 + 1)
def fX5_nextOf (M : Mem) (x1 : Int32) (x2 : Int32) : Option Int32 := fX5_nextOf_5 M 1000 x1 x2 (0 : Int32) (0 : Int32)
set_option maxHeartbeats 4000000 in
set_option maxRecDepth 100000 in
theorem vX5_nextOf_5 {p : Program} {l : Launch} {e : Env} {s : State} {m : MethodId} {args : Array Value} {below : List Frame} {meth : Method} {c : Code} {D : va_G} {T3 : ClassId × ClassId × ClassId} {ad sd : Nat → Nat} {A : Nat → Prop}  (C : CX p s m args meth c cX5_nextOf 5 RX5 (some .int) D T3 ad sd A) {r : Int32} (M : Mem) : ∀ (n : Nat) (x1 : Int32) (x2 : Int32) (x3 : Int32) (x4 : Int32), fX5_nextOf_5 M n x1 x2 x3 x4 = some r → VV p l e rmX5_nextOf s m args below meth c D T3 ad A 5 0 0 (QM below D T3 ad A args s (fun _ => some (.int r)) M) M [(0, .ref (ad 26)), (1, .int x1), (2, .int x2), (3, .int x3), (4, .int x4)] 5 [] := by
  intro n
  induction n with
  | zero => intro x1 x2 x3 x4 h; exact nomatch (show (none : Option Int32) = some _ from h)
  | succ n ih =>
    intro x1 x2 x3 x4 h
    rw [fX5_nextOf_5] at h
    refine V_iload C 4 dX5_nextOf_5 rfl ?_
    refine V_bipush C (36 : Int32) dX5_nextOf_7 (by decide) ?_
    refine V_icmp_ge C 63 dX5_nextOf_9 (by decide) (fun q5 => ?_) (fun q5 => ?_)
    · replace h := ite_p q5 h
      refine V_iload_n C 3 dX5_nextOf_63 rfl ?_
      obtain rfl := ret_P h
      exact V_iret C dX5_nextOf_64
    · replace h := ite_n q5 h
      refine V_iload_n C 3 dX5_nextOf_12 rfl ?_
      refine V_aload_n C 0 dX5_nextOf_13 rfl ?_
      refine V_iload_n C 1 dX5_nextOf_14 rfl ?_
      refine V_iload C 4 dX5_nextOf_15 rfl ?_
      obtain ⟨z1, hz1, h⟩ := bP_t h
      refine V_callV C (st := [.int x3]) (st' := [.int (b2i z1), .int x3]) (mX5_fits l x1 x4 M hz1) wmX5_fits lkX5_219 dX5_nextOf_17 (wo_26 T3 ad _) rfl rfl rfl rfl rfl rfl ⟨rfl, rfl, (Nat.le_of_ble_eq_true rfl), (Nat.le_of_ble_eq_true rfl)⟩ ⟨Nat.zero_le _, Nat.zero_le _⟩ (Nat.le_of_ble_eq_true rfl) ?_
      refine V_ifB_eq C 54 dX5_nextOf_20 (by decide) (fun q4 => ?_) (fun q4 => ?_)
      · replace h := ite_n q4 h
        refine V_iconst C (0 : Int32) dX5_nextOf_54 (by decide) ?_
        refine V_ior C dX5_nextOf_55 ?_
        refine V_istore_n C [(3, .int (x3 ||| (0 : Int32))), (0, .ref (ad 26)), (1, .int x1), (2, .int x2), (4, .int x4)] dX5_nextOf_56 rfl (by decide) rfl ?_
        refine V_iinc C 4 (x4 + 1) [(4, .int (x4 + 1)), (3, .int (x3 ||| (0 : Int32))), (0, .ref (ad 26)), (1, .int x1), (2, .int x2)] dX5_nextOf_57 rfl rfl (by decide) rfl ?_
        refine V_goto C 5 dX5_nextOf_60 (by decide) ?_
        refine V_sub (lv' := [(0, .ref (ad 26)), (1, .int x1), (2, .int x2), (3, .int (x3 ||| (0 : Int32))), (4, .int (x4 + 1))]) [2, 3, 4, 1, 0] rfl ?_
        exact ih x1 x2 (x3 ||| (0 : Int32)) (x4 + 1) h
      · replace h := ite_p q4 h
        refine V_iconst C (1 : Int32) dX5_nextOf_23 (by decide) ?_
        refine V_iload C 4 dX5_nextOf_24 rfl ?_
        refine V_bipush C (9 : Int32) dX5_nextOf_26 (by decide) ?_
        refine V_idiv C dX5_nextOf_28 (by decide) ?_
        refine V_iload C 4 dX5_nextOf_29 rfl ?_
        refine V_bipush C (9 : Int32) dX5_nextOf_31 (by decide) ?_
        refine V_irem C dX5_nextOf_33 (by decide) ?_
        refine V_iconst C (1 : Int32) dX5_nextOf_34 (by decide) ?_
        refine V_iadd C dX5_nextOf_35 ?_
        refine V_aload_n C 0 dX5_nextOf_36 rfl ?_
        refine V_get C 9 dX5_nextOf_37 (wo_26 T3 ad _) rfl inKX5 (by decide) flX5_25 rfl rfl ?_
        refine V_iconst C (5 : Int32) dX5_nextOf_40 (by decide) ?_
        refine V_iload_n C 1 dX5_nextOf_41 rfl ?_
        refine V_imul C dX5_nextOf_42 ?_
        refine V_iconst C (2 : Int32) dX5_nextOf_43 (by decide) ?_
        refine V_iadd C dX5_nextOf_44 ?_
        obtain ⟨g2, h⟩ := gd_t h
        refine V_iald C rfl rfl (inb_in g2) dX5_nextOf_45 ?_
        refine V_iload_n C 2 dX5_nextOf_46 rfl ?_
        obtain ⟨z3, hz3, h⟩ := bP_t h
        refine V_callS C (st := [.int (1 : Int32), .int x3]) (st' := [.int z3, .int (1 : Int32), .int x3]) (mX5_deepBy l (x4 / (9 : Int32)) ((rmI x4 (9 : Int32)) + (1 : Int32)) (M 32 ((((5 : Int32) * x1) + (2 : Int32))).toNatClampNeg) x2 M hz3) wmX5_deepBy lkX5_140 dX5_nextOf_47 rfl rfl rfl ⟨rfl, rfl, (Nat.le_of_ble_eq_true rfl), (Nat.le_of_ble_eq_true rfl)⟩ ⟨Nat.zero_le _, Nat.zero_le _⟩ (Nat.le_of_ble_eq_true rfl) ?_
        refine V_ishl C dX5_nextOf_50 ?_
        refine V_goto C 55 dX5_nextOf_51 (by decide) ?_
        refine V_ior C dX5_nextOf_55 ?_
        refine V_istore_n C [(3, .int (x3 ||| (shlI (1 : Int32) z3))), (0, .ref (ad 26)), (1, .int x1), (2, .int x2), (4, .int x4)] dX5_nextOf_56 rfl (by decide) rfl ?_
        refine V_iinc C 4 (x4 + 1) [(4, .int (x4 + 1)), (3, .int (x3 ||| (shlI (1 : Int32) z3))), (0, .ref (ad 26)), (1, .int x1), (2, .int x2)] dX5_nextOf_57 rfl rfl (by decide) rfl ?_
        refine V_goto C 5 dX5_nextOf_60 (by decide) ?_
        refine V_sub (lv' := [(0, .ref (ad 26)), (1, .int x1), (2, .int x2), (3, .int (x3 ||| (shlI (1 : Int32) z3))), (4, .int (x4 + 1))]) [2, 3, 4, 1, 0] rfl ?_
        exact ih x1 x2 (x3 ||| (shlI (1 : Int32) z3)) (x4 + 1) h
set_option maxHeartbeats 4000000 in
set_option maxRecDepth 100000 in
theorem mX5_nextOf (l : Launch) (x1 : Int32) (x2 : Int32) (M : Mem) {r : Int32} (h : fX5_nextOf M x1 x2 = some r) : MC l yX5_nextOf cX5_nextOf 5 (some .int) rmX5_nextOf (fun ad sd => [.ref (ad 26), .int x1, .int x2]) M (fun _ => some (.int r)) M := by
  refine MC_start (by decide) (fun ad sd => [(0, .ref (ad 26)), (1, .int x1), (2, .int x2)]) (fun _ _ => rfl) (fun _ _ => Nat.le_of_ble_eq_true rfl) ?_
  intro p e s m args below meth c D T3 ad sd A C
  unfold fX5_nextOf at h
  refine V_iconst C (0 : Int32) dX5_nextOf_0 (by decide) ?_
  refine V_istore_n C [(3, .int (0 : Int32)), (0, .ref (ad 26)), (1, .int x1), (2, .int x2)] dX5_nextOf_1 rfl (by decide) rfl ?_
  refine V_iconst C (0 : Int32) dX5_nextOf_2 (by decide) ?_
  refine V_istore C [(4, .int (0 : Int32)), (3, .int (0 : Int32)), (0, .ref (ad 26)), (1, .int x1), (2, .int x2)] dX5_nextOf_3 (by decide) rfl ?_
  refine V_sub (lv' := [(0, .ref (ad 26)), (1, .int x1), (2, .int x2), (3, .int (0 : Int32)), (4, .int (0 : Int32))]) [2, 3, 4, 1, 0] rfl ?_
  exact vX5_nextOf_5 C M 1000 x1 x2 (0 : Int32) (0 : Int32) h
abbrev rmX5_next : Room := { frames := 5, cells := 0, slots := 0, locals := 114 }
def fX5_next (x1 : Int32) (x2 : Int32) (M : Mem) : Option (Int32 × Mem) := bW (fX5_reads M) fun z1 M2 => if (fX5_isChannel M2 x1) = true then if (fX5_isNight x2) = true then bP (fX5_nextOf M2 x1 x2) fun z3 => some (z3, M2) else some ((-2 : Int32), M2) else some ((-2 : Int32), M2)
set_option maxHeartbeats 4000000 in
set_option maxRecDepth 100000 in
theorem mX5_next (l : Launch) (x1 : Int32) (x2 : Int32) (M : Mem) {r : Int32} {M9 : Mem} (h : fX5_next x1 x2 M = some (r, M9)) : MC l yX5_next cX5_next 3 (some .int) rmX5_next (fun ad sd => [.ref (ad 26), .int x1, .int x2]) M (fun _ => some (.int r)) M9 := by
  refine MC_start (by decide) (fun ad sd => [(0, .ref (ad 26)), (1, .int x1), (2, .int x2)]) (fun _ _ => rfl) (fun _ _ => Nat.le_of_ble_eq_true rfl) ?_
  intro p e s m args below meth c D T3 ad sd A C
  unfold fX5_next at h
  refine V_aload_n C 0 dX5_next_0 rfl ?_
  obtain ⟨z1, M2, hz1, h⟩ := bW_t h
  refine V_callV C (st := []) (st' := [.int z1]) (mX5_reads l M hz1) wmX5_reads lkX5_116 dX5_next_1 (wo_26 T3 ad _) rfl rfl rfl rfl rfl rfl ⟨rfl, rfl, (Nat.le_of_ble_eq_true rfl), (Nat.le_of_ble_eq_true rfl)⟩ ⟨Nat.zero_le _, Nat.zero_le _⟩ (Nat.le_of_ble_eq_true rfl) ?_
  refine V_pop C dX5_next_4 rfl ?_
  refine V_aload_n C 0 dX5_next_5 rfl ?_
  refine V_iload_n C 1 dX5_next_6 rfl ?_
  refine V_callV C (st := []) (st' := [.int (b2i (fX5_isChannel M2 x1))]) (mX5_isChannel l x1 M2 rfl) wmX5_isChannel lkX5_124 dX5_next_7 (wo_26 T3 ad _) rfl rfl rfl rfl rfl rfl ⟨rfl, rfl, (Nat.le_of_ble_eq_true rfl), (Nat.le_of_ble_eq_true rfl)⟩ ⟨Nat.zero_le _, Nat.zero_le _⟩ (Nat.le_of_ble_eq_true rfl) ?_
  refine V_ifB_eq C 29 dX5_next_10 (by decide) (fun q5 => ?_) (fun q5 => ?_)
  · replace h := ite_n q5 h
    refine V_bipush C (-2 : Int32) dX5_next_29 (by decide) ?_
    obtain ⟨rfl, rfl⟩ := ret_W h
    exact V_iret C dX5_next_31
  · replace h := ite_p q5 h
    refine V_iload_n C 2 dX5_next_13 rfl ?_
    refine V_callS C (st := []) (st' := [.int (b2i (fX5_isNight x2))]) (mX5_isNight l x2 M2 rfl) wmX5_isNight lkX5_129 dX5_next_14 rfl rfl rfl ⟨rfl, rfl, (Nat.le_of_ble_eq_true rfl), (Nat.le_of_ble_eq_true rfl)⟩ ⟨Nat.zero_le _, Nat.zero_le _⟩ (Nat.le_of_ble_eq_true rfl) ?_
    refine V_ifB_eq C 29 dX5_next_17 (by decide) (fun q4 => ?_) (fun q4 => ?_)
    · replace h := ite_n q4 h
      refine V_bipush C (-2 : Int32) dX5_next_29 (by decide) ?_
      obtain ⟨rfl, rfl⟩ := ret_W h
      exact V_iret C dX5_next_31
    · replace h := ite_p q4 h
      refine V_aload_n C 0 dX5_next_20 rfl ?_
      refine V_iload_n C 1 dX5_next_21 rfl ?_
      refine V_iload_n C 2 dX5_next_22 rfl ?_
      obtain ⟨z3, hz3, h⟩ := bP_t h
      refine V_callV C (st := []) (st' := [.int z3]) (mX5_nextOf l x1 x2 M2 hz3) wmX5_nextOf lkX5_227 dX5_next_23 (wo_26 T3 ad _) rfl rfl rfl rfl rfl rfl ⟨rfl, rfl, (Nat.le_of_ble_eq_true rfl), (Nat.le_of_ble_eq_true rfl)⟩ ⟨Nat.zero_le _, Nat.zero_le _⟩ (Nat.le_of_ble_eq_true rfl) ?_
      refine V_goto C 31 dX5_next_26 (by decide) ?_
      obtain ⟨rfl, rfl⟩ := ret_W h
      exact V_iret C dX5_next_31
abbrev rmX5_mostAlike : Room := { frames := 3, cells := 0, slots := 0, locals := 65 }
def fX5_mostAlike_26 : Nat → Int32 → Int32 → Int32 → Int32 → Mem → Option (Int32 × Mem)
  | 0, _, _, _, _, _ => none
  | n + 1, x1, x2, x3, x4, M => if (36 : Int32) ≤ x4 then some (x3, M) else gd (inb x4 36) (if (M 37 (x4).toNatClampNeg) = 0 then fX5_mostAlike_26 n x1 x2 x3 (x4 + 1) M else gd (inb (((5 : Int32) * x1) + (2 : Int32)) 80) (bP (fX5_deepBy (x4 / (9 : Int32)) ((rmI x4 (9 : Int32)) + (1 : Int32)) (M 32 ((((5 : Int32) * x1) + (2 : Int32))).toNatClampNeg) x2) fun z3 => gd (inb z3 10) (gd (inb z3 10) (lt (up M 38 (z3).toNatClampNeg ((M 38 (z3).toNatClampNeg) + (1 : Int32))) fun M5 => gd (inb z3 10) (if (M5 38 (z3).toNatClampNeg) ≤ x3 then fX5_mostAlike_26 n x1 x2 x3 (x4 + 1) M5 else gd (inb z3 10) (fX5_mostAlike_26 n x1 x2 (M5 38 (z3).toNatClampNeg) (x4 + 1) M5))))))
def fX5_mostAlike_2 : Nat → Int32 → Int32 → Int32 → Mem → Option (Int32 × Mem)
  | 0, _, _, _, _ => none
  | n + 1, x1, x2, x3, M => if (10 : Int32) ≤ x3 then fX5_mostAlike_26 1000 x1 x2 (0 : Int32) (0 : Int32) M else gd (inb x3 10) (lt (up M 38 (x3).toNatClampNeg (0 : Int32)) fun M12 => fX5_mostAlike_2 n x1 x2 (x3 + 1) M12)
def fX5_mostAlike (x1 : Int32) (x2 : Int32) (M : Mem) : Option (Int32 × Mem) := fX5_mostAlike_2 1000 x1 x2 (0 : Int32) M
set_option maxHeartbeats 4000000 in
set_option maxRecDepth 100000 in
theorem vX5_mostAlike_26 {p : Program} {l : Launch} {e : Env} {s : State} {m : MethodId} {args : Array Value} {below : List Frame} {meth : Method} {c : Code} {D : va_G} {T3 : ClassId × ClassId × ClassId} {ad sd : Nat → Nat} {A : Nat → Prop}  (C : CX p s m args meth c cX5_mostAlike 6 RX5 (some .int) D T3 ad sd A) {r : Int32} {M9 : Mem} : ∀ (n : Nat) (x1 : Int32) (x2 : Int32) (x3 : Int32) (x4 : Int32) (M : Mem), fX5_mostAlike_26 n x1 x2 x3 x4 M = some (r, M9) → VV p l e rmX5_mostAlike s m args below meth c D T3 ad A 6 0 0 (QM below D T3 ad A args s (fun _ => some (.int r)) M9) M [(0, .ref (ad 26)), (1, .int x1), (2, .int x2), (3, .int x3), (4, .int x4)] 26 [] := by
  intro n
  induction n with
  | zero => intro x1 x2 x3 x4 M h; exact nomatch (show (none : Option (Int32 × Mem)) = some _ from h)
  | succ n ih =>
    intro x1 x2 x3 x4 M h
    rw [fX5_mostAlike_26] at h
    refine V_iload C 4 dX5_mostAlike_26 rfl ?_
    refine V_bipush C (36 : Int32) dX5_mostAlike_28 (by decide) ?_
    refine V_icmp_ge C 111 dX5_mostAlike_30 (by decide) (fun q11 => ?_) (fun q11 => ?_)
    · replace h := ite_p q11 h
      refine V_iload_n C 3 dX5_mostAlike_111 rfl ?_
      obtain ⟨rfl, rfl⟩ := ret_W h
      exact V_iret C dX5_mostAlike_112
    · replace h := ite_n q11 h
      refine V_aload_n C 0 dX5_mostAlike_33 rfl ?_
      refine V_get C 18 dX5_mostAlike_34 (wo_26 T3 ad _) rfl inKX5 (by decide) flX5_40 rfl rfl ?_
      refine V_iload C 4 dX5_mostAlike_37 rfl ?_
      obtain ⟨g1, h⟩ := gd_t h
      refine V_zald C (inb_in g1) dX5_mostAlike_39 ?_
      refine V_if_eq C 105 dX5_mostAlike_40 (by decide) (fun q10 => ?_) (fun q10 => ?_)
      · replace h := ite_p q10 h
        refine V_iinc C 4 (x4 + 1) [(4, .int (x4 + 1)), (0, .ref (ad 26)), (1, .int x1), (2, .int x2), (3, .int x3)] dX5_mostAlike_105 rfl rfl (by decide) rfl ?_
        refine V_goto C 26 dX5_mostAlike_108 (by decide) ?_
        refine V_sub (lv' := [(0, .ref (ad 26)), (1, .int x1), (2, .int x2), (3, .int x3), (4, .int (x4 + 1))]) [1, 2, 3, 4, 0] rfl ?_
        exact ih x1 x2 x3 (x4 + 1) M h
      · replace h := ite_n q10 h
        refine V_iload C 4 dX5_mostAlike_43 rfl ?_
        refine V_bipush C (9 : Int32) dX5_mostAlike_45 (by decide) ?_
        refine V_idiv C dX5_mostAlike_47 (by decide) ?_
        refine V_iload C 4 dX5_mostAlike_48 rfl ?_
        refine V_bipush C (9 : Int32) dX5_mostAlike_50 (by decide) ?_
        refine V_irem C dX5_mostAlike_52 (by decide) ?_
        refine V_iconst C (1 : Int32) dX5_mostAlike_53 (by decide) ?_
        refine V_iadd C dX5_mostAlike_54 ?_
        refine V_aload_n C 0 dX5_mostAlike_55 rfl ?_
        refine V_get C 9 dX5_mostAlike_56 (wo_26 T3 ad _) rfl inKX5 (by decide) flX5_25 rfl rfl ?_
        refine V_iconst C (5 : Int32) dX5_mostAlike_59 (by decide) ?_
        refine V_iload_n C 1 dX5_mostAlike_60 rfl ?_
        refine V_imul C dX5_mostAlike_61 ?_
        refine V_iconst C (2 : Int32) dX5_mostAlike_62 (by decide) ?_
        refine V_iadd C dX5_mostAlike_63 ?_
        obtain ⟨g2, h⟩ := gd_t h
        refine V_iald C rfl rfl (inb_in g2) dX5_mostAlike_64 ?_
        refine V_iload_n C 2 dX5_mostAlike_65 rfl ?_
        obtain ⟨z3, hz3, h⟩ := bP_t h
        refine V_callS C (st := []) (st' := [.int z3]) (mX5_deepBy l (x4 / (9 : Int32)) ((rmI x4 (9 : Int32)) + (1 : Int32)) (M 32 ((((5 : Int32) * x1) + (2 : Int32))).toNatClampNeg) x2 M hz3) wmX5_deepBy lkX5_140 dX5_mostAlike_66 rfl rfl rfl ⟨rfl, rfl, (Nat.le_of_ble_eq_true rfl), (Nat.le_of_ble_eq_true rfl)⟩ ⟨Nat.zero_le _, Nat.zero_le _⟩ (Nat.le_of_ble_eq_true rfl) ?_
        refine V_istore C [(5, .int z3), (0, .ref (ad 26)), (1, .int x1), (2, .int x2), (3, .int x3), (4, .int x4)] dX5_mostAlike_69 (by decide) rfl ?_
        refine V_aload_n C 1 dX5_mostAlike_71 rfl ?_
        refine V_get C 19 dX5_mostAlike_72 (wo_26 T3 ad _) rfl inKX5 (by decide) flX5_44 rfl rfl ?_
        refine V_iload C 0 dX5_mostAlike_75 rfl ?_
        refine V_dup2 C dX5_mostAlike_77 rfl rfl ?_
        obtain ⟨g4, h⟩ := gd_t h
        refine V_iald C rfl rfl (inb_in g4) dX5_mostAlike_78 ?_
        refine V_iconst C (1 : Int32) dX5_mostAlike_79 (by decide) ?_
        refine V_iadd C dX5_mostAlike_80 ?_
        obtain ⟨g6, h⟩ := gd_t h
        obtain ⟨M5, hM5, h⟩ := lt_t h
        refine V_iast C M5 rfl rfl (inb_in g6) dX5_mostAlike_81 hM5 ?_
        refine V_aload_n C 1 dX5_mostAlike_82 rfl ?_
        refine V_get C 19 dX5_mostAlike_83 (wo_26 T3 ad _) rfl inKX5 (by decide) flX5_44 rfl rfl ?_
        refine V_iload C 0 dX5_mostAlike_86 rfl ?_
        obtain ⟨g7, h⟩ := gd_t h
        refine V_iald C rfl rfl (inb_in g7) dX5_mostAlike_88 ?_
        refine V_iload_n C 4 dX5_mostAlike_89 rfl ?_
        refine V_icmp_le C 103 dX5_mostAlike_90 (by decide) (fun q9 => ?_) (fun q9 => ?_)
        · replace h := ite_p q9 h
          refine V_iload_n C 4 dX5_mostAlike_103 rfl ?_
          refine V_istore_n C [(3, .int x3), (5, .int z3), (0, .ref (ad 26)), (1, .int x1), (2, .int x2), (4, .int x4)] dX5_mostAlike_104 rfl (by decide) rfl ?_
          refine V_iinc C 5 (x4 + 1) [(4, .int (x4 + 1)), (3, .int x3), (5, .int z3), (0, .ref (ad 26)), (1, .int x1), (2, .int x2)] dX5_mostAlike_105 rfl rfl (by decide) rfl ?_
          refine V_goto C 26 dX5_mostAlike_108 (by decide) ?_
          refine V_sub (lv' := [(0, .ref (ad 26)), (1, .int x1), (2, .int x2), (3, .int x3), (4, .int (x4 + 1))]) [3, 4, 5, 1, 0] rfl ?_
          exact ih x1 x2 x3 (x4 + 1) M5 h
        · replace h := ite_n q9 h
          refine V_aload_n C 1 dX5_mostAlike_93 rfl ?_
          refine V_get C 19 dX5_mostAlike_94 (wo_26 T3 ad _) rfl inKX5 (by decide) flX5_44 rfl rfl ?_
          refine V_iload C 0 dX5_mostAlike_97 rfl ?_
          obtain ⟨g8, h⟩ := gd_t h
          refine V_iald C rfl rfl (inb_in g8) dX5_mostAlike_99 ?_
          refine V_goto C 104 dX5_mostAlike_100 (by decide) ?_
          refine V_istore_n C [(3, .int (M5 38 (z3).toNatClampNeg)), (5, .int z3), (0, .ref (ad 26)), (1, .int x1), (2, .int x2), (4, .int x4)] dX5_mostAlike_104 rfl (by decide) rfl ?_
          refine V_iinc C 5 (x4 + 1) [(4, .int (x4 + 1)), (3, .int (M5 38 (z3).toNatClampNeg)), (5, .int z3), (0, .ref (ad 26)), (1, .int x1), (2, .int x2)] dX5_mostAlike_105 rfl rfl (by decide) rfl ?_
          refine V_goto C 26 dX5_mostAlike_108 (by decide) ?_
          refine V_sub (lv' := [(0, .ref (ad 26)), (1, .int x1), (2, .int x2), (3, .int (M5 38 (z3).toNatClampNeg)), (4, .int (x4 + 1))]) [3, 4, 5, 1, 0] rfl ?_
          exact ih x1 x2 (M5 38 (z3).toNatClampNeg) (x4 + 1) M5 h
set_option maxHeartbeats 4000000 in
set_option maxRecDepth 100000 in
theorem vX5_mostAlike_2 {p : Program} {l : Launch} {e : Env} {s : State} {m : MethodId} {args : Array Value} {below : List Frame} {meth : Method} {c : Code} {D : va_G} {T3 : ClassId × ClassId × ClassId} {ad sd : Nat → Nat} {A : Nat → Prop}  (C : CX p s m args meth c cX5_mostAlike 6 RX5 (some .int) D T3 ad sd A) {r : Int32} {M9 : Mem} : ∀ (n : Nat) (x1 : Int32) (x2 : Int32) (x3 : Int32) (M : Mem), fX5_mostAlike_2 n x1 x2 x3 M = some (r, M9) → VV p l e rmX5_mostAlike s m args below meth c D T3 ad A 6 0 0 (QM below D T3 ad A args s (fun _ => some (.int r)) M9) M [(0, .ref (ad 26)), (1, .int x1), (2, .int x2), (3, .int x3)] 2 [] := by
  intro n
  induction n with
  | zero => intro x1 x2 x3 M h; exact nomatch (show (none : Option (Int32 × Mem)) = some _ from h)
  | succ n ih =>
    intro x1 x2 x3 M h
    rw [fX5_mostAlike_2] at h
    refine V_iload_n C 3 dX5_mostAlike_2 rfl ?_
    refine V_bipush C (10 : Int32) dX5_mostAlike_3 (by decide) ?_
    refine V_icmp_ge C 21 dX5_mostAlike_5 (by decide) (fun q14 => ?_) (fun q14 => ?_)
    · replace h := ite_p q14 h
      refine V_iconst C (0 : Int32) dX5_mostAlike_21 (by decide) ?_
      refine V_istore_n C [(3, .int (0 : Int32)), (0, .ref (ad 26)), (1, .int x1), (2, .int x2)] dX5_mostAlike_22 rfl (by decide) rfl ?_
      refine V_iconst C (0 : Int32) dX5_mostAlike_23 (by decide) ?_
      refine V_istore C [(4, .int (0 : Int32)), (3, .int (0 : Int32)), (0, .ref (ad 26)), (1, .int x1), (2, .int x2)] dX5_mostAlike_24 (by decide) rfl ?_
      refine V_sub (lv' := [(0, .ref (ad 26)), (1, .int x1), (2, .int x2), (3, .int (0 : Int32)), (4, .int (0 : Int32))]) [2, 3, 4, 1, 0] rfl ?_
      exact vX5_mostAlike_26 C 1000 x1 x2 (0 : Int32) (0 : Int32) M h
    · replace h := ite_n q14 h
      refine V_aload_n C 0 dX5_mostAlike_8 rfl ?_
      refine V_get C 19 dX5_mostAlike_9 (wo_26 T3 ad _) rfl inKX5 (by decide) flX5_44 rfl rfl ?_
      refine V_iload_n C 3 dX5_mostAlike_12 rfl ?_
      refine V_iconst C (0 : Int32) dX5_mostAlike_13 (by decide) ?_
      obtain ⟨g13, h⟩ := gd_t h
      obtain ⟨M12, hM12, h⟩ := lt_t h
      refine V_iast C M12 rfl rfl (inb_in g13) dX5_mostAlike_14 hM12 ?_
      refine V_iinc C 3 (x3 + 1) [(3, .int (x3 + 1)), (0, .ref (ad 26)), (1, .int x1), (2, .int x2)] dX5_mostAlike_15 rfl rfl (by decide) rfl ?_
      refine V_goto C 2 dX5_mostAlike_18 (by decide) ?_
      refine V_sub (lv' := [(0, .ref (ad 26)), (1, .int x1), (2, .int x2), (3, .int (x3 + 1))]) [1, 2, 3, 0] rfl ?_
      exact ih x1 x2 (x3 + 1) M12 h
set_option maxHeartbeats 4000000 in
set_option maxRecDepth 100000 in
theorem mX5_mostAlike (l : Launch) (x1 : Int32) (x2 : Int32) (M : Mem) {r : Int32} {M9 : Mem} (h : fX5_mostAlike x1 x2 M = some (r, M9)) : MC l yX5_mostAlike cX5_mostAlike 6 (some .int) rmX5_mostAlike (fun ad sd => [.ref (ad 26), .int x1, .int x2]) M (fun _ => some (.int r)) M9 := by
  refine MC_start (by decide) (fun ad sd => [(0, .ref (ad 26)), (1, .int x1), (2, .int x2)]) (fun _ _ => rfl) (fun _ _ => Nat.le_of_ble_eq_true rfl) ?_
  intro p e s m args below meth c D T3 ad sd A C
  unfold fX5_mostAlike at h
  refine V_iconst C (0 : Int32) dX5_mostAlike_0 (by decide) ?_
  refine V_istore_n C [(3, .int (0 : Int32)), (0, .ref (ad 26)), (1, .int x1), (2, .int x2)] dX5_mostAlike_1 rfl (by decide) rfl ?_
  refine V_sub (lv' := [(0, .ref (ad 26)), (1, .int x1), (2, .int x2), (3, .int (0 : Int32))]) [1, 2, 3, 0] rfl ?_
  exact vX5_mostAlike_2 C 1000 x1 x2 (0 : Int32) M h
abbrev rmX5_tellsNight : Room := { frames := 4, cells := 0, slots := 0, locals := 90 }
def fX5_tellsNight_79 (kk41 : Int32 → Int32 → Int32 → Int32 → Int32 → Mem → Option (Int32 × Mem)) (x1 : Int32) (x2 : Int32) (x4 : Int32) (x5 : Int32) (x6 : Int32) (t0 : Int32) (M : Mem) : Option (Int32 × Mem) := kk41 x1 x2 t0 (fX5_lesser x6 x4) (x5 + 1) M
def fX5_tellsNight_41 : Nat → Int32 → Int32 → Int32 → Int32 → Int32 → Mem → Option (Int32 × Mem)
  | 0, _, _, _, _, _, _ => none
  | n + 1, x1, x2, x3, x4, x5, M => if (x2 + (20 : Int32)) ≤ x5 then some (x3, M) else if (100 : Int32) ≤ x5 then some (x3, M) else bW (fX5_mostAlike x1 x5 M) fun z3 M4 => if x4 ≤ z3 then fX5_tellsNight_79 (fX5_tellsNight_41 n) x1 x2 x4 x5 z3 x3 M4 else fX5_tellsNight_79 (fX5_tellsNight_41 n) x1 x2 x4 x5 z3 x5 M4
def fX5_tellsNight_2 : Nat → Int32 → Int32 → Int32 → Mem → Option (Int32 × Mem)
  | 0, _, _, _, _ => none
  | n + 1, x1, x2, x3, M => if (36 : Int32) ≤ x3 then bW (fX5_mostAlike x1 x2 M) fun z1 M2 => fX5_tellsNight_41 1000 x1 x2 x2 z1 (x2 + (1 : Int32)) M2 else bP (fX5_fits M x1 x3) fun z8 => gd (inb x3 36) (lt (up M 37 (x3).toNatClampNeg (b2i z8)) fun M9 => fX5_tellsNight_2 n x1 x2 (x3 + 1) M9)
def fX5_tellsNight (x1 : Int32) (x2 : Int32) (M : Mem) : Option (Int32 × Mem) := fX5_tellsNight_2 1000 x1 x2 (0 : Int32) M
set_option maxHeartbeats 4000000 in
set_option maxRecDepth 100000 in
theorem vX5_tellsNight_79 {p : Program} {l : Launch} {e : Env} {s : State} {m : MethodId} {args : Array Value} {below : List Frame} {meth : Method} {c : Code} {D : va_G} {T3 : ClassId × ClassId × ClassId} {ad sd : Nat → Nat} {A : Nat → Prop}  (C : CX p s m args meth c cX5_tellsNight 7 RX5 (some .int) D T3 ad sd A) {r : Int32} {M9 : Mem} (kk41 : Int32 → Int32 → Int32 → Int32 → Int32 → Mem → Option (Int32 × Mem)) (hk41 : ∀ (x1 : Int32) (x2 : Int32) (x3 : Int32) (x4 : Int32) (x5 : Int32) (M : Mem), kk41 x1 x2 x3 x4 x5 M = some (r, M9) → VV p l e rmX5_tellsNight s m args below meth c D T3 ad A 7 0 0 (QM below D T3 ad A args s (fun _ => some (.int r)) M9) M [(0, .ref (ad 26)), (1, .int x1), (2, .int x2), (3, .int x3), (4, .int x4), (5, .int x5)] 41 []) : ∀ (x1 : Int32) (x2 : Int32) (x4 : Int32) (x5 : Int32) (x6 : Int32) (t0 : Int32) (M : Mem), fX5_tellsNight_79 kk41 x1 x2 x4 x5 x6 t0 M = some (r, M9) → VV p l e rmX5_tellsNight s m args below meth c D T3 ad A 7 0 0 (QM below D T3 ad A args s (fun _ => some (.int r)) M9) M [(0, .ref (ad 26)), (1, .int x1), (2, .int x2), (4, .int x4), (5, .int x5), (6, .int x6)] 79 [.int t0] := by
  intro x1 x2 x4 x5 x6 t0 M h
  unfold fX5_tellsNight_79 at h
  refine V_istore_n C [(3, .int t0), (0, .ref (ad 26)), (1, .int x1), (2, .int x2), (4, .int x4), (5, .int x5), (6, .int x6)] dX5_tellsNight_79 rfl (by decide) rfl ?_
  refine V_iload C 6 dX5_tellsNight_80 rfl ?_
  refine V_iload C 4 dX5_tellsNight_82 rfl ?_
  refine V_callS C (st := []) (st' := [.int (fX5_lesser x6 x4)]) (mX5_lesser l x6 x4 M rfl) wmX5_lesser lkX5_58 dX5_tellsNight_84 rfl rfl rfl ⟨rfl, rfl, (Nat.le_of_ble_eq_true rfl), (Nat.le_of_ble_eq_true rfl)⟩ ⟨Nat.zero_le _, Nat.zero_le _⟩ (Nat.le_of_ble_eq_true rfl) ?_
  refine V_istore C [(4, .int (fX5_lesser x6 x4)), (3, .int t0), (0, .ref (ad 26)), (1, .int x1), (2, .int x2), (5, .int x5), (6, .int x6)] dX5_tellsNight_87 (by decide) rfl ?_
  refine V_iinc C 5 (x5 + 1) [(5, .int (x5 + 1)), (4, .int (fX5_lesser x6 x4)), (3, .int t0), (0, .ref (ad 26)), (1, .int x1), (2, .int x2), (6, .int x6)] dX5_tellsNight_89 rfl rfl (by decide) rfl ?_
  refine V_goto C 41 dX5_tellsNight_92 (by decide) ?_
  refine V_sub (lv' := [(0, .ref (ad 26)), (1, .int x1), (2, .int x2), (3, .int t0), (4, .int (fX5_lesser x6 x4)), (5, .int (x5 + 1))]) [3, 4, 5, 2, 1, 0] rfl ?_
  exact hk41 x1 x2 t0 (fX5_lesser x6 x4) (x5 + 1) M h
set_option maxHeartbeats 4000000 in
set_option maxRecDepth 100000 in
theorem vX5_tellsNight_41 {p : Program} {l : Launch} {e : Env} {s : State} {m : MethodId} {args : Array Value} {below : List Frame} {meth : Method} {c : Code} {D : va_G} {T3 : ClassId × ClassId × ClassId} {ad sd : Nat → Nat} {A : Nat → Prop}  (C : CX p s m args meth c cX5_tellsNight 7 RX5 (some .int) D T3 ad sd A) {r : Int32} {M9 : Mem} : ∀ (n : Nat) (x1 : Int32) (x2 : Int32) (x3 : Int32) (x4 : Int32) (x5 : Int32) (M : Mem), fX5_tellsNight_41 n x1 x2 x3 x4 x5 M = some (r, M9) → VV p l e rmX5_tellsNight s m args below meth c D T3 ad A 7 0 0 (QM below D T3 ad A args s (fun _ => some (.int r)) M9) M [(0, .ref (ad 26)), (1, .int x1), (2, .int x2), (3, .int x3), (4, .int x4), (5, .int x5)] 41 [] := by
  intro n
  induction n with
  | zero => intro x1 x2 x3 x4 x5 M h; exact nomatch (show (none : Option (Int32 × Mem)) = some _ from h)
  | succ n ih =>
    intro x1 x2 x3 x4 x5 M h
    rw [fX5_tellsNight_41] at h
    refine V_iload C 5 dX5_tellsNight_41 rfl ?_
    refine V_iload_n C 2 dX5_tellsNight_43 rfl ?_
    refine V_bipush C (20 : Int32) dX5_tellsNight_44 (by decide) ?_
    refine V_iadd C dX5_tellsNight_46 ?_
    refine V_icmp_ge C 95 dX5_tellsNight_47 (by decide) (fun q7 => ?_) (fun q7 => ?_)
    · replace h := ite_p q7 h
      refine V_iload_n C 3 dX5_tellsNight_95 rfl ?_
      obtain ⟨rfl, rfl⟩ := ret_W h
      exact V_iret C dX5_tellsNight_96
    · replace h := ite_n q7 h
      refine V_iload C 5 dX5_tellsNight_50 rfl ?_
      refine V_bipush C (100 : Int32) dX5_tellsNight_52 (by decide) ?_
      refine V_icmp_ge C 95 dX5_tellsNight_54 (by decide) (fun q6 => ?_) (fun q6 => ?_)
      · replace h := ite_p q6 h
        refine V_iload_n C 3 dX5_tellsNight_95 rfl ?_
        obtain ⟨rfl, rfl⟩ := ret_W h
        exact V_iret C dX5_tellsNight_96
      · replace h := ite_n q6 h
        refine V_aload_n C 0 dX5_tellsNight_57 rfl ?_
        refine V_iload_n C 1 dX5_tellsNight_58 rfl ?_
        refine V_iload C 5 dX5_tellsNight_59 rfl ?_
        obtain ⟨z3, M4, hz3, h⟩ := bW_t h
        refine V_callV C (st := []) (st' := [.int z3]) (mX5_mostAlike l x1 x5 M hz3) wmX5_mostAlike lkX5_230 dX5_tellsNight_61 (wo_26 T3 ad _) rfl rfl rfl rfl rfl rfl ⟨rfl, rfl, (Nat.le_of_ble_eq_true rfl), (Nat.le_of_ble_eq_true rfl)⟩ ⟨Nat.zero_le _, Nat.zero_le _⟩ (Nat.le_of_ble_eq_true rfl) ?_
        refine V_istore C [(6, .int z3), (0, .ref (ad 26)), (1, .int x1), (2, .int x2), (3, .int x3), (4, .int x4), (5, .int x5)] dX5_tellsNight_64 (by decide) rfl ?_
        refine V_iload C 0 dX5_tellsNight_66 rfl ?_
        refine V_iload C 5 dX5_tellsNight_68 rfl ?_
        refine V_icmp_ge C 78 dX5_tellsNight_70 (by decide) (fun q5 => ?_) (fun q5 => ?_)
        · replace h := ite_p q5 h
          refine V_iload_n C 4 dX5_tellsNight_78 rfl ?_
          refine V_sub (lv' := [(0, .ref (ad 26)), (1, .int x1), (2, .int x2), (4, .int x4), (5, .int x5), (6, .int z3)]) [1, 2, 3, 5, 6, 0] rfl ?_
          exact vX5_tellsNight_79 C (fX5_tellsNight_41 n) ih x1 x2 x4 x5 z3 x3 M4 h
        · replace h := ite_n q5 h
          refine V_iload C 6 dX5_tellsNight_73 rfl ?_
          refine V_goto C 79 dX5_tellsNight_75 (by decide) ?_
          refine V_sub (lv' := [(0, .ref (ad 26)), (1, .int x1), (2, .int x2), (4, .int x4), (5, .int x5), (6, .int z3)]) [1, 2, 3, 5, 6, 0] rfl ?_
          exact vX5_tellsNight_79 C (fX5_tellsNight_41 n) ih x1 x2 x4 x5 z3 x5 M4 h
set_option maxHeartbeats 4000000 in
set_option maxRecDepth 100000 in
theorem vX5_tellsNight_2 {p : Program} {l : Launch} {e : Env} {s : State} {m : MethodId} {args : Array Value} {below : List Frame} {meth : Method} {c : Code} {D : va_G} {T3 : ClassId × ClassId × ClassId} {ad sd : Nat → Nat} {A : Nat → Prop}  (C : CX p s m args meth c cX5_tellsNight 7 RX5 (some .int) D T3 ad sd A) {r : Int32} {M9 : Mem} : ∀ (n : Nat) (x1 : Int32) (x2 : Int32) (x3 : Int32) (M : Mem), fX5_tellsNight_2 n x1 x2 x3 M = some (r, M9) → VV p l e rmX5_tellsNight s m args below meth c D T3 ad A 7 0 0 (QM below D T3 ad A args s (fun _ => some (.int r)) M9) M [(0, .ref (ad 26)), (1, .int x1), (2, .int x2), (3, .int x3)] 2 [] := by
  intro n
  induction n with
  | zero => intro x1 x2 x3 M h; exact nomatch (show (none : Option (Int32 × Mem)) = some _ from h)
  | succ n ih =>
    intro x1 x2 x3 M h
    rw [fX5_tellsNight_2] at h
    refine V_iload_n C 3 dX5_tellsNight_2 rfl ?_
    refine V_bipush C (36 : Int32) dX5_tellsNight_3 (by decide) ?_
    refine V_icmp_ge C 26 dX5_tellsNight_5 (by decide) (fun q11 => ?_) (fun q11 => ?_)
    · replace h := ite_p q11 h
      refine V_iload_n C 2 dX5_tellsNight_26 rfl ?_
      refine V_istore_n C [(3, .int x2), (0, .ref (ad 26)), (1, .int x1), (2, .int x2)] dX5_tellsNight_27 rfl (by decide) rfl ?_
      refine V_aload_n C 1 dX5_tellsNight_28 rfl ?_
      refine V_iload_n C 2 dX5_tellsNight_29 rfl ?_
      refine V_iload_n C 3 dX5_tellsNight_30 rfl ?_
      obtain ⟨z1, M2, hz1, h⟩ := bW_t h
      refine V_callV C (st := []) (st' := [.int z1]) (mX5_mostAlike l x1 x2 M hz1) wmX5_mostAlike lkX5_230 dX5_tellsNight_31 (wo_26 T3 ad _) rfl rfl rfl rfl rfl rfl ⟨rfl, rfl, (Nat.le_of_ble_eq_true rfl), (Nat.le_of_ble_eq_true rfl)⟩ ⟨Nat.zero_le _, Nat.zero_le _⟩ (Nat.le_of_ble_eq_true rfl) ?_
      refine V_istore C [(4, .int z1), (3, .int x2), (0, .ref (ad 26)), (1, .int x1), (2, .int x2)] dX5_tellsNight_34 (by decide) rfl ?_
      refine V_iload_n C 4 dX5_tellsNight_36 rfl ?_
      refine V_iconst C (1 : Int32) dX5_tellsNight_37 (by decide) ?_
      refine V_iadd C dX5_tellsNight_38 ?_
      refine V_istore C [(5, .int (x2 + (1 : Int32))), (4, .int z1), (3, .int x2), (0, .ref (ad 26)), (1, .int x1), (2, .int x2)] dX5_tellsNight_39 (by decide) rfl ?_
      refine V_sub (lv' := [(0, .ref (ad 26)), (1, .int x1), (2, .int x2), (3, .int x2), (4, .int z1), (5, .int (x2 + (1 : Int32)))]) [3, 4, 5, 2, 1, 0] rfl ?_
      exact vX5_tellsNight_41 C 1000 x1 x2 x2 z1 (x2 + (1 : Int32)) M2 h
    · replace h := ite_n q11 h
      refine V_aload_n C 0 dX5_tellsNight_8 rfl ?_
      refine V_get C 18 dX5_tellsNight_9 (wo_26 T3 ad _) rfl inKX5 (by decide) flX5_40 rfl rfl ?_
      refine V_iload_n C 3 dX5_tellsNight_12 rfl ?_
      refine V_aload_n C 0 dX5_tellsNight_13 rfl ?_
      refine V_iload_n C 1 dX5_tellsNight_14 rfl ?_
      refine V_iload_n C 3 dX5_tellsNight_15 rfl ?_
      obtain ⟨z8, hz8, h⟩ := bP_t h
      refine V_callV C (st := [.int x3, .ref (ad 37)]) (st' := [.int (b2i z8), .int x3, .ref (ad 37)]) (mX5_fits l x1 x3 M hz8) wmX5_fits lkX5_219 dX5_tellsNight_16 (wo_26 T3 ad _) rfl rfl rfl rfl rfl rfl ⟨rfl, rfl, (Nat.le_of_ble_eq_true rfl), (Nat.le_of_ble_eq_true rfl)⟩ ⟨Nat.zero_le _, Nat.zero_le _⟩ (Nat.le_of_ble_eq_true rfl) ?_
      obtain ⟨g10, h⟩ := gd_t h
      obtain ⟨M9, hM9, h⟩ := lt_t h
      refine V_zast C M9 (inb_in g10) dX5_tellsNight_19 hM9 ?_
      refine V_iinc C 3 (x3 + 1) [(3, .int (x3 + 1)), (0, .ref (ad 26)), (1, .int x1), (2, .int x2)] dX5_tellsNight_20 rfl rfl (by decide) rfl ?_
      refine V_goto C 2 dX5_tellsNight_23 (by decide) ?_
      refine V_sub (lv' := [(0, .ref (ad 26)), (1, .int x1), (2, .int x2), (3, .int (x3 + 1))]) [1, 2, 3, 0] rfl ?_
      exact ih x1 x2 (x3 + 1) M9 h
set_option maxHeartbeats 4000000 in
set_option maxRecDepth 100000 in
theorem mX5_tellsNight (l : Launch) (x1 : Int32) (x2 : Int32) (M : Mem) {r : Int32} {M9 : Mem} (h : fX5_tellsNight x1 x2 M = some (r, M9)) : MC l yX5_tellsNight cX5_tellsNight 7 (some .int) rmX5_tellsNight (fun ad sd => [.ref (ad 26), .int x1, .int x2]) M (fun _ => some (.int r)) M9 := by
  refine MC_start (by decide) (fun ad sd => [(0, .ref (ad 26)), (1, .int x1), (2, .int x2)]) (fun _ _ => rfl) (fun _ _ => Nat.le_of_ble_eq_true rfl) ?_
  intro p e s m args below meth c D T3 ad sd A C
  unfold fX5_tellsNight at h
  refine V_iconst C (0 : Int32) dX5_tellsNight_0 (by decide) ?_
  refine V_istore_n C [(3, .int (0 : Int32)), (0, .ref (ad 26)), (1, .int x1), (2, .int x2)] dX5_tellsNight_1 rfl (by decide) rfl ?_
  refine V_sub (lv' := [(0, .ref (ad 26)), (1, .int x1), (2, .int x2), (3, .int (0 : Int32))]) [1, 2, 3, 0] rfl ?_
  exact vX5_tellsNight_2 C 1000 x1 x2 (0 : Int32) M h
abbrev rmX5_tells : Room := { frames := 5, cells := 0, slots := 0, locals := 116 }
def fX5_tells (x1 : Int32) (x2 : Int32) (M : Mem) : Option (Int32 × Mem) := bW (fX5_reads M) fun z1 M2 => if (fX5_isChannel M2 x1) = true then if (fX5_isNight x2) = true then bW (fX5_tellsNight x1 x2 M2) fun z3 M4 => some (z3, M4) else some ((-2 : Int32), M2) else some ((-2 : Int32), M2)
set_option maxHeartbeats 4000000 in
set_option maxRecDepth 100000 in
theorem mX5_tells (l : Launch) (x1 : Int32) (x2 : Int32) (M : Mem) {r : Int32} {M9 : Mem} (h : fX5_tells x1 x2 M = some (r, M9)) : MC l yX5_tells cX5_tells 3 (some .int) rmX5_tells (fun ad sd => [.ref (ad 26), .int x1, .int x2]) M (fun _ => some (.int r)) M9 := by
  refine MC_start (by decide) (fun ad sd => [(0, .ref (ad 26)), (1, .int x1), (2, .int x2)]) (fun _ _ => rfl) (fun _ _ => Nat.le_of_ble_eq_true rfl) ?_
  intro p e s m args below meth c D T3 ad sd A C
  unfold fX5_tells at h
  refine V_aload_n C 0 dX5_tells_0 rfl ?_
  obtain ⟨z1, M2, hz1, h⟩ := bW_t h
  refine V_callV C (st := []) (st' := [.int z1]) (mX5_reads l M hz1) wmX5_reads lkX5_116 dX5_tells_1 (wo_26 T3 ad _) rfl rfl rfl rfl rfl rfl ⟨rfl, rfl, (Nat.le_of_ble_eq_true rfl), (Nat.le_of_ble_eq_true rfl)⟩ ⟨Nat.zero_le _, Nat.zero_le _⟩ (Nat.le_of_ble_eq_true rfl) ?_
  refine V_pop C dX5_tells_4 rfl ?_
  refine V_aload_n C 0 dX5_tells_5 rfl ?_
  refine V_iload_n C 1 dX5_tells_6 rfl ?_
  refine V_callV C (st := []) (st' := [.int (b2i (fX5_isChannel M2 x1))]) (mX5_isChannel l x1 M2 rfl) wmX5_isChannel lkX5_124 dX5_tells_7 (wo_26 T3 ad _) rfl rfl rfl rfl rfl rfl ⟨rfl, rfl, (Nat.le_of_ble_eq_true rfl), (Nat.le_of_ble_eq_true rfl)⟩ ⟨Nat.zero_le _, Nat.zero_le _⟩ (Nat.le_of_ble_eq_true rfl) ?_
  refine V_ifB_eq C 29 dX5_tells_10 (by decide) (fun q6 => ?_) (fun q6 => ?_)
  · replace h := ite_n q6 h
    refine V_bipush C (-2 : Int32) dX5_tells_29 (by decide) ?_
    obtain ⟨rfl, rfl⟩ := ret_W h
    exact V_iret C dX5_tells_31
  · replace h := ite_p q6 h
    refine V_iload_n C 2 dX5_tells_13 rfl ?_
    refine V_callS C (st := []) (st' := [.int (b2i (fX5_isNight x2))]) (mX5_isNight l x2 M2 rfl) wmX5_isNight lkX5_129 dX5_tells_14 rfl rfl rfl ⟨rfl, rfl, (Nat.le_of_ble_eq_true rfl), (Nat.le_of_ble_eq_true rfl)⟩ ⟨Nat.zero_le _, Nat.zero_le _⟩ (Nat.le_of_ble_eq_true rfl) ?_
    refine V_ifB_eq C 29 dX5_tells_17 (by decide) (fun q5 => ?_) (fun q5 => ?_)
    · replace h := ite_n q5 h
      refine V_bipush C (-2 : Int32) dX5_tells_29 (by decide) ?_
      obtain ⟨rfl, rfl⟩ := ret_W h
      exact V_iret C dX5_tells_31
    · replace h := ite_p q5 h
      refine V_aload_n C 0 dX5_tells_20 rfl ?_
      refine V_iload_n C 1 dX5_tells_21 rfl ?_
      refine V_iload_n C 2 dX5_tells_22 rfl ?_
      obtain ⟨z3, M4, hz3, h⟩ := bW_t h
      refine V_callV C (st := []) (st' := [.int z3]) (mX5_tellsNight l x1 x2 M2 hz3) wmX5_tellsNight lkX5_233 dX5_tells_23 (wo_26 T3 ad _) rfl rfl rfl rfl rfl rfl ⟨rfl, rfl, (Nat.le_of_ble_eq_true rfl), (Nat.le_of_ble_eq_true rfl)⟩ ⟨Nat.zero_le _, Nat.zero_le _⟩ (Nat.le_of_ble_eq_true rfl) ?_
      refine V_goto C 31 dX5_tells_26 (by decide) ?_
      obtain ⟨rfl, rfl⟩ := ret_W h
      exact V_iret C dX5_tells_31
abbrev rmX5_wreckOf : Room := { frames := 7, cells := 0, slots := 0, locals := 159 }
def fX5_wreckOf_14 : Nat → Int32 → Int32 → Int32 → Int32 → Int32 → Int32 → Mem → Option (Int32 × Mem)
  | 0, _, _, _, _, _, _, _ => none
  | n + 1, x1, x2, x3, x4, x5, x6, M => if (31 : Int32) ≤ x6 then some (x5, M) else if x3 < x6 then some (x5, M) else bP (fX5_mapped M x1 (x3 - x6)) fun z2 => bW (fX5_goes z2 x4 M) fun z3 M4 => if z3 = x2 then fX5_wreckOf_14 n x1 x2 x3 x4 (x5 ||| (shlI (1 : Int32) x6)) (x6 + 1) M4 else fX5_wreckOf_14 n x1 x2 x3 x4 (x5 ||| (0 : Int32)) (x6 + 1) M4
def fX5_wreckOf (x1 : Int32) (x2 : Int32) (x3 : Int32) (M : Mem) : Option (Int32 × Mem) := bP (fX5_enough M x1 x3) fun z1 => fX5_wreckOf_14 1000 x1 x2 x3 z1 (0 : Int32) (0 : Int32) M
set_option maxHeartbeats 4000000 in
set_option maxRecDepth 100000 in
theorem vX5_wreckOf_14 {p : Program} {l : Launch} {e : Env} {s : State} {m : MethodId} {args : Array Value} {below : List Frame} {meth : Method} {c : Code} {D : va_G} {T3 : ClassId × ClassId × ClassId} {ad sd : Nat → Nat} {A : Nat → Prop}  (C : CX p s m args meth c cX5_wreckOf 7 RX5 (some .int) D T3 ad sd A) {r : Int32} {M9 : Mem} : ∀ (n : Nat) (x1 : Int32) (x2 : Int32) (x3 : Int32) (x4 : Int32) (x5 : Int32) (x6 : Int32) (M : Mem), fX5_wreckOf_14 n x1 x2 x3 x4 x5 x6 M = some (r, M9) → VV p l e rmX5_wreckOf s m args below meth c D T3 ad A 7 0 0 (QM below D T3 ad A args s (fun _ => some (.int r)) M9) M [(0, .ref (ad 26)), (1, .int x1), (2, .int x2), (3, .int x3), (4, .int x4), (5, .int x5), (6, .int x6)] 14 [] := by
  intro n
  induction n with
  | zero => intro x1 x2 x3 x4 x5 x6 M h; exact nomatch (show (none : Option (Int32 × Mem)) = some _ from h)
  | succ n ih =>
    intro x1 x2 x3 x4 x5 x6 M h
    rw [fX5_wreckOf_14] at h
    refine V_iload C 6 dX5_wreckOf_14 rfl ?_
    refine V_bipush C (31 : Int32) dX5_wreckOf_16 (by decide) ?_
    refine V_icmp_ge C 65 dX5_wreckOf_18 (by decide) (fun q7 => ?_) (fun q7 => ?_)
    · replace h := ite_p q7 h
      refine V_iload C 5 dX5_wreckOf_65 rfl ?_
      obtain ⟨rfl, rfl⟩ := ret_W h
      exact V_iret C dX5_wreckOf_67
    · replace h := ite_n q7 h
      refine V_iload C 6 dX5_wreckOf_21 rfl ?_
      refine V_iload_n C 3 dX5_wreckOf_23 rfl ?_
      refine V_icmp_gt C 65 dX5_wreckOf_24 (by decide) (fun q6 => ?_) (fun q6 => ?_)
      · replace h := ite_p q6 h
        refine V_iload C 5 dX5_wreckOf_65 rfl ?_
        obtain ⟨rfl, rfl⟩ := ret_W h
        exact V_iret C dX5_wreckOf_67
      · replace h := ite_n q6 h
        refine V_iload C 5 dX5_wreckOf_27 rfl ?_
        refine V_aload_n C 0 dX5_wreckOf_29 rfl ?_
        refine V_aload_n C 0 dX5_wreckOf_30 rfl ?_
        refine V_iload_n C 1 dX5_wreckOf_31 rfl ?_
        refine V_iload_n C 3 dX5_wreckOf_32 rfl ?_
        refine V_iload C 6 dX5_wreckOf_33 rfl ?_
        refine V_isub C dX5_wreckOf_35 ?_
        obtain ⟨z2, hz2, h⟩ := bP_t h
        refine V_callV C (st := [.ref (ad 26), .int x5]) (st' := [.int z2, .ref (ad 26), .int x5]) (mX5_mapped l x1 (x3 - x6) M hz2) wmX5_mapped lkX5_190 dX5_wreckOf_36 (wo_26 T3 ad _) rfl rfl rfl rfl rfl rfl ⟨rfl, rfl, (Nat.le_of_ble_eq_true rfl), (Nat.le_of_ble_eq_true rfl)⟩ ⟨Nat.zero_le _, Nat.zero_le _⟩ (Nat.le_of_ble_eq_true rfl) ?_
        refine V_iload C 4 dX5_wreckOf_39 rfl ?_
        obtain ⟨z3, M4, hz3, h⟩ := bW_t h
        refine V_callV C (st := [.int x5]) (st' := [.int z3, .int x5]) (mX5_goes l z2 x4 M hz3) wmX5_goes lkX5_193 dX5_wreckOf_41 (wo_26 T3 ad _) rfl rfl rfl rfl rfl rfl ⟨rfl, rfl, (Nat.le_of_ble_eq_true rfl), (Nat.le_of_ble_eq_true rfl)⟩ ⟨Nat.zero_le _, Nat.zero_le _⟩ (Nat.le_of_ble_eq_true rfl) ?_
        refine V_iload_n C 2 dX5_wreckOf_44 rfl ?_
        refine V_icmp_ne C 55 dX5_wreckOf_45 (by decide) (fun q5 => ?_) (fun q5 => ?_)
        · replace h := ite_n q5 h
          refine V_iconst C (0 : Int32) dX5_wreckOf_55 (by decide) ?_
          refine V_ior C dX5_wreckOf_56 ?_
          refine V_istore C [(5, .int (x5 ||| (0 : Int32))), (0, .ref (ad 26)), (1, .int x1), (2, .int x2), (3, .int x3), (4, .int x4), (6, .int x6)] dX5_wreckOf_57 (by decide) rfl ?_
          refine V_iinc C 6 (x6 + 1) [(6, .int (x6 + 1)), (5, .int (x5 ||| (0 : Int32))), (0, .ref (ad 26)), (1, .int x1), (2, .int x2), (3, .int x3), (4, .int x4)] dX5_wreckOf_59 rfl rfl (by decide) rfl ?_
          refine V_goto C 14 dX5_wreckOf_62 (by decide) ?_
          refine V_sub (lv' := [(0, .ref (ad 26)), (1, .int x1), (2, .int x2), (3, .int x3), (4, .int x4), (5, .int (x5 ||| (0 : Int32))), (6, .int (x6 + 1))]) [2, 3, 4, 5, 6, 1, 0] rfl ?_
          exact ih x1 x2 x3 x4 (x5 ||| (0 : Int32)) (x6 + 1) M4 h
        · replace h := ite_p q5 h
          refine V_iconst C (1 : Int32) dX5_wreckOf_48 (by decide) ?_
          refine V_iload C 6 dX5_wreckOf_49 rfl ?_
          refine V_ishl C dX5_wreckOf_51 ?_
          refine V_goto C 56 dX5_wreckOf_52 (by decide) ?_
          refine V_ior C dX5_wreckOf_56 ?_
          refine V_istore C [(5, .int (x5 ||| (shlI (1 : Int32) x6))), (0, .ref (ad 26)), (1, .int x1), (2, .int x2), (3, .int x3), (4, .int x4), (6, .int x6)] dX5_wreckOf_57 (by decide) rfl ?_
          refine V_iinc C 6 (x6 + 1) [(6, .int (x6 + 1)), (5, .int (x5 ||| (shlI (1 : Int32) x6))), (0, .ref (ad 26)), (1, .int x1), (2, .int x2), (3, .int x3), (4, .int x4)] dX5_wreckOf_59 rfl rfl (by decide) rfl ?_
          refine V_goto C 14 dX5_wreckOf_62 (by decide) ?_
          refine V_sub (lv' := [(0, .ref (ad 26)), (1, .int x1), (2, .int x2), (3, .int x3), (4, .int x4), (5, .int (x5 ||| (shlI (1 : Int32) x6))), (6, .int (x6 + 1))]) [2, 3, 4, 5, 6, 1, 0] rfl ?_
          exact ih x1 x2 x3 x4 (x5 ||| (shlI (1 : Int32) x6)) (x6 + 1) M4 h
set_option maxHeartbeats 4000000 in
set_option maxRecDepth 100000 in
theorem mX5_wreckOf (l : Launch) (x1 : Int32) (x2 : Int32) (x3 : Int32) (M : Mem) {r : Int32} {M9 : Mem} (h : fX5_wreckOf x1 x2 x3 M = some (r, M9)) : MC l yX5_wreckOf cX5_wreckOf 7 (some .int) rmX5_wreckOf (fun ad sd => [.ref (ad 26), .int x1, .int x2, .int x3]) M (fun _ => some (.int r)) M9 := by
  refine MC_start (by decide) (fun ad sd => [(0, .ref (ad 26)), (1, .int x1), (2, .int x2), (3, .int x3)]) (fun _ _ => rfl) (fun _ _ => Nat.le_of_ble_eq_true rfl) ?_
  intro p e s m args below meth c D T3 ad sd A C
  unfold fX5_wreckOf at h
  refine V_aload_n C 0 dX5_wreckOf_0 rfl ?_
  refine V_iload_n C 1 dX5_wreckOf_1 rfl ?_
  refine V_iload_n C 3 dX5_wreckOf_2 rfl ?_
  obtain ⟨z1, hz1, h⟩ := bP_t h
  refine V_callV C (st := []) (st' := [.int z1]) (mX5_enough l x1 x3 M hz1) wmX5_enough lkX5_167 dX5_wreckOf_3 (wo_26 T3 ad _) rfl rfl rfl rfl rfl rfl ⟨rfl, rfl, (Nat.le_of_ble_eq_true rfl), (Nat.le_of_ble_eq_true rfl)⟩ ⟨Nat.zero_le _, Nat.zero_le _⟩ (Nat.le_of_ble_eq_true rfl) ?_
  refine V_istore C [(4, .int z1), (0, .ref (ad 26)), (1, .int x1), (2, .int x2), (3, .int x3)] dX5_wreckOf_6 (by decide) rfl ?_
  refine V_iconst C (0 : Int32) dX5_wreckOf_8 (by decide) ?_
  refine V_istore C [(5, .int (0 : Int32)), (4, .int z1), (0, .ref (ad 26)), (1, .int x1), (2, .int x2), (3, .int x3)] dX5_wreckOf_9 (by decide) rfl ?_
  refine V_iconst C (0 : Int32) dX5_wreckOf_11 (by decide) ?_
  refine V_istore C [(6, .int (0 : Int32)), (5, .int (0 : Int32)), (4, .int z1), (0, .ref (ad 26)), (1, .int x1), (2, .int x2), (3, .int x3)] dX5_wreckOf_12 (by decide) rfl ?_
  refine V_sub (lv' := [(0, .ref (ad 26)), (1, .int x1), (2, .int x2), (3, .int x3), (4, .int z1), (5, .int (0 : Int32)), (6, .int (0 : Int32))]) [3, 4, 5, 6, 2, 1, 0] rfl ?_
  exact vX5_wreckOf_14 C 1000 x1 x2 x3 z1 (0 : Int32) (0 : Int32) M h
abbrev rmX5_wreck : Room := { frames := 8, cells := 0, slots := 0, locals := 185 }
def fX5_wreck (x1 : Int32) (x2 : Int32) (x3 : Int32) (M : Mem) : Option (Int32 × Mem) := bW (fX5_reads M) fun z1 M2 => if (fX5_isDraught x1) = true then if (fX5_isChannel M2 x2) = true then if (fX5_isNight x3) = true then bW (fX5_wreckOf x1 x2 x3 M2) fun z3 M4 => some (z3, M4) else some ((-2 : Int32), M2) else some ((-2 : Int32), M2) else some ((-2 : Int32), M2)
set_option maxHeartbeats 4000000 in
set_option maxRecDepth 100000 in
theorem mX5_wreck (l : Launch) (x1 : Int32) (x2 : Int32) (x3 : Int32) (M : Mem) {r : Int32} {M9 : Mem} (h : fX5_wreck x1 x2 x3 M = some (r, M9)) : MC l yX5_wreck cX5_wreck 4 (some .int) rmX5_wreck (fun ad sd => [.ref (ad 26), .int x1, .int x2, .int x3]) M (fun _ => some (.int r)) M9 := by
  refine MC_start (by decide) (fun ad sd => [(0, .ref (ad 26)), (1, .int x1), (2, .int x2), (3, .int x3)]) (fun _ _ => rfl) (fun _ _ => Nat.le_of_ble_eq_true rfl) ?_
  intro p e s m args below meth c D T3 ad sd A C
  unfold fX5_wreck at h
  refine V_aload_n C 0 dX5_wreck_0 rfl ?_
  obtain ⟨z1, M2, hz1, h⟩ := bW_t h
  refine V_callV C (st := []) (st' := [.int z1]) (mX5_reads l M hz1) wmX5_reads lkX5_116 dX5_wreck_1 (wo_26 T3 ad _) rfl rfl rfl rfl rfl rfl ⟨rfl, rfl, (Nat.le_of_ble_eq_true rfl), (Nat.le_of_ble_eq_true rfl)⟩ ⟨Nat.zero_le _, Nat.zero_le _⟩ (Nat.le_of_ble_eq_true rfl) ?_
  refine V_pop C dX5_wreck_4 rfl ?_
  refine V_iload_n C 1 dX5_wreck_5 rfl ?_
  refine V_callS C (st := []) (st' := [.int (b2i (fX5_isDraught x1))]) (mX5_isDraught l x1 M2 rfl) wmX5_isDraught lkX5_176 dX5_wreck_6 rfl rfl rfl ⟨rfl, rfl, (Nat.le_of_ble_eq_true rfl), (Nat.le_of_ble_eq_true rfl)⟩ ⟨Nat.zero_le _, Nat.zero_le _⟩ (Nat.le_of_ble_eq_true rfl) ?_
  refine V_ifB_eq C 37 dX5_wreck_9 (by decide) (fun q7 => ?_) (fun q7 => ?_)
  · replace h := ite_n q7 h
    refine V_bipush C (-2 : Int32) dX5_wreck_37 (by decide) ?_
    obtain ⟨rfl, rfl⟩ := ret_W h
    exact V_iret C dX5_wreck_39
  · replace h := ite_p q7 h
    refine V_aload_n C 0 dX5_wreck_12 rfl ?_
    refine V_iload_n C 2 dX5_wreck_13 rfl ?_
    refine V_callV C (st := []) (st' := [.int (b2i (fX5_isChannel M2 x2))]) (mX5_isChannel l x2 M2 rfl) wmX5_isChannel lkX5_124 dX5_wreck_14 (wo_26 T3 ad _) rfl rfl rfl rfl rfl rfl ⟨rfl, rfl, (Nat.le_of_ble_eq_true rfl), (Nat.le_of_ble_eq_true rfl)⟩ ⟨Nat.zero_le _, Nat.zero_le _⟩ (Nat.le_of_ble_eq_true rfl) ?_
    refine V_ifB_eq C 37 dX5_wreck_17 (by decide) (fun q6 => ?_) (fun q6 => ?_)
    · replace h := ite_n q6 h
      refine V_bipush C (-2 : Int32) dX5_wreck_37 (by decide) ?_
      obtain ⟨rfl, rfl⟩ := ret_W h
      exact V_iret C dX5_wreck_39
    · replace h := ite_p q6 h
      refine V_iload_n C 3 dX5_wreck_20 rfl ?_
      refine V_callS C (st := []) (st' := [.int (b2i (fX5_isNight x3))]) (mX5_isNight l x3 M2 rfl) wmX5_isNight lkX5_129 dX5_wreck_21 rfl rfl rfl ⟨rfl, rfl, (Nat.le_of_ble_eq_true rfl), (Nat.le_of_ble_eq_true rfl)⟩ ⟨Nat.zero_le _, Nat.zero_le _⟩ (Nat.le_of_ble_eq_true rfl) ?_
      refine V_ifB_eq C 37 dX5_wreck_24 (by decide) (fun q5 => ?_) (fun q5 => ?_)
      · replace h := ite_n q5 h
        refine V_bipush C (-2 : Int32) dX5_wreck_37 (by decide) ?_
        obtain ⟨rfl, rfl⟩ := ret_W h
        exact V_iret C dX5_wreck_39
      · replace h := ite_p q5 h
        refine V_aload_n C 0 dX5_wreck_27 rfl ?_
        refine V_iload_n C 1 dX5_wreck_28 rfl ?_
        refine V_iload_n C 2 dX5_wreck_29 rfl ?_
        refine V_iload_n C 3 dX5_wreck_30 rfl ?_
        obtain ⟨z3, M4, hz3, h⟩ := bW_t h
        refine V_callV C (st := []) (st' := [.int z3]) (mX5_wreckOf l x1 x2 x3 M2 hz3) wmX5_wreckOf lkX5_236 dX5_wreck_31 (wo_26 T3 ad _) rfl rfl rfl rfl rfl rfl ⟨rfl, rfl, (Nat.le_of_ble_eq_true rfl), (Nat.le_of_ble_eq_true rfl)⟩ ⟨Nat.zero_le _, Nat.zero_le _⟩ (Nat.le_of_ble_eq_true rfl) ?_
        refine V_goto C 39 dX5_wreck_34 (by decide) ?_
        obtain ⟨rfl, rfl⟩ := ret_W h
        exact V_iret C dX5_wreck_39
abbrev rmX5_common : Room := { frames := 0, cells := 0, slots := 0, locals := 0 }
def fX5_common_4 : Nat → Int32 → Int32 → Option Int32
  | 0, _, _ => none
  | n + 1, x2, x3 => if x3 = 0 then some x2 else gd (decide (¬ x3 = 0)) (fX5_common_4 n x3 (rmI x2 x3))
def fX5_common (x0 : Int32) (x1 : Int32) : Option Int32 := fX5_common_4 1000 x0 x1
set_option maxHeartbeats 4000000 in
set_option maxRecDepth 100000 in
theorem vX5_common_4 {p : Program} {l : Launch} {e : Env} {s : State} {m : MethodId} {args : Array Value} {below : List Frame} {meth : Method} {c : Code} {D : va_G} {T3 : ClassId × ClassId × ClassId} {ad sd : Nat → Nat} {A : Nat → Prop}  (C : CX p s m args meth c cX5_common 5 RX5 (some .int) D T3 ad sd A) {r : Int32} (M : Mem) : ∀ (n : Nat) (x2 : Int32) (x3 : Int32), fX5_common_4 n x2 x3 = some r → VV p l e rmX5_common s m args below meth c D T3 ad A 5 0 0 (QM below D T3 ad A args s (fun _ => some (.int r)) M) M [(2, .int x2), (3, .int x3)] 4 [] := by
  intro n
  induction n with
  | zero => intro x2 x3 h; exact nomatch (show (none : Option Int32) = some _ from h)
  | succ n ih =>
    intro x2 x3 h
    rw [fX5_common_4] at h
    refine V_iload_n C 1 dX5_common_4 rfl ?_
    refine V_if_eq C 21 dX5_common_5 (by decide) (fun q2 => ?_) (fun q2 => ?_)
    · replace h := ite_p q2 h
      refine V_iload_n C 0 dX5_common_21 rfl ?_
      obtain rfl := ret_P h
      exact V_iret C dX5_common_22
    · replace h := ite_n q2 h
      refine V_iload_n C 0 dX5_common_8 rfl ?_
      refine V_iload_n C 1 dX5_common_9 rfl ?_
      obtain ⟨g1, h⟩ := gd_t h
      refine V_irem C dX5_common_10 (of_decide_eq_true g1) ?_
      refine V_istore C [(4, .int (rmI x2 x3)), (2, .int x2), (3, .int x3)] dX5_common_11 (by decide) rfl ?_
      refine V_iload_n C 2 dX5_common_13 rfl ?_
      refine V_istore_n C [(2, .int x3), (4, .int (rmI x2 x3)), (3, .int x3)] dX5_common_14 rfl (by decide) rfl ?_
      refine V_iload C 1 dX5_common_15 rfl ?_
      refine V_istore_n C [(3, .int (rmI x2 x3)), (2, .int x3), (4, .int (rmI x2 x3))] dX5_common_17 rfl (by decide) rfl ?_
      refine V_goto C 4 dX5_common_18 (by decide) ?_
      refine V_sub (lv' := [(2, .int x3), (3, .int (rmI x2 x3))]) [1, 0] rfl ?_
      exact ih x3 (rmI x2 x3) h
set_option maxHeartbeats 4000000 in
set_option maxRecDepth 100000 in
theorem mX5_common (l : Launch) (x0 : Int32) (x1 : Int32) (M : Mem) {r : Int32} (h : fX5_common x0 x1 = some r) : MC l yX5_common cX5_common 5 (some .int) rmX5_common (fun ad sd => [.int x0, .int x1]) M (fun _ => some (.int r)) M := by
  refine MC_start (by decide) (fun ad sd => [(0, .int x0), (1, .int x1)]) (fun _ _ => rfl) (fun _ _ => Nat.le_of_ble_eq_true rfl) ?_
  intro p e s m args below meth c D T3 ad sd A C
  unfold fX5_common at h
  refine V_iload_n C 0 dX5_common_0 rfl ?_
  refine V_istore_n C [(2, .int x0), (0, .int x0), (1, .int x1)] dX5_common_1 rfl (by decide) rfl ?_
  refine V_iload_n C 2 dX5_common_2 rfl ?_
  refine V_istore_n C [(3, .int x1), (2, .int x0), (0, .int x0), (1, .int x1)] dX5_common_3 rfl (by decide) rfl ?_
  refine V_sub (lv' := [(2, .int x0), (3, .int x1)]) [1, 0] rfl ?_
  exact vX5_common_4 C M 1000 x0 x1 h
abbrev rmX5_throughOf : Room := { frames := 5, cells := 0, slots := 0, locals := 115 }
def fX5_throughOf_65 (x4 : Int32) (t0 : Int32) (M : Mem) : Option (Int32 × Mem) := bP (fX5_common x4 (16 : Int32)) fun z7 => gd (decide (¬ z7 = 0)) (some ((t0 / z7), M))
def fX5_throughOf_51 (x3 : Int32) (t0 : Int32) (t1 : Int32) (M : Mem) : Option (Int32 × Mem) := if x3 = 0 then fX5_throughOf_65 (t0 + t1) (t0 + t1) M else fX5_throughOf_65 (t0 + t1) (16 : Int32) M
def fX5_throughOf_22 (x1 : Int32) (x2 : Int32) (x3 : Int32) (t0 : Int32) (M : Mem) : Option (Int32 × Mem) := bP (fX5_enoughIn M x1 x2 false) fun z4 => bW (fX5_findWays z4 M) fun z5 M6 => if z5 ≤ 0 then fX5_throughOf_51 x3 t0 (0 : Int32) M6 else fX5_throughOf_51 x3 t0 ((16 : Int32) - (M6 26 12)) M6
def fX5_throughOf (x1 : Int32) (x2 : Int32) (x3 : Int32) (M : Mem) : Option (Int32 × Mem) := bP (fX5_enoughIn M x1 x2 true) fun z1 => bW (fX5_findWays z1 M) fun z2 M3 => if z2 ≤ 0 then fX5_throughOf_22 x1 x2 x3 (0 : Int32) M3 else fX5_throughOf_22 x1 x2 x3 (M3 26 12) M3
set_option maxHeartbeats 4000000 in
set_option maxRecDepth 100000 in
theorem vX5_throughOf_65 {p : Program} {l : Launch} {e : Env} {s : State} {m : MethodId} {args : Array Value} {below : List Frame} {meth : Method} {c : Code} {D : va_G} {T3 : ClassId × ClassId × ClassId} {ad sd : Nat → Nat} {A : Nat → Prop}  (C : CX p s m args meth c cX5_throughOf 5 RX5 (some .int) D T3 ad sd A) {r : Int32} {M9 : Mem} : ∀ (x4 : Int32) (t0 : Int32) (M : Mem), fX5_throughOf_65 x4 t0 M = some (r, M9) → VV p l e rmX5_throughOf s m args below meth c D T3 ad A 5 0 0 (QM below D T3 ad A args s (fun _ => some (.int r)) M9) M [(4, .int x4)] 65 [.int t0] := by
  intro x4 t0 M h
  unfold fX5_throughOf_65 at h
  refine V_iload C 0 dX5_throughOf_65 rfl ?_
  refine V_bipush C (16 : Int32) dX5_throughOf_67 (by decide) ?_
  obtain ⟨z7, hz7, h⟩ := bP_t h
  refine V_callS C (st := [.int t0]) (st' := [.int z7, .int t0]) (mX5_common l x4 (16 : Int32) M hz7) wmX5_common lkX5_239 dX5_throughOf_69 rfl rfl rfl ⟨rfl, rfl, (Nat.le_of_ble_eq_true rfl), (Nat.le_of_ble_eq_true rfl)⟩ ⟨Nat.zero_le _, Nat.zero_le _⟩ (Nat.le_of_ble_eq_true rfl) ?_
  obtain ⟨g8, h⟩ := gd_t h
  refine V_idiv C dX5_throughOf_72 (of_decide_eq_true g8) ?_
  obtain ⟨rfl, rfl⟩ := ret_W h
  exact V_iret C dX5_throughOf_73
set_option maxHeartbeats 4000000 in
set_option maxRecDepth 100000 in
theorem vX5_throughOf_51 {p : Program} {l : Launch} {e : Env} {s : State} {m : MethodId} {args : Array Value} {below : List Frame} {meth : Method} {c : Code} {D : va_G} {T3 : ClassId × ClassId × ClassId} {ad sd : Nat → Nat} {A : Nat → Prop}  (C : CX p s m args meth c cX5_throughOf 5 RX5 (some .int) D T3 ad sd A) {r : Int32} {M9 : Mem} : ∀ (x3 : Int32) (t0 : Int32) (t1 : Int32) (M : Mem), fX5_throughOf_51 x3 t0 t1 M = some (r, M9) → VV p l e rmX5_throughOf s m args below meth c D T3 ad A 5 0 0 (QM below D T3 ad A args s (fun _ => some (.int r)) M9) M [(3, .int x3)] 51 [.int t1, .int t0] := by
  intro x3 t0 t1 M h
  unfold fX5_throughOf_51 at h
  refine V_iadd C dX5_throughOf_51 ?_
  refine V_istore C [(4, .int (t0 + t1)), (3, .int x3)] dX5_throughOf_52 (by decide) rfl ?_
  refine V_iload_n C 1 dX5_throughOf_54 rfl ?_
  refine V_if_ne C 63 dX5_throughOf_55 (by decide) (fun q9 => ?_) (fun q9 => ?_)
  · replace h := ite_n q9 h
    refine V_bipush C (16 : Int32) dX5_throughOf_63 (by decide) ?_
    refine V_sub (lv' := [(4, .int (t0 + t1))]) [0] rfl ?_
    exact vX5_throughOf_65 C (t0 + t1) (16 : Int32) M h
  · replace h := ite_p q9 h
    refine V_iload C 0 dX5_throughOf_58 rfl ?_
    refine V_goto C 65 dX5_throughOf_60 (by decide) ?_
    refine V_sub (lv' := [(4, .int (t0 + t1))]) [0] rfl ?_
    exact vX5_throughOf_65 C (t0 + t1) (t0 + t1) M h
set_option maxHeartbeats 4000000 in
set_option maxRecDepth 100000 in
theorem vX5_throughOf_22 {p : Program} {l : Launch} {e : Env} {s : State} {m : MethodId} {args : Array Value} {below : List Frame} {meth : Method} {c : Code} {D : va_G} {T3 : ClassId × ClassId × ClassId} {ad sd : Nat → Nat} {A : Nat → Prop}  (C : CX p s m args meth c cX5_throughOf 5 RX5 (some .int) D T3 ad sd A) {r : Int32} {M9 : Mem} : ∀ (x1 : Int32) (x2 : Int32) (x3 : Int32) (t0 : Int32) (M : Mem), fX5_throughOf_22 x1 x2 x3 t0 M = some (r, M9) → VV p l e rmX5_throughOf s m args below meth c D T3 ad A 5 0 0 (QM below D T3 ad A args s (fun _ => some (.int r)) M9) M [(0, .ref (ad 26)), (1, .int x1), (2, .int x2), (3, .int x3)] 22 [.int t0] := by
  intro x1 x2 x3 t0 M h
  unfold fX5_throughOf_22 at h
  refine V_istore C [(4, .int t0), (0, .ref (ad 26)), (1, .int x1), (2, .int x2), (3, .int x3)] dX5_throughOf_22 (by decide) rfl ?_
  refine V_iload C 0 dX5_throughOf_24 rfl ?_
  refine V_aload_n C 1 dX5_throughOf_26 rfl ?_
  refine V_aload_n C 1 dX5_throughOf_27 rfl ?_
  refine V_iload_n C 2 dX5_throughOf_28 rfl ?_
  refine V_iload_n C 3 dX5_throughOf_29 rfl ?_
  refine V_iconst C (0 : Int32) dX5_throughOf_30 (by decide) ?_
  obtain ⟨z4, hz4, h⟩ := bP_t h
  refine V_callV C (st := [.ref (ad 26), .int t0]) (st' := [.int z4, .ref (ad 26), .int t0]) (mX5_enoughIn l x1 x2 false M hz4) wmX5_enoughIn lkX5_164 dX5_throughOf_31 (wo_26 T3 ad _) rfl rfl rfl rfl rfl rfl ⟨rfl, rfl, (Nat.le_of_ble_eq_true rfl), (Nat.le_of_ble_eq_true rfl)⟩ ⟨Nat.zero_le _, Nat.zero_le _⟩ (Nat.le_of_ble_eq_true rfl) ?_
  obtain ⟨z5, M6, hz5, h⟩ := bW_t h
  refine V_callV C (st := [.int t0]) (st' := [.int z5, .int t0]) (mX5_findWays l z4 M hz5) wmX5_findWays lkX5_170 dX5_throughOf_34 (wo_26 T3 ad _) rfl rfl rfl rfl rfl rfl ⟨rfl, rfl, (Nat.le_of_ble_eq_true rfl), (Nat.le_of_ble_eq_true rfl)⟩ ⟨Nat.zero_le _, Nat.zero_le _⟩ (Nat.le_of_ble_eq_true rfl) ?_
  refine V_if_le C 50 dX5_throughOf_37 (by decide) (fun q10 => ?_) (fun q10 => ?_)
  · replace h := ite_p q10 h
    refine V_iconst C (0 : Int32) dX5_throughOf_50 (by decide) ?_
    refine V_sub (lv' := [(3, .int x3)]) [4] rfl ?_
    exact vX5_throughOf_51 C x3 t0 (0 : Int32) M6 h
  · replace h := ite_n q10 h
    refine V_bipush C (16 : Int32) dX5_throughOf_40 (by decide) ?_
    refine V_aload_n C 1 dX5_throughOf_42 rfl ?_
    refine V_get C 12 dX5_throughOf_43 (wo_26 T3 ad _) rfl inKX5 (by decide) flX5_50 rfl rfl ?_
    refine V_isub C dX5_throughOf_46 ?_
    refine V_goto C 51 dX5_throughOf_47 (by decide) ?_
    refine V_sub (lv' := [(3, .int x3)]) [4] rfl ?_
    exact vX5_throughOf_51 C x3 t0 ((16 : Int32) - (M6 26 12)) M6 h
set_option maxHeartbeats 4000000 in
set_option maxRecDepth 100000 in
theorem mX5_throughOf (l : Launch) (x1 : Int32) (x2 : Int32) (x3 : Int32) (M : Mem) {r : Int32} {M9 : Mem} (h : fX5_throughOf x1 x2 x3 M = some (r, M9)) : MC l yX5_throughOf cX5_throughOf 5 (some .int) rmX5_throughOf (fun ad sd => [.ref (ad 26), .int x1, .int x2, .int x3]) M (fun _ => some (.int r)) M9 := by
  refine MC_start (by decide) (fun ad sd => [(0, .ref (ad 26)), (1, .int x1), (2, .int x2), (3, .int x3)]) (fun _ _ => rfl) (fun _ _ => Nat.le_of_ble_eq_true rfl) ?_
  intro p e s m args below meth c D T3 ad sd A C
  unfold fX5_throughOf at h
  refine V_aload_n C 0 dX5_throughOf_0 rfl ?_
  refine V_aload_n C 0 dX5_throughOf_1 rfl ?_
  refine V_iload_n C 1 dX5_throughOf_2 rfl ?_
  refine V_iload_n C 2 dX5_throughOf_3 rfl ?_
  refine V_iconst C (1 : Int32) dX5_throughOf_4 (by decide) ?_
  obtain ⟨z1, hz1, h⟩ := bP_t h
  refine V_callV C (st := [.ref (ad 26)]) (st' := [.int z1, .ref (ad 26)]) (mX5_enoughIn l x1 x2 true M hz1) wmX5_enoughIn lkX5_164 dX5_throughOf_5 (wo_26 T3 ad _) rfl rfl rfl rfl rfl rfl ⟨rfl, rfl, (Nat.le_of_ble_eq_true rfl), (Nat.le_of_ble_eq_true rfl)⟩ ⟨Nat.zero_le _, Nat.zero_le _⟩ (Nat.le_of_ble_eq_true rfl) ?_
  obtain ⟨z2, M3, hz2, h⟩ := bW_t h
  refine V_callV C (st := []) (st' := [.int z2]) (mX5_findWays l z1 M hz2) wmX5_findWays lkX5_170 dX5_throughOf_8 (wo_26 T3 ad _) rfl rfl rfl rfl rfl rfl ⟨rfl, rfl, (Nat.le_of_ble_eq_true rfl), (Nat.le_of_ble_eq_true rfl)⟩ ⟨Nat.zero_le _, Nat.zero_le _⟩ (Nat.le_of_ble_eq_true rfl) ?_
  refine V_if_le C 21 dX5_throughOf_11 (by decide) (fun q11 => ?_) (fun q11 => ?_)
  · replace h := ite_p q11 h
    refine V_iconst C (0 : Int32) dX5_throughOf_21 (by decide) ?_
    exact vX5_throughOf_22 C x1 x2 x3 (0 : Int32) M3 h
  · replace h := ite_n q11 h
    refine V_aload_n C 0 dX5_throughOf_14 rfl ?_
    refine V_get C 12 dX5_throughOf_15 (wo_26 T3 ad _) rfl inKX5 (by decide) flX5_50 rfl rfl ?_
    refine V_goto C 22 dX5_throughOf_18 (by decide) ?_
    exact vX5_throughOf_22 C x1 x2 x3 (M3 26 12) M3 h
abbrev rmX5_through : Room := { frames := 6, cells := 0, slots := 0, locals := 139 }
def fX5_through (x1 : Int32) (x2 : Int32) (x3 : Int32) (M : Mem) : Option (Int32 × Mem) := bW (fX5_reads M) fun z1 M2 => if (fX5_isDraught x1) = true then if (fX5_isNight x2) = true then if (fX5_isTwo x3) = true then bW (fX5_throughOf x1 x2 x3 M2) fun z3 M4 => some (z3, M4) else some ((-2 : Int32), M2) else some ((-2 : Int32), M2) else some ((-2 : Int32), M2)
set_option maxHeartbeats 4000000 in
set_option maxRecDepth 100000 in
theorem mX5_through (l : Launch) (x1 : Int32) (x2 : Int32) (x3 : Int32) (M : Mem) {r : Int32} {M9 : Mem} (h : fX5_through x1 x2 x3 M = some (r, M9)) : MC l yX5_through cX5_through 4 (some .int) rmX5_through (fun ad sd => [.ref (ad 26), .int x1, .int x2, .int x3]) M (fun _ => some (.int r)) M9 := by
  refine MC_start (by decide) (fun ad sd => [(0, .ref (ad 26)), (1, .int x1), (2, .int x2), (3, .int x3)]) (fun _ _ => rfl) (fun _ _ => Nat.le_of_ble_eq_true rfl) ?_
  intro p e s m args below meth c D T3 ad sd A C
  unfold fX5_through at h
  refine V_aload_n C 0 dX5_through_0 rfl ?_
  obtain ⟨z1, M2, hz1, h⟩ := bW_t h
  refine V_callV C (st := []) (st' := [.int z1]) (mX5_reads l M hz1) wmX5_reads lkX5_116 dX5_through_1 (wo_26 T3 ad _) rfl rfl rfl rfl rfl rfl ⟨rfl, rfl, (Nat.le_of_ble_eq_true rfl), (Nat.le_of_ble_eq_true rfl)⟩ ⟨Nat.zero_le _, Nat.zero_le _⟩ (Nat.le_of_ble_eq_true rfl) ?_
  refine V_pop C dX5_through_4 rfl ?_
  refine V_iload_n C 1 dX5_through_5 rfl ?_
  refine V_callS C (st := []) (st' := [.int (b2i (fX5_isDraught x1))]) (mX5_isDraught l x1 M2 rfl) wmX5_isDraught lkX5_176 dX5_through_6 rfl rfl rfl ⟨rfl, rfl, (Nat.le_of_ble_eq_true rfl), (Nat.le_of_ble_eq_true rfl)⟩ ⟨Nat.zero_le _, Nat.zero_le _⟩ (Nat.le_of_ble_eq_true rfl) ?_
  refine V_ifB_eq C 36 dX5_through_9 (by decide) (fun q7 => ?_) (fun q7 => ?_)
  · replace h := ite_n q7 h
    refine V_bipush C (-2 : Int32) dX5_through_36 (by decide) ?_
    obtain ⟨rfl, rfl⟩ := ret_W h
    exact V_iret C dX5_through_38
  · replace h := ite_p q7 h
    refine V_iload_n C 2 dX5_through_12 rfl ?_
    refine V_callS C (st := []) (st' := [.int (b2i (fX5_isNight x2))]) (mX5_isNight l x2 M2 rfl) wmX5_isNight lkX5_129 dX5_through_13 rfl rfl rfl ⟨rfl, rfl, (Nat.le_of_ble_eq_true rfl), (Nat.le_of_ble_eq_true rfl)⟩ ⟨Nat.zero_le _, Nat.zero_le _⟩ (Nat.le_of_ble_eq_true rfl) ?_
    refine V_ifB_eq C 36 dX5_through_16 (by decide) (fun q6 => ?_) (fun q6 => ?_)
    · replace h := ite_n q6 h
      refine V_bipush C (-2 : Int32) dX5_through_36 (by decide) ?_
      obtain ⟨rfl, rfl⟩ := ret_W h
      exact V_iret C dX5_through_38
    · replace h := ite_p q6 h
      refine V_iload_n C 3 dX5_through_19 rfl ?_
      refine V_callS C (st := []) (st' := [.int (b2i (fX5_isTwo x3))]) (mX5_isTwo l x3 M2 rfl) wmX5_isTwo lkX5_205 dX5_through_20 rfl rfl rfl ⟨rfl, rfl, (Nat.le_of_ble_eq_true rfl), (Nat.le_of_ble_eq_true rfl)⟩ ⟨Nat.zero_le _, Nat.zero_le _⟩ (Nat.le_of_ble_eq_true rfl) ?_
      refine V_ifB_eq C 36 dX5_through_23 (by decide) (fun q5 => ?_) (fun q5 => ?_)
      · replace h := ite_n q5 h
        refine V_bipush C (-2 : Int32) dX5_through_36 (by decide) ?_
        obtain ⟨rfl, rfl⟩ := ret_W h
        exact V_iret C dX5_through_38
      · replace h := ite_p q5 h
        refine V_aload_n C 0 dX5_through_26 rfl ?_
        refine V_iload_n C 1 dX5_through_27 rfl ?_
        refine V_iload_n C 2 dX5_through_28 rfl ?_
        refine V_iload_n C 3 dX5_through_29 rfl ?_
        obtain ⟨z3, M4, hz3, h⟩ := bW_t h
        refine V_callV C (st := []) (st' := [.int z3]) (mX5_throughOf l x1 x2 x3 M2 hz3) wmX5_throughOf lkX5_242 dX5_through_30 (wo_26 T3 ad _) rfl rfl rfl rfl rfl rfl ⟨rfl, rfl, (Nat.le_of_ble_eq_true rfl), (Nat.le_of_ble_eq_true rfl)⟩ ⟨Nat.zero_le _, Nat.zero_le _⟩ (Nat.le_of_ble_eq_true rfl) ?_
        refine V_goto C 38 dX5_through_33 (by decide) ?_
        obtain ⟨rfl, rfl⟩ := ret_W h
        exact V_iret C dX5_through_38
abbrev rmX5_sureOf : Room := { frames := 5, cells := 0, slots := 0, locals := 115 }
def fX5_sureOf (x1 : Int32) (x2 : Int32) (x3 : Int32) (M : Mem) : Option (Int32 × Mem) := bP (fX5_enoughIn M x1 x2 true) fun z1 => bP (fX5_enoughIn M x1 x2 false) fun z2 => bW (fX5_findWays (z1 &&& z2) M) fun z3 M4 => if (M4 26 15) ≤ x3 then some ((-1 : Int32), M4) else gd (inb x3 5) (some ((M4 35 (x3).toNatClampNeg), M4))
set_option maxHeartbeats 4000000 in
set_option maxRecDepth 100000 in
theorem mX5_sureOf (l : Launch) (x1 : Int32) (x2 : Int32) (x3 : Int32) (M : Mem) {r : Int32} {M9 : Mem} (h : fX5_sureOf x1 x2 x3 M = some (r, M9)) : MC l yX5_sureOf cX5_sureOf 4 (some .int) rmX5_sureOf (fun ad sd => [.ref (ad 26), .int x1, .int x2, .int x3]) M (fun _ => some (.int r)) M9 := by
  refine MC_start (by decide) (fun ad sd => [(0, .ref (ad 26)), (1, .int x1), (2, .int x2), (3, .int x3)]) (fun _ _ => rfl) (fun _ _ => Nat.le_of_ble_eq_true rfl) ?_
  intro p e s m args below meth c D T3 ad sd A C
  unfold fX5_sureOf at h
  refine V_aload_n C 0 dX5_sureOf_0 rfl ?_
  refine V_aload_n C 0 dX5_sureOf_1 rfl ?_
  refine V_iload_n C 1 dX5_sureOf_2 rfl ?_
  refine V_iload_n C 2 dX5_sureOf_3 rfl ?_
  refine V_iconst C (1 : Int32) dX5_sureOf_4 (by decide) ?_
  obtain ⟨z1, hz1, h⟩ := bP_t h
  refine V_callV C (st := [.ref (ad 26)]) (st' := [.int z1, .ref (ad 26)]) (mX5_enoughIn l x1 x2 true M hz1) wmX5_enoughIn lkX5_164 dX5_sureOf_5 (wo_26 T3 ad _) rfl rfl rfl rfl rfl rfl ⟨rfl, rfl, (Nat.le_of_ble_eq_true rfl), (Nat.le_of_ble_eq_true rfl)⟩ ⟨Nat.zero_le _, Nat.zero_le _⟩ (Nat.le_of_ble_eq_true rfl) ?_
  refine V_aload_n C 0 dX5_sureOf_8 rfl ?_
  refine V_iload_n C 1 dX5_sureOf_9 rfl ?_
  refine V_iload_n C 2 dX5_sureOf_10 rfl ?_
  refine V_iconst C (0 : Int32) dX5_sureOf_11 (by decide) ?_
  obtain ⟨z2, hz2, h⟩ := bP_t h
  refine V_callV C (st := [.int z1, .ref (ad 26)]) (st' := [.int z2, .int z1, .ref (ad 26)]) (mX5_enoughIn l x1 x2 false M hz2) wmX5_enoughIn lkX5_164 dX5_sureOf_12 (wo_26 T3 ad _) rfl rfl rfl rfl rfl rfl ⟨rfl, rfl, (Nat.le_of_ble_eq_true rfl), (Nat.le_of_ble_eq_true rfl)⟩ ⟨Nat.zero_le _, Nat.zero_le _⟩ (Nat.le_of_ble_eq_true rfl) ?_
  refine V_iand C dX5_sureOf_15 ?_
  obtain ⟨z3, M4, hz3, h⟩ := bW_t h
  refine V_callV C (st := []) (st' := [.int z3]) (mX5_findWays l (z1 &&& z2) M hz3) wmX5_findWays lkX5_170 dX5_sureOf_16 (wo_26 T3 ad _) rfl rfl rfl rfl rfl rfl ⟨rfl, rfl, (Nat.le_of_ble_eq_true rfl), (Nat.le_of_ble_eq_true rfl)⟩ ⟨Nat.zero_le _, Nat.zero_le _⟩ (Nat.le_of_ble_eq_true rfl) ?_
  refine V_pop C dX5_sureOf_19 rfl ?_
  refine V_iload_n C 3 dX5_sureOf_20 rfl ?_
  refine V_aload_n C 0 dX5_sureOf_21 rfl ?_
  refine V_get C 15 dX5_sureOf_22 (wo_26 T3 ad _) rfl inKX5 (by decide) flX5_161 rfl rfl ?_
  refine V_icmp_ge C 37 dX5_sureOf_25 (by decide) (fun q6 => ?_) (fun q6 => ?_)
  · replace h := ite_p q6 h
    refine V_iconst C (-1 : Int32) dX5_sureOf_37 (by decide) ?_
    obtain ⟨rfl, rfl⟩ := ret_W h
    exact V_iret C dX5_sureOf_38
  · replace h := ite_n q6 h
    refine V_aload_n C 0 dX5_sureOf_28 rfl ?_
    refine V_get C 14 dX5_sureOf_29 (wo_26 T3 ad _) rfl inKX5 (by decide) flX5_34 rfl rfl ?_
    refine V_iload_n C 3 dX5_sureOf_32 rfl ?_
    obtain ⟨g5, h⟩ := gd_t h
    refine V_iald C rfl rfl (inb_in g5) dX5_sureOf_33 ?_
    refine V_goto C 38 dX5_sureOf_34 (by decide) ?_
    obtain ⟨rfl, rfl⟩ := ret_W h
    exact V_iret C dX5_sureOf_38
abbrev rmX5_sure : Room := { frames := 6, cells := 0, slots := 0, locals := 138 }
def fX5_sure (x1 : Int32) (x2 : Int32) (x3 : Int32) (M : Mem) : Option (Int32 × Mem) := bW (fX5_reads M) fun z1 M2 => if (fX5_isDraught x1) = true then if (fX5_isNight x2) = true then if (fX5_in (Int32.toInt64 x3) (0 : Int64) (4 : Int64)) = true then bW (fX5_sureOf x1 x2 x3 M2) fun z3 M4 => some (z3, M4) else some ((-2 : Int32), M2) else some ((-2 : Int32), M2) else some ((-2 : Int32), M2)
set_option maxHeartbeats 4000000 in
set_option maxRecDepth 100000 in
theorem mX5_sure (l : Launch) (x1 : Int32) (x2 : Int32) (x3 : Int32) (M : Mem) {r : Int32} {M9 : Mem} (h : fX5_sure x1 x2 x3 M = some (r, M9)) : MC l yX5_sure cX5_sure 4 (some .int) rmX5_sure (fun ad sd => [.ref (ad 26), .int x1, .int x2, .int x3]) M (fun _ => some (.int r)) M9 := by
  refine MC_start (by decide) (fun ad sd => [(0, .ref (ad 26)), (1, .int x1), (2, .int x2), (3, .int x3)]) (fun _ _ => rfl) (fun _ _ => Nat.le_of_ble_eq_true rfl) ?_
  intro p e s m args below meth c D T3 ad sd A C
  unfold fX5_sure at h
  refine V_aload_n C 0 dX5_sure_0 rfl ?_
  obtain ⟨z1, M2, hz1, h⟩ := bW_t h
  refine V_callV C (st := []) (st' := [.int z1]) (mX5_reads l M hz1) wmX5_reads lkX5_116 dX5_sure_1 (wo_26 T3 ad _) rfl rfl rfl rfl rfl rfl ⟨rfl, rfl, (Nat.le_of_ble_eq_true rfl), (Nat.le_of_ble_eq_true rfl)⟩ ⟨Nat.zero_le _, Nat.zero_le _⟩ (Nat.le_of_ble_eq_true rfl) ?_
  refine V_pop C dX5_sure_4 rfl ?_
  refine V_iload_n C 1 dX5_sure_5 rfl ?_
  refine V_callS C (st := []) (st' := [.int (b2i (fX5_isDraught x1))]) (mX5_isDraught l x1 M2 rfl) wmX5_isDraught lkX5_176 dX5_sure_6 rfl rfl rfl ⟨rfl, rfl, (Nat.le_of_ble_eq_true rfl), (Nat.le_of_ble_eq_true rfl)⟩ ⟨Nat.zero_le _, Nat.zero_le _⟩ (Nat.le_of_ble_eq_true rfl) ?_
  refine V_ifB_eq C 41 dX5_sure_9 (by decide) (fun q7 => ?_) (fun q7 => ?_)
  · replace h := ite_n q7 h
    refine V_bipush C (-2 : Int32) dX5_sure_41 (by decide) ?_
    obtain ⟨rfl, rfl⟩ := ret_W h
    exact V_iret C dX5_sure_43
  · replace h := ite_p q7 h
    refine V_iload_n C 2 dX5_sure_12 rfl ?_
    refine V_callS C (st := []) (st' := [.int (b2i (fX5_isNight x2))]) (mX5_isNight l x2 M2 rfl) wmX5_isNight lkX5_129 dX5_sure_13 rfl rfl rfl ⟨rfl, rfl, (Nat.le_of_ble_eq_true rfl), (Nat.le_of_ble_eq_true rfl)⟩ ⟨Nat.zero_le _, Nat.zero_le _⟩ (Nat.le_of_ble_eq_true rfl) ?_
    refine V_ifB_eq C 41 dX5_sure_16 (by decide) (fun q6 => ?_) (fun q6 => ?_)
    · replace h := ite_n q6 h
      refine V_bipush C (-2 : Int32) dX5_sure_41 (by decide) ?_
      obtain ⟨rfl, rfl⟩ := ret_W h
      exact V_iret C dX5_sure_43
    · replace h := ite_p q6 h
      refine V_iload_n C 3 dX5_sure_19 rfl ?_
      refine V_i2l C dX5_sure_20 ?_
      refine V_lconst C (0 : Int64) dX5_sure_21 (by decide) ?_
      refine V_ldc2 C dX5_sure_22 kcX5_127 ?_
      refine V_callS C (st := []) (st' := [.int (b2i (fX5_in (Int32.toInt64 x3) (0 : Int64) (4 : Int64)))]) (mX5_in l (Int32.toInt64 x3) (0 : Int64) (4 : Int64) M2 rfl) wmX5_in lkX5_54 dX5_sure_25 rfl rfl rfl ⟨rfl, rfl, (Nat.le_of_ble_eq_true rfl), (Nat.le_of_ble_eq_true rfl)⟩ ⟨Nat.zero_le _, Nat.zero_le _⟩ (Nat.le_of_ble_eq_true rfl) ?_
      refine V_ifB_eq C 41 dX5_sure_28 (by decide) (fun q5 => ?_) (fun q5 => ?_)
      · replace h := ite_n q5 h
        refine V_bipush C (-2 : Int32) dX5_sure_41 (by decide) ?_
        obtain ⟨rfl, rfl⟩ := ret_W h
        exact V_iret C dX5_sure_43
      · replace h := ite_p q5 h
        refine V_aload_n C 0 dX5_sure_31 rfl ?_
        refine V_iload_n C 1 dX5_sure_32 rfl ?_
        refine V_iload_n C 2 dX5_sure_33 rfl ?_
        refine V_iload_n C 3 dX5_sure_34 rfl ?_
        obtain ⟨z3, M4, hz3, h⟩ := bW_t h
        refine V_callV C (st := []) (st' := [.int z3]) (mX5_sureOf l x1 x2 x3 M2 hz3) wmX5_sureOf lkX5_245 dX5_sure_35 (wo_26 T3 ad _) rfl rfl rfl rfl rfl rfl ⟨rfl, rfl, (Nat.le_of_ble_eq_true rfl), (Nat.le_of_ble_eq_true rfl)⟩ ⟨Nat.zero_le _, Nat.zero_le _⟩ (Nat.le_of_ble_eq_true rfl) ?_
        refine V_goto C 43 dX5_sure_38 (by decide) ?_
        obtain ⟨rfl, rfl⟩ := ret_W h
        exact V_iret C dX5_sure_43
abbrev rmX5_weigh : Room := { frames := 4, cells := 0, slots := 0, locals := 90 }
def fX5_weigh_22 (M : Mem) (x1 : Int32) (x2 : Int32) (x3 : Int32) (t0 : Int32) : Option Int32 := bP (fX5_deepIn M x1 x3 true) fun z2 => if z2 < x2 then some (t0 + (0 : Int32)) else some (t0 + (M 26 12))
def fX5_weigh (M : Mem) (x1 : Int32) (x2 : Int32) (x3 : Int32) : Option Int32 := bP (fX5_deepIn M x1 x3 false) fun z1 => if z1 < x2 then fX5_weigh_22 M x1 x2 x3 (0 : Int32) else fX5_weigh_22 M x1 x2 x3 ((16 : Int32) - (M 26 12))
set_option maxHeartbeats 4000000 in
set_option maxRecDepth 100000 in
theorem vX5_weigh_22 {p : Program} {l : Launch} {e : Env} {s : State} {m : MethodId} {args : Array Value} {below : List Frame} {meth : Method} {c : Code} {D : va_G} {T3 : ClassId × ClassId × ClassId} {ad sd : Nat → Nat} {A : Nat → Prop}  (C : CX p s m args meth c cX5_weigh 5 RX5 (some .int) D T3 ad sd A) {r : Int32} (M : Mem) : ∀ (x1 : Int32) (x2 : Int32) (x3 : Int32) (t0 : Int32), fX5_weigh_22 M x1 x2 x3 t0 = some r → VV p l e rmX5_weigh s m args below meth c D T3 ad A 5 0 0 (QM below D T3 ad A args s (fun _ => some (.int r)) M) M [(0, .ref (ad 26)), (1, .int x1), (2, .int x2), (3, .int x3)] 22 [.int t0] := by
  intro x1 x2 x3 t0 h
  unfold fX5_weigh_22 at h
  refine V_istore C [(4, .int t0), (0, .ref (ad 26)), (1, .int x1), (2, .int x2), (3, .int x3)] dX5_weigh_22 (by decide) rfl ?_
  refine V_iload C 0 dX5_weigh_24 rfl ?_
  refine V_aload_n C 1 dX5_weigh_26 rfl ?_
  refine V_iload_n C 2 dX5_weigh_27 rfl ?_
  refine V_iload_n C 4 dX5_weigh_28 rfl ?_
  refine V_iconst C (1 : Int32) dX5_weigh_29 (by decide) ?_
  obtain ⟨z2, hz2, h⟩ := bP_t h
  refine V_callV C (st := [.int t0]) (st' := [.int z2, .int t0]) (mX5_deepIn l x1 x3 true M hz2) wmX5_deepIn lkX5_147 dX5_weigh_30 (wo_26 T3 ad _) rfl rfl rfl rfl rfl rfl ⟨rfl, rfl, (Nat.le_of_ble_eq_true rfl), (Nat.le_of_ble_eq_true rfl)⟩ ⟨Nat.zero_le _, Nat.zero_le _⟩ (Nat.le_of_ble_eq_true rfl) ?_
  refine V_iload_n C 3 dX5_weigh_33 rfl ?_
  refine V_icmp_lt C 44 dX5_weigh_34 (by decide) (fun q3 => ?_) (fun q3 => ?_)
  · replace h := ite_p q3 h
    refine V_iconst C (0 : Int32) dX5_weigh_44 (by decide) ?_
    refine V_iadd C dX5_weigh_45 ?_
    obtain rfl := ret_P h
    exact V_iret C dX5_weigh_46
  · replace h := ite_n q3 h
    refine V_aload_n C 1 dX5_weigh_37 rfl ?_
    refine V_get C 12 dX5_weigh_38 (wo_26 T3 ad _) rfl inKX5 (by decide) flX5_50 rfl rfl ?_
    refine V_goto C 45 dX5_weigh_41 (by decide) ?_
    refine V_iadd C dX5_weigh_45 ?_
    obtain rfl := ret_P h
    exact V_iret C dX5_weigh_46
set_option maxHeartbeats 4000000 in
set_option maxRecDepth 100000 in
theorem mX5_weigh (l : Launch) (x1 : Int32) (x2 : Int32) (x3 : Int32) (M : Mem) {r : Int32} (h : fX5_weigh M x1 x2 x3 = some r) : MC l yX5_weigh cX5_weigh 5 (some .int) rmX5_weigh (fun ad sd => [.ref (ad 26), .int x1, .int x2, .int x3]) M (fun _ => some (.int r)) M := by
  refine MC_start (by decide) (fun ad sd => [(0, .ref (ad 26)), (1, .int x1), (2, .int x2), (3, .int x3)]) (fun _ _ => rfl) (fun _ _ => Nat.le_of_ble_eq_true rfl) ?_
  intro p e s m args below meth c D T3 ad sd A C
  unfold fX5_weigh at h
  refine V_aload_n C 0 dX5_weigh_0 rfl ?_
  refine V_iload_n C 1 dX5_weigh_1 rfl ?_
  refine V_iload_n C 3 dX5_weigh_2 rfl ?_
  refine V_iconst C (0 : Int32) dX5_weigh_3 (by decide) ?_
  obtain ⟨z1, hz1, h⟩ := bP_t h
  refine V_callV C (st := []) (st' := [.int z1]) (mX5_deepIn l x1 x3 false M hz1) wmX5_deepIn lkX5_147 dX5_weigh_4 (wo_26 T3 ad _) rfl rfl rfl rfl rfl rfl ⟨rfl, rfl, (Nat.le_of_ble_eq_true rfl), (Nat.le_of_ble_eq_true rfl)⟩ ⟨Nat.zero_le _, Nat.zero_le _⟩ (Nat.le_of_ble_eq_true rfl) ?_
  refine V_iload_n C 2 dX5_weigh_7 rfl ?_
  refine V_icmp_lt C 21 dX5_weigh_8 (by decide) (fun q4 => ?_) (fun q4 => ?_)
  · replace h := ite_p q4 h
    refine V_iconst C (0 : Int32) dX5_weigh_21 (by decide) ?_
    exact vX5_weigh_22 C M x1 x2 x3 (0 : Int32) h
  · replace h := ite_n q4 h
    refine V_bipush C (16 : Int32) dX5_weigh_11 (by decide) ?_
    refine V_aload_n C 0 dX5_weigh_13 rfl ?_
    refine V_get C 12 dX5_weigh_14 (wo_26 T3 ad _) rfl inKX5 (by decide) flX5_50 rfl rfl ?_
    refine V_isub C dX5_weigh_17 ?_
    refine V_goto C 22 dX5_weigh_18 (by decide) ?_
    exact vX5_weigh_22 C M x1 x2 x3 ((16 : Int32) - (M 26 12)) h
abbrev rmX5_onBy : Room := { frames := 5, cells := 0, slots := 0, locals := 114 }
def fX5_onBy (M : Mem) (x1 : Int32) (x2 : Int32) (x3 : Int32) : Option Int32 := gd (inb (((5 : Int32) * x1) + (1 : Int32)) 80) (gd (inb (M 32 ((((5 : Int32) * x1) + (1 : Int32))).toNatClampNeg) 6) (lt ((M 39 ((M 32 ((((5 : Int32) * x1) + (1 : Int32))).toNatClampNeg)).toNatClampNeg)) fun y3 => if y3 = (-1 : Int32) then some (-1 : Int32) else bP (fX5_weigh M x1 x2 x3) fun z4 => some (z4 * (y3 / (16 : Int32)))))
set_option maxHeartbeats 4000000 in
set_option maxRecDepth 100000 in
theorem mX5_onBy (l : Launch) (x1 : Int32) (x2 : Int32) (x3 : Int32) (M : Mem) {r : Int32} (h : fX5_onBy M x1 x2 x3 = some r) : MC l yX5_onBy cX5_onBy 5 (some .int) rmX5_onBy (fun ad sd => [.ref (ad 26), .int x1, .int x2, .int x3]) M (fun _ => some (.int r)) M := by
  refine MC_start (by decide) (fun ad sd => [(0, .ref (ad 26)), (1, .int x1), (2, .int x2), (3, .int x3)]) (fun _ _ => rfl) (fun _ _ => Nat.le_of_ble_eq_true rfl) ?_
  intro p e s m args below meth c D T3 ad sd A C
  unfold fX5_onBy at h
  refine V_aload_n C 0 dX5_onBy_0 rfl ?_
  refine V_get C 20 dX5_onBy_1 (wo_26 T3 ad _) rfl inKX5 (by decide) flX5_47 rfl rfl ?_
  refine V_aload_n C 0 dX5_onBy_4 rfl ?_
  refine V_get C 9 dX5_onBy_5 (wo_26 T3 ad _) rfl inKX5 (by decide) flX5_25 rfl rfl ?_
  refine V_iconst C (5 : Int32) dX5_onBy_8 (by decide) ?_
  refine V_iload_n C 1 dX5_onBy_9 rfl ?_
  refine V_imul C dX5_onBy_10 ?_
  refine V_iconst C (1 : Int32) dX5_onBy_11 (by decide) ?_
  refine V_iadd C dX5_onBy_12 ?_
  obtain ⟨g1, h⟩ := gd_t h
  refine V_iald C rfl rfl (inb_in g1) dX5_onBy_13 ?_
  obtain ⟨g2, h⟩ := gd_t h
  refine V_iald C rfl rfl (inb_in g2) dX5_onBy_14 ?_
  obtain ⟨y3, hy3, h⟩ := lt_t h
  refine V_topi C hy3 ?_
  refine V_istore C [(4, .int y3), (0, .ref (ad 26)), (1, .int x1), (2, .int x2), (3, .int x3)] dX5_onBy_15 (by decide) rfl ?_
  refine V_iload C 0 dX5_onBy_17 rfl ?_
  refine V_iconst C (-1 : Int32) dX5_onBy_19 (by decide) ?_
  refine V_icmp_ne C 27 dX5_onBy_20 (by decide) (fun q5 => ?_) (fun q5 => ?_)
  · replace h := ite_n q5 h
    refine V_aload_n C 1 dX5_onBy_27 rfl ?_
    refine V_iload_n C 2 dX5_onBy_28 rfl ?_
    refine V_iload_n C 3 dX5_onBy_29 rfl ?_
    refine V_iload_n C 4 dX5_onBy_30 rfl ?_
    obtain ⟨z4, hz4, h⟩ := bP_t h
    refine V_callV C (st := []) (st' := [.int z4]) (mX5_weigh l x1 x2 x3 M hz4) wmX5_weigh lkX5_248 dX5_onBy_31 (wo_26 T3 ad _) rfl rfl rfl rfl rfl rfl ⟨rfl, rfl, (Nat.le_of_ble_eq_true rfl), (Nat.le_of_ble_eq_true rfl)⟩ ⟨Nat.zero_le _, Nat.zero_le _⟩ (Nat.le_of_ble_eq_true rfl) ?_
    refine V_iload C 0 dX5_onBy_34 rfl ?_
    refine V_bipush C (16 : Int32) dX5_onBy_36 (by decide) ?_
    refine V_idiv C dX5_onBy_38 (by decide) ?_
    refine V_imul C dX5_onBy_39 ?_
    obtain rfl := ret_P h
    exact V_iret C dX5_onBy_40
  · replace h := ite_p q5 h
    refine V_iconst C (-1 : Int32) dX5_onBy_23 (by decide) ?_
    refine V_goto C 40 dX5_onBy_24 (by decide) ?_
    obtain rfl := ret_P h
    exact V_iret C dX5_onBy_40
abbrev rmX5_findSafest : Room := { frames := 6, cells := 0, slots := 0, locals := 138 }
def fX5_findSafest_197 (kk117 : Int32 → Int32 → Int32 → Mem → Option (Unit × Mem)) (kk133 : Int32 → Int32 → Int32 → Int32 → Int32 → Mem → Option (Unit × Mem)) (x1 : Int32) (x2 : Int32) (x3 : Int32) (x4 : Int32) (x5 : Int32) (t0 : Bool) (M : Mem) : Option (Unit × Mem) := gd (inb ((5 : Int32) * x5) 80) (if (M 32 (((5 : Int32) * x5)).toNatClampNeg) = x3 then if t0 = true then kk133 x1 x2 x3 x5 (x5 + (-1)) M else kk133 x1 x2 x3 x4 (x5 + (-1)) M else kk133 x1 x2 x3 x4 (x5 + (-1)) M)
def fX5_findSafest_133 (kk117 : Int32 → Int32 → Int32 → Mem → Option (Unit × Mem)) : Nat → Int32 → Int32 → Int32 → Int32 → Int32 → Mem → Option (Unit × Mem)
  | 0, _, _, _, _, _, _ => none
  | n + 1, x1, x2, x3, x4, x5, M => if x5 < 0 then gd (inb (M 26 15) 5) (lt (up M 35 ((M 26 15)).toNatClampNeg x4) fun M3 => lt (up M3 26 15 ((M3 26 15) + (1 : Int32))) fun M5 => gd (inb (((5 : Int32) * x4) + (1 : Int32)) 80) (lt ((M5 32 ((((5 : Int32) * x4) + (1 : Int32))).toNatClampNeg)) fun y7 => kk117 x1 x2 y7 M5)) else if (M 39 ((0 : Int32)).toNatClampNeg) = 0 then gd (inb (((5 : Int32) * x5) + (1 : Int32)) 80) (gd (inb (M 32 ((((5 : Int32) * x5) + (1 : Int32))).toNatClampNeg) 6) (if (M 39 ((M 32 ((((5 : Int32) * x5) + (1 : Int32))).toNatClampNeg)).toNatClampNeg) = (-1 : Int32) then fX5_findSafest_197 kk117 (fX5_findSafest_133 kk117 n) x1 x2 x3 x4 x5 false M else fX5_findSafest_197 kk117 (fX5_findSafest_133 kk117 n) x1 x2 x3 x4 x5 true M)) else bP (fX5_onBy M x5 x1 x2) fun z8 => gd (inb x3 6) (if z8 = (M 39 (x3).toNatClampNeg) then fX5_findSafest_197 kk117 (fX5_findSafest_133 kk117 n) x1 x2 x3 x4 x5 true M else fX5_findSafest_197 kk117 (fX5_findSafest_133 kk117 n) x1 x2 x3 x4 x5 false M)
def fX5_findSafest_117 : Nat → Int32 → Int32 → Int32 → Mem → Option (Unit × Mem)
  | 0, _, _, _, _ => none
  | n + 1, x1, x2, x3, M => if (5 : Int32) ≤ x3 then some ((), M) else fX5_findSafest_133 (fX5_findSafest_117 n) 1000 x1 x2 x3 (-1 : Int32) ((M 26 8) - (1 : Int32)) M
def fX5_findSafest_24 (kk10 : Int32 → Int32 → Int32 → Mem → Option (Unit × Mem)) : Nat → Int32 → Int32 → Int32 → Int32 → Mem → Option (Unit × Mem)
  | 0, _, _, _, _, _ => none
  | n + 1, x1, x2, x3, x4, M => if (M 26 8) ≤ x4 then kk10 x1 x2 (x3 + (-1)) M else gd (inb ((5 : Int32) * x4) 80) (if (M 32 (((5 : Int32) * x4)).toNatClampNeg) = x3 then bP (fX5_onBy M x4 x1 x2) fun z24 => gd (inb x3 6) (if z24 ≤ (M 39 (x3).toNatClampNeg) then gd (inb x3 6) (gd (inb x3 6) (lt (up M 39 (x3).toNatClampNeg (M 39 (x3).toNatClampNeg)) fun M27 => fX5_findSafest_24 kk10 n x1 x2 x3 (x4 + 1) M27)) else gd (inb x3 6) (lt (up M 39 (x3).toNatClampNeg z24) fun M29 => fX5_findSafest_24 kk10 n x1 x2 x3 (x4 + 1) M29)) else fX5_findSafest_24 kk10 n x1 x2 x3 (x4 + 1) M)
def fX5_findSafest_10 : Nat → Int32 → Int32 → Int32 → Mem → Option (Unit × Mem)
  | 0, _, _, _, _ => none
  | n + 1, x1, x2, x3, M => if x3 < 0 then lt (up M 26 15 (0 : Int32)) fun M2 => if (M2 39 ((0 : Int32)).toNatClampNeg) = (-1 : Int32) then fX5_findSafest_117 1000 x1 x2 (5 : Int32) M2 else fX5_findSafest_117 1000 x1 x2 (0 : Int32) M2 else gd (inb x3 6) (lt (up M 39 (x3).toNatClampNeg (-1 : Int32)) fun M21 => fX5_findSafest_24 (fX5_findSafest_10 n) 1000 x1 x2 x3 (0 : Int32) M21)
def fX5_findSafest (x1 : Int32) (x2 : Int32) (M : Mem) : Option (Unit × Mem) := lt (up M 39 ((5 : Int32)).toNatClampNeg (1048576 : Int32)) fun M1 => fX5_findSafest_10 1000 x1 x2 (4 : Int32) M1
set_option maxHeartbeats 4000000 in
set_option maxRecDepth 100000 in
theorem vX5_findSafest_197 {p : Program} {l : Launch} {e : Env} {s : State} {m : MethodId} {args : Array Value} {below : List Frame} {meth : Method} {c : Code} {D : va_G} {T3 : ClassId × ClassId × ClassId} {ad sd : Nat → Nat} {A : Nat → Prop}  (C : CX p s m args meth c cX5_findSafest 7 RX5 none D T3 ad sd A) {r : Unit} {M9 : Mem} (kk117 : Int32 → Int32 → Int32 → Mem → Option (Unit × Mem)) (kk133 : Int32 → Int32 → Int32 → Int32 → Int32 → Mem → Option (Unit × Mem)) (hk117 : ∀ (x1 : Int32) (x2 : Int32) (x3 : Int32) (M : Mem), kk117 x1 x2 x3 M = some (r, M9) → VV p l e rmX5_findSafest s m args below meth c D T3 ad A 7 0 0 (QM below D T3 ad A args s (fun _ => none) M9) M [(0, .ref (ad 26)), (1, .int x1), (2, .int x2), (3, .int x3)] 117 []) (hk133 : ∀ (x1 : Int32) (x2 : Int32) (x3 : Int32) (x4 : Int32) (x5 : Int32) (M : Mem), kk133 x1 x2 x3 x4 x5 M = some (r, M9) → VV p l e rmX5_findSafest s m args below meth c D T3 ad A 7 0 0 (QM below D T3 ad A args s (fun _ => none) M9) M [(0, .ref (ad 26)), (1, .int x1), (2, .int x2), (3, .int x3), (4, .int x4), (5, .int x5)] 133 []) : ∀ (x1 : Int32) (x2 : Int32) (x3 : Int32) (x4 : Int32) (x5 : Int32) (t0 : Bool) (M : Mem), fX5_findSafest_197 kk117 kk133 x1 x2 x3 x4 x5 t0 M = some (r, M9) → VV p l e rmX5_findSafest s m args below meth c D T3 ad A 7 0 0 (QM below D T3 ad A args s (fun _ => none) M9) M [(0, .ref (ad 26)), (1, .int x1), (2, .int x2), (3, .int x3), (4, .int x4), (5, .int x5)] 197 [.int (b2i t0)] := by
  intro x1 x2 x3 x4 x5 t0 M h
  unfold fX5_findSafest_197 at h
  refine V_istore C [(6, .int (b2i t0)), (0, .ref (ad 26)), (1, .int x1), (2, .int x2), (3, .int x3), (4, .int x4), (5, .int x5)] dX5_findSafest_197 (by decide) rfl ?_
  refine V_aload_n C 1 dX5_findSafest_199 rfl ?_
  refine V_get C 9 dX5_findSafest_200 (wo_26 T3 ad _) rfl inKX5 (by decide) flX5_25 rfl rfl ?_
  refine V_iconst C (5 : Int32) dX5_findSafest_203 (by decide) ?_
  refine V_iload C 6 dX5_findSafest_204 rfl ?_
  refine V_imul C dX5_findSafest_206 ?_
  obtain ⟨g10, h⟩ := gd_t h
  refine V_iald C rfl rfl (inb_in g10) dX5_findSafest_207 ?_
  refine V_iload_n C 4 dX5_findSafest_208 rfl ?_
  refine V_icmp_ne C 222 dX5_findSafest_209 (by decide) (fun q12 => ?_) (fun q12 => ?_)
  · replace h := ite_n q12 h
    refine V_iload C 5 dX5_findSafest_222 rfl ?_
    refine V_istore C [(4, .int x4), (6, .int (b2i t0)), (0, .ref (ad 26)), (1, .int x1), (2, .int x2), (3, .int x3), (5, .int x5)] dX5_findSafest_224 (by decide) rfl ?_
    refine V_iinc C 6 (x5 + (-1)) [(5, .int (x5 + (-1))), (4, .int x4), (6, .int (b2i t0)), (0, .ref (ad 26)), (1, .int x1), (2, .int x2), (3, .int x3)] dX5_findSafest_226 rfl rfl (by decide) rfl ?_
    refine V_goto C 133 dX5_findSafest_229 (by decide) ?_
    refine V_sub (lv' := [(0, .ref (ad 26)), (1, .int x1), (2, .int x2), (3, .int x3), (4, .int x4), (5, .int (x5 + (-1)))]) [3, 4, 5, 6, 1, 0] rfl ?_
    exact hk133 x1 x2 x3 x4 (x5 + (-1)) M h
  · replace h := ite_p q12 h
    refine V_iload C 0 dX5_findSafest_212 rfl ?_
    refine V_ifB_eq C 222 dX5_findSafest_214 (by decide) (fun q11 => ?_) (fun q11 => ?_)
    · replace h := ite_n q11 h
      refine V_iload C 5 dX5_findSafest_222 rfl ?_
      refine V_istore C [(4, .int x4), (6, .int (b2i t0)), (0, .ref (ad 26)), (1, .int x1), (2, .int x2), (3, .int x3), (5, .int x5)] dX5_findSafest_224 (by decide) rfl ?_
      refine V_iinc C 6 (x5 + (-1)) [(5, .int (x5 + (-1))), (4, .int x4), (6, .int (b2i t0)), (0, .ref (ad 26)), (1, .int x1), (2, .int x2), (3, .int x3)] dX5_findSafest_226 rfl rfl (by decide) rfl ?_
      refine V_goto C 133 dX5_findSafest_229 (by decide) ?_
      refine V_sub (lv' := [(0, .ref (ad 26)), (1, .int x1), (2, .int x2), (3, .int x3), (4, .int x4), (5, .int (x5 + (-1)))]) [3, 4, 5, 6, 1, 0] rfl ?_
      exact hk133 x1 x2 x3 x4 (x5 + (-1)) M h
    · replace h := ite_p q11 h
      refine V_iload C 6 dX5_findSafest_217 rfl ?_
      refine V_goto C 224 dX5_findSafest_219 (by decide) ?_
      refine V_istore C [(4, .int x5), (6, .int (b2i t0)), (0, .ref (ad 26)), (1, .int x1), (2, .int x2), (3, .int x3), (5, .int x5)] dX5_findSafest_224 (by decide) rfl ?_
      refine V_iinc C 6 (x5 + (-1)) [(5, .int (x5 + (-1))), (4, .int x5), (6, .int (b2i t0)), (0, .ref (ad 26)), (1, .int x1), (2, .int x2), (3, .int x3)] dX5_findSafest_226 rfl rfl (by decide) rfl ?_
      refine V_goto C 133 dX5_findSafest_229 (by decide) ?_
      refine V_sub (lv' := [(0, .ref (ad 26)), (1, .int x1), (2, .int x2), (3, .int x3), (4, .int x5), (5, .int (x5 + (-1)))]) [3, 4, 5, 6, 1, 0] rfl ?_
      exact hk133 x1 x2 x3 x5 (x5 + (-1)) M h
set_option maxHeartbeats 4000000 in
set_option maxRecDepth 100000 in
theorem vX5_findSafest_133 {p : Program} {l : Launch} {e : Env} {s : State} {m : MethodId} {args : Array Value} {below : List Frame} {meth : Method} {c : Code} {D : va_G} {T3 : ClassId × ClassId × ClassId} {ad sd : Nat → Nat} {A : Nat → Prop}  (C : CX p s m args meth c cX5_findSafest 7 RX5 none D T3 ad sd A) {r : Unit} {M9 : Mem} (kk117 : Int32 → Int32 → Int32 → Mem → Option (Unit × Mem)) (hk117 : ∀ (x1 : Int32) (x2 : Int32) (x3 : Int32) (M : Mem), kk117 x1 x2 x3 M = some (r, M9) → VV p l e rmX5_findSafest s m args below meth c D T3 ad A 7 0 0 (QM below D T3 ad A args s (fun _ => none) M9) M [(0, .ref (ad 26)), (1, .int x1), (2, .int x2), (3, .int x3)] 117 []) : ∀ (n : Nat) (x1 : Int32) (x2 : Int32) (x3 : Int32) (x4 : Int32) (x5 : Int32) (M : Mem), fX5_findSafest_133 kk117 n x1 x2 x3 x4 x5 M = some (r, M9) → VV p l e rmX5_findSafest s m args below meth c D T3 ad A 7 0 0 (QM below D T3 ad A args s (fun _ => none) M9) M [(0, .ref (ad 26)), (1, .int x1), (2, .int x2), (3, .int x3), (4, .int x4), (5, .int x5)] 133 [] := by
  intro n
  induction n with
  | zero => intro x1 x2 x3 x4 x5 M h; exact nomatch (show (none : Option (Unit × Mem)) = some _ from h)
  | succ n ih =>
    intro x1 x2 x3 x4 x5 M h
    rw [fX5_findSafest_133] at h
    refine V_iload C 5 dX5_findSafest_133 rfl ?_
    refine V_if_lt C 232 dX5_findSafest_135 (by decide) (fun q18 => ?_) (fun q18 => ?_)
    · replace h := ite_p q18 h
      refine V_aload_n C 0 dX5_findSafest_232 rfl ?_
      refine V_get C 14 dX5_findSafest_233 (wo_26 T3 ad _) rfl inKX5 (by decide) flX5_34 rfl rfl ?_
      refine V_aload_n C 0 dX5_findSafest_236 rfl ?_
      refine V_get C 15 dX5_findSafest_237 (wo_26 T3 ad _) rfl inKX5 (by decide) flX5_161 rfl rfl ?_
      refine V_iload C 4 dX5_findSafest_240 rfl ?_
      obtain ⟨g4, h⟩ := gd_t h
      obtain ⟨M3, hM3, h⟩ := lt_t h
      refine V_iast C M3 rfl rfl (inb_in g4) dX5_findSafest_242 hM3 ?_
      refine V_aload_n C 0 dX5_findSafest_243 rfl ?_
      refine V_dup C dX5_findSafest_244 rfl ?_
      refine V_get C 15 dX5_findSafest_245 (wo_26 T3 ad _) rfl inKX5 (by decide) flX5_161 rfl rfl ?_
      refine V_iconst C (1 : Int32) dX5_findSafest_248 (by decide) ?_
      refine V_iadd C dX5_findSafest_249 ?_
      obtain ⟨M5, hM5, h⟩ := lt_t h
      refine V_put C M5 15 dX5_findSafest_250 (wo_26 T3 ad _) (ws_26_15 T3 ad _ _) rfl inKX5 tyX5 tyX5_ok nmX5 (by decide) flX5_161 rfl rfl rfl (Nat.le_of_ble_eq_true rfl) hM5 ?_
      refine V_aload_n C 0 dX5_findSafest_253 rfl ?_
      refine V_get C 9 dX5_findSafest_254 (wo_26 T3 ad _) rfl inKX5 (by decide) flX5_25 rfl rfl ?_
      refine V_iconst C (5 : Int32) dX5_findSafest_257 (by decide) ?_
      refine V_iload C 4 dX5_findSafest_258 rfl ?_
      refine V_imul C dX5_findSafest_260 ?_
      refine V_iconst C (1 : Int32) dX5_findSafest_261 (by decide) ?_
      refine V_iadd C dX5_findSafest_262 ?_
      obtain ⟨g6, h⟩ := gd_t h
      refine V_iald C rfl rfl (inb_in g6) dX5_findSafest_263 ?_
      obtain ⟨y7, hy7, h⟩ := lt_t h
      refine V_topi C hy7 ?_
      refine V_istore_n C [(3, .int y7), (0, .ref (ad 26)), (1, .int x1), (2, .int x2), (4, .int x4), (5, .int x5)] dX5_findSafest_264 rfl (by decide) rfl ?_
      refine V_goto C 117 dX5_findSafest_265 (by decide) ?_
      refine V_sub (lv' := [(0, .ref (ad 26)), (1, .int x1), (2, .int x2), (3, .int y7)]) [1, 2, 3, 0] rfl ?_
      exact hk117 x1 x2 y7 M5 h
    · replace h := ite_n q18 h
      refine V_aload_n C 0 dX5_findSafest_138 rfl ?_
      refine V_get C 20 dX5_findSafest_139 (wo_26 T3 ad _) rfl inKX5 (by decide) flX5_47 rfl rfl ?_
      refine V_iconst C (0 : Int32) dX5_findSafest_142 (by decide) ?_
      refine V_iald C rfl rfl (inb_in rfl) dX5_findSafest_143 ?_
      refine V_if_ne C 175 dX5_findSafest_144 (by decide) (fun q17 => ?_) (fun q17 => ?_)
      · replace h := ite_n q17 h
        refine V_aload_n C 0 dX5_findSafest_175 rfl ?_
        refine V_iload C 5 dX5_findSafest_176 rfl ?_
        refine V_iload_n C 1 dX5_findSafest_178 rfl ?_
        refine V_iload_n C 2 dX5_findSafest_179 rfl ?_
        obtain ⟨z8, hz8, h⟩ := bP_t h
        refine V_callV C (st := []) (st' := [.int z8]) (mX5_onBy l x5 x1 x2 M hz8) wmX5_onBy lkX5_252 dX5_findSafest_180 (wo_26 T3 ad _) rfl rfl rfl rfl rfl rfl ⟨rfl, rfl, (Nat.le_of_ble_eq_true rfl), (Nat.le_of_ble_eq_true rfl)⟩ ⟨Nat.zero_le _, Nat.zero_le _⟩ (Nat.le_of_ble_eq_true rfl) ?_
        refine V_aload_n C 0 dX5_findSafest_183 rfl ?_
        refine V_get C 20 dX5_findSafest_184 (wo_26 T3 ad _) rfl inKX5 (by decide) flX5_47 rfl rfl ?_
        refine V_iload_n C 3 dX5_findSafest_187 rfl ?_
        obtain ⟨g9, h⟩ := gd_t h
        refine V_iald C rfl rfl (inb_in g9) dX5_findSafest_188 ?_
        refine V_icmp_ne C 196 dX5_findSafest_189 (by decide) (fun q13 => ?_) (fun q13 => ?_)
        · replace h := ite_n q13 h
          refine V_iconst C (0 : Int32) dX5_findSafest_196 (by decide) ?_
          exact vX5_findSafest_197 C kk117 (fX5_findSafest_133 kk117 n) hk117 ih x1 x2 x3 x4 x5 false M h
        · replace h := ite_p q13 h
          refine V_iconst C (1 : Int32) dX5_findSafest_192 (by decide) ?_
          refine V_goto C 197 dX5_findSafest_193 (by decide) ?_
          exact vX5_findSafest_197 C kk117 (fX5_findSafest_133 kk117 n) hk117 ih x1 x2 x3 x4 x5 true M h
      · replace h := ite_p q17 h
        refine V_aload_n C 0 dX5_findSafest_147 rfl ?_
        refine V_get C 20 dX5_findSafest_148 (wo_26 T3 ad _) rfl inKX5 (by decide) flX5_47 rfl rfl ?_
        refine V_aload_n C 0 dX5_findSafest_151 rfl ?_
        refine V_get C 9 dX5_findSafest_152 (wo_26 T3 ad _) rfl inKX5 (by decide) flX5_25 rfl rfl ?_
        refine V_iconst C (5 : Int32) dX5_findSafest_155 (by decide) ?_
        refine V_iload C 5 dX5_findSafest_156 rfl ?_
        refine V_imul C dX5_findSafest_158 ?_
        refine V_iconst C (1 : Int32) dX5_findSafest_159 (by decide) ?_
        refine V_iadd C dX5_findSafest_160 ?_
        obtain ⟨g14, h⟩ := gd_t h
        refine V_iald C rfl rfl (inb_in g14) dX5_findSafest_161 ?_
        obtain ⟨g15, h⟩ := gd_t h
        refine V_iald C rfl rfl (inb_in g15) dX5_findSafest_162 ?_
        refine V_iconst C (-1 : Int32) dX5_findSafest_163 (by decide) ?_
        refine V_icmp_eq C 171 dX5_findSafest_164 (by decide) (fun q16 => ?_) (fun q16 => ?_)
        · replace h := ite_p q16 h
          refine V_iconst C (0 : Int32) dX5_findSafest_171 (by decide) ?_
          refine V_goto C 197 dX5_findSafest_172 (by decide) ?_
          exact vX5_findSafest_197 C kk117 (fX5_findSafest_133 kk117 n) hk117 ih x1 x2 x3 x4 x5 false M h
        · replace h := ite_n q16 h
          refine V_iconst C (1 : Int32) dX5_findSafest_167 (by decide) ?_
          refine V_goto C 197 dX5_findSafest_168 (by decide) ?_
          exact vX5_findSafest_197 C kk117 (fX5_findSafest_133 kk117 n) hk117 ih x1 x2 x3 x4 x5 true M h
set_option maxHeartbeats 4000000 in
set_option maxRecDepth 100000 in
theorem vX5_findSafest_117 {p : Program} {l : Launch} {e : Env} {s : State} {m : MethodId} {args : Array Value} {below : List Frame} {meth : Method} {c : Code} {D : va_G} {T3 : ClassId × ClassId × ClassId} {ad sd : Nat → Nat} {A : Nat → Prop}  (C : CX p s m args meth c cX5_findSafest 7 RX5 none D T3 ad sd A) {r : Unit} {M9 : Mem} : ∀ (n : Nat) (x1 : Int32) (x2 : Int32) (x3 : Int32) (M : Mem), fX5_findSafest_117 n x1 x2 x3 M = some (r, M9) → VV p l e rmX5_findSafest s m args below meth c D T3 ad A 7 0 0 (QM below D T3 ad A args s (fun _ => none) M9) M [(0, .ref (ad 26)), (1, .int x1), (2, .int x2), (3, .int x3)] 117 [] := by
  intro n
  induction n with
  | zero => intro x1 x2 x3 M h; exact nomatch (show (none : Option (Unit × Mem)) = some _ from h)
  | succ n ih =>
    intro x1 x2 x3 M h
    rw [fX5_findSafest_117] at h
    refine V_iload_n C 3 dX5_findSafest_117 rfl ?_
    refine V_iconst C (5 : Int32) dX5_findSafest_118 (by decide) ?_
    refine V_icmp_ge C 268 dX5_findSafest_119 (by decide) (fun q19 => ?_) (fun q19 => ?_)
    · replace h := ite_p q19 h
      obtain ⟨rfl, rfl⟩ := ret_W h
      exact V_vret C dX5_findSafest_268
    · replace h := ite_n q19 h
      refine V_iconst C (-1 : Int32) dX5_findSafest_122 (by decide) ?_
      refine V_istore C [(4, .int (-1 : Int32)), (0, .ref (ad 26)), (1, .int x1), (2, .int x2), (3, .int x3)] dX5_findSafest_123 (by decide) rfl ?_
      refine V_aload_n C 1 dX5_findSafest_125 rfl ?_
      refine V_get C 8 dX5_findSafest_126 (wo_26 T3 ad _) rfl inKX5 (by decide) flX5_94 rfl rfl ?_
      refine V_iconst C (1 : Int32) dX5_findSafest_129 (by decide) ?_
      refine V_isub C dX5_findSafest_130 ?_
      refine V_istore C [(5, .int ((M 26 8) - (1 : Int32))), (4, .int (-1 : Int32)), (0, .ref (ad 26)), (1, .int x1), (2, .int x2), (3, .int x3)] dX5_findSafest_131 (by decide) rfl ?_
      refine V_sub (lv' := [(0, .ref (ad 26)), (1, .int x1), (2, .int x2), (3, .int x3), (4, .int (-1 : Int32)), (5, .int ((M 26 8) - (1 : Int32)))]) [2, 3, 4, 5, 1, 0] rfl ?_
      exact vX5_findSafest_133 C (fX5_findSafest_117 n) ih 1000 x1 x2 x3 (-1 : Int32) ((M 26 8) - (1 : Int32)) M h
set_option maxHeartbeats 4000000 in
set_option maxRecDepth 100000 in
theorem vX5_findSafest_24 {p : Program} {l : Launch} {e : Env} {s : State} {m : MethodId} {args : Array Value} {below : List Frame} {meth : Method} {c : Code} {D : va_G} {T3 : ClassId × ClassId × ClassId} {ad sd : Nat → Nat} {A : Nat → Prop}  (C : CX p s m args meth c cX5_findSafest 7 RX5 none D T3 ad sd A) {r : Unit} {M9 : Mem} (kk10 : Int32 → Int32 → Int32 → Mem → Option (Unit × Mem)) (hk10 : ∀ (x1 : Int32) (x2 : Int32) (x3 : Int32) (M : Mem), kk10 x1 x2 x3 M = some (r, M9) → VV p l e rmX5_findSafest s m args below meth c D T3 ad A 7 0 0 (QM below D T3 ad A args s (fun _ => none) M9) M [(0, .ref (ad 26)), (1, .int x1), (2, .int x2), (3, .int x3)] 10 []) : ∀ (n : Nat) (x1 : Int32) (x2 : Int32) (x3 : Int32) (x4 : Int32) (M : Mem), fX5_findSafest_24 kk10 n x1 x2 x3 x4 M = some (r, M9) → VV p l e rmX5_findSafest s m args below meth c D T3 ad A 7 0 0 (QM below D T3 ad A args s (fun _ => none) M9) M [(0, .ref (ad 26)), (1, .int x1), (2, .int x2), (3, .int x3), (4, .int x4)] 24 [] := by
  intro n
  induction n with
  | zero => intro x1 x2 x3 x4 M h; exact nomatch (show (none : Option (Unit × Mem)) = some _ from h)
  | succ n ih =>
    intro x1 x2 x3 x4 M h
    rw [fX5_findSafest_24] at h
    refine V_iload C 4 dX5_findSafest_24 rfl ?_
    refine V_aload_n C 0 dX5_findSafest_26 rfl ?_
    refine V_get C 8 dX5_findSafest_27 (wo_26 T3 ad _) rfl inKX5 (by decide) flX5_94 rfl rfl ?_
    refine V_icmp_ge C 90 dX5_findSafest_30 (by decide) (fun q33 => ?_) (fun q33 => ?_)
    · replace h := ite_p q33 h
      refine V_iinc C 3 (x3 + (-1)) [(3, .int (x3 + (-1))), (0, .ref (ad 26)), (1, .int x1), (2, .int x2), (4, .int x4)] dX5_findSafest_90 rfl rfl (by decide) rfl ?_
      refine V_goto C 10 dX5_findSafest_93 (by decide) ?_
      refine V_sub (lv' := [(0, .ref (ad 26)), (1, .int x1), (2, .int x2), (3, .int (x3 + (-1)))]) [1, 2, 3, 0] rfl ?_
      exact hk10 x1 x2 (x3 + (-1)) M h
    · replace h := ite_n q33 h
      refine V_aload_n C 0 dX5_findSafest_33 rfl ?_
      refine V_get C 9 dX5_findSafest_34 (wo_26 T3 ad _) rfl inKX5 (by decide) flX5_25 rfl rfl ?_
      refine V_iconst C (5 : Int32) dX5_findSafest_37 (by decide) ?_
      refine V_iload C 4 dX5_findSafest_38 rfl ?_
      refine V_imul C dX5_findSafest_40 ?_
      obtain ⟨g23, h⟩ := gd_t h
      refine V_iald C rfl rfl (inb_in g23) dX5_findSafest_41 ?_
      refine V_iload_n C 3 dX5_findSafest_42 rfl ?_
      refine V_icmp_ne C 84 dX5_findSafest_43 (by decide) (fun q32 => ?_) (fun q32 => ?_)
      · replace h := ite_n q32 h
        refine V_iinc C 4 (x4 + 1) [(4, .int (x4 + 1)), (0, .ref (ad 26)), (1, .int x1), (2, .int x2), (3, .int x3)] dX5_findSafest_84 rfl rfl (by decide) rfl ?_
        refine V_goto C 24 dX5_findSafest_87 (by decide) ?_
        refine V_sub (lv' := [(0, .ref (ad 26)), (1, .int x1), (2, .int x2), (3, .int x3), (4, .int (x4 + 1))]) [1, 2, 3, 4, 0] rfl ?_
        exact ih x1 x2 x3 (x4 + 1) M h
      · replace h := ite_p q32 h
        refine V_aload_n C 0 dX5_findSafest_46 rfl ?_
        refine V_iload C 4 dX5_findSafest_47 rfl ?_
        refine V_iload_n C 1 dX5_findSafest_49 rfl ?_
        refine V_iload_n C 2 dX5_findSafest_50 rfl ?_
        obtain ⟨z24, hz24, h⟩ := bP_t h
        refine V_callV C (st := []) (st' := [.int z24]) (mX5_onBy l x4 x1 x2 M hz24) wmX5_onBy lkX5_252 dX5_findSafest_51 (wo_26 T3 ad _) rfl rfl rfl rfl rfl rfl ⟨rfl, rfl, (Nat.le_of_ble_eq_true rfl), (Nat.le_of_ble_eq_true rfl)⟩ ⟨Nat.zero_le _, Nat.zero_le _⟩ (Nat.le_of_ble_eq_true rfl) ?_
        refine V_istore C [(5, .int z24), (0, .ref (ad 26)), (1, .int x1), (2, .int x2), (3, .int x3), (4, .int x4)] dX5_findSafest_54 (by decide) rfl ?_
        refine V_aload_n C 1 dX5_findSafest_56 rfl ?_
        refine V_get C 20 dX5_findSafest_57 (wo_26 T3 ad _) rfl inKX5 (by decide) flX5_47 rfl rfl ?_
        refine V_iload_n C 4 dX5_findSafest_60 rfl ?_
        refine V_iload C 0 dX5_findSafest_61 rfl ?_
        refine V_aload_n C 1 dX5_findSafest_63 rfl ?_
        refine V_get C 20 dX5_findSafest_64 (wo_26 T3 ad _) rfl inKX5 (by decide) flX5_47 rfl rfl ?_
        refine V_iload_n C 4 dX5_findSafest_67 rfl ?_
        obtain ⟨g25, h⟩ := gd_t h
        refine V_iald C rfl rfl (inb_in g25) dX5_findSafest_68 ?_
        refine V_icmp_le C 77 dX5_findSafest_69 (by decide) (fun q31 => ?_) (fun q31 => ?_)
        · replace h := ite_p q31 h
          refine V_aload_n C 1 dX5_findSafest_77 rfl ?_
          refine V_get C 20 dX5_findSafest_78 (wo_26 T3 ad _) rfl inKX5 (by decide) flX5_47 rfl rfl ?_
          refine V_iload_n C 4 dX5_findSafest_81 rfl ?_
          obtain ⟨g26, h⟩ := gd_t h
          refine V_iald C rfl rfl (inb_in g26) dX5_findSafest_82 ?_
          obtain ⟨g28, h⟩ := gd_t h
          obtain ⟨M27, hM27, h⟩ := lt_t h
          refine V_iast C M27 rfl rfl (inb_in g28) dX5_findSafest_83 hM27 ?_
          refine V_iinc C 5 (x4 + 1) [(4, .int (x4 + 1)), (5, .int z24), (0, .ref (ad 26)), (1, .int x1), (2, .int x2), (3, .int x3)] dX5_findSafest_84 rfl rfl (by decide) rfl ?_
          refine V_goto C 24 dX5_findSafest_87 (by decide) ?_
          refine V_sub (lv' := [(0, .ref (ad 26)), (1, .int x1), (2, .int x2), (3, .int x3), (4, .int (x4 + 1))]) [2, 3, 4, 5, 0] rfl ?_
          exact ih x1 x2 x3 (x4 + 1) M27 h
        · replace h := ite_n q31 h
          refine V_iload C 0 dX5_findSafest_72 rfl ?_
          refine V_goto C 83 dX5_findSafest_74 (by decide) ?_
          obtain ⟨g30, h⟩ := gd_t h
          obtain ⟨M29, hM29, h⟩ := lt_t h
          refine V_iast C M29 rfl rfl (inb_in g30) dX5_findSafest_83 hM29 ?_
          refine V_iinc C 5 (x4 + 1) [(4, .int (x4 + 1)), (5, .int z24), (0, .ref (ad 26)), (1, .int x1), (2, .int x2), (3, .int x3)] dX5_findSafest_84 rfl rfl (by decide) rfl ?_
          refine V_goto C 24 dX5_findSafest_87 (by decide) ?_
          refine V_sub (lv' := [(0, .ref (ad 26)), (1, .int x1), (2, .int x2), (3, .int x3), (4, .int (x4 + 1))]) [2, 3, 4, 5, 0] rfl ?_
          exact ih x1 x2 x3 (x4 + 1) M29 h
set_option maxHeartbeats 4000000 in
set_option maxRecDepth 100000 in
theorem vX5_findSafest_10 {p : Program} {l : Launch} {e : Env} {s : State} {m : MethodId} {args : Array Value} {below : List Frame} {meth : Method} {c : Code} {D : va_G} {T3 : ClassId × ClassId × ClassId} {ad sd : Nat → Nat} {A : Nat → Prop}  (C : CX p s m args meth c cX5_findSafest 7 RX5 none D T3 ad sd A) {r : Unit} {M9 : Mem} : ∀ (n : Nat) (x1 : Int32) (x2 : Int32) (x3 : Int32) (M : Mem), fX5_findSafest_10 n x1 x2 x3 M = some (r, M9) → VV p l e rmX5_findSafest s m args below meth c D T3 ad A 7 0 0 (QM below D T3 ad A args s (fun _ => none) M9) M [(0, .ref (ad 26)), (1, .int x1), (2, .int x2), (3, .int x3)] 10 [] := by
  intro n
  induction n with
  | zero => intro x1 x2 x3 M h; exact nomatch (show (none : Option (Unit × Mem)) = some _ from h)
  | succ n ih =>
    intro x1 x2 x3 M h
    rw [fX5_findSafest_10] at h
    refine V_iload_n C 3 dX5_findSafest_10 rfl ?_
    refine V_if_lt C 96 dX5_findSafest_11 (by decide) (fun q34 => ?_) (fun q34 => ?_)
    · replace h := ite_p q34 h
      refine V_aload_n C 0 dX5_findSafest_96 rfl ?_
      refine V_iconst C (0 : Int32) dX5_findSafest_97 (by decide) ?_
      obtain ⟨M2, hM2, h⟩ := lt_t h
      refine V_put C M2 15 dX5_findSafest_98 (wo_26 T3 ad _) (ws_26_15 T3 ad _ _) rfl inKX5 tyX5 tyX5_ok nmX5 (by decide) flX5_161 rfl rfl rfl (Nat.le_of_ble_eq_true rfl) hM2 ?_
      refine V_aload_n C 0 dX5_findSafest_101 rfl ?_
      refine V_get C 20 dX5_findSafest_102 (wo_26 T3 ad _) rfl inKX5 (by decide) flX5_47 rfl rfl ?_
      refine V_iconst C (0 : Int32) dX5_findSafest_105 (by decide) ?_
      refine V_iald C rfl rfl (inb_in rfl) dX5_findSafest_106 ?_
      refine V_iconst C (-1 : Int32) dX5_findSafest_107 (by decide) ?_
      refine V_icmp_ne C 115 dX5_findSafest_108 (by decide) (fun q20 => ?_) (fun q20 => ?_)
      · replace h := ite_n q20 h
        refine V_iconst C (0 : Int32) dX5_findSafest_115 (by decide) ?_
        refine V_istore_n C [(3, .int (0 : Int32)), (0, .ref (ad 26)), (1, .int x1), (2, .int x2)] dX5_findSafest_116 rfl (by decide) rfl ?_
        refine V_sub (lv' := [(0, .ref (ad 26)), (1, .int x1), (2, .int x2), (3, .int (0 : Int32))]) [1, 2, 3, 0] rfl ?_
        exact vX5_findSafest_117 C 1000 x1 x2 (0 : Int32) M2 h
      · replace h := ite_p q20 h
        refine V_iconst C (5 : Int32) dX5_findSafest_111 (by decide) ?_
        refine V_goto C 116 dX5_findSafest_112 (by decide) ?_
        refine V_istore_n C [(3, .int (5 : Int32)), (0, .ref (ad 26)), (1, .int x1), (2, .int x2)] dX5_findSafest_116 rfl (by decide) rfl ?_
        refine V_sub (lv' := [(0, .ref (ad 26)), (1, .int x1), (2, .int x2), (3, .int (5 : Int32))]) [1, 2, 3, 0] rfl ?_
        exact vX5_findSafest_117 C 1000 x1 x2 (5 : Int32) M2 h
    · replace h := ite_n q34 h
      refine V_aload_n C 0 dX5_findSafest_14 rfl ?_
      refine V_get C 20 dX5_findSafest_15 (wo_26 T3 ad _) rfl inKX5 (by decide) flX5_47 rfl rfl ?_
      refine V_iload_n C 3 dX5_findSafest_18 rfl ?_
      refine V_iconst C (-1 : Int32) dX5_findSafest_19 (by decide) ?_
      obtain ⟨g22, h⟩ := gd_t h
      obtain ⟨M21, hM21, h⟩ := lt_t h
      refine V_iast C M21 rfl rfl (inb_in g22) dX5_findSafest_20 hM21 ?_
      refine V_iconst C (0 : Int32) dX5_findSafest_21 (by decide) ?_
      refine V_istore C [(4, .int (0 : Int32)), (0, .ref (ad 26)), (1, .int x1), (2, .int x2), (3, .int x3)] dX5_findSafest_22 (by decide) rfl ?_
      refine V_sub (lv' := [(0, .ref (ad 26)), (1, .int x1), (2, .int x2), (3, .int x3), (4, .int (0 : Int32))]) [1, 2, 3, 4, 0] rfl ?_
      exact vX5_findSafest_24 C (fX5_findSafest_10 n) ih 1000 x1 x2 x3 (0 : Int32) M21 h
set_option maxHeartbeats 4000000 in
set_option maxRecDepth 100000 in
theorem mX5_findSafest (l : Launch) (x1 : Int32) (x2 : Int32) (M : Mem) {r : Unit} {M9 : Mem} (h : fX5_findSafest x1 x2 M = some (r, M9)) : MC l yX5_findSafest cX5_findSafest 7 none rmX5_findSafest (fun ad sd => [.ref (ad 26), .int x1, .int x2]) M (fun _ => none) M9 := by
  refine MC_start (by decide) (fun ad sd => [(0, .ref (ad 26)), (1, .int x1), (2, .int x2)]) (fun _ _ => rfl) (fun _ _ => Nat.le_of_ble_eq_true rfl) ?_
  intro p e s m args below meth c D T3 ad sd A C
  unfold fX5_findSafest at h
  refine V_aload_n C 0 dX5_findSafest_0 rfl ?_
  refine V_get C 20 dX5_findSafest_1 (wo_26 T3 ad _) rfl inKX5 (by decide) flX5_47 rfl rfl ?_
  refine V_iconst C (5 : Int32) dX5_findSafest_4 (by decide) ?_
  refine V_ldc C dX5_findSafest_5 kcX5_251 ?_
  obtain ⟨M1, hM1, h⟩ := lt_t h
  refine V_iast C M1 rfl rfl (inb_in rfl) dX5_findSafest_7 hM1 ?_
  refine V_iconst C (4 : Int32) dX5_findSafest_8 (by decide) ?_
  refine V_istore_n C [(3, .int (4 : Int32)), (0, .ref (ad 26)), (1, .int x1), (2, .int x2)] dX5_findSafest_9 rfl (by decide) rfl ?_
  refine V_sub (lv' := [(0, .ref (ad 26)), (1, .int x1), (2, .int x2), (3, .int (4 : Int32))]) [1, 2, 3, 0] rfl ?_
  exact vX5_findSafest_10 C 1000 x1 x2 (4 : Int32) M1 h
abbrev rmX5_tellsSafest : Room := { frames := 1, cells := 0, slots := 0, locals := 24 }
def fX5_tellsSafest_20 (M : Mem) (x1 : Int32) (t0 : Int32) : Option Int32 := bP (fX5_common t0 (1048576 : Int32)) fun z1 => if x1 = (-2 : Int32) then gd (decide (¬ z1 = 0)) (some (t0 / z1)) else if x1 = (-1 : Int32) then gd (decide (¬ z1 = 0)) (some ((1048576 : Int32) / z1)) else if (M 26 15) ≤ x1 then some (-1 : Int32) else gd (inb x1 5) (some (M 35 (x1).toNatClampNeg))
def fX5_tellsSafest (M : Mem) (x1 : Int32) : Option Int32 := if (M 39 ((0 : Int32)).toNatClampNeg) = (-1 : Int32) then fX5_tellsSafest_20 M x1 (0 : Int32) else fX5_tellsSafest_20 M x1 (M 39 ((0 : Int32)).toNatClampNeg)
set_option maxHeartbeats 4000000 in
set_option maxRecDepth 100000 in
theorem vX5_tellsSafest_20 {p : Program} {l : Launch} {e : Env} {s : State} {m : MethodId} {args : Array Value} {below : List Frame} {meth : Method} {c : Code} {D : va_G} {T3 : ClassId × ClassId × ClassId} {ad sd : Nat → Nat} {A : Nat → Prop}  (C : CX p s m args meth c cX5_tellsSafest 4 RX5 (some .int) D T3 ad sd A) {r : Int32} (M : Mem) : ∀ (x1 : Int32) (t0 : Int32), fX5_tellsSafest_20 M x1 t0 = some r → VV p l e rmX5_tellsSafest s m args below meth c D T3 ad A 4 0 0 (QM below D T3 ad A args s (fun _ => some (.int r)) M) M [(0, .ref (ad 26)), (1, .int x1)] 20 [.int t0] := by
  intro x1 t0 h
  unfold fX5_tellsSafest_20 at h
  refine V_istore_n C [(2, .int t0), (0, .ref (ad 26)), (1, .int x1)] dX5_tellsSafest_20 rfl (by decide) rfl ?_
  refine V_iload_n C 0 dX5_tellsSafest_21 rfl ?_
  refine V_ldc C dX5_tellsSafest_22 kcX5_251 ?_
  obtain ⟨z1, hz1, h⟩ := bP_t h
  refine V_callS C (st := []) (st' := [.int z1]) (mX5_common l t0 (1048576 : Int32) M hz1) wmX5_common lkX5_239 dX5_tellsSafest_24 rfl rfl rfl ⟨rfl, rfl, (Nat.le_of_ble_eq_true rfl), (Nat.le_of_ble_eq_true rfl)⟩ ⟨Nat.zero_le _, Nat.zero_le _⟩ (Nat.le_of_ble_eq_true rfl) ?_
  refine V_istore_n C [(3, .int z1), (2, .int t0), (0, .ref (ad 26)), (1, .int x1)] dX5_tellsSafest_27 rfl (by decide) rfl ?_
  refine V_iload_n C 3 dX5_tellsSafest_28 rfl ?_
  refine V_bipush C (-2 : Int32) dX5_tellsSafest_29 (by decide) ?_
  refine V_icmp_ne C 40 dX5_tellsSafest_31 (by decide) (fun q7 => ?_) (fun q7 => ?_)
  · replace h := ite_n q7 h
    refine V_iload_n C 3 dX5_tellsSafest_40 rfl ?_
    refine V_iconst C (-1 : Int32) dX5_tellsSafest_41 (by decide) ?_
    refine V_icmp_ne C 52 dX5_tellsSafest_42 (by decide) (fun q5 => ?_) (fun q5 => ?_)
    · replace h := ite_n q5 h
      refine V_iload_n C 3 dX5_tellsSafest_52 rfl ?_
      refine V_aload_n C 2 dX5_tellsSafest_53 rfl ?_
      refine V_get C 15 dX5_tellsSafest_54 (wo_26 T3 ad _) rfl inKX5 (by decide) flX5_161 rfl rfl ?_
      refine V_icmp_ge C 69 dX5_tellsSafest_57 (by decide) (fun q3 => ?_) (fun q3 => ?_)
      · replace h := ite_p q3 h
        refine V_iconst C (-1 : Int32) dX5_tellsSafest_69 (by decide) ?_
        obtain rfl := ret_P h
        exact V_iret C dX5_tellsSafest_70
      · replace h := ite_n q3 h
        refine V_aload_n C 2 dX5_tellsSafest_60 rfl ?_
        refine V_get C 14 dX5_tellsSafest_61 (wo_26 T3 ad _) rfl inKX5 (by decide) flX5_34 rfl rfl ?_
        refine V_iload_n C 3 dX5_tellsSafest_64 rfl ?_
        obtain ⟨g2, h⟩ := gd_t h
        refine V_iald C rfl rfl (inb_in g2) dX5_tellsSafest_65 ?_
        refine V_goto C 70 dX5_tellsSafest_66 (by decide) ?_
        obtain rfl := ret_P h
        exact V_iret C dX5_tellsSafest_70
    · replace h := ite_p q5 h
      refine V_ldc C dX5_tellsSafest_45 kcX5_251 ?_
      refine V_iload_n C 0 dX5_tellsSafest_47 rfl ?_
      obtain ⟨g4, h⟩ := gd_t h
      refine V_idiv C dX5_tellsSafest_48 (of_decide_eq_true g4) ?_
      refine V_goto C 70 dX5_tellsSafest_49 (by decide) ?_
      obtain rfl := ret_P h
      exact V_iret C dX5_tellsSafest_70
  · replace h := ite_p q7 h
    refine V_iload_n C 1 dX5_tellsSafest_34 rfl ?_
    refine V_iload_n C 0 dX5_tellsSafest_35 rfl ?_
    obtain ⟨g6, h⟩ := gd_t h
    refine V_idiv C dX5_tellsSafest_36 (of_decide_eq_true g6) ?_
    refine V_goto C 70 dX5_tellsSafest_37 (by decide) ?_
    obtain rfl := ret_P h
    exact V_iret C dX5_tellsSafest_70
set_option maxHeartbeats 4000000 in
set_option maxRecDepth 100000 in
theorem mX5_tellsSafest (l : Launch) (x1 : Int32) (M : Mem) {r : Int32} (h : fX5_tellsSafest M x1 = some r) : MC l yX5_tellsSafest cX5_tellsSafest 4 (some .int) rmX5_tellsSafest (fun ad sd => [.ref (ad 26), .int x1]) M (fun _ => some (.int r)) M := by
  refine MC_start (by decide) (fun ad sd => [(0, .ref (ad 26)), (1, .int x1)]) (fun _ _ => rfl) (fun _ _ => Nat.le_of_ble_eq_true rfl) ?_
  intro p e s m args below meth c D T3 ad sd A C
  unfold fX5_tellsSafest at h
  refine V_aload_n C 0 dX5_tellsSafest_0 rfl ?_
  refine V_get C 20 dX5_tellsSafest_1 (wo_26 T3 ad _) rfl inKX5 (by decide) flX5_47 rfl rfl ?_
  refine V_iconst C (0 : Int32) dX5_tellsSafest_4 (by decide) ?_
  refine V_iald C rfl rfl (inb_in rfl) dX5_tellsSafest_5 ?_
  refine V_iconst C (-1 : Int32) dX5_tellsSafest_6 (by decide) ?_
  refine V_icmp_ne C 14 dX5_tellsSafest_7 (by decide) (fun q8 => ?_) (fun q8 => ?_)
  · replace h := ite_n q8 h
    refine V_aload_n C 0 dX5_tellsSafest_14 rfl ?_
    refine V_get C 20 dX5_tellsSafest_15 (wo_26 T3 ad _) rfl inKX5 (by decide) flX5_47 rfl rfl ?_
    refine V_iconst C (0 : Int32) dX5_tellsSafest_18 (by decide) ?_
    refine V_iald C rfl rfl (inb_in rfl) dX5_tellsSafest_19 ?_
    exact vX5_tellsSafest_20 C M x1 (M 39 ((0 : Int32)).toNatClampNeg) h
  · replace h := ite_p q8 h
    refine V_iconst C (0 : Int32) dX5_tellsSafest_10 (by decide) ?_
    refine V_goto C 20 dX5_tellsSafest_11 (by decide) ?_
    exact vX5_tellsSafest_20 C M x1 (0 : Int32) h
abbrev rmX5_safestOf : Room := { frames := 7, cells := 0, slots := 0, locals := 164 }
def fX5_safestOf (x1 : Int32) (x2 : Int32) (x3 : Int32) (M : Mem) : Option (Int32 × Mem) := bW (fX5_findSafest x1 x2 M) fun z1 M2 => bP (fX5_tellsSafest M2 x3) fun z3 => some (z3, M2)
set_option maxHeartbeats 4000000 in
set_option maxRecDepth 100000 in
theorem mX5_safestOf (l : Launch) (x1 : Int32) (x2 : Int32) (x3 : Int32) (M : Mem) {r : Int32} {M9 : Mem} (h : fX5_safestOf x1 x2 x3 M = some (r, M9)) : MC l yX5_safestOf cX5_safestOf 4 (some .int) rmX5_safestOf (fun ad sd => [.ref (ad 26), .int x1, .int x2, .int x3]) M (fun _ => some (.int r)) M9 := by
  refine MC_start (by decide) (fun ad sd => [(0, .ref (ad 26)), (1, .int x1), (2, .int x2), (3, .int x3)]) (fun _ _ => rfl) (fun _ _ => Nat.le_of_ble_eq_true rfl) ?_
  intro p e s m args below meth c D T3 ad sd A C
  unfold fX5_safestOf at h
  refine V_aload_n C 0 dX5_safestOf_0 rfl ?_
  refine V_iload_n C 1 dX5_safestOf_1 rfl ?_
  refine V_iload_n C 2 dX5_safestOf_2 rfl ?_
  obtain ⟨z1, M2, hz1, h⟩ := bW_t h
  refine V_callV C (st := []) (st' := []) (mX5_findSafest l x1 x2 M hz1) wmX5_findSafest lkX5_255 dX5_safestOf_3 (wo_26 T3 ad _) rfl rfl rfl rfl rfl rfl ⟨rfl, rfl, (Nat.le_of_ble_eq_true rfl), (Nat.le_of_ble_eq_true rfl)⟩ ⟨Nat.zero_le _, Nat.zero_le _⟩ (Nat.le_of_ble_eq_true rfl) ?_
  refine V_aload_n C 0 dX5_safestOf_6 rfl ?_
  refine V_iload_n C 3 dX5_safestOf_7 rfl ?_
  obtain ⟨z3, hz3, h⟩ := bP_t h
  refine V_callV C (st := []) (st' := [.int z3]) (mX5_tellsSafest l x3 M2 hz3) wmX5_tellsSafest lkX5_259 dX5_safestOf_8 (wo_26 T3 ad _) rfl rfl rfl rfl rfl rfl ⟨rfl, rfl, (Nat.le_of_ble_eq_true rfl), (Nat.le_of_ble_eq_true rfl)⟩ ⟨Nat.zero_le _, Nat.zero_le _⟩ (Nat.le_of_ble_eq_true rfl) ?_
  obtain ⟨rfl, rfl⟩ := ret_W h
  exact V_iret C dX5_safestOf_11
abbrev rmX5_safest : Room := { frames := 8, cells := 0, slots := 0, locals := 187 }
def fX5_safest (x1 : Int32) (x2 : Int32) (x3 : Int32) (M : Mem) : Option (Int32 × Mem) := bW (fX5_reads M) fun z1 M2 => if (fX5_isDraught x1) = true then if (fX5_isNight x2) = true then if (fX5_in (Int32.toInt64 x3) (-2 : Int64) (4 : Int64)) = true then bW (fX5_safestOf x1 x2 x3 M2) fun z3 M4 => some (z3, M4) else some ((-2 : Int32), M2) else some ((-2 : Int32), M2) else some ((-2 : Int32), M2)
set_option maxHeartbeats 4000000 in
set_option maxRecDepth 100000 in
theorem mX5_safest (l : Launch) (x1 : Int32) (x2 : Int32) (x3 : Int32) (M : Mem) {r : Int32} {M9 : Mem} (h : fX5_safest x1 x2 x3 M = some (r, M9)) : MC l yX5_safest cX5_safest 4 (some .int) rmX5_safest (fun ad sd => [.ref (ad 26), .int x1, .int x2, .int x3]) M (fun _ => some (.int r)) M9 := by
  refine MC_start (by decide) (fun ad sd => [(0, .ref (ad 26)), (1, .int x1), (2, .int x2), (3, .int x3)]) (fun _ _ => rfl) (fun _ _ => Nat.le_of_ble_eq_true rfl) ?_
  intro p e s m args below meth c D T3 ad sd A C
  unfold fX5_safest at h
  refine V_aload_n C 0 dX5_safest_0 rfl ?_
  obtain ⟨z1, M2, hz1, h⟩ := bW_t h
  refine V_callV C (st := []) (st' := [.int z1]) (mX5_reads l M hz1) wmX5_reads lkX5_116 dX5_safest_1 (wo_26 T3 ad _) rfl rfl rfl rfl rfl rfl ⟨rfl, rfl, (Nat.le_of_ble_eq_true rfl), (Nat.le_of_ble_eq_true rfl)⟩ ⟨Nat.zero_le _, Nat.zero_le _⟩ (Nat.le_of_ble_eq_true rfl) ?_
  refine V_pop C dX5_safest_4 rfl ?_
  refine V_iload_n C 1 dX5_safest_5 rfl ?_
  refine V_callS C (st := []) (st' := [.int (b2i (fX5_isDraught x1))]) (mX5_isDraught l x1 M2 rfl) wmX5_isDraught lkX5_176 dX5_safest_6 rfl rfl rfl ⟨rfl, rfl, (Nat.le_of_ble_eq_true rfl), (Nat.le_of_ble_eq_true rfl)⟩ ⟨Nat.zero_le _, Nat.zero_le _⟩ (Nat.le_of_ble_eq_true rfl) ?_
  refine V_ifB_eq C 43 dX5_safest_9 (by decide) (fun q7 => ?_) (fun q7 => ?_)
  · replace h := ite_n q7 h
    refine V_bipush C (-2 : Int32) dX5_safest_43 (by decide) ?_
    obtain ⟨rfl, rfl⟩ := ret_W h
    exact V_iret C dX5_safest_45
  · replace h := ite_p q7 h
    refine V_iload_n C 2 dX5_safest_12 rfl ?_
    refine V_callS C (st := []) (st' := [.int (b2i (fX5_isNight x2))]) (mX5_isNight l x2 M2 rfl) wmX5_isNight lkX5_129 dX5_safest_13 rfl rfl rfl ⟨rfl, rfl, (Nat.le_of_ble_eq_true rfl), (Nat.le_of_ble_eq_true rfl)⟩ ⟨Nat.zero_le _, Nat.zero_le _⟩ (Nat.le_of_ble_eq_true rfl) ?_
    refine V_ifB_eq C 43 dX5_safest_16 (by decide) (fun q6 => ?_) (fun q6 => ?_)
    · replace h := ite_n q6 h
      refine V_bipush C (-2 : Int32) dX5_safest_43 (by decide) ?_
      obtain ⟨rfl, rfl⟩ := ret_W h
      exact V_iret C dX5_safest_45
    · replace h := ite_p q6 h
      refine V_iload_n C 3 dX5_safest_19 rfl ?_
      refine V_i2l C dX5_safest_20 ?_
      refine V_ldc2 C dX5_safest_21 kcX5_262 ?_
      refine V_ldc2 C dX5_safest_24 kcX5_127 ?_
      refine V_callS C (st := []) (st' := [.int (b2i (fX5_in (Int32.toInt64 x3) (-2 : Int64) (4 : Int64)))]) (mX5_in l (Int32.toInt64 x3) (-2 : Int64) (4 : Int64) M2 rfl) wmX5_in lkX5_54 dX5_safest_27 rfl rfl rfl ⟨rfl, rfl, (Nat.le_of_ble_eq_true rfl), (Nat.le_of_ble_eq_true rfl)⟩ ⟨Nat.zero_le _, Nat.zero_le _⟩ (Nat.le_of_ble_eq_true rfl) ?_
      refine V_ifB_eq C 43 dX5_safest_30 (by decide) (fun q5 => ?_) (fun q5 => ?_)
      · replace h := ite_n q5 h
        refine V_bipush C (-2 : Int32) dX5_safest_43 (by decide) ?_
        obtain ⟨rfl, rfl⟩ := ret_W h
        exact V_iret C dX5_safest_45
      · replace h := ite_p q5 h
        refine V_aload_n C 0 dX5_safest_33 rfl ?_
        refine V_iload_n C 1 dX5_safest_34 rfl ?_
        refine V_iload_n C 2 dX5_safest_35 rfl ?_
        refine V_iload_n C 3 dX5_safest_36 rfl ?_
        obtain ⟨z3, M4, hz3, h⟩ := bW_t h
        refine V_callV C (st := []) (st' := [.int z3]) (mX5_safestOf l x1 x2 x3 M2 hz3) wmX5_safestOf lkX5_264 dX5_safest_37 (wo_26 T3 ad _) rfl rfl rfl rfl rfl rfl ⟨rfl, rfl, (Nat.le_of_ble_eq_true rfl), (Nat.le_of_ble_eq_true rfl)⟩ ⟨Nat.zero_le _, Nat.zero_le _⟩ (Nat.le_of_ble_eq_true rfl) ?_
        refine V_goto C 45 dX5_safest_40 (by decide) ?_
        obtain ⟨rfl, rfl⟩ := ret_W h
        exact V_iret C dX5_safest_45
abbrev rmX5_worthOf : Room := { frames := 8, cells := 0, slots := 0, locals := 181 }
def fX5_worthOf_46 (kk13 : Int32 → Int32 → Int32 → Int32 → Int32 → Mem → Option (Int32 × Mem)) (x1 : Int32) (x2 : Int32) (x4 : Int32) (x5 : Int32) (t0 : Int32) (t1 : Bool) (M : Mem) : Option (Int32 × Mem) := bP (fX5_enough M x1 x5) fun z4 => bW (fX5_goes x4 z4 M) fun z5 M6 => if z5 = (-1 : Int32) then lt (((t0 + (b2i t1)) - (1 : Int32))) fun y8 => kk13 x1 x2 y8 x4 (x5 + 1) M6 else lt (((t0 + (b2i t1)) - (0 : Int32))) fun y7 => kk13 x1 x2 y7 x4 (x5 + 1) M6
def fX5_worthOf_13 : Nat → Int32 → Int32 → Int32 → Int32 → Int32 → Mem → Option (Int32 × Mem)
  | 0, _, _, _, _, _, _ => none
  | n + 1, x1, x2, x3, x4, x5, M => if (x2 + (10 : Int32)) ≤ x5 then some (x3, M) else if (100 : Int32) ≤ x5 then some (x3, M) else bW (fX5_byMapOf x1 x5 M) fun z2 M3 => if z2 = (-1 : Int32) then fX5_worthOf_46 (fX5_worthOf_13 n) x1 x2 x4 x5 x3 true M3 else fX5_worthOf_46 (fX5_worthOf_13 n) x1 x2 x4 x5 x3 false M3
def fX5_worthOf (x1 : Int32) (x2 : Int32) (M : Mem) : Option (Int32 × Mem) := bP (fX5_mapped M x1 x2) fun z1 => fX5_worthOf_13 1000 x1 x2 (0 : Int32) z1 x2 M
set_option maxHeartbeats 4000000 in
set_option maxRecDepth 100000 in
theorem vX5_worthOf_46 {p : Program} {l : Launch} {e : Env} {s : State} {m : MethodId} {args : Array Value} {below : List Frame} {meth : Method} {c : Code} {D : va_G} {T3 : ClassId × ClassId × ClassId} {ad sd : Nat → Nat} {A : Nat → Prop}  (C : CX p s m args meth c cX5_worthOf 6 RX5 (some .int) D T3 ad sd A) {r : Int32} {M9 : Mem} (kk13 : Int32 → Int32 → Int32 → Int32 → Int32 → Mem → Option (Int32 × Mem)) (hk13 : ∀ (x1 : Int32) (x2 : Int32) (x3 : Int32) (x4 : Int32) (x5 : Int32) (M : Mem), kk13 x1 x2 x3 x4 x5 M = some (r, M9) → VV p l e rmX5_worthOf s m args below meth c D T3 ad A 6 0 0 (QM below D T3 ad A args s (fun _ => some (.int r)) M9) M [(0, .ref (ad 26)), (1, .int x1), (2, .int x2), (3, .int x3), (4, .int x4), (5, .int x5)] 13 []) : ∀ (x1 : Int32) (x2 : Int32) (x4 : Int32) (x5 : Int32) (t0 : Int32) (t1 : Bool) (M : Mem), fX5_worthOf_46 kk13 x1 x2 x4 x5 t0 t1 M = some (r, M9) → VV p l e rmX5_worthOf s m args below meth c D T3 ad A 6 0 0 (QM below D T3 ad A args s (fun _ => some (.int r)) M9) M [(0, .ref (ad 26)), (1, .int x1), (2, .int x2), (4, .int x4), (5, .int x5)] 46 [.int (b2i t1), .int t0] := by
  intro x1 x2 x4 x5 t0 t1 M h
  unfold fX5_worthOf_46 at h
  refine V_iadd C dX5_worthOf_46 ?_
  refine V_istore_n C [(3, .int (t0 + (b2i t1))), (0, .ref (ad 26)), (1, .int x1), (2, .int x2), (4, .int x4), (5, .int x5)] dX5_worthOf_47 rfl (by decide) rfl ?_
  refine V_iload_n C 0 dX5_worthOf_48 rfl ?_
  refine V_aload_n C 1 dX5_worthOf_49 rfl ?_
  refine V_iload C 4 dX5_worthOf_50 rfl ?_
  refine V_aload_n C 1 dX5_worthOf_52 rfl ?_
  refine V_iload_n C 2 dX5_worthOf_53 rfl ?_
  refine V_iload C 5 dX5_worthOf_54 rfl ?_
  obtain ⟨z4, hz4, h⟩ := bP_t h
  refine V_callV C (st := [.int x4, .ref (ad 26), .int (t0 + (b2i t1))]) (st' := [.int z4, .int x4, .ref (ad 26), .int (t0 + (b2i t1))]) (mX5_enough l x1 x5 M hz4) wmX5_enough lkX5_167 dX5_worthOf_56 (wo_26 T3 ad _) rfl rfl rfl rfl rfl rfl ⟨rfl, rfl, (Nat.le_of_ble_eq_true rfl), (Nat.le_of_ble_eq_true rfl)⟩ ⟨Nat.zero_le _, Nat.zero_le _⟩ (Nat.le_of_ble_eq_true rfl) ?_
  obtain ⟨z5, M6, hz5, h⟩ := bW_t h
  refine V_callV C (st := [.int (t0 + (b2i t1))]) (st' := [.int z5, .int (t0 + (b2i t1))]) (mX5_goes l x4 z4 M hz5) wmX5_goes lkX5_193 dX5_worthOf_59 (wo_26 T3 ad _) rfl rfl rfl rfl rfl rfl ⟨rfl, rfl, (Nat.le_of_ble_eq_true rfl), (Nat.le_of_ble_eq_true rfl)⟩ ⟨Nat.zero_le _, Nat.zero_le _⟩ (Nat.le_of_ble_eq_true rfl) ?_
  refine V_iconst C (-1 : Int32) dX5_worthOf_62 (by decide) ?_
  refine V_icmp_ne C 70 dX5_worthOf_63 (by decide) (fun q9 => ?_) (fun q9 => ?_)
  · replace h := ite_n q9 h
    refine V_iconst C (0 : Int32) dX5_worthOf_70 (by decide) ?_
    refine V_isub C dX5_worthOf_71 ?_
    obtain ⟨y7, hy7, h⟩ := lt_t h
    refine V_topi C hy7 ?_
    refine V_istore_n C [(3, .int y7), (0, .ref (ad 26)), (1, .int x1), (2, .int x2), (4, .int x4), (5, .int x5)] dX5_worthOf_72 rfl (by decide) rfl ?_
    refine V_iinc C 5 (x5 + 1) [(5, .int (x5 + 1)), (3, .int y7), (0, .ref (ad 26)), (1, .int x1), (2, .int x2), (4, .int x4)] dX5_worthOf_73 rfl rfl (by decide) rfl ?_
    refine V_goto C 13 dX5_worthOf_76 (by decide) ?_
    refine V_sub (lv' := [(0, .ref (ad 26)), (1, .int x1), (2, .int x2), (3, .int y7), (4, .int x4), (5, .int (x5 + 1))]) [2, 3, 4, 1, 5, 0] rfl ?_
    exact hk13 x1 x2 y7 x4 (x5 + 1) M6 h
  · replace h := ite_p q9 h
    refine V_iconst C (1 : Int32) dX5_worthOf_66 (by decide) ?_
    refine V_goto C 71 dX5_worthOf_67 (by decide) ?_
    refine V_isub C dX5_worthOf_71 ?_
    obtain ⟨y8, hy8, h⟩ := lt_t h
    refine V_topi C hy8 ?_
    refine V_istore_n C [(3, .int y8), (0, .ref (ad 26)), (1, .int x1), (2, .int x2), (4, .int x4), (5, .int x5)] dX5_worthOf_72 rfl (by decide) rfl ?_
    refine V_iinc C 5 (x5 + 1) [(5, .int (x5 + 1)), (3, .int y8), (0, .ref (ad 26)), (1, .int x1), (2, .int x2), (4, .int x4)] dX5_worthOf_73 rfl rfl (by decide) rfl ?_
    refine V_goto C 13 dX5_worthOf_76 (by decide) ?_
    refine V_sub (lv' := [(0, .ref (ad 26)), (1, .int x1), (2, .int x2), (3, .int y8), (4, .int x4), (5, .int (x5 + 1))]) [2, 3, 4, 1, 5, 0] rfl ?_
    exact hk13 x1 x2 y8 x4 (x5 + 1) M6 h
set_option maxHeartbeats 4000000 in
set_option maxRecDepth 100000 in
theorem vX5_worthOf_13 {p : Program} {l : Launch} {e : Env} {s : State} {m : MethodId} {args : Array Value} {below : List Frame} {meth : Method} {c : Code} {D : va_G} {T3 : ClassId × ClassId × ClassId} {ad sd : Nat → Nat} {A : Nat → Prop}  (C : CX p s m args meth c cX5_worthOf 6 RX5 (some .int) D T3 ad sd A) {r : Int32} {M9 : Mem} : ∀ (n : Nat) (x1 : Int32) (x2 : Int32) (x3 : Int32) (x4 : Int32) (x5 : Int32) (M : Mem), fX5_worthOf_13 n x1 x2 x3 x4 x5 M = some (r, M9) → VV p l e rmX5_worthOf s m args below meth c D T3 ad A 6 0 0 (QM below D T3 ad A args s (fun _ => some (.int r)) M9) M [(0, .ref (ad 26)), (1, .int x1), (2, .int x2), (3, .int x3), (4, .int x4), (5, .int x5)] 13 [] := by
  intro n
  induction n with
  | zero => intro x1 x2 x3 x4 x5 M h; exact nomatch (show (none : Option (Int32 × Mem)) = some _ from h)
  | succ n ih =>
    intro x1 x2 x3 x4 x5 M h
    rw [fX5_worthOf_13] at h
    refine V_iload C 5 dX5_worthOf_13 rfl ?_
    refine V_iload_n C 2 dX5_worthOf_15 rfl ?_
    refine V_bipush C (10 : Int32) dX5_worthOf_16 (by decide) ?_
    refine V_iadd C dX5_worthOf_18 ?_
    refine V_icmp_ge C 79 dX5_worthOf_19 (by decide) (fun q12 => ?_) (fun q12 => ?_)
    · replace h := ite_p q12 h
      refine V_iload_n C 3 dX5_worthOf_79 rfl ?_
      obtain ⟨rfl, rfl⟩ := ret_W h
      exact V_iret C dX5_worthOf_80
    · replace h := ite_n q12 h
      refine V_iload C 5 dX5_worthOf_22 rfl ?_
      refine V_bipush C (100 : Int32) dX5_worthOf_24 (by decide) ?_
      refine V_icmp_ge C 79 dX5_worthOf_26 (by decide) (fun q11 => ?_) (fun q11 => ?_)
      · replace h := ite_p q11 h
        refine V_iload_n C 3 dX5_worthOf_79 rfl ?_
        obtain ⟨rfl, rfl⟩ := ret_W h
        exact V_iret C dX5_worthOf_80
      · replace h := ite_n q11 h
        refine V_iload_n C 3 dX5_worthOf_29 rfl ?_
        refine V_aload_n C 0 dX5_worthOf_30 rfl ?_
        refine V_iload_n C 1 dX5_worthOf_31 rfl ?_
        refine V_iload C 5 dX5_worthOf_32 rfl ?_
        obtain ⟨z2, M3, hz2, h⟩ := bW_t h
        refine V_callV C (st := [.int x3]) (st' := [.int z2, .int x3]) (mX5_byMapOf l x1 x5 M hz2) wmX5_byMapOf lkX5_196 dX5_worthOf_34 (wo_26 T3 ad _) rfl rfl rfl rfl rfl rfl ⟨rfl, rfl, (Nat.le_of_ble_eq_true rfl), (Nat.le_of_ble_eq_true rfl)⟩ ⟨Nat.zero_le _, Nat.zero_le _⟩ (Nat.le_of_ble_eq_true rfl) ?_
        refine V_iconst C (-1 : Int32) dX5_worthOf_37 (by decide) ?_
        refine V_icmp_ne C 45 dX5_worthOf_38 (by decide) (fun q10 => ?_) (fun q10 => ?_)
        · replace h := ite_n q10 h
          refine V_iconst C (0 : Int32) dX5_worthOf_45 (by decide) ?_
          refine V_sub (lv' := [(0, .ref (ad 26)), (1, .int x1), (2, .int x2), (4, .int x4), (5, .int x5)]) [0, 1, 2, 4, 5] rfl ?_
          exact vX5_worthOf_46 C (fX5_worthOf_13 n) ih x1 x2 x4 x5 x3 false M3 h
        · replace h := ite_p q10 h
          refine V_iconst C (1 : Int32) dX5_worthOf_41 (by decide) ?_
          refine V_goto C 46 dX5_worthOf_42 (by decide) ?_
          refine V_sub (lv' := [(0, .ref (ad 26)), (1, .int x1), (2, .int x2), (4, .int x4), (5, .int x5)]) [0, 1, 2, 4, 5] rfl ?_
          exact vX5_worthOf_46 C (fX5_worthOf_13 n) ih x1 x2 x4 x5 x3 true M3 h
set_option maxHeartbeats 4000000 in
set_option maxRecDepth 100000 in
theorem mX5_worthOf (l : Launch) (x1 : Int32) (x2 : Int32) (M : Mem) {r : Int32} {M9 : Mem} (h : fX5_worthOf x1 x2 M = some (r, M9)) : MC l yX5_worthOf cX5_worthOf 6 (some .int) rmX5_worthOf (fun ad sd => [.ref (ad 26), .int x1, .int x2]) M (fun _ => some (.int r)) M9 := by
  refine MC_start (by decide) (fun ad sd => [(0, .ref (ad 26)), (1, .int x1), (2, .int x2)]) (fun _ _ => rfl) (fun _ _ => Nat.le_of_ble_eq_true rfl) ?_
  intro p e s m args below meth c D T3 ad sd A C
  unfold fX5_worthOf at h
  refine V_iconst C (0 : Int32) dX5_worthOf_0 (by decide) ?_
  refine V_istore_n C [(3, .int (0 : Int32)), (0, .ref (ad 26)), (1, .int x1), (2, .int x2)] dX5_worthOf_1 rfl (by decide) rfl ?_
  refine V_aload_n C 1 dX5_worthOf_2 rfl ?_
  refine V_iload_n C 2 dX5_worthOf_3 rfl ?_
  refine V_iload_n C 3 dX5_worthOf_4 rfl ?_
  obtain ⟨z1, hz1, h⟩ := bP_t h
  refine V_callV C (st := []) (st' := [.int z1]) (mX5_mapped l x1 x2 M hz1) wmX5_mapped lkX5_190 dX5_worthOf_5 (wo_26 T3 ad _) rfl rfl rfl rfl rfl rfl ⟨rfl, rfl, (Nat.le_of_ble_eq_true rfl), (Nat.le_of_ble_eq_true rfl)⟩ ⟨Nat.zero_le _, Nat.zero_le _⟩ (Nat.le_of_ble_eq_true rfl) ?_
  refine V_istore C [(4, .int z1), (3, .int (0 : Int32)), (0, .ref (ad 26)), (1, .int x1), (2, .int x2)] dX5_worthOf_8 (by decide) rfl ?_
  refine V_iload_n C 4 dX5_worthOf_10 rfl ?_
  refine V_istore C [(5, .int x2), (4, .int z1), (3, .int (0 : Int32)), (0, .ref (ad 26)), (1, .int x1), (2, .int x2)] dX5_worthOf_11 (by decide) rfl ?_
  refine V_sub (lv' := [(0, .ref (ad 26)), (1, .int x1), (2, .int x2), (3, .int (0 : Int32)), (4, .int z1), (5, .int x2)]) [3, 4, 5, 2, 1, 0] rfl ?_
  exact vX5_worthOf_13 C 1000 x1 x2 (0 : Int32) z1 x2 M h
abbrev rmX5_worth : Room := { frames := 9, cells := 0, slots := 0, locals := 206 }
def fX5_worth (x1 : Int32) (x2 : Int32) (M : Mem) : Option (Int32 × Mem) := bW (fX5_reads M) fun z1 M2 => if (fX5_isDraught x1) = true then if (fX5_isNight x2) = true then bW (fX5_worthOf x1 x2 M2) fun z3 M4 => some (z3, M4) else some ((-102 : Int32), M2) else some ((-102 : Int32), M2)
set_option maxHeartbeats 4000000 in
set_option maxRecDepth 100000 in
theorem mX5_worth (l : Launch) (x1 : Int32) (x2 : Int32) (M : Mem) {r : Int32} {M9 : Mem} (h : fX5_worth x1 x2 M = some (r, M9)) : MC l yX5_worth cX5_worth 3 (some .int) rmX5_worth (fun ad sd => [.ref (ad 26), .int x1, .int x2]) M (fun _ => some (.int r)) M9 := by
  refine MC_start (by decide) (fun ad sd => [(0, .ref (ad 26)), (1, .int x1), (2, .int x2)]) (fun _ _ => rfl) (fun _ _ => Nat.le_of_ble_eq_true rfl) ?_
  intro p e s m args below meth c D T3 ad sd A C
  unfold fX5_worth at h
  refine V_aload_n C 0 dX5_worth_0 rfl ?_
  obtain ⟨z1, M2, hz1, h⟩ := bW_t h
  refine V_callV C (st := []) (st' := [.int z1]) (mX5_reads l M hz1) wmX5_reads lkX5_116 dX5_worth_1 (wo_26 T3 ad _) rfl rfl rfl rfl rfl rfl ⟨rfl, rfl, (Nat.le_of_ble_eq_true rfl), (Nat.le_of_ble_eq_true rfl)⟩ ⟨Nat.zero_le _, Nat.zero_le _⟩ (Nat.le_of_ble_eq_true rfl) ?_
  refine V_pop C dX5_worth_4 rfl ?_
  refine V_iload_n C 1 dX5_worth_5 rfl ?_
  refine V_callS C (st := []) (st' := [.int (b2i (fX5_isDraught x1))]) (mX5_isDraught l x1 M2 rfl) wmX5_isDraught lkX5_176 dX5_worth_6 rfl rfl rfl ⟨rfl, rfl, (Nat.le_of_ble_eq_true rfl), (Nat.le_of_ble_eq_true rfl)⟩ ⟨Nat.zero_le _, Nat.zero_le _⟩ (Nat.le_of_ble_eq_true rfl) ?_
  refine V_ifB_eq C 28 dX5_worth_9 (by decide) (fun q6 => ?_) (fun q6 => ?_)
  · replace h := ite_n q6 h
    refine V_bipush C (-102 : Int32) dX5_worth_28 (by decide) ?_
    obtain ⟨rfl, rfl⟩ := ret_W h
    exact V_iret C dX5_worth_30
  · replace h := ite_p q6 h
    refine V_iload_n C 2 dX5_worth_12 rfl ?_
    refine V_callS C (st := []) (st' := [.int (b2i (fX5_isNight x2))]) (mX5_isNight l x2 M2 rfl) wmX5_isNight lkX5_129 dX5_worth_13 rfl rfl rfl ⟨rfl, rfl, (Nat.le_of_ble_eq_true rfl), (Nat.le_of_ble_eq_true rfl)⟩ ⟨Nat.zero_le _, Nat.zero_le _⟩ (Nat.le_of_ble_eq_true rfl) ?_
    refine V_ifB_eq C 28 dX5_worth_16 (by decide) (fun q5 => ?_) (fun q5 => ?_)
    · replace h := ite_n q5 h
      refine V_bipush C (-102 : Int32) dX5_worth_28 (by decide) ?_
      obtain ⟨rfl, rfl⟩ := ret_W h
      exact V_iret C dX5_worth_30
    · replace h := ite_p q5 h
      refine V_aload_n C 0 dX5_worth_19 rfl ?_
      refine V_iload_n C 1 dX5_worth_20 rfl ?_
      refine V_iload_n C 2 dX5_worth_21 rfl ?_
      obtain ⟨z3, M4, hz3, h⟩ := bW_t h
      refine V_callV C (st := []) (st' := [.int z3]) (mX5_worthOf l x1 x2 M2 hz3) wmX5_worthOf lkX5_267 dX5_worth_22 (wo_26 T3 ad _) rfl rfl rfl rfl rfl rfl ⟨rfl, rfl, (Nat.le_of_ble_eq_true rfl), (Nat.le_of_ble_eq_true rfl)⟩ ⟨Nat.zero_le _, Nat.zero_le _⟩ (Nat.le_of_ble_eq_true rfl) ?_
      refine V_goto C 30 dX5_worth_25 (by decide) ?_
      obtain ⟨rfl, rfl⟩ := ret_W h
      exact V_iret C dX5_worth_30
abbrev rmX5_seasonOf : Room := { frames := 7, cells := 0, slots := 0, locals := 159 }
def fX5_seasonOf_66 (kk9 : Int32 → Int32 → Int32 → Int32 → Int32 → Int32 → Mem → Option (Int32 × Mem)) (x2 : Int32) (x3 : Int32) (x4 : Int32) (x5 : Int32) (x6 : Int32) (x7 : Int32) (t0 : Bool) (M : Mem) : Option (Int32 × Mem) := bP (fX5_mapped M x2 x7) fun z2 => bP (fX5_enoughIn M x2 x7 t0) fun z3 => bW (fX5_goes z2 z3 M) fun z4 M5 => if z4 = (-1 : Int32) then kk9 x2 x3 x4 x5 (x6 + (1 : Int32)) (x7 + 1) M5 else kk9 x2 x3 x4 x5 (x6 + (0 : Int32)) (x7 + 1) M5
def fX5_seasonOf_9 : Nat → Int32 → Int32 → Int32 → Int32 → Int32 → Int32 → Mem → Option (Int32 × Mem)
  | 0, _, _, _, _, _, _, _ => none
  | n + 1, x2, x3, x4, x5, x6, x7, M => if (x3 + x4) ≤ x7 then some (x6, M) else if (100 : Int32) ≤ x7 then some (x6, M) else lt ((((1103515245 : Int32) * x5) + (12345 : Int32))) fun y1 => if (rmI (ushrI y1 (16 : Int32)) (16 : Int32)) < (M 26 12) then fX5_seasonOf_66 (fX5_seasonOf_9 n) x2 x3 x4 y1 x6 x7 true M else bP (fX5_isStorm M x7) fun z7 => if z7 = true then fX5_seasonOf_66 (fX5_seasonOf_9 n) x2 x3 x4 y1 x6 x7 true M else fX5_seasonOf_66 (fX5_seasonOf_9 n) x2 x3 x4 y1 x6 x7 false M
def fX5_seasonOf (x1 : Int32) (x2 : Int32) (x3 : Int32) (x4 : Int32) (M : Mem) : Option (Int32 × Mem) := fX5_seasonOf_9 1000 x2 x3 x4 x1 (0 : Int32) x3 M
set_option maxHeartbeats 4000000 in
set_option maxRecDepth 100000 in
theorem vX5_seasonOf_66 {p : Program} {l : Launch} {e : Env} {s : State} {m : MethodId} {args : Array Value} {below : List Frame} {meth : Method} {c : Code} {D : va_G} {T3 : ClassId × ClassId × ClassId} {ad sd : Nat → Nat} {A : Nat → Prop}  (C : CX p s m args meth c cX5_seasonOf 9 RX5 (some .int) D T3 ad sd A) {r : Int32} {M9 : Mem} (kk9 : Int32 → Int32 → Int32 → Int32 → Int32 → Int32 → Mem → Option (Int32 × Mem)) (hk9 : ∀ (x2 : Int32) (x3 : Int32) (x4 : Int32) (x5 : Int32) (x6 : Int32) (x7 : Int32) (M : Mem), kk9 x2 x3 x4 x5 x6 x7 M = some (r, M9) → VV p l e rmX5_seasonOf s m args below meth c D T3 ad A 9 0 0 (QM below D T3 ad A args s (fun _ => some (.int r)) M9) M [(0, .ref (ad 26)), (2, .int x2), (3, .int x3), (4, .int x4), (5, .int x5), (6, .int x6), (7, .int x7)] 9 []) : ∀ (x2 : Int32) (x3 : Int32) (x4 : Int32) (x5 : Int32) (x6 : Int32) (x7 : Int32) (t0 : Bool) (M : Mem), fX5_seasonOf_66 kk9 x2 x3 x4 x5 x6 x7 t0 M = some (r, M9) → VV p l e rmX5_seasonOf s m args below meth c D T3 ad A 9 0 0 (QM below D T3 ad A args s (fun _ => some (.int r)) M9) M [(0, .ref (ad 26)), (2, .int x2), (3, .int x3), (4, .int x4), (5, .int x5), (6, .int x6), (7, .int x7)] 66 [.int (b2i t0)] := by
  intro x2 x3 x4 x5 x6 x7 t0 M h
  unfold fX5_seasonOf_66 at h
  refine V_istore C [(8, .int (b2i t0)), (0, .ref (ad 26)), (2, .int x2), (3, .int x3), (4, .int x4), (5, .int x5), (6, .int x6), (7, .int x7)] dX5_seasonOf_66 (by decide) rfl ?_
  refine V_iload C 6 dX5_seasonOf_68 rfl ?_
  refine V_aload_n C 1 dX5_seasonOf_70 rfl ?_
  refine V_aload_n C 1 dX5_seasonOf_71 rfl ?_
  refine V_iload_n C 2 dX5_seasonOf_72 rfl ?_
  refine V_iload C 7 dX5_seasonOf_73 rfl ?_
  obtain ⟨z2, hz2, h⟩ := bP_t h
  refine V_callV C (st := [.ref (ad 26), .int x6]) (st' := [.int z2, .ref (ad 26), .int x6]) (mX5_mapped l x2 x7 M hz2) wmX5_mapped lkX5_190 dX5_seasonOf_75 (wo_26 T3 ad _) rfl rfl rfl rfl rfl rfl ⟨rfl, rfl, (Nat.le_of_ble_eq_true rfl), (Nat.le_of_ble_eq_true rfl)⟩ ⟨Nat.zero_le _, Nat.zero_le _⟩ (Nat.le_of_ble_eq_true rfl) ?_
  refine V_aload_n C 1 dX5_seasonOf_78 rfl ?_
  refine V_iload_n C 2 dX5_seasonOf_79 rfl ?_
  refine V_iload C 7 dX5_seasonOf_80 rfl ?_
  refine V_iload C 0 dX5_seasonOf_82 rfl ?_
  obtain ⟨z3, hz3, h⟩ := bP_t h
  refine V_callV C (st := [.int z2, .ref (ad 26), .int x6]) (st' := [.int z3, .int z2, .ref (ad 26), .int x6]) (mX5_enoughIn l x2 x7 t0 M hz3) wmX5_enoughIn lkX5_164 dX5_seasonOf_84 (wo_26 T3 ad _) rfl rfl rfl rfl rfl rfl ⟨rfl, rfl, (Nat.le_of_ble_eq_true rfl), (Nat.le_of_ble_eq_true rfl)⟩ ⟨Nat.zero_le _, Nat.zero_le _⟩ (Nat.le_of_ble_eq_true rfl) ?_
  obtain ⟨z4, M5, hz4, h⟩ := bW_t h
  refine V_callV C (st := [.int x6]) (st' := [.int z4, .int x6]) (mX5_goes l z2 z3 M hz4) wmX5_goes lkX5_193 dX5_seasonOf_87 (wo_26 T3 ad _) rfl rfl rfl rfl rfl rfl ⟨rfl, rfl, (Nat.le_of_ble_eq_true rfl), (Nat.le_of_ble_eq_true rfl)⟩ ⟨Nat.zero_le _, Nat.zero_le _⟩ (Nat.le_of_ble_eq_true rfl) ?_
  refine V_iconst C (-1 : Int32) dX5_seasonOf_90 (by decide) ?_
  refine V_icmp_ne C 98 dX5_seasonOf_91 (by decide) (fun q6 => ?_) (fun q6 => ?_)
  · replace h := ite_n q6 h
    refine V_iconst C (0 : Int32) dX5_seasonOf_98 (by decide) ?_
    refine V_iadd C dX5_seasonOf_99 ?_
    refine V_istore C [(6, .int (x6 + (0 : Int32))), (8, .int (b2i t0)), (0, .ref (ad 26)), (2, .int x2), (3, .int x3), (4, .int x4), (5, .int x5), (7, .int x7)] dX5_seasonOf_100 (by decide) rfl ?_
    refine V_iinc C 7 (x7 + 1) [(7, .int (x7 + 1)), (6, .int (x6 + (0 : Int32))), (8, .int (b2i t0)), (0, .ref (ad 26)), (2, .int x2), (3, .int x3), (4, .int x4), (5, .int x5)] dX5_seasonOf_102 rfl rfl (by decide) rfl ?_
    refine V_goto C 9 dX5_seasonOf_105 (by decide) ?_
    refine V_sub (lv' := [(0, .ref (ad 26)), (2, .int x2), (3, .int x3), (4, .int x4), (5, .int x5), (6, .int (x6 + (0 : Int32))), (7, .int (x7 + 1))]) [3, 4, 5, 6, 7, 1, 0] rfl ?_
    exact hk9 x2 x3 x4 x5 (x6 + (0 : Int32)) (x7 + 1) M5 h
  · replace h := ite_p q6 h
    refine V_iconst C (1 : Int32) dX5_seasonOf_94 (by decide) ?_
    refine V_goto C 99 dX5_seasonOf_95 (by decide) ?_
    refine V_iadd C dX5_seasonOf_99 ?_
    refine V_istore C [(6, .int (x6 + (1 : Int32))), (8, .int (b2i t0)), (0, .ref (ad 26)), (2, .int x2), (3, .int x3), (4, .int x4), (5, .int x5), (7, .int x7)] dX5_seasonOf_100 (by decide) rfl ?_
    refine V_iinc C 7 (x7 + 1) [(7, .int (x7 + 1)), (6, .int (x6 + (1 : Int32))), (8, .int (b2i t0)), (0, .ref (ad 26)), (2, .int x2), (3, .int x3), (4, .int x4), (5, .int x5)] dX5_seasonOf_102 rfl rfl (by decide) rfl ?_
    refine V_goto C 9 dX5_seasonOf_105 (by decide) ?_
    refine V_sub (lv' := [(0, .ref (ad 26)), (2, .int x2), (3, .int x3), (4, .int x4), (5, .int x5), (6, .int (x6 + (1 : Int32))), (7, .int (x7 + 1))]) [3, 4, 5, 6, 7, 1, 0] rfl ?_
    exact hk9 x2 x3 x4 x5 (x6 + (1 : Int32)) (x7 + 1) M5 h
set_option maxHeartbeats 4000000 in
set_option maxRecDepth 100000 in
theorem vX5_seasonOf_9 {p : Program} {l : Launch} {e : Env} {s : State} {m : MethodId} {args : Array Value} {below : List Frame} {meth : Method} {c : Code} {D : va_G} {T3 : ClassId × ClassId × ClassId} {ad sd : Nat → Nat} {A : Nat → Prop}  (C : CX p s m args meth c cX5_seasonOf 9 RX5 (some .int) D T3 ad sd A) {r : Int32} {M9 : Mem} : ∀ (n : Nat) (x2 : Int32) (x3 : Int32) (x4 : Int32) (x5 : Int32) (x6 : Int32) (x7 : Int32) (M : Mem), fX5_seasonOf_9 n x2 x3 x4 x5 x6 x7 M = some (r, M9) → VV p l e rmX5_seasonOf s m args below meth c D T3 ad A 9 0 0 (QM below D T3 ad A args s (fun _ => some (.int r)) M9) M [(0, .ref (ad 26)), (2, .int x2), (3, .int x3), (4, .int x4), (5, .int x5), (6, .int x6), (7, .int x7)] 9 [] := by
  intro n
  induction n with
  | zero => intro x2 x3 x4 x5 x6 x7 M h; exact nomatch (show (none : Option (Int32 × Mem)) = some _ from h)
  | succ n ih =>
    intro x2 x3 x4 x5 x6 x7 M h
    rw [fX5_seasonOf_9] at h
    refine V_iload C 6 dX5_seasonOf_9 rfl ?_
    refine V_iload_n C 2 dX5_seasonOf_11 rfl ?_
    refine V_iload C 3 dX5_seasonOf_12 rfl ?_
    refine V_iadd C dX5_seasonOf_14 ?_
    refine V_icmp_ge C 108 dX5_seasonOf_15 (by decide) (fun q11 => ?_) (fun q11 => ?_)
    · replace h := ite_p q11 h
      refine V_iload C 5 dX5_seasonOf_108 rfl ?_
      obtain ⟨rfl, rfl⟩ := ret_W h
      exact V_iret C dX5_seasonOf_110
    · replace h := ite_n q11 h
      refine V_iload C 6 dX5_seasonOf_18 rfl ?_
      refine V_bipush C (100 : Int32) dX5_seasonOf_20 (by decide) ?_
      refine V_icmp_ge C 108 dX5_seasonOf_22 (by decide) (fun q10 => ?_) (fun q10 => ?_)
      · replace h := ite_p q10 h
        refine V_iload C 5 dX5_seasonOf_108 rfl ?_
        obtain ⟨rfl, rfl⟩ := ret_W h
        exact V_iret C dX5_seasonOf_110
      · replace h := ite_n q10 h
        refine V_ldcw C dX5_seasonOf_25 kcX5_270 ?_
        refine V_iload C 4 dX5_seasonOf_28 rfl ?_
        refine V_imul C dX5_seasonOf_30 ?_
        refine V_sipush C (12345 : Int32) dX5_seasonOf_31 (by decide) ?_
        refine V_iadd C dX5_seasonOf_34 ?_
        obtain ⟨y1, hy1, h⟩ := lt_t h
        refine V_topi C hy1 ?_
        refine V_istore C [(5, .int y1), (0, .ref (ad 26)), (2, .int x2), (3, .int x3), (4, .int x4), (6, .int x6), (7, .int x7)] dX5_seasonOf_35 (by decide) rfl ?_
        refine V_iload C 0 dX5_seasonOf_37 rfl ?_
        refine V_bipush C (16 : Int32) dX5_seasonOf_39 (by decide) ?_
        refine V_iushr C dX5_seasonOf_41 ?_
        refine V_bipush C (16 : Int32) dX5_seasonOf_42 (by decide) ?_
        refine V_irem C dX5_seasonOf_44 (by decide) ?_
        refine V_aload_n C 1 dX5_seasonOf_45 rfl ?_
        refine V_get C 12 dX5_seasonOf_46 (wo_26 T3 ad _) rfl inKX5 (by decide) flX5_50 rfl rfl ?_
        refine V_icmp_lt C 61 dX5_seasonOf_49 (by decide) (fun q9 => ?_) (fun q9 => ?_)
        · replace h := ite_p q9 h
          refine V_iconst C (1 : Int32) dX5_seasonOf_61 (by decide) ?_
          refine V_goto C 66 dX5_seasonOf_62 (by decide) ?_
          refine V_sub (lv' := [(0, .ref (ad 26)), (2, .int x2), (3, .int x3), (4, .int x4), (5, .int y1), (6, .int x6), (7, .int x7)]) [1, 2, 3, 4, 0, 5, 6] rfl ?_
          exact vX5_seasonOf_66 C (fX5_seasonOf_9 n) ih x2 x3 x4 y1 x6 x7 true M h
        · replace h := ite_n q9 h
          refine V_aload_n C 1 dX5_seasonOf_52 rfl ?_
          refine V_iload C 6 dX5_seasonOf_53 rfl ?_
          obtain ⟨z7, hz7, h⟩ := bP_t h
          refine V_callV C (st := []) (st' := [.int (b2i z7)]) (mX5_isStorm l x7 M hz7) wmX5_isStorm lkX5_144 dX5_seasonOf_55 (wo_26 T3 ad _) rfl rfl rfl rfl rfl rfl ⟨rfl, rfl, (Nat.le_of_ble_eq_true rfl), (Nat.le_of_ble_eq_true rfl)⟩ ⟨Nat.zero_le _, Nat.zero_le _⟩ (Nat.le_of_ble_eq_true rfl) ?_
          refine V_ifB_eq C 65 dX5_seasonOf_58 (by decide) (fun q8 => ?_) (fun q8 => ?_)
          · replace h := ite_n q8 h
            refine V_iconst C (0 : Int32) dX5_seasonOf_65 (by decide) ?_
            refine V_sub (lv' := [(0, .ref (ad 26)), (2, .int x2), (3, .int x3), (4, .int x4), (5, .int y1), (6, .int x6), (7, .int x7)]) [1, 2, 3, 4, 0, 5, 6] rfl ?_
            exact vX5_seasonOf_66 C (fX5_seasonOf_9 n) ih x2 x3 x4 y1 x6 x7 false M h
          · replace h := ite_p q8 h
            refine V_iconst C (1 : Int32) dX5_seasonOf_61 (by decide) ?_
            refine V_goto C 66 dX5_seasonOf_62 (by decide) ?_
            refine V_sub (lv' := [(0, .ref (ad 26)), (2, .int x2), (3, .int x3), (4, .int x4), (5, .int y1), (6, .int x6), (7, .int x7)]) [1, 2, 3, 4, 0, 5, 6] rfl ?_
            exact vX5_seasonOf_66 C (fX5_seasonOf_9 n) ih x2 x3 x4 y1 x6 x7 true M h
set_option maxHeartbeats 4000000 in
set_option maxRecDepth 100000 in
theorem mX5_seasonOf (l : Launch) (x1 : Int32) (x2 : Int32) (x3 : Int32) (x4 : Int32) (M : Mem) {r : Int32} {M9 : Mem} (h : fX5_seasonOf x1 x2 x3 x4 M = some (r, M9)) : MC l yX5_seasonOf cX5_seasonOf 9 (some .int) rmX5_seasonOf (fun ad sd => [.ref (ad 26), .int x1, .int x2, .int x3, .int x4]) M (fun _ => some (.int r)) M9 := by
  refine MC_start (by decide) (fun ad sd => [(0, .ref (ad 26)), (1, .int x1), (2, .int x2), (3, .int x3), (4, .int x4)]) (fun _ _ => rfl) (fun _ _ => Nat.le_of_ble_eq_true rfl) ?_
  intro p e s m args below meth c D T3 ad sd A C
  unfold fX5_seasonOf at h
  refine V_iload_n C 1 dX5_seasonOf_0 rfl ?_
  refine V_istore C [(5, .int x1), (0, .ref (ad 26)), (1, .int x1), (2, .int x2), (3, .int x3), (4, .int x4)] dX5_seasonOf_1 (by decide) rfl ?_
  refine V_iconst C (0 : Int32) dX5_seasonOf_3 (by decide) ?_
  refine V_istore C [(6, .int (0 : Int32)), (5, .int x1), (0, .ref (ad 26)), (1, .int x1), (2, .int x2), (3, .int x3), (4, .int x4)] dX5_seasonOf_4 (by decide) rfl ?_
  refine V_iload_n C 5 dX5_seasonOf_6 rfl ?_
  refine V_istore C [(7, .int x3), (6, .int (0 : Int32)), (5, .int x1), (0, .ref (ad 26)), (1, .int x1), (2, .int x2), (3, .int x3), (4, .int x4)] dX5_seasonOf_7 (by decide) rfl ?_
  refine V_sub (lv' := [(0, .ref (ad 26)), (2, .int x2), (3, .int x3), (4, .int x4), (5, .int x1), (6, .int (0 : Int32)), (7, .int x3)]) [3, 5, 6, 7, 2, 1, 0] rfl ?_
  exact vX5_seasonOf_9 C 1000 x2 x3 x4 x1 (0 : Int32) x3 M h
abbrev rmX5_season : Room := { frames := 8, cells := 0, slots := 0, locals := 187 }
def fX5_season (x1 : Int32) (x2 : Int32) (x3 : Int32) (x4 : Int32) (M : Mem) : Option (Int32 × Mem) := bW (fX5_reads M) fun z1 M2 => if (fX5_isDraught x2) = true then if (fX5_isNight x3) = true then if (fX5_in (Int32.toInt64 x4) (0 : Int64) (40 : Int64)) = true then bW (fX5_seasonOf x1 x2 x3 x4 M2) fun z3 M4 => some (z3, M4) else some ((-2 : Int32), M2) else some ((-2 : Int32), M2) else some ((-2 : Int32), M2)
set_option maxHeartbeats 4000000 in
set_option maxRecDepth 100000 in
theorem mX5_season (l : Launch) (x1 : Int32) (x2 : Int32) (x3 : Int32) (x4 : Int32) (M : Mem) {r : Int32} {M9 : Mem} (h : fX5_season x1 x2 x3 x4 M = some (r, M9)) : MC l yX5_season cX5_season 5 (some .int) rmX5_season (fun ad sd => [.ref (ad 26), .int x1, .int x2, .int x3, .int x4]) M (fun _ => some (.int r)) M9 := by
  refine MC_start (by decide) (fun ad sd => [(0, .ref (ad 26)), (1, .int x1), (2, .int x2), (3, .int x3), (4, .int x4)]) (fun _ _ => rfl) (fun _ _ => Nat.le_of_ble_eq_true rfl) ?_
  intro p e s m args below meth c D T3 ad sd A C
  unfold fX5_season at h
  refine V_aload_n C 0 dX5_season_0 rfl ?_
  obtain ⟨z1, M2, hz1, h⟩ := bW_t h
  refine V_callV C (st := []) (st' := [.int z1]) (mX5_reads l M hz1) wmX5_reads lkX5_116 dX5_season_1 (wo_26 T3 ad _) rfl rfl rfl rfl rfl rfl ⟨rfl, rfl, (Nat.le_of_ble_eq_true rfl), (Nat.le_of_ble_eq_true rfl)⟩ ⟨Nat.zero_le _, Nat.zero_le _⟩ (Nat.le_of_ble_eq_true rfl) ?_
  refine V_pop C dX5_season_4 rfl ?_
  refine V_iload_n C 2 dX5_season_5 rfl ?_
  refine V_callS C (st := []) (st' := [.int (b2i (fX5_isDraught x2))]) (mX5_isDraught l x2 M2 rfl) wmX5_isDraught lkX5_176 dX5_season_6 rfl rfl rfl ⟨rfl, rfl, (Nat.le_of_ble_eq_true rfl), (Nat.le_of_ble_eq_true rfl)⟩ ⟨Nat.zero_le _, Nat.zero_le _⟩ (Nat.le_of_ble_eq_true rfl) ?_
  refine V_ifB_eq C 44 dX5_season_9 (by decide) (fun q7 => ?_) (fun q7 => ?_)
  · replace h := ite_n q7 h
    refine V_bipush C (-2 : Int32) dX5_season_44 (by decide) ?_
    obtain ⟨rfl, rfl⟩ := ret_W h
    exact V_iret C dX5_season_46
  · replace h := ite_p q7 h
    refine V_iload_n C 3 dX5_season_12 rfl ?_
    refine V_callS C (st := []) (st' := [.int (b2i (fX5_isNight x3))]) (mX5_isNight l x3 M2 rfl) wmX5_isNight lkX5_129 dX5_season_13 rfl rfl rfl ⟨rfl, rfl, (Nat.le_of_ble_eq_true rfl), (Nat.le_of_ble_eq_true rfl)⟩ ⟨Nat.zero_le _, Nat.zero_le _⟩ (Nat.le_of_ble_eq_true rfl) ?_
    refine V_ifB_eq C 44 dX5_season_16 (by decide) (fun q6 => ?_) (fun q6 => ?_)
    · replace h := ite_n q6 h
      refine V_bipush C (-2 : Int32) dX5_season_44 (by decide) ?_
      obtain ⟨rfl, rfl⟩ := ret_W h
      exact V_iret C dX5_season_46
    · replace h := ite_p q6 h
      refine V_iload C 4 dX5_season_19 rfl ?_
      refine V_i2l C dX5_season_21 ?_
      refine V_lconst C (0 : Int64) dX5_season_22 (by decide) ?_
      refine V_ldc2 C dX5_season_23 kcX5_271 ?_
      refine V_callS C (st := []) (st' := [.int (b2i (fX5_in (Int32.toInt64 x4) (0 : Int64) (40 : Int64)))]) (mX5_in l (Int32.toInt64 x4) (0 : Int64) (40 : Int64) M2 rfl) wmX5_in lkX5_54 dX5_season_26 rfl rfl rfl ⟨rfl, rfl, (Nat.le_of_ble_eq_true rfl), (Nat.le_of_ble_eq_true rfl)⟩ ⟨Nat.zero_le _, Nat.zero_le _⟩ (Nat.le_of_ble_eq_true rfl) ?_
      refine V_ifB_eq C 44 dX5_season_29 (by decide) (fun q5 => ?_) (fun q5 => ?_)
      · replace h := ite_n q5 h
        refine V_bipush C (-2 : Int32) dX5_season_44 (by decide) ?_
        obtain ⟨rfl, rfl⟩ := ret_W h
        exact V_iret C dX5_season_46
      · replace h := ite_p q5 h
        refine V_aload_n C 0 dX5_season_32 rfl ?_
        refine V_iload_n C 1 dX5_season_33 rfl ?_
        refine V_iload_n C 2 dX5_season_34 rfl ?_
        refine V_iload_n C 3 dX5_season_35 rfl ?_
        refine V_iload C 4 dX5_season_36 rfl ?_
        obtain ⟨z3, M4, hz3, h⟩ := bW_t h
        refine V_callV C (st := []) (st' := [.int z3]) (mX5_seasonOf l x1 x2 x3 x4 M2 hz3) wmX5_seasonOf lkX5_273 dX5_season_38 (wo_26 T3 ad _) rfl rfl rfl rfl rfl rfl ⟨rfl, rfl, (Nat.le_of_ble_eq_true rfl), (Nat.le_of_ble_eq_true rfl)⟩ ⟨Nat.zero_le _, Nat.zero_le _⟩ (Nat.le_of_ble_eq_true rfl) ?_
        refine V_goto C 46 dX5_season_41 (by decide) ?_
        obtain ⟨rfl, rfl⟩ := ret_W h
        exact V_iret C dX5_season_46
abbrev rmX5_sheet : Room := { frames := 2, cells := 0, slots := 0, locals := 45 }
def fX5_sheet_55 : Nat → Int32 → Int32 → Int32 → Mem → Option (Int32 × Mem)
  | 0, _, _, _, _ => none
  | n + 1, x1, x3, x4, M => if x3 ≤ x4 then some (x3, M) else gd (inb (((60 : Int32) * x1) + x4) 240) (lt (up M 29 ((((60 : Int32) * x1) + x4)).toNatClampNeg (0 : Int32)) fun M5 => fX5_sheet_55 n x1 x3 (x4 + 1) M5)
def fX5_sheet (x1 : Int32) (x2 : Int32) (x3 : Int32) (M : Mem) : Option (Int32 × Mem) := if (fX5_isSheet x1) = true then if (fX5_in (Int32.toInt64 x2) (0 : Int64) (2 : Int64)) = true then if x3 ≤ (60 : Int32) then if 0 ≤ x3 then gd (inb x1 4) (lt (up M 27 (x1).toNatClampNeg x2) fun M1 => gd (inb x1 4) (lt (up M1 28 (x1).toNatClampNeg x3) fun M3 => fX5_sheet_55 1000 x1 x3 (0 : Int32) M3)) else bW (fX5_met (5 : Int32) M) fun z8 M9 => some (z8, M9) else some ((-2 : Int32), M) else some ((-2 : Int32), M) else some ((-2 : Int32), M)
set_option maxHeartbeats 4000000 in
set_option maxRecDepth 100000 in
theorem vX5_sheet_55 {p : Program} {l : Launch} {e : Env} {s : State} {m : MethodId} {args : Array Value} {below : List Frame} {meth : Method} {c : Code} {D : va_G} {T3 : ClassId × ClassId × ClassId} {ad sd : Nat → Nat} {A : Nat → Prop}  (C : CX p s m args meth c cX5_sheet 5 RX5 (some .int) D T3 ad sd A) {r : Int32} {M9 : Mem} : ∀ (n : Nat) (x1 : Int32) (x3 : Int32) (x4 : Int32) (M : Mem), fX5_sheet_55 n x1 x3 x4 M = some (r, M9) → VV p l e rmX5_sheet s m args below meth c D T3 ad A 5 0 0 (QM below D T3 ad A args s (fun _ => some (.int r)) M9) M [(0, .ref (ad 26)), (1, .int x1), (3, .int x3), (4, .int x4)] 55 [] := by
  intro n
  induction n with
  | zero => intro x1 x3 x4 M h; exact nomatch (show (none : Option (Int32 × Mem)) = some _ from h)
  | succ n ih =>
    intro x1 x3 x4 M h
    rw [fX5_sheet_55] at h
    refine V_iload C 3 dX5_sheet_55 rfl ?_
    refine V_iload_n C 2 dX5_sheet_57 rfl ?_
    refine V_icmp_ge C 80 dX5_sheet_58 (by decide) (fun q7 => ?_) (fun q7 => ?_)
    · replace h := ite_p q7 h
      refine V_iload_n C 2 dX5_sheet_80 rfl ?_
      obtain ⟨rfl, rfl⟩ := ret_W h
      exact V_iret C dX5_sheet_81
    · replace h := ite_n q7 h
      refine V_aload_n C 0 dX5_sheet_61 rfl ?_
      refine V_get C 2 dX5_sheet_62 (wo_26 T3 ad _) rfl inKX5 (by decide) flX5_16 rfl rfl ?_
      refine V_bipush C (60 : Int32) dX5_sheet_65 (by decide) ?_
      refine V_iload_n C 1 dX5_sheet_67 rfl ?_
      refine V_imul C dX5_sheet_68 ?_
      refine V_iload C 3 dX5_sheet_69 rfl ?_
      refine V_iadd C dX5_sheet_71 ?_
      refine V_iconst C (0 : Int32) dX5_sheet_72 (by decide) ?_
      obtain ⟨g6, h⟩ := gd_t h
      obtain ⟨M5, hM5, h⟩ := lt_t h
      refine V_iast C M5 rfl rfl (inb_in g6) dX5_sheet_73 hM5 ?_
      refine V_iinc C 3 (x4 + 1) [(4, .int (x4 + 1)), (0, .ref (ad 26)), (1, .int x1), (3, .int x3)] dX5_sheet_74 rfl rfl (by decide) rfl ?_
      refine V_goto C 55 dX5_sheet_77 (by decide) ?_
      refine V_sub (lv' := [(0, .ref (ad 26)), (1, .int x1), (3, .int x3), (4, .int (x4 + 1))]) [1, 2, 3, 0] rfl ?_
      exact ih x1 x3 (x4 + 1) M5 h
set_option maxHeartbeats 4000000 in
set_option maxRecDepth 100000 in
theorem mX5_sheet (l : Launch) (x1 : Int32) (x2 : Int32) (x3 : Int32) (M : Mem) {r : Int32} {M9 : Mem} (h : fX5_sheet x1 x2 x3 M = some (r, M9)) : MC l yX5_sheet cX5_sheet 5 (some .int) rmX5_sheet (fun ad sd => [.ref (ad 26), .int x1, .int x2, .int x3]) M (fun _ => some (.int r)) M9 := by
  refine MC_start (by decide) (fun ad sd => [(0, .ref (ad 26)), (1, .int x1), (2, .int x2), (3, .int x3)]) (fun _ _ => rfl) (fun _ _ => Nat.le_of_ble_eq_true rfl) ?_
  intro p e s m args below meth c D T3 ad sd A C
  unfold fX5_sheet at h
  refine V_iload_n C 1 dX5_sheet_0 rfl ?_
  refine V_callS C (st := []) (st' := [.int (b2i (fX5_isSheet x1))]) (mX5_isSheet l x1 M rfl) wmX5_isSheet lkX5_67 dX5_sheet_1 rfl rfl rfl ⟨rfl, rfl, (Nat.le_of_ble_eq_true rfl), (Nat.le_of_ble_eq_true rfl)⟩ ⟨Nat.zero_le _, Nat.zero_le _⟩ (Nat.le_of_ble_eq_true rfl) ?_
  refine V_ifB_eq C 25 dX5_sheet_4 (by decide) (fun q13 => ?_) (fun q13 => ?_)
  · replace h := ite_n q13 h
    refine V_bipush C (-2 : Int32) dX5_sheet_25 (by decide) ?_
    obtain ⟨rfl, rfl⟩ := ret_W h
    exact V_iret C dX5_sheet_27
  · replace h := ite_p q13 h
    refine V_iload_n C 2 dX5_sheet_7 rfl ?_
    refine V_i2l C dX5_sheet_8 ?_
    refine V_lconst C (0 : Int64) dX5_sheet_9 (by decide) ?_
    refine V_ldc2 C dX5_sheet_10 kcX5_71 ?_
    refine V_callS C (st := []) (st' := [.int (b2i (fX5_in (Int32.toInt64 x2) (0 : Int64) (2 : Int64)))]) (mX5_in l (Int32.toInt64 x2) (0 : Int64) (2 : Int64) M rfl) wmX5_in lkX5_54 dX5_sheet_13 rfl rfl rfl ⟨rfl, rfl, (Nat.le_of_ble_eq_true rfl), (Nat.le_of_ble_eq_true rfl)⟩ ⟨Nat.zero_le _, Nat.zero_le _⟩ (Nat.le_of_ble_eq_true rfl) ?_
    refine V_ifB_eq C 25 dX5_sheet_16 (by decide) (fun q12 => ?_) (fun q12 => ?_)
    · replace h := ite_n q12 h
      refine V_bipush C (-2 : Int32) dX5_sheet_25 (by decide) ?_
      obtain ⟨rfl, rfl⟩ := ret_W h
      exact V_iret C dX5_sheet_27
    · replace h := ite_p q12 h
      refine V_iload_n C 3 dX5_sheet_19 rfl ?_
      refine V_bipush C (60 : Int32) dX5_sheet_20 (by decide) ?_
      refine V_icmp_le C 28 dX5_sheet_22 (by decide) (fun q11 => ?_) (fun q11 => ?_)
      · replace h := ite_p q11 h
        refine V_iload_n C 3 dX5_sheet_28 rfl ?_
        refine V_if_ge C 38 dX5_sheet_29 (by decide) (fun q10 => ?_) (fun q10 => ?_)
        · replace h := ite_p q10 h
          refine V_aload_n C 0 dX5_sheet_38 rfl ?_
          refine V_get C 0 dX5_sheet_39 (wo_26 T3 ad _) rfl inKX5 (by decide) flX5_7 rfl rfl ?_
          refine V_iload_n C 1 dX5_sheet_42 rfl ?_
          refine V_iload_n C 2 dX5_sheet_43 rfl ?_
          obtain ⟨g2, h⟩ := gd_t h
          obtain ⟨M1, hM1, h⟩ := lt_t h
          refine V_iast C M1 rfl rfl (inb_in g2) dX5_sheet_44 hM1 ?_
          refine V_aload_n C 0 dX5_sheet_45 rfl ?_
          refine V_get C 1 dX5_sheet_46 (wo_26 T3 ad _) rfl inKX5 (by decide) flX5_13 rfl rfl ?_
          refine V_iload_n C 1 dX5_sheet_49 rfl ?_
          refine V_iload_n C 3 dX5_sheet_50 rfl ?_
          obtain ⟨g4, h⟩ := gd_t h
          obtain ⟨M3, hM3, h⟩ := lt_t h
          refine V_iast C M3 rfl rfl (inb_in g4) dX5_sheet_51 hM3 ?_
          refine V_iconst C (0 : Int32) dX5_sheet_52 (by decide) ?_
          refine V_istore C [(4, .int (0 : Int32)), (0, .ref (ad 26)), (1, .int x1), (2, .int x2), (3, .int x3)] dX5_sheet_53 (by decide) rfl ?_
          refine V_sub (lv' := [(0, .ref (ad 26)), (1, .int x1), (3, .int x3), (4, .int (0 : Int32))]) [1, 2, 4, 0] rfl ?_
          exact vX5_sheet_55 C 1000 x1 x3 (0 : Int32) M3 h
        · replace h := ite_n q10 h
          refine V_aload_n C 0 dX5_sheet_32 rfl ?_
          refine V_iconst C (5 : Int32) dX5_sheet_33 (by decide) ?_
          obtain ⟨z8, M9, hz8, h⟩ := bW_t h
          refine V_callV C (st := []) (st' := [.int z8]) (mX5_met l (5 : Int32) M hz8) wmX5_met lkX5_73 dX5_sheet_34 (wo_26 T3 ad _) rfl rfl rfl rfl rfl rfl ⟨rfl, rfl, (Nat.le_of_ble_eq_true rfl), (Nat.le_of_ble_eq_true rfl)⟩ ⟨Nat.zero_le _, Nat.zero_le _⟩ (Nat.le_of_ble_eq_true rfl) ?_
          obtain ⟨rfl, rfl⟩ := ret_W h
          exact V_iret C dX5_sheet_37
      · replace h := ite_n q11 h
        refine V_bipush C (-2 : Int32) dX5_sheet_25 (by decide) ?_
        obtain ⟨rfl, rfl⟩ := ret_W h
        exact V_iret C dX5_sheet_27
abbrev rmX5_lose : Room := { frames := 2, cells := 0, slots := 0, locals := 45 }
def fX5_lose (x1 : Int32) (M : Mem) : Option (Int32 × Mem) := if (fX5_isSheet x1) = true then gd (inb x1 4) (if 0 ≤ (M 27 (x1).toNatClampNeg) then gd (inb x1 4) (lt (up M 27 (x1).toNatClampNeg (-1 : Int32)) fun M2 => gd (inb x1 4) (some ((M2 28 (x1).toNatClampNeg), M2))) else bW (fX5_met (1 : Int32) M) fun z5 M6 => some (z5, M6)) else some ((-2 : Int32), M)
set_option maxHeartbeats 4000000 in
set_option maxRecDepth 100000 in
theorem mX5_lose (l : Launch) (x1 : Int32) (M : Mem) {r : Int32} {M9 : Mem} (h : fX5_lose x1 M = some (r, M9)) : MC l yX5_lose cX5_lose 2 (some .int) rmX5_lose (fun ad sd => [.ref (ad 26), .int x1]) M (fun _ => some (.int r)) M9 := by
  refine MC_start (by decide) (fun ad sd => [(0, .ref (ad 26)), (1, .int x1)]) (fun _ _ => rfl) (fun _ _ => Nat.le_of_ble_eq_true rfl) ?_
  intro p e s m args below meth c D T3 ad sd A C
  unfold fX5_lose at h
  refine V_iload_n C 1 dX5_lose_0 rfl ?_
  refine V_callS C (st := []) (st' := [.int (b2i (fX5_isSheet x1))]) (mX5_isSheet l x1 M rfl) wmX5_isSheet lkX5_67 dX5_lose_1 rfl rfl rfl ⟨rfl, rfl, (Nat.le_of_ble_eq_true rfl), (Nat.le_of_ble_eq_true rfl)⟩ ⟨Nat.zero_le _, Nat.zero_le _⟩ (Nat.le_of_ble_eq_true rfl) ?_
  refine V_ifB_ne C 10 dX5_lose_4 (by decide) (fun q8 => ?_) (fun q8 => ?_)
  · replace h := ite_p q8 h
    refine V_aload_n C 0 dX5_lose_10 rfl ?_
    refine V_get C 0 dX5_lose_11 (wo_26 T3 ad _) rfl inKX5 (by decide) flX5_7 rfl rfl ?_
    refine V_iload_n C 1 dX5_lose_14 rfl ?_
    obtain ⟨g1, h⟩ := gd_t h
    refine V_iald C rfl rfl (inb_in g1) dX5_lose_15 ?_
    refine V_if_ge C 25 dX5_lose_16 (by decide) (fun q7 => ?_) (fun q7 => ?_)
    · replace h := ite_p q7 h
      refine V_aload_n C 0 dX5_lose_25 rfl ?_
      refine V_get C 0 dX5_lose_26 (wo_26 T3 ad _) rfl inKX5 (by decide) flX5_7 rfl rfl ?_
      refine V_iload_n C 1 dX5_lose_29 rfl ?_
      refine V_iconst C (-1 : Int32) dX5_lose_30 (by decide) ?_
      obtain ⟨g3, h⟩ := gd_t h
      obtain ⟨M2, hM2, h⟩ := lt_t h
      refine V_iast C M2 rfl rfl (inb_in g3) dX5_lose_31 hM2 ?_
      refine V_aload_n C 0 dX5_lose_32 rfl ?_
      refine V_get C 1 dX5_lose_33 (wo_26 T3 ad _) rfl inKX5 (by decide) flX5_13 rfl rfl ?_
      refine V_iload_n C 1 dX5_lose_36 rfl ?_
      obtain ⟨g4, h⟩ := gd_t h
      refine V_iald C rfl rfl (inb_in g4) dX5_lose_37 ?_
      obtain ⟨rfl, rfl⟩ := ret_W h
      exact V_iret C dX5_lose_38
    · replace h := ite_n q7 h
      refine V_aload_n C 0 dX5_lose_19 rfl ?_
      refine V_iconst C (1 : Int32) dX5_lose_20 (by decide) ?_
      obtain ⟨z5, M6, hz5, h⟩ := bW_t h
      refine V_callV C (st := []) (st' := [.int z5]) (mX5_met l (1 : Int32) M hz5) wmX5_met lkX5_73 dX5_lose_21 (wo_26 T3 ad _) rfl rfl rfl rfl rfl rfl ⟨rfl, rfl, (Nat.le_of_ble_eq_true rfl), (Nat.le_of_ble_eq_true rfl)⟩ ⟨Nat.zero_le _, Nat.zero_le _⟩ (Nat.le_of_ble_eq_true rfl) ?_
      obtain ⟨rfl, rfl⟩ := ret_W h
      exact V_iret C dX5_lose_24
  · replace h := ite_n q8 h
    refine V_bipush C (-2 : Int32) dX5_lose_7 (by decide) ?_
    obtain ⟨rfl, rfl⟩ := ret_W h
    exact V_iret C dX5_lose_9
abbrev rmX5_lacks : Room := { frames := 1, cells := 0, slots := 0, locals := 25 }
def fX5_lacks (x1 : Int32) (x2 : Int32) (x3 : Int32) (M : Mem) : Option (Int32 × Mem) := gd (inb x1 4) (if 0 ≤ (M 27 (x1).toNatClampNeg) then gd (inb x1 4) (if (M 27 (x1).toNatClampNeg) = x2 then gd (inb x1 4) (if (fX5_in (Int32.toInt64 x3) (0 : Int64) (Int32.toInt64 ((M 28 (x1).toNatClampNeg) - (1 : Int32)))) = true then some ((0 : Int32), M) else bW (fX5_met (2 : Int32) M) fun z4 M5 => some (z4, M5)) else bW (fX5_met (3 : Int32) M) fun z7 M8 => some (z7, M8)) else bW (fX5_met (1 : Int32) M) fun z10 M11 => some (z10, M11))
set_option maxHeartbeats 4000000 in
set_option maxRecDepth 100000 in
theorem mX5_lacks (l : Launch) (x1 : Int32) (x2 : Int32) (x3 : Int32) (M : Mem) {r : Int32} {M9 : Mem} (h : fX5_lacks x1 x2 x3 M = some (r, M9)) : MC l yX5_lacks cX5_lacks 4 (some .int) rmX5_lacks (fun ad sd => [.ref (ad 26), .int x1, .int x2, .int x3]) M (fun _ => some (.int r)) M9 := by
  refine MC_start (by decide) (fun ad sd => [(0, .ref (ad 26)), (1, .int x1), (2, .int x2), (3, .int x3)]) (fun _ _ => rfl) (fun _ _ => Nat.le_of_ble_eq_true rfl) ?_
  intro p e s m args below meth c D T3 ad sd A C
  unfold fX5_lacks at h
  refine V_aload_n C 0 dX5_lacks_0 rfl ?_
  refine V_get C 0 dX5_lacks_1 (wo_26 T3 ad _) rfl inKX5 (by decide) flX5_7 rfl rfl ?_
  refine V_iload_n C 1 dX5_lacks_4 rfl ?_
  obtain ⟨g1, h⟩ := gd_t h
  refine V_iald C rfl rfl (inb_in g1) dX5_lacks_5 ?_
  refine V_if_ge C 15 dX5_lacks_6 (by decide) (fun q12 => ?_) (fun q12 => ?_)
  · replace h := ite_p q12 h
    refine V_aload_n C 0 dX5_lacks_15 rfl ?_
    refine V_get C 0 dX5_lacks_16 (wo_26 T3 ad _) rfl inKX5 (by decide) flX5_7 rfl rfl ?_
    refine V_iload_n C 1 dX5_lacks_19 rfl ?_
    obtain ⟨g2, h⟩ := gd_t h
    refine V_iald C rfl rfl (inb_in g2) dX5_lacks_20 ?_
    refine V_iload_n C 2 dX5_lacks_21 rfl ?_
    refine V_icmp_eq C 31 dX5_lacks_22 (by decide) (fun q9 => ?_) (fun q9 => ?_)
    · replace h := ite_p q9 h
      refine V_iload_n C 3 dX5_lacks_31 rfl ?_
      refine V_i2l C dX5_lacks_32 ?_
      refine V_lconst C (0 : Int64) dX5_lacks_33 (by decide) ?_
      refine V_aload_n C 0 dX5_lacks_34 rfl ?_
      refine V_get C 1 dX5_lacks_35 (wo_26 T3 ad _) rfl inKX5 (by decide) flX5_13 rfl rfl ?_
      refine V_iload_n C 1 dX5_lacks_38 rfl ?_
      obtain ⟨g3, h⟩ := gd_t h
      refine V_iald C rfl rfl (inb_in g3) dX5_lacks_39 ?_
      refine V_iconst C (1 : Int32) dX5_lacks_40 (by decide) ?_
      refine V_isub C dX5_lacks_41 ?_
      refine V_i2l C dX5_lacks_42 ?_
      refine V_callS C (st := []) (st' := [.int (b2i (fX5_in (Int32.toInt64 x3) (0 : Int64) (Int32.toInt64 ((M 28 (x1).toNatClampNeg) - (1 : Int32)))))]) (mX5_in l (Int32.toInt64 x3) (0 : Int64) (Int32.toInt64 ((M 28 (x1).toNatClampNeg) - (1 : Int32))) M rfl) wmX5_in lkX5_54 dX5_lacks_43 rfl rfl rfl ⟨rfl, rfl, (Nat.le_of_ble_eq_true rfl), (Nat.le_of_ble_eq_true rfl)⟩ ⟨Nat.zero_le _, Nat.zero_le _⟩ (Nat.le_of_ble_eq_true rfl) ?_
      refine V_ifB_eq C 53 dX5_lacks_46 (by decide) (fun q6 => ?_) (fun q6 => ?_)
      · replace h := ite_n q6 h
        refine V_aload_n C 0 dX5_lacks_53 rfl ?_
        refine V_iconst C (2 : Int32) dX5_lacks_54 (by decide) ?_
        obtain ⟨z4, M5, hz4, h⟩ := bW_t h
        refine V_callV C (st := []) (st' := [.int z4]) (mX5_met l (2 : Int32) M hz4) wmX5_met lkX5_73 dX5_lacks_55 (wo_26 T3 ad _) rfl rfl rfl rfl rfl rfl ⟨rfl, rfl, (Nat.le_of_ble_eq_true rfl), (Nat.le_of_ble_eq_true rfl)⟩ ⟨Nat.zero_le _, Nat.zero_le _⟩ (Nat.le_of_ble_eq_true rfl) ?_
        obtain ⟨rfl, rfl⟩ := ret_W h
        exact V_iret C dX5_lacks_58
      · replace h := ite_p q6 h
        refine V_iconst C (0 : Int32) dX5_lacks_49 (by decide) ?_
        refine V_goto C 58 dX5_lacks_50 (by decide) ?_
        obtain ⟨rfl, rfl⟩ := ret_W h
        exact V_iret C dX5_lacks_58
    · replace h := ite_n q9 h
      refine V_aload_n C 0 dX5_lacks_25 rfl ?_
      refine V_iconst C (3 : Int32) dX5_lacks_26 (by decide) ?_
      obtain ⟨z7, M8, hz7, h⟩ := bW_t h
      refine V_callV C (st := []) (st' := [.int z7]) (mX5_met l (3 : Int32) M hz7) wmX5_met lkX5_73 dX5_lacks_27 (wo_26 T3 ad _) rfl rfl rfl rfl rfl rfl ⟨rfl, rfl, (Nat.le_of_ble_eq_true rfl), (Nat.le_of_ble_eq_true rfl)⟩ ⟨Nat.zero_le _, Nat.zero_le _⟩ (Nat.le_of_ble_eq_true rfl) ?_
      obtain ⟨rfl, rfl⟩ := ret_W h
      exact V_iret C dX5_lacks_30
  · replace h := ite_n q12 h
    refine V_aload_n C 0 dX5_lacks_9 rfl ?_
    refine V_iconst C (1 : Int32) dX5_lacks_10 (by decide) ?_
    obtain ⟨z10, M11, hz10, h⟩ := bW_t h
    refine V_callV C (st := []) (st' := [.int z10]) (mX5_met l (1 : Int32) M hz10) wmX5_met lkX5_73 dX5_lacks_11 (wo_26 T3 ad _) rfl rfl rfl rfl rfl rfl ⟨rfl, rfl, (Nat.le_of_ble_eq_true rfl), (Nat.le_of_ble_eq_true rfl)⟩ ⟨Nat.zero_le _, Nat.zero_le _⟩ (Nat.le_of_ble_eq_true rfl) ?_
    obtain ⟨rfl, rfl⟩ := ret_W h
    exact V_iret C dX5_lacks_14
abbrev rmX5_cut : Room := { frames := 0, cells := 0, slots := 0, locals := 0 }
def fX5_cut (x0 : Int32) (x1 : Int32) : Int32 := if x0 = 0 then (cst8 x1) else if x0 = (1 : Int32) then (cst16 x1) else x1
set_option maxHeartbeats 4000000 in
set_option maxRecDepth 100000 in
theorem mX5_cut (l : Launch) (x0 : Int32) (x1 : Int32) (M : Mem) {r : Int32} (h : fX5_cut x0 x1 = r) : MC l yX5_cut cX5_cut 2 (some .int) rmX5_cut (fun ad sd => [.int x0, .int x1]) M (fun _ => some (.int r)) M := by
  refine MC_start (by decide) (fun ad sd => [(0, .int x0), (1, .int x1)]) (fun _ _ => rfl) (fun _ _ => Nat.le_of_ble_eq_true rfl) ?_
  intro p e s m args below meth c D T3 ad sd A C
  unfold fX5_cut at h
  refine V_iload_n C 0 dX5_cut_0 rfl ?_
  refine V_if_ne C 9 dX5_cut_1 (by decide) (fun q2 => ?_) (fun q2 => ?_)
  · replace h := ite_n q2 h
    refine V_iload_n C 0 dX5_cut_9 rfl ?_
    refine V_iconst C (1 : Int32) dX5_cut_10 (by decide) ?_
    refine V_icmp_ne C 19 dX5_cut_11 (by decide) (fun q1 => ?_) (fun q1 => ?_)
    · replace h := ite_n q1 h
      refine V_iload_n C 1 dX5_cut_19 rfl ?_
      subst h
      exact V_iret C dX5_cut_20
    · replace h := ite_p q1 h
      refine V_iload_n C 1 dX5_cut_14 rfl ?_
      refine V_i2s C dX5_cut_15 ?_
      refine V_goto C 20 dX5_cut_16 (by decide) ?_
      subst h
      exact V_iret C dX5_cut_20
  · replace h := ite_p q2 h
    refine V_iload_n C 1 dX5_cut_4 rfl ?_
    refine V_i2b C dX5_cut_5 ?_
    refine V_goto C 20 dX5_cut_6 (by decide) ?_
    subst h
    exact V_iret C dX5_cut_20
abbrev rmX5_lay : Room := { frames := 2, cells := 0, slots := 0, locals := 48 }
def fX5_lay (x1 : Int32) (x2 : Int32) (x3 : Int32) (x4 : Int32) (M : Mem) : Option (Int32 × Mem) := if (fX5_isSheet x1) = true then if (fX5_in (Int32.toInt64 x2) (0 : Int64) (2 : Int64)) = true then bW (fX5_lacks x1 x2 x3 M) fun z1 M2 => if z1 = 0 then gd (inb (((60 : Int32) * x1) + x3) 240) (lt (up M2 29 ((((60 : Int32) * x1) + x3)).toNatClampNeg (fX5_cut x2 x4)) fun M3 => some ((1 : Int32), M3)) else some (z1, M2) else some ((-2 : Int32), M) else some ((-2 : Int32), M)
set_option maxHeartbeats 4000000 in
set_option maxRecDepth 100000 in
theorem mX5_lay (l : Launch) (x1 : Int32) (x2 : Int32) (x3 : Int32) (x4 : Int32) (M : Mem) {r : Int32} {M9 : Mem} (h : fX5_lay x1 x2 x3 x4 M = some (r, M9)) : MC l yX5_lay cX5_lay 6 (some .int) rmX5_lay (fun ad sd => [.ref (ad 26), .int x1, .int x2, .int x3, .int x4]) M (fun _ => some (.int r)) M9 := by
  refine MC_start (by decide) (fun ad sd => [(0, .ref (ad 26)), (1, .int x1), (2, .int x2), (3, .int x3), (4, .int x4)]) (fun _ _ => rfl) (fun _ _ => Nat.le_of_ble_eq_true rfl) ?_
  intro p e s m args below meth c D T3 ad sd A C
  unfold fX5_lay at h
  refine V_iload_n C 1 dX5_lay_0 rfl ?_
  refine V_callS C (st := []) (st' := [.int (b2i (fX5_isSheet x1))]) (mX5_isSheet l x1 M rfl) wmX5_isSheet lkX5_67 dX5_lay_1 rfl rfl rfl ⟨rfl, rfl, (Nat.le_of_ble_eq_true rfl), (Nat.le_of_ble_eq_true rfl)⟩ ⟨Nat.zero_le _, Nat.zero_le _⟩ (Nat.le_of_ble_eq_true rfl) ?_
  refine V_ifB_eq C 19 dX5_lay_4 (by decide) (fun q7 => ?_) (fun q7 => ?_)
  · replace h := ite_n q7 h
    refine V_bipush C (-2 : Int32) dX5_lay_19 (by decide) ?_
    obtain ⟨rfl, rfl⟩ := ret_W h
    exact V_iret C dX5_lay_21
  · replace h := ite_p q7 h
    refine V_iload_n C 2 dX5_lay_7 rfl ?_
    refine V_i2l C dX5_lay_8 ?_
    refine V_lconst C (0 : Int64) dX5_lay_9 (by decide) ?_
    refine V_ldc2 C dX5_lay_10 kcX5_71 ?_
    refine V_callS C (st := []) (st' := [.int (b2i (fX5_in (Int32.toInt64 x2) (0 : Int64) (2 : Int64)))]) (mX5_in l (Int32.toInt64 x2) (0 : Int64) (2 : Int64) M rfl) wmX5_in lkX5_54 dX5_lay_13 rfl rfl rfl ⟨rfl, rfl, (Nat.le_of_ble_eq_true rfl), (Nat.le_of_ble_eq_true rfl)⟩ ⟨Nat.zero_le _, Nat.zero_le _⟩ (Nat.le_of_ble_eq_true rfl) ?_
    refine V_ifB_ne C 22 dX5_lay_16 (by decide) (fun q6 => ?_) (fun q6 => ?_)
    · replace h := ite_p q6 h
      refine V_aload_n C 0 dX5_lay_22 rfl ?_
      refine V_iload_n C 1 dX5_lay_23 rfl ?_
      refine V_iload_n C 2 dX5_lay_24 rfl ?_
      refine V_iload_n C 3 dX5_lay_25 rfl ?_
      obtain ⟨z1, M2, hz1, h⟩ := bW_t h
      refine V_callV C (st := []) (st' := [.int z1]) (mX5_lacks l x1 x2 x3 M hz1) wmX5_lacks lkX5_77 dX5_lay_26 (wo_26 T3 ad _) rfl rfl rfl rfl rfl rfl ⟨rfl, rfl, (Nat.le_of_ble_eq_true rfl), (Nat.le_of_ble_eq_true rfl)⟩ ⟨Nat.zero_le _, Nat.zero_le _⟩ (Nat.le_of_ble_eq_true rfl) ?_
      refine V_istore C [(5, .int z1), (0, .ref (ad 26)), (1, .int x1), (2, .int x2), (3, .int x3), (4, .int x4)] dX5_lay_29 (by decide) rfl ?_
      refine V_iload C 0 dX5_lay_31 rfl ?_
      refine V_if_eq C 39 dX5_lay_33 (by decide) (fun q5 => ?_) (fun q5 => ?_)
      · replace h := ite_p q5 h
        refine V_aload_n C 1 dX5_lay_39 rfl ?_
        refine V_get C 2 dX5_lay_40 (wo_26 T3 ad _) rfl inKX5 (by decide) flX5_16 rfl rfl ?_
        refine V_bipush C (60 : Int32) dX5_lay_43 (by decide) ?_
        refine V_iload_n C 2 dX5_lay_45 rfl ?_
        refine V_imul C dX5_lay_46 ?_
        refine V_iload_n C 4 dX5_lay_47 rfl ?_
        refine V_iadd C dX5_lay_48 ?_
        refine V_iload_n C 3 dX5_lay_49 rfl ?_
        refine V_iload C 5 dX5_lay_50 rfl ?_
        refine V_callS C (st := [.int (((60 : Int32) * x1) + x3), .ref (ad 29)]) (st' := [.int (fX5_cut x2 x4), .int (((60 : Int32) * x1) + x3), .ref (ad 29)]) (mX5_cut l x2 x4 M2 rfl) wmX5_cut lkX5_81 dX5_lay_52 rfl rfl rfl ⟨rfl, rfl, (Nat.le_of_ble_eq_true rfl), (Nat.le_of_ble_eq_true rfl)⟩ ⟨Nat.zero_le _, Nat.zero_le _⟩ (Nat.le_of_ble_eq_true rfl) ?_
        obtain ⟨g4, h⟩ := gd_t h
        obtain ⟨M3, hM3, h⟩ := lt_t h
        refine V_iast C M3 rfl rfl (inb_in g4) dX5_lay_55 hM3 ?_
        refine V_iconst C (1 : Int32) dX5_lay_56 (by decide) ?_
        obtain ⟨rfl, rfl⟩ := ret_W h
        exact V_iret C dX5_lay_57
      · replace h := ite_n q5 h
        refine V_iload C 0 dX5_lay_36 rfl ?_
        obtain ⟨rfl, rfl⟩ := ret_W h
        exact V_iret C dX5_lay_38
    · replace h := ite_n q6 h
      refine V_bipush C (-2 : Int32) dX5_lay_19 (by decide) ?_
      obtain ⟨rfl, rfl⟩ := ret_W h
      exact V_iret C dX5_lay_21
abbrev rmX5_get : Room := { frames := 2, cells := 0, slots := 0, locals := 48 }
def fX5_get (x1 : Int32) (x2 : Int32) (x3 : Int32) (M : Mem) : Option (Int32 × Mem) := if (fX5_isSheet x1) = true then if (fX5_in (Int32.toInt64 x2) (0 : Int64) (2 : Int64)) = true then bW (fX5_lacks x1 x2 x3 M) fun z1 M2 => if z1 = 0 then gd (inb (((60 : Int32) * x1) + x3) 240) (some ((M2 29 ((((60 : Int32) * x1) + x3)).toNatClampNeg), M2)) else some ((-2147483648 : Int32), M2) else some ((-2147483648 : Int32), M) else some ((-2147483648 : Int32), M)
set_option maxHeartbeats 4000000 in
set_option maxRecDepth 100000 in
theorem mX5_get (l : Launch) (x1 : Int32) (x2 : Int32) (x3 : Int32) (M : Mem) {r : Int32} {M9 : Mem} (h : fX5_get x1 x2 x3 M = some (r, M9)) : MC l yX5_get cX5_get 4 (some .int) rmX5_get (fun ad sd => [.ref (ad 26), .int x1, .int x2, .int x3]) M (fun _ => some (.int r)) M9 := by
  refine MC_start (by decide) (fun ad sd => [(0, .ref (ad 26)), (1, .int x1), (2, .int x2), (3, .int x3)]) (fun _ _ => rfl) (fun _ _ => Nat.le_of_ble_eq_true rfl) ?_
  intro p e s m args below meth c D T3 ad sd A C
  unfold fX5_get at h
  refine V_iload_n C 1 dX5_get_0 rfl ?_
  refine V_callS C (st := []) (st' := [.int (b2i (fX5_isSheet x1))]) (mX5_isSheet l x1 M rfl) wmX5_isSheet lkX5_67 dX5_get_1 rfl rfl rfl ⟨rfl, rfl, (Nat.le_of_ble_eq_true rfl), (Nat.le_of_ble_eq_true rfl)⟩ ⟨Nat.zero_le _, Nat.zero_le _⟩ (Nat.le_of_ble_eq_true rfl) ?_
  refine V_ifB_eq C 29 dX5_get_4 (by decide) (fun q6 => ?_) (fun q6 => ?_)
  · replace h := ite_n q6 h
    refine V_ldc C dX5_get_29 kcX5_84 ?_
    obtain ⟨rfl, rfl⟩ := ret_W h
    exact V_iret C dX5_get_31
  · replace h := ite_p q6 h
    refine V_iload_n C 2 dX5_get_7 rfl ?_
    refine V_i2l C dX5_get_8 ?_
    refine V_lconst C (0 : Int64) dX5_get_9 (by decide) ?_
    refine V_ldc2 C dX5_get_10 kcX5_71 ?_
    refine V_callS C (st := []) (st' := [.int (b2i (fX5_in (Int32.toInt64 x2) (0 : Int64) (2 : Int64)))]) (mX5_in l (Int32.toInt64 x2) (0 : Int64) (2 : Int64) M rfl) wmX5_in lkX5_54 dX5_get_13 rfl rfl rfl ⟨rfl, rfl, (Nat.le_of_ble_eq_true rfl), (Nat.le_of_ble_eq_true rfl)⟩ ⟨Nat.zero_le _, Nat.zero_le _⟩ (Nat.le_of_ble_eq_true rfl) ?_
    refine V_ifB_eq C 29 dX5_get_16 (by decide) (fun q5 => ?_) (fun q5 => ?_)
    · replace h := ite_n q5 h
      refine V_ldc C dX5_get_29 kcX5_84 ?_
      obtain ⟨rfl, rfl⟩ := ret_W h
      exact V_iret C dX5_get_31
    · replace h := ite_p q5 h
      refine V_aload_n C 0 dX5_get_19 rfl ?_
      refine V_iload_n C 1 dX5_get_20 rfl ?_
      refine V_iload_n C 2 dX5_get_21 rfl ?_
      refine V_iload_n C 3 dX5_get_22 rfl ?_
      obtain ⟨z1, M2, hz1, h⟩ := bW_t h
      refine V_callV C (st := []) (st' := [.int z1]) (mX5_lacks l x1 x2 x3 M hz1) wmX5_lacks lkX5_77 dX5_get_23 (wo_26 T3 ad _) rfl rfl rfl rfl rfl rfl ⟨rfl, rfl, (Nat.le_of_ble_eq_true rfl), (Nat.le_of_ble_eq_true rfl)⟩ ⟨Nat.zero_le _, Nat.zero_le _⟩ (Nat.le_of_ble_eq_true rfl) ?_
      refine V_if_eq C 32 dX5_get_26 (by decide) (fun q4 => ?_) (fun q4 => ?_)
      · replace h := ite_p q4 h
        refine V_aload_n C 0 dX5_get_32 rfl ?_
        refine V_get C 2 dX5_get_33 (wo_26 T3 ad _) rfl inKX5 (by decide) flX5_16 rfl rfl ?_
        refine V_bipush C (60 : Int32) dX5_get_36 (by decide) ?_
        refine V_iload_n C 1 dX5_get_38 rfl ?_
        refine V_imul C dX5_get_39 ?_
        refine V_iload_n C 3 dX5_get_40 rfl ?_
        refine V_iadd C dX5_get_41 ?_
        obtain ⟨g3, h⟩ := gd_t h
        refine V_iald C rfl rfl (inb_in g3) dX5_get_42 ?_
        obtain ⟨rfl, rfl⟩ := ret_W h
        exact V_iret C dX5_get_43
      · replace h := ite_n q4 h
        refine V_ldc C dX5_get_29 kcX5_84 ?_
        obtain ⟨rfl, rfl⟩ := ret_W h
        exact V_iret C dX5_get_31
abbrev rmX5_copy : Room := { frames := 2, cells := 0, slots := 0, locals := 45 }
def fX5_copy_35 (M : Mem) : Option (Int32 × Mem) := bW (fX5_met (1 : Int32) M) fun z2 M3 => some (z2, M3)
def fX5_copy_111 (M : Mem) : Option (Int32 × Mem) := bW (fX5_met (2 : Int32) M) fun z7 M8 => some (z7, M8)
def fX5_copy_157 : Nat → Int32 → Int32 → Int32 → Int32 → Mem → Option (Int32 × Mem)
  | 0, _, _, _, _, _ => none
  | n + 1, x3, x4, x5, x6, M => if x5 ≤ x6 then some ((1 : Int32), M) else gd (inb x6 60) (gd (inb ((((60 : Int32) * x3) + x4) + x6) 240) (lt (up M 29 (((((60 : Int32) * x3) + x4) + x6)).toNatClampNeg (M 30 (x6).toNatClampNeg)) fun M12 => fX5_copy_157 n x3 x4 x5 (x6 + 1) M12))
def fX5_copy_120 : Nat → Int32 → Int32 → Int32 → Int32 → Int32 → Int32 → Mem → Option (Int32 × Mem)
  | 0, _, _, _, _, _, _, _ => none
  | n + 1, x1, x2, x3, x4, x5, x6, M => if x5 ≤ x6 then fX5_copy_157 1000 x3 x4 x5 (0 : Int32) M else gd (inb ((((60 : Int32) * x1) + x2) + x6) 240) (gd (inb x6 60) (lt (up M 30 (x6).toNatClampNeg (M 29 (((((60 : Int32) * x1) + x2) + x6)).toNatClampNeg)) fun M16 => fX5_copy_120 n x1 x2 x3 x4 x5 (x6 + 1) M16))
def fX5_copy (x1 : Int32) (x2 : Int32) (x3 : Int32) (x4 : Int32) (x5 : Int32) (M : Mem) : Option (Int32 × Mem) := if (fX5_isSheet x1) = true then if (fX5_isSheet x3) = true then gd (inb x1 4) (if (M 27 (x1).toNatClampNeg) < 0 then fX5_copy_35 M else gd (inb x3 4) (if 0 ≤ (M 27 (x3).toNatClampNeg) then gd (inb x1 4) (gd (inb x3 4) (if (M 27 (x1).toNatClampNeg) = (M 27 (x3).toNatClampNeg) then if x2 < 0 then fX5_copy_111 M else if x4 < 0 then fX5_copy_111 M else if x5 < 0 then fX5_copy_111 M else gd (inb x1 4) (if 0 < (lg_cmp ((Int32.toInt64 x2) + (Int32.toInt64 x5)) (Int32.toInt64 (M 28 (x1).toNatClampNeg))) then fX5_copy_111 M else gd (inb x3 4) (if (lg_cmp ((Int32.toInt64 x4) + (Int32.toInt64 x5)) (Int32.toInt64 (M 28 (x3).toNatClampNeg))) ≤ 0 then fX5_copy_120 1000 x1 x2 x3 x4 x5 (0 : Int32) M else fX5_copy_111 M)) else bW (fX5_met (4 : Int32) M) fun z24 M25 => some (z24, M25))) else fX5_copy_35 M)) else some ((-2 : Int32), M) else some ((-2 : Int32), M)
set_option maxHeartbeats 4000000 in
set_option maxRecDepth 100000 in
theorem vX5_copy_35 {p : Program} {l : Launch} {e : Env} {s : State} {m : MethodId} {args : Array Value} {below : List Frame} {meth : Method} {c : Code} {D : va_G} {T3 : ClassId × ClassId × ClassId} {ad sd : Nat → Nat} {A : Nat → Prop}  (C : CX p s m args meth c cX5_copy 7 RX5 (some .int) D T3 ad sd A) {r : Int32} {M9 : Mem} : ∀ (M : Mem), fX5_copy_35 M = some (r, M9) → VV p l e rmX5_copy s m args below meth c D T3 ad A 7 0 0 (QM below D T3 ad A args s (fun _ => some (.int r)) M9) M [(0, .ref (ad 26))] 35 [] := by
  intro M h
  unfold fX5_copy_35 at h
  refine V_aload_n C 0 dX5_copy_35 rfl ?_
  refine V_iconst C (1 : Int32) dX5_copy_36 (by decide) ?_
  obtain ⟨z2, M3, hz2, h⟩ := bW_t h
  refine V_callV C (st := []) (st' := [.int z2]) (mX5_met l (1 : Int32) M hz2) wmX5_met lkX5_73 dX5_copy_37 (wo_26 T3 ad _) rfl rfl rfl rfl rfl rfl ⟨rfl, rfl, (Nat.le_of_ble_eq_true rfl), (Nat.le_of_ble_eq_true rfl)⟩ ⟨Nat.zero_le _, Nat.zero_le _⟩ (Nat.le_of_ble_eq_true rfl) ?_
  obtain ⟨rfl, rfl⟩ := ret_W h
  exact V_iret C dX5_copy_40
set_option maxHeartbeats 4000000 in
set_option maxRecDepth 100000 in
theorem vX5_copy_111 {p : Program} {l : Launch} {e : Env} {s : State} {m : MethodId} {args : Array Value} {below : List Frame} {meth : Method} {c : Code} {D : va_G} {T3 : ClassId × ClassId × ClassId} {ad sd : Nat → Nat} {A : Nat → Prop}  (C : CX p s m args meth c cX5_copy 7 RX5 (some .int) D T3 ad sd A) {r : Int32} {M9 : Mem} : ∀ (M : Mem), fX5_copy_111 M = some (r, M9) → VV p l e rmX5_copy s m args below meth c D T3 ad A 7 0 0 (QM below D T3 ad A args s (fun _ => some (.int r)) M9) M [(0, .ref (ad 26))] 111 [] := by
  intro M h
  unfold fX5_copy_111 at h
  refine V_aload_n C 0 dX5_copy_111 rfl ?_
  refine V_iconst C (2 : Int32) dX5_copy_112 (by decide) ?_
  obtain ⟨z7, M8, hz7, h⟩ := bW_t h
  refine V_callV C (st := []) (st' := [.int z7]) (mX5_met l (2 : Int32) M hz7) wmX5_met lkX5_73 dX5_copy_113 (wo_26 T3 ad _) rfl rfl rfl rfl rfl rfl ⟨rfl, rfl, (Nat.le_of_ble_eq_true rfl), (Nat.le_of_ble_eq_true rfl)⟩ ⟨Nat.zero_le _, Nat.zero_le _⟩ (Nat.le_of_ble_eq_true rfl) ?_
  obtain ⟨rfl, rfl⟩ := ret_W h
  exact V_iret C dX5_copy_116
set_option maxHeartbeats 4000000 in
set_option maxRecDepth 100000 in
theorem vX5_copy_157 {p : Program} {l : Launch} {e : Env} {s : State} {m : MethodId} {args : Array Value} {below : List Frame} {meth : Method} {c : Code} {D : va_G} {T3 : ClassId × ClassId × ClassId} {ad sd : Nat → Nat} {A : Nat → Prop}  (C : CX p s m args meth c cX5_copy 7 RX5 (some .int) D T3 ad sd A) {r : Int32} {M9 : Mem} : ∀ (n : Nat) (x3 : Int32) (x4 : Int32) (x5 : Int32) (x6 : Int32) (M : Mem), fX5_copy_157 n x3 x4 x5 x6 M = some (r, M9) → VV p l e rmX5_copy s m args below meth c D T3 ad A 7 0 0 (QM below D T3 ad A args s (fun _ => some (.int r)) M9) M [(0, .ref (ad 26)), (3, .int x3), (4, .int x4), (5, .int x5), (6, .int x6)] 157 [] := by
  intro n
  induction n with
  | zero => intro x3 x4 x5 x6 M h; exact nomatch (show (none : Option (Int32 × Mem)) = some _ from h)
  | succ n ih =>
    intro x3 x4 x5 x6 M h
    rw [fX5_copy_157] at h
    refine V_iload C 4 dX5_copy_157 rfl ?_
    refine V_iload C 3 dX5_copy_159 rfl ?_
    refine V_icmp_ge C 192 dX5_copy_161 (by decide) (fun q14 => ?_) (fun q14 => ?_)
    · replace h := ite_p q14 h
      refine V_iconst C (1 : Int32) dX5_copy_192 (by decide) ?_
      obtain ⟨rfl, rfl⟩ := ret_W h
      exact V_iret C dX5_copy_193
    · replace h := ite_n q14 h
      refine V_aload_n C 0 dX5_copy_164 rfl ?_
      refine V_get C 2 dX5_copy_165 (wo_26 T3 ad _) rfl inKX5 (by decide) flX5_16 rfl rfl ?_
      refine V_bipush C (60 : Int32) dX5_copy_168 (by decide) ?_
      refine V_iload_n C 1 dX5_copy_170 rfl ?_
      refine V_imul C dX5_copy_171 ?_
      refine V_iload C 2 dX5_copy_172 rfl ?_
      refine V_iadd C dX5_copy_174 ?_
      refine V_iload C 4 dX5_copy_175 rfl ?_
      refine V_iadd C dX5_copy_177 ?_
      refine V_aload_n C 0 dX5_copy_178 rfl ?_
      refine V_get C 3 dX5_copy_179 (wo_26 T3 ad _) rfl inKX5 (by decide) flX5_19 rfl rfl ?_
      refine V_iload C 4 dX5_copy_182 rfl ?_
      obtain ⟨g11, h⟩ := gd_t h
      refine V_iald C rfl rfl (inb_in g11) dX5_copy_184 ?_
      obtain ⟨g13, h⟩ := gd_t h
      obtain ⟨M12, hM12, h⟩ := lt_t h
      refine V_iast C M12 rfl rfl (inb_in g13) dX5_copy_185 hM12 ?_
      refine V_iinc C 4 (x6 + 1) [(6, .int (x6 + 1)), (0, .ref (ad 26)), (3, .int x3), (4, .int x4), (5, .int x5)] dX5_copy_186 rfl rfl (by decide) rfl ?_
      refine V_goto C 157 dX5_copy_189 (by decide) ?_
      refine V_sub (lv' := [(0, .ref (ad 26)), (3, .int x3), (4, .int x4), (5, .int x5), (6, .int (x6 + 1))]) [1, 2, 3, 4, 0] rfl ?_
      exact ih x3 x4 x5 (x6 + 1) M12 h
set_option maxHeartbeats 4000000 in
set_option maxRecDepth 100000 in
theorem vX5_copy_120 {p : Program} {l : Launch} {e : Env} {s : State} {m : MethodId} {args : Array Value} {below : List Frame} {meth : Method} {c : Code} {D : va_G} {T3 : ClassId × ClassId × ClassId} {ad sd : Nat → Nat} {A : Nat → Prop}  (C : CX p s m args meth c cX5_copy 7 RX5 (some .int) D T3 ad sd A) {r : Int32} {M9 : Mem} : ∀ (n : Nat) (x1 : Int32) (x2 : Int32) (x3 : Int32) (x4 : Int32) (x5 : Int32) (x6 : Int32) (M : Mem), fX5_copy_120 n x1 x2 x3 x4 x5 x6 M = some (r, M9) → VV p l e rmX5_copy s m args below meth c D T3 ad A 7 0 0 (QM below D T3 ad A args s (fun _ => some (.int r)) M9) M [(0, .ref (ad 26)), (1, .int x1), (2, .int x2), (3, .int x3), (4, .int x4), (5, .int x5), (6, .int x6)] 120 [] := by
  intro n
  induction n with
  | zero => intro x1 x2 x3 x4 x5 x6 M h; exact nomatch (show (none : Option (Int32 × Mem)) = some _ from h)
  | succ n ih =>
    intro x1 x2 x3 x4 x5 x6 M h
    rw [fX5_copy_120] at h
    refine V_iload C 6 dX5_copy_120 rfl ?_
    refine V_iload C 5 dX5_copy_122 rfl ?_
    refine V_icmp_ge C 154 dX5_copy_124 (by decide) (fun q18 => ?_) (fun q18 => ?_)
    · replace h := ite_p q18 h
      refine V_iconst C (0 : Int32) dX5_copy_154 (by decide) ?_
      refine V_istore C [(6, .int (0 : Int32)), (0, .ref (ad 26)), (1, .int x1), (2, .int x2), (3, .int x3), (4, .int x4), (5, .int x5)] dX5_copy_155 (by decide) rfl ?_
      refine V_sub (lv' := [(0, .ref (ad 26)), (3, .int x3), (4, .int x4), (5, .int x5), (6, .int (0 : Int32))]) [1, 4, 5, 6, 0] rfl ?_
      exact vX5_copy_157 C 1000 x3 x4 x5 (0 : Int32) M h
    · replace h := ite_n q18 h
      refine V_aload_n C 0 dX5_copy_127 rfl ?_
      refine V_get C 3 dX5_copy_128 (wo_26 T3 ad _) rfl inKX5 (by decide) flX5_19 rfl rfl ?_
      refine V_iload C 6 dX5_copy_131 rfl ?_
      refine V_aload_n C 0 dX5_copy_133 rfl ?_
      refine V_get C 2 dX5_copy_134 (wo_26 T3 ad _) rfl inKX5 (by decide) flX5_16 rfl rfl ?_
      refine V_bipush C (60 : Int32) dX5_copy_137 (by decide) ?_
      refine V_iload_n C 1 dX5_copy_139 rfl ?_
      refine V_imul C dX5_copy_140 ?_
      refine V_iload_n C 2 dX5_copy_141 rfl ?_
      refine V_iadd C dX5_copy_142 ?_
      refine V_iload C 6 dX5_copy_143 rfl ?_
      refine V_iadd C dX5_copy_145 ?_
      obtain ⟨g15, h⟩ := gd_t h
      refine V_iald C rfl rfl (inb_in g15) dX5_copy_146 ?_
      obtain ⟨g17, h⟩ := gd_t h
      obtain ⟨M16, hM16, h⟩ := lt_t h
      refine V_iast C M16 rfl rfl (inb_in g17) dX5_copy_147 hM16 ?_
      refine V_iinc C 6 (x6 + 1) [(6, .int (x6 + 1)), (0, .ref (ad 26)), (1, .int x1), (2, .int x2), (3, .int x3), (4, .int x4), (5, .int x5)] dX5_copy_148 rfl rfl (by decide) rfl ?_
      refine V_goto C 120 dX5_copy_151 (by decide) ?_
      refine V_sub (lv' := [(0, .ref (ad 26)), (1, .int x1), (2, .int x2), (3, .int x3), (4, .int x4), (5, .int x5), (6, .int (x6 + 1))]) [1, 2, 3, 4, 5, 6, 0] rfl ?_
      exact ih x1 x2 x3 x4 x5 (x6 + 1) M16 h
set_option maxHeartbeats 4000000 in
set_option maxRecDepth 100000 in
theorem mX5_copy (l : Launch) (x1 : Int32) (x2 : Int32) (x3 : Int32) (x4 : Int32) (x5 : Int32) (M : Mem) {r : Int32} {M9 : Mem} (h : fX5_copy x1 x2 x3 x4 x5 M = some (r, M9)) : MC l yX5_copy cX5_copy 7 (some .int) rmX5_copy (fun ad sd => [.ref (ad 26), .int x1, .int x2, .int x3, .int x4, .int x5]) M (fun _ => some (.int r)) M9 := by
  refine MC_start (by decide) (fun ad sd => [(0, .ref (ad 26)), (1, .int x1), (2, .int x2), (3, .int x3), (4, .int x4), (5, .int x5)]) (fun _ _ => rfl) (fun _ _ => Nat.le_of_ble_eq_true rfl) ?_
  intro p e s m args below meth c D T3 ad sd A C
  unfold fX5_copy at h
  refine V_iload_n C 1 dX5_copy_0 rfl ?_
  refine V_callS C (st := []) (st' := [.int (b2i (fX5_isSheet x1))]) (mX5_isSheet l x1 M rfl) wmX5_isSheet lkX5_67 dX5_copy_1 rfl rfl rfl ⟨rfl, rfl, (Nat.le_of_ble_eq_true rfl), (Nat.le_of_ble_eq_true rfl)⟩ ⟨Nat.zero_le _, Nat.zero_le _⟩ (Nat.le_of_ble_eq_true rfl) ?_
  refine V_ifB_eq C 14 dX5_copy_4 (by decide) (fun q30 => ?_) (fun q30 => ?_)
  · replace h := ite_n q30 h
    refine V_bipush C (-2 : Int32) dX5_copy_14 (by decide) ?_
    obtain ⟨rfl, rfl⟩ := ret_W h
    exact V_iret C dX5_copy_16
  · replace h := ite_p q30 h
    refine V_iload_n C 3 dX5_copy_7 rfl ?_
    refine V_callS C (st := []) (st' := [.int (b2i (fX5_isSheet x3))]) (mX5_isSheet l x3 M rfl) wmX5_isSheet lkX5_67 dX5_copy_8 rfl rfl rfl ⟨rfl, rfl, (Nat.le_of_ble_eq_true rfl), (Nat.le_of_ble_eq_true rfl)⟩ ⟨Nat.zero_le _, Nat.zero_le _⟩ (Nat.le_of_ble_eq_true rfl) ?_
    refine V_ifB_ne C 17 dX5_copy_11 (by decide) (fun q29 => ?_) (fun q29 => ?_)
    · replace h := ite_p q29 h
      refine V_aload_n C 0 dX5_copy_17 rfl ?_
      refine V_get C 0 dX5_copy_18 (wo_26 T3 ad _) rfl inKX5 (by decide) flX5_7 rfl rfl ?_
      refine V_iload_n C 1 dX5_copy_21 rfl ?_
      obtain ⟨g1, h⟩ := gd_t h
      refine V_iald C rfl rfl (inb_in g1) dX5_copy_22 ?_
      refine V_if_lt C 35 dX5_copy_23 (by decide) (fun q28 => ?_) (fun q28 => ?_)
      · replace h := ite_p q28 h
        refine V_sub (lv' := [(0, .ref (ad 26))]) [0] rfl ?_
        exact vX5_copy_35 C M h
      · replace h := ite_n q28 h
        refine V_aload_n C 0 dX5_copy_26 rfl ?_
        refine V_get C 0 dX5_copy_27 (wo_26 T3 ad _) rfl inKX5 (by decide) flX5_7 rfl rfl ?_
        refine V_iload_n C 3 dX5_copy_30 rfl ?_
        obtain ⟨g4, h⟩ := gd_t h
        refine V_iald C rfl rfl (inb_in g4) dX5_copy_31 ?_
        refine V_if_ge C 41 dX5_copy_32 (by decide) (fun q27 => ?_) (fun q27 => ?_)
        · replace h := ite_p q27 h
          refine V_aload_n C 0 dX5_copy_41 rfl ?_
          refine V_get C 0 dX5_copy_42 (wo_26 T3 ad _) rfl inKX5 (by decide) flX5_7 rfl rfl ?_
          refine V_iload_n C 1 dX5_copy_45 rfl ?_
          obtain ⟨g5, h⟩ := gd_t h
          refine V_iald C rfl rfl (inb_in g5) dX5_copy_46 ?_
          refine V_aload_n C 0 dX5_copy_47 rfl ?_
          refine V_get C 0 dX5_copy_48 (wo_26 T3 ad _) rfl inKX5 (by decide) flX5_7 rfl rfl ?_
          refine V_iload_n C 3 dX5_copy_51 rfl ?_
          obtain ⟨g6, h⟩ := gd_t h
          refine V_iald C rfl rfl (inb_in g6) dX5_copy_52 ?_
          refine V_icmp_eq C 62 dX5_copy_53 (by decide) (fun q26 => ?_) (fun q26 => ?_)
          · replace h := ite_p q26 h
            refine V_iload_n C 2 dX5_copy_62 rfl ?_
            refine V_if_lt C 111 dX5_copy_63 (by decide) (fun q23 => ?_) (fun q23 => ?_)
            · replace h := ite_p q23 h
              refine V_sub (lv' := [(0, .ref (ad 26))]) [0] rfl ?_
              exact vX5_copy_111 C M h
            · replace h := ite_n q23 h
              refine V_iload C 4 dX5_copy_66 rfl ?_
              refine V_if_lt C 111 dX5_copy_68 (by decide) (fun q22 => ?_) (fun q22 => ?_)
              · replace h := ite_p q22 h
                refine V_sub (lv' := [(0, .ref (ad 26))]) [0] rfl ?_
                exact vX5_copy_111 C M h
              · replace h := ite_n q22 h
                refine V_iload C 5 dX5_copy_71 rfl ?_
                refine V_if_lt C 111 dX5_copy_73 (by decide) (fun q21 => ?_) (fun q21 => ?_)
                · replace h := ite_p q21 h
                  refine V_sub (lv' := [(0, .ref (ad 26))]) [0] rfl ?_
                  exact vX5_copy_111 C M h
                · replace h := ite_n q21 h
                  refine V_iload_n C 2 dX5_copy_76 rfl ?_
                  refine V_i2l C dX5_copy_77 ?_
                  refine V_iload C 5 dX5_copy_78 rfl ?_
                  refine V_i2l C dX5_copy_80 ?_
                  refine V_ladd C dX5_copy_81 ?_
                  refine V_aload_n C 0 dX5_copy_82 rfl ?_
                  refine V_get C 1 dX5_copy_83 (wo_26 T3 ad _) rfl inKX5 (by decide) flX5_13 rfl rfl ?_
                  refine V_iload_n C 1 dX5_copy_86 rfl ?_
                  obtain ⟨g9, h⟩ := gd_t h
                  refine V_iald C rfl rfl (inb_in g9) dX5_copy_87 ?_
                  refine V_i2l C dX5_copy_88 ?_
                  refine V_lcmp C dX5_copy_89 ?_
                  refine V_if_gt C 111 dX5_copy_90 (by decide) (fun q20 => ?_) (fun q20 => ?_)
                  · replace h := ite_p q20 h
                    refine V_sub (lv' := [(0, .ref (ad 26))]) [0] rfl ?_
                    exact vX5_copy_111 C M h
                  · replace h := ite_n q20 h
                    refine V_iload C 4 dX5_copy_93 rfl ?_
                    refine V_i2l C dX5_copy_95 ?_
                    refine V_iload C 5 dX5_copy_96 rfl ?_
                    refine V_i2l C dX5_copy_98 ?_
                    refine V_ladd C dX5_copy_99 ?_
                    refine V_aload_n C 0 dX5_copy_100 rfl ?_
                    refine V_get C 1 dX5_copy_101 (wo_26 T3 ad _) rfl inKX5 (by decide) flX5_13 rfl rfl ?_
                    refine V_iload_n C 3 dX5_copy_104 rfl ?_
                    obtain ⟨g10, h⟩ := gd_t h
                    refine V_iald C rfl rfl (inb_in g10) dX5_copy_105 ?_
                    refine V_i2l C dX5_copy_106 ?_
                    refine V_lcmp C dX5_copy_107 ?_
                    refine V_if_le C 117 dX5_copy_108 (by decide) (fun q19 => ?_) (fun q19 => ?_)
                    · replace h := ite_p q19 h
                      refine V_iconst C (0 : Int32) dX5_copy_117 (by decide) ?_
                      refine V_istore C [(6, .int (0 : Int32)), (0, .ref (ad 26)), (1, .int x1), (2, .int x2), (3, .int x3), (4, .int x4), (5, .int x5)] dX5_copy_118 (by decide) rfl ?_
                      refine V_sub (lv' := [(0, .ref (ad 26)), (1, .int x1), (2, .int x2), (3, .int x3), (4, .int x4), (5, .int x5), (6, .int (0 : Int32))]) [1, 2, 3, 4, 5, 6, 0] rfl ?_
                      exact vX5_copy_120 C 1000 x1 x2 x3 x4 x5 (0 : Int32) M h
                    · replace h := ite_n q19 h
                      refine V_sub (lv' := [(0, .ref (ad 26))]) [0] rfl ?_
                      exact vX5_copy_111 C M h
          · replace h := ite_n q26 h
            refine V_aload_n C 0 dX5_copy_56 rfl ?_
            refine V_iconst C (4 : Int32) dX5_copy_57 (by decide) ?_
            obtain ⟨z24, M25, hz24, h⟩ := bW_t h
            refine V_callV C (st := []) (st' := [.int z24]) (mX5_met l (4 : Int32) M hz24) wmX5_met lkX5_73 dX5_copy_58 (wo_26 T3 ad _) rfl rfl rfl rfl rfl rfl ⟨rfl, rfl, (Nat.le_of_ble_eq_true rfl), (Nat.le_of_ble_eq_true rfl)⟩ ⟨Nat.zero_le _, Nat.zero_le _⟩ (Nat.le_of_ble_eq_true rfl) ?_
            obtain ⟨rfl, rfl⟩ := ret_W h
            exact V_iret C dX5_copy_61
        · replace h := ite_n q27 h
          refine V_sub (lv' := [(0, .ref (ad 26))]) [0] rfl ?_
          exact vX5_copy_35 C M h
    · replace h := ite_n q29 h
      refine V_bipush C (-2 : Int32) dX5_copy_14 (by decide) ?_
      obtain ⟨rfl, rfl⟩ := ret_W h
      exact V_iret C dX5_copy_16
abbrev rmX5_write : Room := { frames := 6, cells := 0, slots := 0, locals := 134 }
def fX5_write_107 (kk62 : Int32 → Int32 → Int32 → Int32 → Int32 → Mem → Option (Int32 × Mem)) (x1 : Int32) (x2 : Int32) (x3 : Int32) (x4 : Int32) (x5 : Int32) (t1 : Int32) (t2 : Int32) (t3 : Int32) (M : Mem) : Option (Int32 × Mem) := gd (inb t1 240) (lt (up M 29 (t1).toNatClampNeg (fX5_cut t2 t3)) fun M8 => kk62 x1 x2 x3 x4 (x5 + 1) M8)
def fX5_write_62 : Nat → Int32 → Int32 → Int32 → Int32 → Int32 → Mem → Option (Int32 × Mem)
  | 0, _, _, _, _, _, _ => none
  | n + 1, x1, x2, x3, x4, x5, M => if x4 ≤ x5 then some (x4, M) else gd (inb x3 4) (if x1 = 0 then bP (fX5_deepOf M x5 x2) fun z10 => fX5_write_107 (fX5_write_62 n) x1 x2 x3 x4 x5 (((60 : Int32) * x3) + x5) (M 27 (x3).toNatClampNeg) z10 M else bP (fX5_mapOf M x5 x2) fun z7 => fX5_write_107 (fX5_write_62 n) x1 x2 x3 x4 x5 (((60 : Int32) * x3) + x5) (M 27 (x3).toNatClampNeg) z7 M)
def fX5_write (x1 : Int32) (x2 : Int32) (x3 : Int32) (M : Mem) : Option (Int32 × Mem) := if (fX5_isTwo x1) = true then if (fX5_isNight x2) = true then if (fX5_isSheet x3) = true then gd (inb x3 4) (if 0 ≤ (M 27 (x3).toNatClampNeg) then bW (fX5_reads M) fun z2 M3 => gd (inb x3 4) (lt ((fX5_lesser (M3 28 (x3).toNatClampNeg) (M3 26 8))) fun y5 => fX5_write_62 1000 x1 x2 x3 y5 (0 : Int32) M3) else bW (fX5_met (1 : Int32) M) fun z13 M14 => some (z13, M14)) else some ((-2 : Int32), M) else some ((-2 : Int32), M) else some ((-2 : Int32), M)
set_option maxHeartbeats 4000000 in
set_option maxRecDepth 100000 in
theorem vX5_write_107 {p : Program} {l : Launch} {e : Env} {s : State} {m : MethodId} {args : Array Value} {below : List Frame} {meth : Method} {c : Code} {D : va_G} {T3 : ClassId × ClassId × ClassId} {ad sd : Nat → Nat} {A : Nat → Prop}  (C : CX p s m args meth c cX5_write 6 RX5 (some .int) D T3 ad sd A) {r : Int32} {M9 : Mem} (kk62 : Int32 → Int32 → Int32 → Int32 → Int32 → Mem → Option (Int32 × Mem)) (hk62 : ∀ (x1 : Int32) (x2 : Int32) (x3 : Int32) (x4 : Int32) (x5 : Int32) (M : Mem), kk62 x1 x2 x3 x4 x5 M = some (r, M9) → VV p l e rmX5_write s m args below meth c D T3 ad A 6 0 0 (QM below D T3 ad A args s (fun _ => some (.int r)) M9) M [(0, .ref (ad 26)), (1, .int x1), (2, .int x2), (3, .int x3), (4, .int x4), (5, .int x5)] 62 []) : ∀ (x1 : Int32) (x2 : Int32) (x3 : Int32) (x4 : Int32) (x5 : Int32) (t1 : Int32) (t2 : Int32) (t3 : Int32) (M : Mem), fX5_write_107 kk62 x1 x2 x3 x4 x5 t1 t2 t3 M = some (r, M9) → VV p l e rmX5_write s m args below meth c D T3 ad A 6 0 0 (QM below D T3 ad A args s (fun _ => some (.int r)) M9) M [(0, .ref (ad 26)), (1, .int x1), (2, .int x2), (3, .int x3), (4, .int x4), (5, .int x5)] 107 [.int t3, .int t2, .int t1, .ref (ad 29)] := by
  intro x1 x2 x3 x4 x5 t1 t2 t3 M h
  unfold fX5_write_107 at h
  refine V_callS C (st := [.int t1, .ref (ad 29)]) (st' := [.int (fX5_cut t2 t3), .int t1, .ref (ad 29)]) (mX5_cut l t2 t3 M rfl) wmX5_cut lkX5_81 dX5_write_107 rfl rfl rfl ⟨rfl, rfl, (Nat.le_of_ble_eq_true rfl), (Nat.le_of_ble_eq_true rfl)⟩ ⟨Nat.zero_le _, Nat.zero_le _⟩ (Nat.le_of_ble_eq_true rfl) ?_
  obtain ⟨g9, h⟩ := gd_t h
  obtain ⟨M8, hM8, h⟩ := lt_t h
  refine V_iast C M8 rfl rfl (inb_in g9) dX5_write_110 hM8 ?_
  refine V_iinc C 5 (x5 + 1) [(5, .int (x5 + 1)), (0, .ref (ad 26)), (1, .int x1), (2, .int x2), (3, .int x3), (4, .int x4)] dX5_write_111 rfl rfl (by decide) rfl ?_
  refine V_goto C 62 dX5_write_114 (by decide) ?_
  refine V_sub (lv' := [(0, .ref (ad 26)), (1, .int x1), (2, .int x2), (3, .int x3), (4, .int x4), (5, .int (x5 + 1))]) [1, 2, 3, 4, 5, 0] rfl ?_
  exact hk62 x1 x2 x3 x4 (x5 + 1) M8 h
set_option maxHeartbeats 4000000 in
set_option maxRecDepth 100000 in
theorem vX5_write_62 {p : Program} {l : Launch} {e : Env} {s : State} {m : MethodId} {args : Array Value} {below : List Frame} {meth : Method} {c : Code} {D : va_G} {T3 : ClassId × ClassId × ClassId} {ad sd : Nat → Nat} {A : Nat → Prop}  (C : CX p s m args meth c cX5_write 6 RX5 (some .int) D T3 ad sd A) {r : Int32} {M9 : Mem} : ∀ (n : Nat) (x1 : Int32) (x2 : Int32) (x3 : Int32) (x4 : Int32) (x5 : Int32) (M : Mem), fX5_write_62 n x1 x2 x3 x4 x5 M = some (r, M9) → VV p l e rmX5_write s m args below meth c D T3 ad A 6 0 0 (QM below D T3 ad A args s (fun _ => some (.int r)) M9) M [(0, .ref (ad 26)), (1, .int x1), (2, .int x2), (3, .int x3), (4, .int x4), (5, .int x5)] 62 [] := by
  intro n
  induction n with
  | zero => intro x1 x2 x3 x4 x5 M h; exact nomatch (show (none : Option (Int32 × Mem)) = some _ from h)
  | succ n ih =>
    intro x1 x2 x3 x4 x5 M h
    rw [fX5_write_62] at h
    refine V_iload C 5 dX5_write_62 rfl ?_
    refine V_iload C 4 dX5_write_64 rfl ?_
    refine V_icmp_ge C 117 dX5_write_66 (by decide) (fun q12 => ?_) (fun q12 => ?_)
    · replace h := ite_p q12 h
      refine V_iload C 4 dX5_write_117 rfl ?_
      obtain ⟨rfl, rfl⟩ := ret_W h
      exact V_iret C dX5_write_119
    · replace h := ite_n q12 h
      refine V_aload_n C 0 dX5_write_69 rfl ?_
      refine V_get C 2 dX5_write_70 (wo_26 T3 ad _) rfl inKX5 (by decide) flX5_16 rfl rfl ?_
      refine V_bipush C (60 : Int32) dX5_write_73 (by decide) ?_
      refine V_iload_n C 3 dX5_write_75 rfl ?_
      refine V_imul C dX5_write_76 ?_
      refine V_iload C 5 dX5_write_77 rfl ?_
      refine V_iadd C dX5_write_79 ?_
      refine V_aload_n C 0 dX5_write_80 rfl ?_
      refine V_get C 0 dX5_write_81 (wo_26 T3 ad _) rfl inKX5 (by decide) flX5_7 rfl rfl ?_
      refine V_iload_n C 3 dX5_write_84 rfl ?_
      obtain ⟨g6, h⟩ := gd_t h
      refine V_iald C rfl rfl (inb_in g6) dX5_write_85 ?_
      refine V_iload_n C 1 dX5_write_86 rfl ?_
      refine V_if_ne C 100 dX5_write_87 (by decide) (fun q11 => ?_) (fun q11 => ?_)
      · replace h := ite_n q11 h
        refine V_aload_n C 0 dX5_write_100 rfl ?_
        refine V_iload C 5 dX5_write_101 rfl ?_
        refine V_iload_n C 2 dX5_write_103 rfl ?_
        obtain ⟨z7, hz7, h⟩ := bP_t h
        refine V_callV C (st := [.int (M 27 (x3).toNatClampNeg), .int (((60 : Int32) * x3) + x5), .ref (ad 29)]) (st' := [.int z7, .int (M 27 (x3).toNatClampNeg), .int (((60 : Int32) * x3) + x5), .ref (ad 29)]) (mX5_mapOf l x5 x2 M hz7) wmX5_mapOf lkX5_154 dX5_write_104 (wo_26 T3 ad _) rfl rfl rfl rfl rfl rfl ⟨rfl, rfl, (Nat.le_of_ble_eq_true rfl), (Nat.le_of_ble_eq_true rfl)⟩ ⟨Nat.zero_le _, Nat.zero_le _⟩ (Nat.le_of_ble_eq_true rfl) ?_
        exact vX5_write_107 C (fX5_write_62 n) ih x1 x2 x3 x4 x5 (((60 : Int32) * x3) + x5) (M 27 (x3).toNatClampNeg) z7 M h
      · replace h := ite_p q11 h
        refine V_aload_n C 0 dX5_write_90 rfl ?_
        refine V_iload C 5 dX5_write_91 rfl ?_
        refine V_iload_n C 2 dX5_write_93 rfl ?_
        obtain ⟨z10, hz10, h⟩ := bP_t h
        refine V_callV C (st := [.int (M 27 (x3).toNatClampNeg), .int (((60 : Int32) * x3) + x5), .ref (ad 29)]) (st' := [.int z10, .int (M 27 (x3).toNatClampNeg), .int (((60 : Int32) * x3) + x5), .ref (ad 29)]) (mX5_deepOf l x5 x2 M hz10) wmX5_deepOf lkX5_151 dX5_write_94 (wo_26 T3 ad _) rfl rfl rfl rfl rfl rfl ⟨rfl, rfl, (Nat.le_of_ble_eq_true rfl), (Nat.le_of_ble_eq_true rfl)⟩ ⟨Nat.zero_le _, Nat.zero_le _⟩ (Nat.le_of_ble_eq_true rfl) ?_
        refine V_goto C 107 dX5_write_97 (by decide) ?_
        exact vX5_write_107 C (fX5_write_62 n) ih x1 x2 x3 x4 x5 (((60 : Int32) * x3) + x5) (M 27 (x3).toNatClampNeg) z10 M h
set_option maxHeartbeats 4000000 in
set_option maxRecDepth 100000 in
theorem mX5_write (l : Launch) (x1 : Int32) (x2 : Int32) (x3 : Int32) (M : Mem) {r : Int32} {M9 : Mem} (h : fX5_write x1 x2 x3 M = some (r, M9)) : MC l yX5_write cX5_write 6 (some .int) rmX5_write (fun ad sd => [.ref (ad 26), .int x1, .int x2, .int x3]) M (fun _ => some (.int r)) M9 := by
  refine MC_start (by decide) (fun ad sd => [(0, .ref (ad 26)), (1, .int x1), (2, .int x2), (3, .int x3)]) (fun _ _ => rfl) (fun _ _ => Nat.le_of_ble_eq_true rfl) ?_
  intro p e s m args below meth c D T3 ad sd A C
  unfold fX5_write at h
  refine V_iload_n C 1 dX5_write_0 rfl ?_
  refine V_callS C (st := []) (st' := [.int (b2i (fX5_isTwo x1))]) (mX5_isTwo l x1 M rfl) wmX5_isTwo lkX5_205 dX5_write_1 rfl rfl rfl ⟨rfl, rfl, (Nat.le_of_ble_eq_true rfl), (Nat.le_of_ble_eq_true rfl)⟩ ⟨Nat.zero_le _, Nat.zero_le _⟩ (Nat.le_of_ble_eq_true rfl) ?_
  refine V_ifB_eq C 21 dX5_write_4 (by decide) (fun q18 => ?_) (fun q18 => ?_)
  · replace h := ite_n q18 h
    refine V_bipush C (-2 : Int32) dX5_write_21 (by decide) ?_
    obtain ⟨rfl, rfl⟩ := ret_W h
    exact V_iret C dX5_write_23
  · replace h := ite_p q18 h
    refine V_iload_n C 2 dX5_write_7 rfl ?_
    refine V_callS C (st := []) (st' := [.int (b2i (fX5_isNight x2))]) (mX5_isNight l x2 M rfl) wmX5_isNight lkX5_129 dX5_write_8 rfl rfl rfl ⟨rfl, rfl, (Nat.le_of_ble_eq_true rfl), (Nat.le_of_ble_eq_true rfl)⟩ ⟨Nat.zero_le _, Nat.zero_le _⟩ (Nat.le_of_ble_eq_true rfl) ?_
    refine V_ifB_eq C 21 dX5_write_11 (by decide) (fun q17 => ?_) (fun q17 => ?_)
    · replace h := ite_n q17 h
      refine V_bipush C (-2 : Int32) dX5_write_21 (by decide) ?_
      obtain ⟨rfl, rfl⟩ := ret_W h
      exact V_iret C dX5_write_23
    · replace h := ite_p q17 h
      refine V_iload_n C 3 dX5_write_14 rfl ?_
      refine V_callS C (st := []) (st' := [.int (b2i (fX5_isSheet x3))]) (mX5_isSheet l x3 M rfl) wmX5_isSheet lkX5_67 dX5_write_15 rfl rfl rfl ⟨rfl, rfl, (Nat.le_of_ble_eq_true rfl), (Nat.le_of_ble_eq_true rfl)⟩ ⟨Nat.zero_le _, Nat.zero_le _⟩ (Nat.le_of_ble_eq_true rfl) ?_
      refine V_ifB_ne C 24 dX5_write_18 (by decide) (fun q16 => ?_) (fun q16 => ?_)
      · replace h := ite_p q16 h
        refine V_aload_n C 0 dX5_write_24 rfl ?_
        refine V_get C 0 dX5_write_25 (wo_26 T3 ad _) rfl inKX5 (by decide) flX5_7 rfl rfl ?_
        refine V_iload_n C 3 dX5_write_28 rfl ?_
        obtain ⟨g1, h⟩ := gd_t h
        refine V_iald C rfl rfl (inb_in g1) dX5_write_29 ?_
        refine V_if_ge C 39 dX5_write_30 (by decide) (fun q15 => ?_) (fun q15 => ?_)
        · replace h := ite_p q15 h
          refine V_aload_n C 0 dX5_write_39 rfl ?_
          obtain ⟨z2, M3, hz2, h⟩ := bW_t h
          refine V_callV C (st := []) (st' := [.int z2]) (mX5_reads l M hz2) wmX5_reads lkX5_116 dX5_write_40 (wo_26 T3 ad _) rfl rfl rfl rfl rfl rfl ⟨rfl, rfl, (Nat.le_of_ble_eq_true rfl), (Nat.le_of_ble_eq_true rfl)⟩ ⟨Nat.zero_le _, Nat.zero_le _⟩ (Nat.le_of_ble_eq_true rfl) ?_
          refine V_pop C dX5_write_43 rfl ?_
          refine V_aload_n C 0 dX5_write_44 rfl ?_
          refine V_get C 1 dX5_write_45 (wo_26 T3 ad _) rfl inKX5 (by decide) flX5_13 rfl rfl ?_
          refine V_iload_n C 3 dX5_write_48 rfl ?_
          obtain ⟨g4, h⟩ := gd_t h
          refine V_iald C rfl rfl (inb_in g4) dX5_write_49 ?_
          refine V_aload_n C 0 dX5_write_50 rfl ?_
          refine V_get C 8 dX5_write_51 (wo_26 T3 ad _) rfl inKX5 (by decide) flX5_94 rfl rfl ?_
          refine V_callS C (st := []) (st' := [.int (fX5_lesser (M3 28 (x3).toNatClampNeg) (M3 26 8))]) (mX5_lesser l (M3 28 (x3).toNatClampNeg) (M3 26 8) M3 rfl) wmX5_lesser lkX5_58 dX5_write_54 rfl rfl rfl ⟨rfl, rfl, (Nat.le_of_ble_eq_true rfl), (Nat.le_of_ble_eq_true rfl)⟩ ⟨Nat.zero_le _, Nat.zero_le _⟩ (Nat.le_of_ble_eq_true rfl) ?_
          obtain ⟨y5, hy5, h⟩ := lt_t h
          refine V_topi C hy5 ?_
          refine V_istore C [(4, .int y5), (0, .ref (ad 26)), (1, .int x1), (2, .int x2), (3, .int x3)] dX5_write_57 (by decide) rfl ?_
          refine V_iconst C (0 : Int32) dX5_write_59 (by decide) ?_
          refine V_istore C [(5, .int (0 : Int32)), (4, .int y5), (0, .ref (ad 26)), (1, .int x1), (2, .int x2), (3, .int x3)] dX5_write_60 (by decide) rfl ?_
          refine V_sub (lv' := [(0, .ref (ad 26)), (1, .int x1), (2, .int x2), (3, .int x3), (4, .int y5), (5, .int (0 : Int32))]) [2, 3, 4, 5, 1, 0] rfl ?_
          exact vX5_write_62 C 1000 x1 x2 x3 y5 (0 : Int32) M3 h
        · replace h := ite_n q15 h
          refine V_aload_n C 0 dX5_write_33 rfl ?_
          refine V_iconst C (1 : Int32) dX5_write_34 (by decide) ?_
          obtain ⟨z13, M14, hz13, h⟩ := bW_t h
          refine V_callV C (st := []) (st' := [.int z13]) (mX5_met l (1 : Int32) M hz13) wmX5_met lkX5_73 dX5_write_35 (wo_26 T3 ad _) rfl rfl rfl rfl rfl rfl ⟨rfl, rfl, (Nat.le_of_ble_eq_true rfl), (Nat.le_of_ble_eq_true rfl)⟩ ⟨Nat.zero_le _, Nat.zero_le _⟩ (Nat.le_of_ble_eq_true rfl) ?_
          obtain ⟨rfl, rfl⟩ := ret_W h
          exact V_iret C dX5_write_38
      · replace h := ite_n q16 h
        refine V_bipush C (-2 : Int32) dX5_write_21 (by decide) ?_
        obtain ⟨rfl, rfl⟩ := ret_W h
        exact V_iret C dX5_write_23
abbrev rmX5_count : Room := { frames := 4, cells := 0, slots := 0, locals := 91 }
def fX5_count_118 : Nat → Int32 → Int32 → Mem → Option (Int32 × Mem)
  | 0, _, _, _ => none
  | n + 1, x2, x3, M => if (M 26 8) ≤ x3 then some (x2, M) else gd (inb (((5 : Int32) * x3) + (3 : Int32)) 80) (if (M 32 ((((5 : Int32) * x3) + (3 : Int32))).toNatClampNeg) = (4 : Int32) then fX5_count_118 n (x2 + (1 : Int32)) (x3 + 1) M else fX5_count_118 n (x2 + (0 : Int32)) (x3 + 1) M)
def fX5_count_87 : Nat → Int32 → Int32 → Mem → Option (Int32 × Mem)
  | 0, _, _, _ => none
  | n + 1, x2, x3, M => if (M 26 8) ≤ x3 then some (x2, M) else gd (inb (((5 : Int32) * x3) + (2 : Int32)) 80) (lt ((x2 + (M 32 ((((5 : Int32) * x3) + (2 : Int32))).toNatClampNeg))) fun y18 => fX5_count_87 n y18 (x3 + 1) M)
def fX5_count (x1 : Int32) (M : Mem) : Option (Int32 × Mem) := bW (fX5_reads M) fun z1 M2 => if x1 = 0 then some ((M2 26 8), M2) else if x1 = 1 then some ((M2 26 6), M2) else if x1 = 2 then some ((M2 26 10), M2) else if x1 = 3 then some ((M2 26 16), M2) else if x1 = 4 then some ((M2 26 12), M2) else if x1 = 5 then fX5_count_87 1000 (0 : Int32) (0 : Int32) M2 else if x1 = 6 then fX5_count_118 1000 (0 : Int32) (0 : Int32) M2 else if x1 = 7 then bW (fX5_findWays (65535 : Int32) M2) fun z12 M13 => some (z12, M13) else if x1 = 8 then some ((M2 26 4), M2) else some ((-2 : Int32), M2)
set_option maxHeartbeats 4000000 in
set_option maxRecDepth 100000 in
theorem vX5_count_118 {p : Program} {l : Launch} {e : Env} {s : State} {m : MethodId} {args : Array Value} {below : List Frame} {meth : Method} {c : Code} {D : va_G} {T3 : ClassId × ClassId × ClassId} {ad sd : Nat → Nat} {A : Nat → Prop}  (C : CX p s m args meth c cX5_count 4 RX5 (some .int) D T3 ad sd A) {r : Int32} {M9 : Mem} : ∀ (n : Nat) (x2 : Int32) (x3 : Int32) (M : Mem), fX5_count_118 n x2 x3 M = some (r, M9) → VV p l e rmX5_count s m args below meth c D T3 ad A 4 0 0 (QM below D T3 ad A args s (fun _ => some (.int r)) M9) M [(0, .ref (ad 26)), (2, .int x2), (3, .int x3)] 118 [] := by
  intro n
  induction n with
  | zero => intro x2 x3 M h; exact nomatch (show (none : Option (Int32 × Mem)) = some _ from h)
  | succ n ih =>
    intro x2 x3 M h
    rw [fX5_count_118] at h
    refine V_iload_n C 2 dX5_count_118 rfl ?_
    refine V_aload_n C 0 dX5_count_119 rfl ?_
    refine V_get C 8 dX5_count_120 (wo_26 T3 ad _) rfl inKX5 (by decide) flX5_94 rfl rfl ?_
    refine V_icmp_ge C 154 dX5_count_123 (by decide) (fun q16 => ?_) (fun q16 => ?_)
    · replace h := ite_p q16 h
      refine V_iload_n C 1 dX5_count_154 rfl ?_
      obtain ⟨rfl, rfl⟩ := ret_W h
      exact V_iret C dX5_count_155
    · replace h := ite_n q16 h
      refine V_iload_n C 1 dX5_count_126 rfl ?_
      refine V_aload_n C 0 dX5_count_127 rfl ?_
      refine V_get C 9 dX5_count_128 (wo_26 T3 ad _) rfl inKX5 (by decide) flX5_25 rfl rfl ?_
      refine V_iconst C (5 : Int32) dX5_count_131 (by decide) ?_
      refine V_iload_n C 2 dX5_count_132 rfl ?_
      refine V_imul C dX5_count_133 ?_
      refine V_iconst C (3 : Int32) dX5_count_134 (by decide) ?_
      refine V_iadd C dX5_count_135 ?_
      obtain ⟨g14, h⟩ := gd_t h
      refine V_iald C rfl rfl (inb_in g14) dX5_count_136 ?_
      refine V_iconst C (4 : Int32) dX5_count_137 (by decide) ?_
      refine V_icmp_ne C 145 dX5_count_138 (by decide) (fun q15 => ?_) (fun q15 => ?_)
      · replace h := ite_n q15 h
        refine V_iconst C (0 : Int32) dX5_count_145 (by decide) ?_
        refine V_iadd C dX5_count_146 ?_
        refine V_istore_n C [(2, .int (x2 + (0 : Int32))), (0, .ref (ad 26)), (3, .int x3)] dX5_count_147 rfl (by decide) rfl ?_
        refine V_iinc C 2 (x3 + 1) [(3, .int (x3 + 1)), (2, .int (x2 + (0 : Int32))), (0, .ref (ad 26))] dX5_count_148 rfl rfl (by decide) rfl ?_
        refine V_goto C 118 dX5_count_151 (by decide) ?_
        refine V_sub (lv' := [(0, .ref (ad 26)), (2, .int (x2 + (0 : Int32))), (3, .int (x3 + 1))]) [2, 1, 0] rfl ?_
        exact ih (x2 + (0 : Int32)) (x3 + 1) M h
      · replace h := ite_p q15 h
        refine V_iconst C (1 : Int32) dX5_count_141 (by decide) ?_
        refine V_goto C 146 dX5_count_142 (by decide) ?_
        refine V_iadd C dX5_count_146 ?_
        refine V_istore_n C [(2, .int (x2 + (1 : Int32))), (0, .ref (ad 26)), (3, .int x3)] dX5_count_147 rfl (by decide) rfl ?_
        refine V_iinc C 2 (x3 + 1) [(3, .int (x3 + 1)), (2, .int (x2 + (1 : Int32))), (0, .ref (ad 26))] dX5_count_148 rfl rfl (by decide) rfl ?_
        refine V_goto C 118 dX5_count_151 (by decide) ?_
        refine V_sub (lv' := [(0, .ref (ad 26)), (2, .int (x2 + (1 : Int32))), (3, .int (x3 + 1))]) [2, 1, 0] rfl ?_
        exact ih (x2 + (1 : Int32)) (x3 + 1) M h
set_option maxHeartbeats 4000000 in
set_option maxRecDepth 100000 in
theorem vX5_count_87 {p : Program} {l : Launch} {e : Env} {s : State} {m : MethodId} {args : Array Value} {below : List Frame} {meth : Method} {c : Code} {D : va_G} {T3 : ClassId × ClassId × ClassId} {ad sd : Nat → Nat} {A : Nat → Prop}  (C : CX p s m args meth c cX5_count 4 RX5 (some .int) D T3 ad sd A) {r : Int32} {M9 : Mem} : ∀ (n : Nat) (x2 : Int32) (x3 : Int32) (M : Mem), fX5_count_87 n x2 x3 M = some (r, M9) → VV p l e rmX5_count s m args below meth c D T3 ad A 4 0 0 (QM below D T3 ad A args s (fun _ => some (.int r)) M9) M [(0, .ref (ad 26)), (2, .int x2), (3, .int x3)] 87 [] := by
  intro n
  induction n with
  | zero => intro x2 x3 M h; exact nomatch (show (none : Option (Int32 × Mem)) = some _ from h)
  | succ n ih =>
    intro x2 x3 M h
    rw [fX5_count_87] at h
    refine V_iload_n C 2 dX5_count_87 rfl ?_
    refine V_aload_n C 0 dX5_count_88 rfl ?_
    refine V_get C 8 dX5_count_89 (wo_26 T3 ad _) rfl inKX5 (by decide) flX5_94 rfl rfl ?_
    refine V_icmp_ge C 114 dX5_count_92 (by decide) (fun q19 => ?_) (fun q19 => ?_)
    · replace h := ite_p q19 h
      refine V_iload_n C 1 dX5_count_114 rfl ?_
      obtain ⟨rfl, rfl⟩ := ret_W h
      exact V_iret C dX5_count_115
    · replace h := ite_n q19 h
      refine V_iload_n C 1 dX5_count_95 rfl ?_
      refine V_aload_n C 0 dX5_count_96 rfl ?_
      refine V_get C 9 dX5_count_97 (wo_26 T3 ad _) rfl inKX5 (by decide) flX5_25 rfl rfl ?_
      refine V_iconst C (5 : Int32) dX5_count_100 (by decide) ?_
      refine V_iload_n C 2 dX5_count_101 rfl ?_
      refine V_imul C dX5_count_102 ?_
      refine V_iconst C (2 : Int32) dX5_count_103 (by decide) ?_
      refine V_iadd C dX5_count_104 ?_
      obtain ⟨g17, h⟩ := gd_t h
      refine V_iald C rfl rfl (inb_in g17) dX5_count_105 ?_
      refine V_iadd C dX5_count_106 ?_
      obtain ⟨y18, hy18, h⟩ := lt_t h
      refine V_topi C hy18 ?_
      refine V_istore_n C [(2, .int y18), (0, .ref (ad 26)), (3, .int x3)] dX5_count_107 rfl (by decide) rfl ?_
      refine V_iinc C 2 (x3 + 1) [(3, .int (x3 + 1)), (2, .int y18), (0, .ref (ad 26))] dX5_count_108 rfl rfl (by decide) rfl ?_
      refine V_goto C 87 dX5_count_111 (by decide) ?_
      refine V_sub (lv' := [(0, .ref (ad 26)), (2, .int y18), (3, .int (x3 + 1))]) [2, 1, 0] rfl ?_
      exact ih y18 (x3 + 1) M h
set_option maxHeartbeats 4000000 in
set_option maxRecDepth 100000 in
theorem mX5_count (l : Launch) (x1 : Int32) (M : Mem) {r : Int32} {M9 : Mem} (h : fX5_count x1 M = some (r, M9)) : MC l yX5_count cX5_count 4 (some .int) rmX5_count (fun ad sd => [.ref (ad 26), .int x1]) M (fun _ => some (.int r)) M9 := by
  refine MC_start (by decide) (fun ad sd => [(0, .ref (ad 26)), (1, .int x1)]) (fun _ _ => rfl) (fun _ _ => Nat.le_of_ble_eq_true rfl) ?_
  intro p e s m args below meth c D T3 ad sd A C
  unfold fX5_count at h
  refine V_iconst C (0 : Int32) dX5_count_0 (by decide) ?_
  refine V_istore_n C [(2, .int (0 : Int32)), (0, .ref (ad 26)), (1, .int x1)] dX5_count_1 rfl (by decide) rfl ?_
  refine V_aload_n C 1 dX5_count_2 rfl ?_
  obtain ⟨z1, M2, hz1, h⟩ := bW_t h
  refine V_callV C (st := []) (st' := [.int z1]) (mX5_reads l M hz1) wmX5_reads lkX5_116 dX5_count_3 (wo_26 T3 ad _) rfl rfl rfl rfl rfl rfl ⟨rfl, rfl, (Nat.le_of_ble_eq_true rfl), (Nat.le_of_ble_eq_true rfl)⟩ ⟨Nat.zero_le _, Nat.zero_le _⟩ (Nat.le_of_ble_eq_true rfl) ?_
  refine V_pop C dX5_count_6 rfl ?_
  refine V_iload_n C 2 dX5_count_7 rfl ?_
  by_cases q3 : x1 = 0
  · replace h := ite_p q3 h
    refine V_tblI C 60 dX5_count_8 (by rw [q3]; decide) (by rw [q3]; decide) (by rw [q3]; rfl) (by decide) ?_
    refine V_aload_n C 1 dX5_count_60 rfl ?_
    refine V_get C 8 dX5_count_61 (wo_26 T3 ad _) rfl inKX5 (by decide) flX5_94 rfl rfl ?_
    obtain ⟨rfl, rfl⟩ := ret_W h
    exact V_iret C dX5_count_64
  · replace h := ite_n q3 h
    by_cases q4 : x1 = 1
    · replace h := ite_p q4 h
      refine V_tblI C 65 dX5_count_8 (by rw [q4]; decide) (by rw [q4]; decide) (by rw [q4]; rfl) (by decide) ?_
      refine V_aload_n C 1 dX5_count_65 rfl ?_
      refine V_get C 6 dX5_count_66 (wo_26 T3 ad _) rfl inKX5 (by decide) flX5_87 rfl rfl ?_
      obtain ⟨rfl, rfl⟩ := ret_W h
      exact V_iret C dX5_count_69
    · replace h := ite_n q4 h
      by_cases q5 : x1 = 2
      · replace h := ite_p q5 h
        refine V_tblI C 70 dX5_count_8 (by rw [q5]; decide) (by rw [q5]; decide) (by rw [q5]; rfl) (by decide) ?_
        refine V_aload_n C 1 dX5_count_70 rfl ?_
        refine V_get C 10 dX5_count_71 (wo_26 T3 ad _) rfl inKX5 (by decide) flX5_132 rfl rfl ?_
        obtain ⟨rfl, rfl⟩ := ret_W h
        exact V_iret C dX5_count_74
      · replace h := ite_n q5 h
        by_cases q6 : x1 = 3
        · replace h := ite_p q6 h
          refine V_tblI C 75 dX5_count_8 (by rw [q6]; decide) (by rw [q6]; decide) (by rw [q6]; rfl) (by decide) ?_
          refine V_aload_n C 1 dX5_count_75 rfl ?_
          refine V_get C 16 dX5_count_76 (wo_26 T3 ad _) rfl inKX5 (by decide) flX5_213 rfl rfl ?_
          obtain ⟨rfl, rfl⟩ := ret_W h
          exact V_iret C dX5_count_79
        · replace h := ite_n q6 h
          by_cases q7 : x1 = 4
          · replace h := ite_p q7 h
            refine V_tblI C 80 dX5_count_8 (by rw [q7]; decide) (by rw [q7]; decide) (by rw [q7]; rfl) (by decide) ?_
            refine V_aload_n C 1 dX5_count_80 rfl ?_
            refine V_get C 12 dX5_count_81 (wo_26 T3 ad _) rfl inKX5 (by decide) flX5_50 rfl rfl ?_
            obtain ⟨rfl, rfl⟩ := ret_W h
            exact V_iret C dX5_count_84
          · replace h := ite_n q7 h
            by_cases q8 : x1 = 5
            · replace h := ite_p q8 h
              refine V_tblI C 85 dX5_count_8 (by rw [q8]; decide) (by rw [q8]; decide) (by rw [q8]; rfl) (by decide) ?_
              refine V_iconst C (0 : Int32) dX5_count_85 (by decide) ?_
              refine V_istore_n C [(3, .int (0 : Int32)), (2, .int (0 : Int32)), (0, .ref (ad 26)), (1, .int x1)] dX5_count_86 rfl (by decide) rfl ?_
              refine V_sub (lv' := [(0, .ref (ad 26)), (2, .int (0 : Int32)), (3, .int (0 : Int32))]) [2, 1, 0] rfl ?_
              exact vX5_count_87 C 1000 (0 : Int32) (0 : Int32) M2 h
            · replace h := ite_n q8 h
              by_cases q9 : x1 = 6
              · replace h := ite_p q9 h
                refine V_tblI C 116 dX5_count_8 (by rw [q9]; decide) (by rw [q9]; decide) (by rw [q9]; rfl) (by decide) ?_
                refine V_iconst C (0 : Int32) dX5_count_116 (by decide) ?_
                refine V_istore_n C [(3, .int (0 : Int32)), (2, .int (0 : Int32)), (0, .ref (ad 26)), (1, .int x1)] dX5_count_117 rfl (by decide) rfl ?_
                refine V_sub (lv' := [(0, .ref (ad 26)), (2, .int (0 : Int32)), (3, .int (0 : Int32))]) [2, 1, 0] rfl ?_
                exact vX5_count_118 C 1000 (0 : Int32) (0 : Int32) M2 h
              · replace h := ite_n q9 h
                by_cases q10 : x1 = 7
                · replace h := ite_p q10 h
                  refine V_tblI C 156 dX5_count_8 (by rw [q10]; decide) (by rw [q10]; decide) (by rw [q10]; rfl) (by decide) ?_
                  refine V_aload_n C 1 dX5_count_156 rfl ?_
                  refine V_ldcw C dX5_count_157 kcX5_276 ?_
                  obtain ⟨z12, M13, hz12, h⟩ := bW_t h
                  refine V_callV C (st := []) (st' := [.int z12]) (mX5_findWays l (65535 : Int32) M2 hz12) wmX5_findWays lkX5_170 dX5_count_160 (wo_26 T3 ad _) rfl rfl rfl rfl rfl rfl ⟨rfl, rfl, (Nat.le_of_ble_eq_true rfl), (Nat.le_of_ble_eq_true rfl)⟩ ⟨Nat.zero_le _, Nat.zero_le _⟩ (Nat.le_of_ble_eq_true rfl) ?_
                  obtain ⟨rfl, rfl⟩ := ret_W h
                  exact V_iret C dX5_count_163
                · replace h := ite_n q10 h
                  by_cases q11 : x1 = 8
                  · replace h := ite_p q11 h
                    refine V_tblI C 164 dX5_count_8 (by rw [q11]; decide) (by rw [q11]; decide) (by rw [q11]; rfl) (by decide) ?_
                    refine V_aload_n C 1 dX5_count_164 rfl ?_
                    refine V_get C 4 dX5_count_165 (wo_26 T3 ad _) rfl inKX5 (by decide) flX5_62 rfl rfl ?_
                    obtain ⟨rfl, rfl⟩ := ret_W h
                    exact V_iret C dX5_count_168
                  · replace h := ite_n q11 h
                    refine V_tblO C 169 dX5_count_8 (tbl_out (fun k h1 h2 => by
                      rcases (show k = 0 ∨ k = 1 ∨ k = 2 ∨ k = 3 ∨ k = 4 ∨ k = 5 ∨ k = 6 ∨ k = 7 ∨ k = 8 by omega) with rfl | rfl | rfl | rfl | rfl | rfl | rfl | rfl | rfl
                      · exact q3
                      · exact q4
                      · exact q5
                      · exact q6
                      · exact q7
                      · exact q8
                      · exact q9
                      · exact q10
                      · exact q11
                      )) (by decide) ?_
                    refine V_bipush C (-2 : Int32) dX5_count_169 (by decide) ?_
                    obtain ⟨rfl, rfl⟩ := ret_W h
                    exact V_iret C dX5_count_171
abbrev rmX5_tellsNow : Room := { frames := 9, cells := 0, slots := 0, locals := 206 }
def fX5_tellsNow_151 : Nat → Int32 → Int32 → Int64 → Int32 → Mem → Option (Int64 × Mem)
  | 0, _, _, _, _, _ => none
  | n + 1, x3, x4, x5, x7, M => if (1 : Int32) ≤ x7 then bW (fX5_worthOf x3 x4 M) fun z27 M28 => some ((((31 : Int64) * x5) + (Int32.toInt64 z27)), M28) else bP (fX5_tellsSafest M x7) fun z29 => lt ((((31 : Int64) * x5) + (Int32.toInt64 z29))) fun y30 => fX5_tellsNow_151 n x3 x4 y30 (x7 + 1) M
def fX5_tellsNow (x1 : Int64) (x3 : Int32) (x4 : Int32) (M : Mem) : Option (Int64 × Mem) := bW (fX5_waysOf x3 x4 (-1 : Int32) M) fun z1 M2 => lt ((((31 : Int64) * x1) + (Int32.toInt64 z1))) fun y3 => bW (fX5_waysOf x3 x4 (0 : Int32) M2) fun z4 M5 => lt ((((31 : Int64) * y3) + (Int32.toInt64 z4))) fun y6 => bW (fX5_waitsOf x3 x4 M5) fun z7 M8 => lt ((((31 : Int64) * y6) + (Int32.toInt64 z7))) fun y9 => bW (fX5_byMapOf x3 x4 M8) fun z10 M11 => lt ((((31 : Int64) * y9) + (Int32.toInt64 z10))) fun y12 => bW (fX5_byChangeOf x3 x4 M11) fun z13 M14 => lt ((((31 : Int64) * y12) + (Int32.toInt64 z13))) fun y15 => bW (fX5_throughOf x3 x4 (0 : Int32) M14) fun z16 M17 => lt ((((31 : Int64) * y15) + (Int32.toInt64 z16))) fun y18 => bW (fX5_throughOf x3 x4 (1 : Int32) M17) fun z19 M20 => lt ((((31 : Int64) * y18) + (Int32.toInt64 z19))) fun y21 => bW (fX5_sureOf x3 x4 (0 : Int32) M20) fun z22 M23 => lt ((((31 : Int64) * y21) + (Int32.toInt64 z22))) fun y24 => bW (fX5_findSafest x3 x4 M23) fun z25 M26 => fX5_tellsNow_151 1000 x3 x4 y24 (-2 : Int32) M26
set_option maxHeartbeats 4000000 in
set_option maxRecDepth 100000 in
theorem vX5_tellsNow_151 {p : Program} {l : Launch} {e : Env} {s : State} {m : MethodId} {args : Array Value} {below : List Frame} {meth : Method} {c : Code} {D : va_G} {T3 : ClassId × ClassId × ClassId} {ad sd : Nat → Nat} {A : Nat → Prop}  (C : CX p s m args meth c cX5_tellsNow 8 RX5 (some .long) D T3 ad sd A) {r : Int64} {M9 : Mem} : ∀ (n : Nat) (x3 : Int32) (x4 : Int32) (x5 : Int64) (x7 : Int32) (M : Mem), fX5_tellsNow_151 n x3 x4 x5 x7 M = some (r, M9) → VV p l e rmX5_tellsNow s m args below meth c D T3 ad A 8 0 0 (QM below D T3 ad A args s (fun _ => some (.long r)) M9) M [(0, .ref (ad 26)), (3, .int x3), (4, .int x4), (5, .long x5), (7, .int x7)] 151 [] := by
  intro n
  induction n with
  | zero => intro x3 x4 x5 x7 M h; exact nomatch (show (none : Option (Int64 × Mem)) = some _ from h)
  | succ n ih =>
    intro x3 x4 x5 x7 M h
    rw [fX5_tellsNow_151] at h
    refine V_iload C 4 dX5_tellsNow_151 rfl ?_
    refine V_iconst C (1 : Int32) dX5_tellsNow_153 (by decide) ?_
    refine V_icmp_ge C 179 dX5_tellsNow_154 (by decide) (fun q31 => ?_) (fun q31 => ?_)
    · replace h := ite_p q31 h
      refine V_ldc2 C dX5_tellsNow_179 kcX5_277 ?_
      refine V_lload C 3 dX5_tellsNow_182 rfl ?_
      refine V_lmul C dX5_tellsNow_184 ?_
      refine V_aload_n C 0 dX5_tellsNow_185 rfl ?_
      refine V_iload_n C 1 dX5_tellsNow_186 rfl ?_
      refine V_iload C 2 dX5_tellsNow_187 rfl ?_
      obtain ⟨z27, M28, hz27, h⟩ := bW_t h
      refine V_callV C (st := [.long ((31 : Int64) * x5)]) (st' := [.int z27, .long ((31 : Int64) * x5)]) (mX5_worthOf l x3 x4 M hz27) wmX5_worthOf lkX5_267 dX5_tellsNow_189 (wo_26 T3 ad _) rfl rfl rfl rfl rfl rfl ⟨rfl, rfl, (Nat.le_of_ble_eq_true rfl), (Nat.le_of_ble_eq_true rfl)⟩ ⟨Nat.zero_le _, Nat.zero_le _⟩ (Nat.le_of_ble_eq_true rfl) ?_
      refine V_i2l C dX5_tellsNow_192 ?_
      refine V_ladd C dX5_tellsNow_193 ?_
      obtain ⟨rfl, rfl⟩ := ret_W h
      exact V_lret C dX5_tellsNow_194
    · replace h := ite_n q31 h
      refine V_ldc2 C dX5_tellsNow_157 kcX5_277 ?_
      refine V_lload C 3 dX5_tellsNow_160 rfl ?_
      refine V_lmul C dX5_tellsNow_162 ?_
      refine V_aload_n C 0 dX5_tellsNow_163 rfl ?_
      refine V_iload C 4 dX5_tellsNow_164 rfl ?_
      obtain ⟨z29, hz29, h⟩ := bP_t h
      refine V_callV C (st := [.long ((31 : Int64) * x5)]) (st' := [.int z29, .long ((31 : Int64) * x5)]) (mX5_tellsSafest l x7 M hz29) wmX5_tellsSafest lkX5_259 dX5_tellsNow_166 (wo_26 T3 ad _) rfl rfl rfl rfl rfl rfl ⟨rfl, rfl, (Nat.le_of_ble_eq_true rfl), (Nat.le_of_ble_eq_true rfl)⟩ ⟨Nat.zero_le _, Nat.zero_le _⟩ (Nat.le_of_ble_eq_true rfl) ?_
      refine V_i2l C dX5_tellsNow_169 ?_
      refine V_ladd C dX5_tellsNow_170 ?_
      obtain ⟨y30, hy30, h⟩ := lt_t h
      refine V_topl C hy30 ?_
      refine V_lstore C [(5, .long y30), (0, .ref (ad 26)), (3, .int x3), (4, .int x4), (7, .int x7)] dX5_tellsNow_171 (by decide) rfl ?_
      refine V_iinc C 4 (x7 + 1) [(7, .int (x7 + 1)), (5, .long y30), (0, .ref (ad 26)), (3, .int x3), (4, .int x4)] dX5_tellsNow_173 rfl rfl (by decide) rfl ?_
      refine V_goto C 151 dX5_tellsNow_176 (by decide) ?_
      refine V_sub (lv' := [(0, .ref (ad 26)), (3, .int x3), (4, .int x4), (5, .long y30), (7, .int (x7 + 1))]) [2, 3, 4, 1, 0] rfl ?_
      exact ih x3 x4 y30 (x7 + 1) M h
set_option maxHeartbeats 4000000 in
set_option maxRecDepth 100000 in
theorem mX5_tellsNow (l : Launch) (x1 : Int64) (x3 : Int32) (x4 : Int32) (M : Mem) {r : Int64} {M9 : Mem} (h : fX5_tellsNow x1 x3 x4 M = some (r, M9)) : MC l yX5_tellsNow cX5_tellsNow 8 (some .long) rmX5_tellsNow (fun ad sd => [.ref (ad 26), .long x1, .int x3, .int x4]) M (fun _ => some (.long r)) M9 := by
  refine MC_start (by decide) (fun ad sd => [(0, .ref (ad 26)), (1, .long x1), (3, .int x3), (4, .int x4)]) (fun _ _ => rfl) (fun _ _ => Nat.le_of_ble_eq_true rfl) ?_
  intro p e s m args below meth c D T3 ad sd A C
  unfold fX5_tellsNow at h
  refine V_ldc2 C dX5_tellsNow_0 kcX5_277 ?_
  refine V_lload_n C 1 dX5_tellsNow_3 rfl ?_
  refine V_lmul C dX5_tellsNow_4 ?_
  refine V_aload_n C 0 dX5_tellsNow_5 rfl ?_
  refine V_iload_n C 2 dX5_tellsNow_6 rfl ?_
  refine V_iload C 3 dX5_tellsNow_7 rfl ?_
  refine V_iconst C (-1 : Int32) dX5_tellsNow_9 (by decide) ?_
  obtain ⟨z1, M2, hz1, h⟩ := bW_t h
  refine V_callV C (st := [.long ((31 : Int64) * x1)]) (st' := [.int z1, .long ((31 : Int64) * x1)]) (mX5_waysOf l x3 x4 (-1 : Int32) M hz1) wmX5_waysOf lkX5_181 dX5_tellsNow_10 (wo_26 T3 ad _) rfl rfl rfl rfl rfl rfl ⟨rfl, rfl, (Nat.le_of_ble_eq_true rfl), (Nat.le_of_ble_eq_true rfl)⟩ ⟨Nat.zero_le _, Nat.zero_le _⟩ (Nat.le_of_ble_eq_true rfl) ?_
  refine V_i2l C dX5_tellsNow_13 ?_
  refine V_ladd C dX5_tellsNow_14 ?_
  obtain ⟨y3, hy3, h⟩ := lt_t h
  refine V_topl C hy3 ?_
  refine V_lstore C [(5, .long y3), (0, .ref (ad 26)), (1, .long x1), (3, .int x3), (4, .int x4)] dX5_tellsNow_15 (by decide) rfl ?_
  refine V_ldc2 C dX5_tellsNow_17 kcX5_277 ?_
  refine V_lload C 0 dX5_tellsNow_20 rfl ?_
  refine V_lmul C dX5_tellsNow_22 ?_
  refine V_aload_n C 1 dX5_tellsNow_23 rfl ?_
  refine V_iload_n C 3 dX5_tellsNow_24 rfl ?_
  refine V_iload C 4 dX5_tellsNow_25 rfl ?_
  refine V_iconst C (0 : Int32) dX5_tellsNow_27 (by decide) ?_
  obtain ⟨z4, M5, hz4, h⟩ := bW_t h
  refine V_callV C (st := [.long ((31 : Int64) * y3)]) (st' := [.int z4, .long ((31 : Int64) * y3)]) (mX5_waysOf l x3 x4 (0 : Int32) M2 hz4) wmX5_waysOf lkX5_181 dX5_tellsNow_28 (wo_26 T3 ad _) rfl rfl rfl rfl rfl rfl ⟨rfl, rfl, (Nat.le_of_ble_eq_true rfl), (Nat.le_of_ble_eq_true rfl)⟩ ⟨Nat.zero_le _, Nat.zero_le _⟩ (Nat.le_of_ble_eq_true rfl) ?_
  refine V_i2l C dX5_tellsNow_31 ?_
  refine V_ladd C dX5_tellsNow_32 ?_
  obtain ⟨y6, hy6, h⟩ := lt_t h
  refine V_topl C hy6 ?_
  refine V_lstore C [(5, .long y6), (0, .ref (ad 26)), (1, .long x1), (3, .int x3), (4, .int x4)] dX5_tellsNow_33 (by decide) rfl ?_
  refine V_ldc2 C dX5_tellsNow_35 kcX5_277 ?_
  refine V_lload C 0 dX5_tellsNow_38 rfl ?_
  refine V_lmul C dX5_tellsNow_40 ?_
  refine V_aload_n C 1 dX5_tellsNow_41 rfl ?_
  refine V_iload_n C 3 dX5_tellsNow_42 rfl ?_
  refine V_iload C 4 dX5_tellsNow_43 rfl ?_
  obtain ⟨z7, M8, hz7, h⟩ := bW_t h
  refine V_callV C (st := [.long ((31 : Int64) * y6)]) (st' := [.int z7, .long ((31 : Int64) * y6)]) (mX5_waitsOf l x3 x4 M5 hz7) wmX5_waitsOf lkX5_187 dX5_tellsNow_45 (wo_26 T3 ad _) rfl rfl rfl rfl rfl rfl ⟨rfl, rfl, (Nat.le_of_ble_eq_true rfl), (Nat.le_of_ble_eq_true rfl)⟩ ⟨Nat.zero_le _, Nat.zero_le _⟩ (Nat.le_of_ble_eq_true rfl) ?_
  refine V_i2l C dX5_tellsNow_48 ?_
  refine V_ladd C dX5_tellsNow_49 ?_
  obtain ⟨y9, hy9, h⟩ := lt_t h
  refine V_topl C hy9 ?_
  refine V_lstore C [(5, .long y9), (0, .ref (ad 26)), (1, .long x1), (3, .int x3), (4, .int x4)] dX5_tellsNow_50 (by decide) rfl ?_
  refine V_ldc2 C dX5_tellsNow_52 kcX5_277 ?_
  refine V_lload C 0 dX5_tellsNow_55 rfl ?_
  refine V_lmul C dX5_tellsNow_57 ?_
  refine V_aload_n C 1 dX5_tellsNow_58 rfl ?_
  refine V_iload_n C 3 dX5_tellsNow_59 rfl ?_
  refine V_iload C 4 dX5_tellsNow_60 rfl ?_
  obtain ⟨z10, M11, hz10, h⟩ := bW_t h
  refine V_callV C (st := [.long ((31 : Int64) * y9)]) (st' := [.int z10, .long ((31 : Int64) * y9)]) (mX5_byMapOf l x3 x4 M8 hz10) wmX5_byMapOf lkX5_196 dX5_tellsNow_62 (wo_26 T3 ad _) rfl rfl rfl rfl rfl rfl ⟨rfl, rfl, (Nat.le_of_ble_eq_true rfl), (Nat.le_of_ble_eq_true rfl)⟩ ⟨Nat.zero_le _, Nat.zero_le _⟩ (Nat.le_of_ble_eq_true rfl) ?_
  refine V_i2l C dX5_tellsNow_65 ?_
  refine V_ladd C dX5_tellsNow_66 ?_
  obtain ⟨y12, hy12, h⟩ := lt_t h
  refine V_topl C hy12 ?_
  refine V_lstore C [(5, .long y12), (0, .ref (ad 26)), (1, .long x1), (3, .int x3), (4, .int x4)] dX5_tellsNow_67 (by decide) rfl ?_
  refine V_ldc2 C dX5_tellsNow_69 kcX5_277 ?_
  refine V_lload C 0 dX5_tellsNow_72 rfl ?_
  refine V_lmul C dX5_tellsNow_74 ?_
  refine V_aload_n C 1 dX5_tellsNow_75 rfl ?_
  refine V_iload_n C 3 dX5_tellsNow_76 rfl ?_
  refine V_iload C 4 dX5_tellsNow_77 rfl ?_
  obtain ⟨z13, M14, hz13, h⟩ := bW_t h
  refine V_callV C (st := [.long ((31 : Int64) * y12)]) (st' := [.int z13, .long ((31 : Int64) * y12)]) (mX5_byChangeOf l x3 x4 M11 hz13) wmX5_byChangeOf lkX5_202 dX5_tellsNow_79 (wo_26 T3 ad _) rfl rfl rfl rfl rfl rfl ⟨rfl, rfl, (Nat.le_of_ble_eq_true rfl), (Nat.le_of_ble_eq_true rfl)⟩ ⟨Nat.zero_le _, Nat.zero_le _⟩ (Nat.le_of_ble_eq_true rfl) ?_
  refine V_i2l C dX5_tellsNow_82 ?_
  refine V_ladd C dX5_tellsNow_83 ?_
  obtain ⟨y15, hy15, h⟩ := lt_t h
  refine V_topl C hy15 ?_
  refine V_lstore C [(5, .long y15), (0, .ref (ad 26)), (1, .long x1), (3, .int x3), (4, .int x4)] dX5_tellsNow_84 (by decide) rfl ?_
  refine V_ldc2 C dX5_tellsNow_86 kcX5_277 ?_
  refine V_lload C 0 dX5_tellsNow_89 rfl ?_
  refine V_lmul C dX5_tellsNow_91 ?_
  refine V_aload_n C 1 dX5_tellsNow_92 rfl ?_
  refine V_iload_n C 3 dX5_tellsNow_93 rfl ?_
  refine V_iload C 4 dX5_tellsNow_94 rfl ?_
  refine V_iconst C (0 : Int32) dX5_tellsNow_96 (by decide) ?_
  obtain ⟨z16, M17, hz16, h⟩ := bW_t h
  refine V_callV C (st := [.long ((31 : Int64) * y15)]) (st' := [.int z16, .long ((31 : Int64) * y15)]) (mX5_throughOf l x3 x4 (0 : Int32) M14 hz16) wmX5_throughOf lkX5_242 dX5_tellsNow_97 (wo_26 T3 ad _) rfl rfl rfl rfl rfl rfl ⟨rfl, rfl, (Nat.le_of_ble_eq_true rfl), (Nat.le_of_ble_eq_true rfl)⟩ ⟨Nat.zero_le _, Nat.zero_le _⟩ (Nat.le_of_ble_eq_true rfl) ?_
  refine V_i2l C dX5_tellsNow_100 ?_
  refine V_ladd C dX5_tellsNow_101 ?_
  obtain ⟨y18, hy18, h⟩ := lt_t h
  refine V_topl C hy18 ?_
  refine V_lstore C [(5, .long y18), (0, .ref (ad 26)), (1, .long x1), (3, .int x3), (4, .int x4)] dX5_tellsNow_102 (by decide) rfl ?_
  refine V_ldc2 C dX5_tellsNow_104 kcX5_277 ?_
  refine V_lload C 0 dX5_tellsNow_107 rfl ?_
  refine V_lmul C dX5_tellsNow_109 ?_
  refine V_aload_n C 1 dX5_tellsNow_110 rfl ?_
  refine V_iload_n C 3 dX5_tellsNow_111 rfl ?_
  refine V_iload C 4 dX5_tellsNow_112 rfl ?_
  refine V_iconst C (1 : Int32) dX5_tellsNow_114 (by decide) ?_
  obtain ⟨z19, M20, hz19, h⟩ := bW_t h
  refine V_callV C (st := [.long ((31 : Int64) * y18)]) (st' := [.int z19, .long ((31 : Int64) * y18)]) (mX5_throughOf l x3 x4 (1 : Int32) M17 hz19) wmX5_throughOf lkX5_242 dX5_tellsNow_115 (wo_26 T3 ad _) rfl rfl rfl rfl rfl rfl ⟨rfl, rfl, (Nat.le_of_ble_eq_true rfl), (Nat.le_of_ble_eq_true rfl)⟩ ⟨Nat.zero_le _, Nat.zero_le _⟩ (Nat.le_of_ble_eq_true rfl) ?_
  refine V_i2l C dX5_tellsNow_118 ?_
  refine V_ladd C dX5_tellsNow_119 ?_
  obtain ⟨y21, hy21, h⟩ := lt_t h
  refine V_topl C hy21 ?_
  refine V_lstore C [(5, .long y21), (0, .ref (ad 26)), (1, .long x1), (3, .int x3), (4, .int x4)] dX5_tellsNow_120 (by decide) rfl ?_
  refine V_ldc2 C dX5_tellsNow_122 kcX5_277 ?_
  refine V_lload C 0 dX5_tellsNow_125 rfl ?_
  refine V_lmul C dX5_tellsNow_127 ?_
  refine V_aload_n C 1 dX5_tellsNow_128 rfl ?_
  refine V_iload_n C 3 dX5_tellsNow_129 rfl ?_
  refine V_iload C 4 dX5_tellsNow_130 rfl ?_
  refine V_iconst C (0 : Int32) dX5_tellsNow_132 (by decide) ?_
  obtain ⟨z22, M23, hz22, h⟩ := bW_t h
  refine V_callV C (st := [.long ((31 : Int64) * y21)]) (st' := [.int z22, .long ((31 : Int64) * y21)]) (mX5_sureOf l x3 x4 (0 : Int32) M20 hz22) wmX5_sureOf lkX5_245 dX5_tellsNow_133 (wo_26 T3 ad _) rfl rfl rfl rfl rfl rfl ⟨rfl, rfl, (Nat.le_of_ble_eq_true rfl), (Nat.le_of_ble_eq_true rfl)⟩ ⟨Nat.zero_le _, Nat.zero_le _⟩ (Nat.le_of_ble_eq_true rfl) ?_
  refine V_i2l C dX5_tellsNow_136 ?_
  refine V_ladd C dX5_tellsNow_137 ?_
  obtain ⟨y24, hy24, h⟩ := lt_t h
  refine V_topl C hy24 ?_
  refine V_lstore C [(5, .long y24), (0, .ref (ad 26)), (1, .long x1), (3, .int x3), (4, .int x4)] dX5_tellsNow_138 (by decide) rfl ?_
  refine V_aload_n C 1 dX5_tellsNow_140 rfl ?_
  refine V_iload_n C 3 dX5_tellsNow_141 rfl ?_
  refine V_iload C 4 dX5_tellsNow_142 rfl ?_
  obtain ⟨z25, M26, hz25, h⟩ := bW_t h
  refine V_callV C (st := []) (st' := []) (mX5_findSafest l x3 x4 M23 hz25) wmX5_findSafest lkX5_255 dX5_tellsNow_144 (wo_26 T3 ad _) rfl rfl rfl rfl rfl rfl ⟨rfl, rfl, (Nat.le_of_ble_eq_true rfl), (Nat.le_of_ble_eq_true rfl)⟩ ⟨Nat.zero_le _, Nat.zero_le _⟩ (Nat.le_of_ble_eq_true rfl) ?_
  refine V_bipush C (-2 : Int32) dX5_tellsNow_147 (by decide) ?_
  refine V_istore C [(7, .int (-2 : Int32)), (5, .long y24), (0, .ref (ad 26)), (1, .long x1), (3, .int x3), (4, .int x4)] dX5_tellsNow_149 (by decide) rfl ?_
  refine V_sub (lv' := [(0, .ref (ad 26)), (3, .int x3), (4, .int x4), (5, .long y24), (7, .int (-2 : Int32))]) [2, 4, 5, 1, 0] rfl ?_
  exact vX5_tellsNow_151 C 1000 x3 x4 y24 (-2 : Int32) M26 h
abbrev rmX5_digest : Room := { frames := 10, cells := 0, slots := 0, locals := 233 }
def fX5_digest_250 : Nat → Int64 → Int32 → Mem → Option (Int64 × Mem)
  | 0, _, _, _ => none
  | n + 1, x1, x3, M => if (6 : Int32) ≤ x3 then some (x1, M) else bW (fX5_savedOf x3 (0 : Int32) M) fun z4 M5 => lt ((((31 : Int64) * x1) + (Int32.toInt64 z4))) fun y6 => bW (fX5_savedOf x3 (1 : Int32) M5) fun z7 M8 => lt ((((31 : Int64) * y6) + (Int32.toInt64 z7))) fun y9 => bW (fX5_wreck x3 (1 : Int32) (9 : Int32) M8) fun z10 M11 => lt ((((31 : Int64) * y9) + (Int32.toInt64 z10))) fun y12 => bW (fX5_seasonOf (7 : Int32) x3 (3 : Int32) (20 : Int32) M11) fun z13 M14 => lt ((((31 : Int64) * y12) + (Int32.toInt64 z13))) fun y15 => fX5_digest_250 n y15 (x3 + 3) M14
def fX5_digest_208 (kk182 : Int64 → Int32 → Mem → Option (Int64 × Mem)) (x1 : Int64) (x3 : Int32) (t0 : Int32) (M : Mem) : Option (Int64 × Mem) := bW (fX5_draftOf t0 M) fun z17 M18 => lt ((((31 : Int64) * x1) + (Int32.toInt64 z17))) fun y19 => bW (fX5_tellsNow y19 (2 : Int32) t0 M18) fun z20 M21 => bW (fX5_tellsNow z20 (5 : Int32) t0 M21) fun z22 M23 => kk182 z22 (x3 + 1) M23
def fX5_digest_182 : Nat → Int64 → Int32 → Mem → Option (Int64 × Mem)
  | 0, _, _, _ => none
  | n + 1, x1, x3, M => if (4 : Int32) ≤ x3 then fX5_digest_250 1000 x1 (2 : Int32) M else if (2 : Int32) ≤ x3 then if x3 = (2 : Int32) then fX5_digest_208 (fX5_digest_182 n) x1 x3 (7 : Int32) M else fX5_digest_208 (fX5_digest_182 n) x1 x3 (50 : Int32) M else fX5_digest_208 (fX5_digest_182 n) x1 x3 x3 M
def fX5_digest_56 (kk45 : Int64 → Int32 → Mem → Option (Int64 × Mem)) : Nat → Int64 → Int32 → Int32 → Mem → Option (Int64 × Mem)
  | 0, _, _, _, _ => none
  | n + 1, x1, x3, x4, M => if (5 : Int32) ≤ x4 then bP (fX5_deepOf M x3 (7 : Int32)) fun z27 => lt ((((31 : Int64) * x1) + (Int32.toInt64 z27))) fun y28 => bP (fX5_mapOf M x3 (7 : Int32)) fun z29 => lt ((((31 : Int64) * y28) + (Int32.toInt64 z29))) fun y30 => bP (fX5_lawsOf M x3 (-1 : Int32)) fun z31 => lt ((((31 : Int64) * y30) + (Int32.toInt64 z31))) fun y32 => bP (fX5_lawsOf M x3 (0 : Int32)) fun z33 => lt ((((31 : Int64) * y32) + (Int32.toInt64 z33))) fun y34 => bP (fX5_nextOf M x3 (9 : Int32)) fun z35 => lt ((((31 : Int64) * y34) + (Int32.toInt64 z35))) fun y36 => bW (fX5_tellsNight x3 (3 : Int32) M) fun z37 M38 => lt ((((31 : Int64) * y36) + (Int32.toInt64 z37))) fun y39 => kk45 y39 (x3 + 1) M38 else gd (inb (((5 : Int32) * x3) + x4) 80) (lt ((((31 : Int64) * x1) + (Int32.toInt64 (M 32 ((((5 : Int32) * x3) + x4)).toNatClampNeg)))) fun y41 => fX5_digest_56 kk45 n y41 x3 (x4 + 1) M)
def fX5_digest_45 : Nat → Int64 → Int32 → Mem → Option (Int64 × Mem)
  | 0, _, _, _ => none
  | n + 1, x1, x3, M => if (M 26 8) ≤ x3 then fX5_digest_182 1000 x1 (0 : Int32) M else fX5_digest_56 (fX5_digest_45 n) 1000 x1 x3 (0 : Int32) M
def fX5_digest_6 : Nat → Int64 → Int32 → Mem → Option (Int64 × Mem)
  | 0, _, _, _ => none
  | n + 1, x1, x3, M => if (8 : Int32) ≤ x3 then bW (fX5_reads M) fun z1 M2 => lt ((((31 : Int64) * x1) + (Int32.toInt64 z1))) fun y3 => fX5_digest_45 1000 y3 (0 : Int32) M2 else bW (fX5_count x3 M) fun z44 M45 => lt ((((31 : Int64) * x1) + (Int32.toInt64 z44))) fun y46 => fX5_digest_6 n y46 (x3 + 1) M45
def fX5_digest (M : Mem) : Option (Int64 × Mem) := fX5_digest_6 1000 (17 : Int64) (0 : Int32) M
set_option maxHeartbeats 4000000 in
set_option maxRecDepth 100000 in
theorem vX5_digest_250 {p : Program} {l : Launch} {e : Env} {s : State} {m : MethodId} {args : Array Value} {below : List Frame} {meth : Method} {c : Code} {D : va_G} {T3 : ClassId × ClassId × ClassId} {ad sd : Nat → Nat} {A : Nat → Prop}  (C : CX p s m args meth c cX5_digest 5 RX5 (some .long) D T3 ad sd A) {r : Int64} {M9 : Mem} : ∀ (n : Nat) (x1 : Int64) (x3 : Int32) (M : Mem), fX5_digest_250 n x1 x3 M = some (r, M9) → VV p l e rmX5_digest s m args below meth c D T3 ad A 5 0 0 (QM below D T3 ad A args s (fun _ => some (.long r)) M9) M [(0, .ref (ad 26)), (1, .long x1), (3, .int x3)] 250 [] := by
  intro n
  induction n with
  | zero => intro x1 x3 M h; exact nomatch (show (none : Option (Int64 × Mem)) = some _ from h)
  | succ n ih =>
    intro x1 x3 M h
    rw [fX5_digest_250] at h
    refine V_iload_n C 2 dX5_digest_250 rfl ?_
    refine V_bipush C (6 : Int32) dX5_digest_251 (by decide) ?_
    refine V_icmp_ge C 324 dX5_digest_253 (by decide) (fun q16 => ?_) (fun q16 => ?_)
    · replace h := ite_p q16 h
      refine V_lload_n C 1 dX5_digest_324 rfl ?_
      obtain ⟨rfl, rfl⟩ := ret_W h
      exact V_lret C dX5_digest_325
    · replace h := ite_n q16 h
      refine V_ldc2 C dX5_digest_256 kcX5_277 ?_
      refine V_lload_n C 1 dX5_digest_259 rfl ?_
      refine V_lmul C dX5_digest_260 ?_
      refine V_aload_n C 0 dX5_digest_261 rfl ?_
      refine V_iload_n C 2 dX5_digest_262 rfl ?_
      refine V_iconst C (0 : Int32) dX5_digest_263 (by decide) ?_
      obtain ⟨z4, M5, hz4, h⟩ := bW_t h
      refine V_callV C (st := [.long ((31 : Int64) * x1)]) (st' := [.int z4, .long ((31 : Int64) * x1)]) (mX5_savedOf l x3 (0 : Int32) M hz4) wmX5_savedOf lkX5_208 dX5_digest_264 (wo_26 T3 ad _) rfl rfl rfl rfl rfl rfl ⟨rfl, rfl, (Nat.le_of_ble_eq_true rfl), (Nat.le_of_ble_eq_true rfl)⟩ ⟨Nat.zero_le _, Nat.zero_le _⟩ (Nat.le_of_ble_eq_true rfl) ?_
      refine V_i2l C dX5_digest_267 ?_
      refine V_ladd C dX5_digest_268 ?_
      obtain ⟨y6, hy6, h⟩ := lt_t h
      refine V_topl C hy6 ?_
      refine V_lstore_n C [(1, .long y6), (0, .ref (ad 26)), (3, .int x3)] dX5_digest_269 rfl (by decide) rfl ?_
      refine V_ldc2 C dX5_digest_270 kcX5_277 ?_
      refine V_lload_n C 0 dX5_digest_273 rfl ?_
      refine V_lmul C dX5_digest_274 ?_
      refine V_aload_n C 1 dX5_digest_275 rfl ?_
      refine V_iload_n C 2 dX5_digest_276 rfl ?_
      refine V_iconst C (1 : Int32) dX5_digest_277 (by decide) ?_
      obtain ⟨z7, M8, hz7, h⟩ := bW_t h
      refine V_callV C (st := [.long ((31 : Int64) * y6)]) (st' := [.int z7, .long ((31 : Int64) * y6)]) (mX5_savedOf l x3 (1 : Int32) M5 hz7) wmX5_savedOf lkX5_208 dX5_digest_278 (wo_26 T3 ad _) rfl rfl rfl rfl rfl rfl ⟨rfl, rfl, (Nat.le_of_ble_eq_true rfl), (Nat.le_of_ble_eq_true rfl)⟩ ⟨Nat.zero_le _, Nat.zero_le _⟩ (Nat.le_of_ble_eq_true rfl) ?_
      refine V_i2l C dX5_digest_281 ?_
      refine V_ladd C dX5_digest_282 ?_
      obtain ⟨y9, hy9, h⟩ := lt_t h
      refine V_topl C hy9 ?_
      refine V_lstore_n C [(1, .long y9), (0, .ref (ad 26)), (3, .int x3)] dX5_digest_283 rfl (by decide) rfl ?_
      refine V_ldc2 C dX5_digest_284 kcX5_277 ?_
      refine V_lload_n C 0 dX5_digest_287 rfl ?_
      refine V_lmul C dX5_digest_288 ?_
      refine V_aload_n C 1 dX5_digest_289 rfl ?_
      refine V_iload_n C 2 dX5_digest_290 rfl ?_
      refine V_iconst C (1 : Int32) dX5_digest_291 (by decide) ?_
      refine V_bipush C (9 : Int32) dX5_digest_292 (by decide) ?_
      obtain ⟨z10, M11, hz10, h⟩ := bW_t h
      refine V_callV C (st := [.long ((31 : Int64) * y9)]) (st' := [.int z10, .long ((31 : Int64) * y9)]) (mX5_wreck l x3 (1 : Int32) (9 : Int32) M8 hz10) wmX5_wreck lkX5_288 dX5_digest_294 (wo_26 T3 ad _) rfl rfl rfl rfl rfl rfl ⟨rfl, rfl, (Nat.le_of_ble_eq_true rfl), (Nat.le_of_ble_eq_true rfl)⟩ ⟨Nat.zero_le _, Nat.zero_le _⟩ (Nat.le_of_ble_eq_true rfl) ?_
      refine V_i2l C dX5_digest_297 ?_
      refine V_ladd C dX5_digest_298 ?_
      obtain ⟨y12, hy12, h⟩ := lt_t h
      refine V_topl C hy12 ?_
      refine V_lstore_n C [(1, .long y12), (0, .ref (ad 26)), (3, .int x3)] dX5_digest_299 rfl (by decide) rfl ?_
      refine V_ldc2 C dX5_digest_300 kcX5_277 ?_
      refine V_lload_n C 0 dX5_digest_303 rfl ?_
      refine V_lmul C dX5_digest_304 ?_
      refine V_aload_n C 1 dX5_digest_305 rfl ?_
      refine V_bipush C (7 : Int32) dX5_digest_306 (by decide) ?_
      refine V_iload_n C 2 dX5_digest_308 rfl ?_
      refine V_iconst C (3 : Int32) dX5_digest_309 (by decide) ?_
      refine V_bipush C (20 : Int32) dX5_digest_310 (by decide) ?_
      obtain ⟨z13, M14, hz13, h⟩ := bW_t h
      refine V_callV C (st := [.long ((31 : Int64) * y12)]) (st' := [.int z13, .long ((31 : Int64) * y12)]) (mX5_seasonOf l (7 : Int32) x3 (3 : Int32) (20 : Int32) M11 hz13) wmX5_seasonOf lkX5_273 dX5_digest_312 (wo_26 T3 ad _) rfl rfl rfl rfl rfl rfl ⟨rfl, rfl, (Nat.le_of_ble_eq_true rfl), (Nat.le_of_ble_eq_true rfl)⟩ ⟨Nat.zero_le _, Nat.zero_le _⟩ (Nat.le_of_ble_eq_true rfl) ?_
      refine V_i2l C dX5_digest_315 ?_
      refine V_ladd C dX5_digest_316 ?_
      obtain ⟨y15, hy15, h⟩ := lt_t h
      refine V_topl C hy15 ?_
      refine V_lstore_n C [(1, .long y15), (0, .ref (ad 26)), (3, .int x3)] dX5_digest_317 rfl (by decide) rfl ?_
      refine V_iinc C 2 (x3 + 3) [(3, .int (x3 + 3)), (1, .long y15), (0, .ref (ad 26))] dX5_digest_318 rfl rfl (by decide) rfl ?_
      refine V_goto C 250 dX5_digest_321 (by decide) ?_
      refine V_sub (lv' := [(0, .ref (ad 26)), (1, .long y15), (3, .int (x3 + 3))]) [2, 1, 0] rfl ?_
      exact ih y15 (x3 + 3) M14 h
set_option maxHeartbeats 4000000 in
set_option maxRecDepth 100000 in
theorem vX5_digest_208 {p : Program} {l : Launch} {e : Env} {s : State} {m : MethodId} {args : Array Value} {below : List Frame} {meth : Method} {c : Code} {D : va_G} {T3 : ClassId × ClassId × ClassId} {ad sd : Nat → Nat} {A : Nat → Prop}  (C : CX p s m args meth c cX5_digest 5 RX5 (some .long) D T3 ad sd A) {r : Int64} {M9 : Mem} (kk182 : Int64 → Int32 → Mem → Option (Int64 × Mem)) (hk182 : ∀ (x1 : Int64) (x3 : Int32) (M : Mem), kk182 x1 x3 M = some (r, M9) → VV p l e rmX5_digest s m args below meth c D T3 ad A 5 0 0 (QM below D T3 ad A args s (fun _ => some (.long r)) M9) M [(0, .ref (ad 26)), (1, .long x1), (3, .int x3)] 182 []) : ∀ (x1 : Int64) (x3 : Int32) (t0 : Int32) (M : Mem), fX5_digest_208 kk182 x1 x3 t0 M = some (r, M9) → VV p l e rmX5_digest s m args below meth c D T3 ad A 5 0 0 (QM below D T3 ad A args s (fun _ => some (.long r)) M9) M [(0, .ref (ad 26)), (1, .long x1), (3, .int x3)] 208 [.int t0] := by
  intro x1 x3 t0 M h
  unfold fX5_digest_208 at h
  refine V_istore C [(4, .int t0), (0, .ref (ad 26)), (1, .long x1), (3, .int x3)] dX5_digest_208 (by decide) rfl ?_
  refine V_ldc2 C dX5_digest_210 kcX5_277 ?_
  refine V_lload_n C 2 dX5_digest_213 rfl ?_
  refine V_lmul C dX5_digest_214 ?_
  refine V_aload_n C 1 dX5_digest_215 rfl ?_
  refine V_iload C 0 dX5_digest_216 rfl ?_
  obtain ⟨z17, M18, hz17, h⟩ := bW_t h
  refine V_callV C (st := [.long ((31 : Int64) * x1)]) (st' := [.int z17, .long ((31 : Int64) * x1)]) (mX5_draftOf l t0 M hz17) wmX5_draftOf lkX5_184 dX5_digest_218 (wo_26 T3 ad _) rfl rfl rfl rfl rfl rfl ⟨rfl, rfl, (Nat.le_of_ble_eq_true rfl), (Nat.le_of_ble_eq_true rfl)⟩ ⟨Nat.zero_le _, Nat.zero_le _⟩ (Nat.le_of_ble_eq_true rfl) ?_
  refine V_i2l C dX5_digest_221 ?_
  refine V_ladd C dX5_digest_222 ?_
  obtain ⟨y19, hy19, h⟩ := lt_t h
  refine V_topl C hy19 ?_
  refine V_lstore_n C [(1, .long y19), (4, .int t0), (0, .ref (ad 26)), (3, .int x3)] dX5_digest_223 rfl (by decide) rfl ?_
  refine V_aload_n C 2 dX5_digest_224 rfl ?_
  refine V_lload_n C 0 dX5_digest_225 rfl ?_
  refine V_iconst C (2 : Int32) dX5_digest_226 (by decide) ?_
  refine V_iload C 1 dX5_digest_227 rfl ?_
  obtain ⟨z20, M21, hz20, h⟩ := bW_t h
  refine V_callV C (st := []) (st' := [.long z20]) (mX5_tellsNow l y19 (2 : Int32) t0 M18 hz20) wmX5_tellsNow lkX5_284 dX5_digest_229 (wo_26 T3 ad _) rfl rfl rfl rfl rfl rfl ⟨rfl, rfl, (Nat.le_of_ble_eq_true rfl), (Nat.le_of_ble_eq_true rfl)⟩ ⟨Nat.zero_le _, Nat.zero_le _⟩ (Nat.le_of_ble_eq_true rfl) ?_
  refine V_lstore_n C [(1, .long z20), (4, .int t0), (0, .ref (ad 26)), (3, .int x3)] dX5_digest_232 rfl (by decide) rfl ?_
  refine V_aload_n C 2 dX5_digest_233 rfl ?_
  refine V_lload_n C 0 dX5_digest_234 rfl ?_
  refine V_iconst C (5 : Int32) dX5_digest_235 (by decide) ?_
  refine V_iload C 1 dX5_digest_236 rfl ?_
  obtain ⟨z22, M23, hz22, h⟩ := bW_t h
  refine V_callV C (st := []) (st' := [.long z22]) (mX5_tellsNow l z20 (5 : Int32) t0 M21 hz22) wmX5_tellsNow lkX5_284 dX5_digest_238 (wo_26 T3 ad _) rfl rfl rfl rfl rfl rfl ⟨rfl, rfl, (Nat.le_of_ble_eq_true rfl), (Nat.le_of_ble_eq_true rfl)⟩ ⟨Nat.zero_le _, Nat.zero_le _⟩ (Nat.le_of_ble_eq_true rfl) ?_
  refine V_lstore_n C [(1, .long z22), (4, .int t0), (0, .ref (ad 26)), (3, .int x3)] dX5_digest_241 rfl (by decide) rfl ?_
  refine V_iinc C 3 (x3 + 1) [(3, .int (x3 + 1)), (1, .long z22), (4, .int t0), (0, .ref (ad 26))] dX5_digest_242 rfl rfl (by decide) rfl ?_
  refine V_goto C 182 dX5_digest_245 (by decide) ?_
  refine V_sub (lv' := [(0, .ref (ad 26)), (1, .long z22), (3, .int (x3 + 1))]) [3, 1, 0] rfl ?_
  exact hk182 z22 (x3 + 1) M23 h
set_option maxHeartbeats 4000000 in
set_option maxRecDepth 100000 in
theorem vX5_digest_182 {p : Program} {l : Launch} {e : Env} {s : State} {m : MethodId} {args : Array Value} {below : List Frame} {meth : Method} {c : Code} {D : va_G} {T3 : ClassId × ClassId × ClassId} {ad sd : Nat → Nat} {A : Nat → Prop}  (C : CX p s m args meth c cX5_digest 5 RX5 (some .long) D T3 ad sd A) {r : Int64} {M9 : Mem} : ∀ (n : Nat) (x1 : Int64) (x3 : Int32) (M : Mem), fX5_digest_182 n x1 x3 M = some (r, M9) → VV p l e rmX5_digest s m args below meth c D T3 ad A 5 0 0 (QM below D T3 ad A args s (fun _ => some (.long r)) M9) M [(0, .ref (ad 26)), (1, .long x1), (3, .int x3)] 182 [] := by
  intro n
  induction n with
  | zero => intro x1 x3 M h; exact nomatch (show (none : Option (Int64 × Mem)) = some _ from h)
  | succ n ih =>
    intro x1 x3 M h
    rw [fX5_digest_182] at h
    refine V_iload_n C 2 dX5_digest_182 rfl ?_
    refine V_iconst C (4 : Int32) dX5_digest_183 (by decide) ?_
    refine V_icmp_ge C 248 dX5_digest_184 (by decide) (fun q26 => ?_) (fun q26 => ?_)
    · replace h := ite_p q26 h
      refine V_iconst C (2 : Int32) dX5_digest_248 (by decide) ?_
      refine V_istore_n C [(3, .int (2 : Int32)), (0, .ref (ad 26)), (1, .long x1)] dX5_digest_249 rfl (by decide) rfl ?_
      refine V_sub (lv' := [(0, .ref (ad 26)), (1, .long x1), (3, .int (2 : Int32))]) [1, 2, 0] rfl ?_
      exact vX5_digest_250 C 1000 x1 (2 : Int32) M h
    · replace h := ite_n q26 h
      refine V_iload_n C 2 dX5_digest_187 rfl ?_
      refine V_iconst C (2 : Int32) dX5_digest_188 (by decide) ?_
      refine V_icmp_ge C 196 dX5_digest_189 (by decide) (fun q25 => ?_) (fun q25 => ?_)
      · replace h := ite_p q25 h
        refine V_iload_n C 2 dX5_digest_196 rfl ?_
        refine V_iconst C (2 : Int32) dX5_digest_197 (by decide) ?_
        refine V_icmp_ne C 206 dX5_digest_198 (by decide) (fun q24 => ?_) (fun q24 => ?_)
        · replace h := ite_n q24 h
          refine V_bipush C (50 : Int32) dX5_digest_206 (by decide) ?_
          exact vX5_digest_208 C (fX5_digest_182 n) ih x1 x3 (50 : Int32) M h
        · replace h := ite_p q24 h
          refine V_bipush C (7 : Int32) dX5_digest_201 (by decide) ?_
          refine V_goto C 208 dX5_digest_203 (by decide) ?_
          exact vX5_digest_208 C (fX5_digest_182 n) ih x1 x3 (7 : Int32) M h
      · replace h := ite_n q25 h
        refine V_iload_n C 2 dX5_digest_192 rfl ?_
        refine V_goto C 208 dX5_digest_193 (by decide) ?_
        exact vX5_digest_208 C (fX5_digest_182 n) ih x1 x3 x3 M h
set_option maxHeartbeats 4000000 in
set_option maxRecDepth 100000 in
theorem vX5_digest_56 {p : Program} {l : Launch} {e : Env} {s : State} {m : MethodId} {args : Array Value} {below : List Frame} {meth : Method} {c : Code} {D : va_G} {T3 : ClassId × ClassId × ClassId} {ad sd : Nat → Nat} {A : Nat → Prop}  (C : CX p s m args meth c cX5_digest 5 RX5 (some .long) D T3 ad sd A) {r : Int64} {M9 : Mem} (kk45 : Int64 → Int32 → Mem → Option (Int64 × Mem)) (hk45 : ∀ (x1 : Int64) (x3 : Int32) (M : Mem), kk45 x1 x3 M = some (r, M9) → VV p l e rmX5_digest s m args below meth c D T3 ad A 5 0 0 (QM below D T3 ad A args s (fun _ => some (.long r)) M9) M [(0, .ref (ad 26)), (1, .long x1), (3, .int x3)] 45 []) : ∀ (n : Nat) (x1 : Int64) (x3 : Int32) (x4 : Int32) (M : Mem), fX5_digest_56 kk45 n x1 x3 x4 M = some (r, M9) → VV p l e rmX5_digest s m args below meth c D T3 ad A 5 0 0 (QM below D T3 ad A args s (fun _ => some (.long r)) M9) M [(0, .ref (ad 26)), (1, .long x1), (3, .int x3), (4, .int x4)] 56 [] := by
  intro n
  induction n with
  | zero => intro x1 x3 x4 M h; exact nomatch (show (none : Option (Int64 × Mem)) = some _ from h)
  | succ n ih =>
    intro x1 x3 x4 M h
    rw [fX5_digest_56] at h
    refine V_iload C 3 dX5_digest_56 rfl ?_
    refine V_iconst C (5 : Int32) dX5_digest_58 (by decide) ?_
    refine V_icmp_ge C 87 dX5_digest_59 (by decide) (fun q42 => ?_) (fun q42 => ?_)
    · replace h := ite_p q42 h
      refine V_ldc2 C dX5_digest_87 kcX5_277 ?_
      refine V_lload_n C 1 dX5_digest_90 rfl ?_
      refine V_lmul C dX5_digest_91 ?_
      refine V_aload_n C 0 dX5_digest_92 rfl ?_
      refine V_iload_n C 2 dX5_digest_93 rfl ?_
      refine V_bipush C (7 : Int32) dX5_digest_94 (by decide) ?_
      obtain ⟨z27, hz27, h⟩ := bP_t h
      refine V_callV C (st := [.long ((31 : Int64) * x1)]) (st' := [.int z27, .long ((31 : Int64) * x1)]) (mX5_deepOf l x3 (7 : Int32) M hz27) wmX5_deepOf lkX5_151 dX5_digest_96 (wo_26 T3 ad _) rfl rfl rfl rfl rfl rfl ⟨rfl, rfl, (Nat.le_of_ble_eq_true rfl), (Nat.le_of_ble_eq_true rfl)⟩ ⟨Nat.zero_le _, Nat.zero_le _⟩ (Nat.le_of_ble_eq_true rfl) ?_
      refine V_i2l C dX5_digest_99 ?_
      refine V_ladd C dX5_digest_100 ?_
      obtain ⟨y28, hy28, h⟩ := lt_t h
      refine V_topl C hy28 ?_
      refine V_lstore_n C [(1, .long y28), (0, .ref (ad 26)), (3, .int x3), (4, .int x4)] dX5_digest_101 rfl (by decide) rfl ?_
      refine V_ldc2 C dX5_digest_102 kcX5_277 ?_
      refine V_lload_n C 0 dX5_digest_105 rfl ?_
      refine V_lmul C dX5_digest_106 ?_
      refine V_aload_n C 1 dX5_digest_107 rfl ?_
      refine V_iload_n C 2 dX5_digest_108 rfl ?_
      refine V_bipush C (7 : Int32) dX5_digest_109 (by decide) ?_
      obtain ⟨z29, hz29, h⟩ := bP_t h
      refine V_callV C (st := [.long ((31 : Int64) * y28)]) (st' := [.int z29, .long ((31 : Int64) * y28)]) (mX5_mapOf l x3 (7 : Int32) M hz29) wmX5_mapOf lkX5_154 dX5_digest_111 (wo_26 T3 ad _) rfl rfl rfl rfl rfl rfl ⟨rfl, rfl, (Nat.le_of_ble_eq_true rfl), (Nat.le_of_ble_eq_true rfl)⟩ ⟨Nat.zero_le _, Nat.zero_le _⟩ (Nat.le_of_ble_eq_true rfl) ?_
      refine V_i2l C dX5_digest_114 ?_
      refine V_ladd C dX5_digest_115 ?_
      obtain ⟨y30, hy30, h⟩ := lt_t h
      refine V_topl C hy30 ?_
      refine V_lstore_n C [(1, .long y30), (0, .ref (ad 26)), (3, .int x3), (4, .int x4)] dX5_digest_116 rfl (by decide) rfl ?_
      refine V_ldc2 C dX5_digest_117 kcX5_277 ?_
      refine V_lload_n C 0 dX5_digest_120 rfl ?_
      refine V_lmul C dX5_digest_121 ?_
      refine V_aload_n C 1 dX5_digest_122 rfl ?_
      refine V_iload_n C 2 dX5_digest_123 rfl ?_
      refine V_iconst C (-1 : Int32) dX5_digest_124 (by decide) ?_
      obtain ⟨z31, hz31, h⟩ := bP_t h
      refine V_callV C (st := [.long ((31 : Int64) * y30)]) (st' := [.int z31, .long ((31 : Int64) * y30)]) (mX5_lawsOf l x3 (-1 : Int32) M hz31) wmX5_lawsOf lkX5_224 dX5_digest_125 (wo_26 T3 ad _) rfl rfl rfl rfl rfl rfl ⟨rfl, rfl, (Nat.le_of_ble_eq_true rfl), (Nat.le_of_ble_eq_true rfl)⟩ ⟨Nat.zero_le _, Nat.zero_le _⟩ (Nat.le_of_ble_eq_true rfl) ?_
      refine V_i2l C dX5_digest_128 ?_
      refine V_ladd C dX5_digest_129 ?_
      obtain ⟨y32, hy32, h⟩ := lt_t h
      refine V_topl C hy32 ?_
      refine V_lstore_n C [(1, .long y32), (0, .ref (ad 26)), (3, .int x3), (4, .int x4)] dX5_digest_130 rfl (by decide) rfl ?_
      refine V_ldc2 C dX5_digest_131 kcX5_277 ?_
      refine V_lload_n C 0 dX5_digest_134 rfl ?_
      refine V_lmul C dX5_digest_135 ?_
      refine V_aload_n C 1 dX5_digest_136 rfl ?_
      refine V_iload_n C 2 dX5_digest_137 rfl ?_
      refine V_iconst C (0 : Int32) dX5_digest_138 (by decide) ?_
      obtain ⟨z33, hz33, h⟩ := bP_t h
      refine V_callV C (st := [.long ((31 : Int64) * y32)]) (st' := [.int z33, .long ((31 : Int64) * y32)]) (mX5_lawsOf l x3 (0 : Int32) M hz33) wmX5_lawsOf lkX5_224 dX5_digest_139 (wo_26 T3 ad _) rfl rfl rfl rfl rfl rfl ⟨rfl, rfl, (Nat.le_of_ble_eq_true rfl), (Nat.le_of_ble_eq_true rfl)⟩ ⟨Nat.zero_le _, Nat.zero_le _⟩ (Nat.le_of_ble_eq_true rfl) ?_
      refine V_i2l C dX5_digest_142 ?_
      refine V_ladd C dX5_digest_143 ?_
      obtain ⟨y34, hy34, h⟩ := lt_t h
      refine V_topl C hy34 ?_
      refine V_lstore_n C [(1, .long y34), (0, .ref (ad 26)), (3, .int x3), (4, .int x4)] dX5_digest_144 rfl (by decide) rfl ?_
      refine V_ldc2 C dX5_digest_145 kcX5_277 ?_
      refine V_lload_n C 0 dX5_digest_148 rfl ?_
      refine V_lmul C dX5_digest_149 ?_
      refine V_aload_n C 1 dX5_digest_150 rfl ?_
      refine V_iload_n C 2 dX5_digest_151 rfl ?_
      refine V_bipush C (9 : Int32) dX5_digest_152 (by decide) ?_
      obtain ⟨z35, hz35, h⟩ := bP_t h
      refine V_callV C (st := [.long ((31 : Int64) * y34)]) (st' := [.int z35, .long ((31 : Int64) * y34)]) (mX5_nextOf l x3 (9 : Int32) M hz35) wmX5_nextOf lkX5_227 dX5_digest_154 (wo_26 T3 ad _) rfl rfl rfl rfl rfl rfl ⟨rfl, rfl, (Nat.le_of_ble_eq_true rfl), (Nat.le_of_ble_eq_true rfl)⟩ ⟨Nat.zero_le _, Nat.zero_le _⟩ (Nat.le_of_ble_eq_true rfl) ?_
      refine V_i2l C dX5_digest_157 ?_
      refine V_ladd C dX5_digest_158 ?_
      obtain ⟨y36, hy36, h⟩ := lt_t h
      refine V_topl C hy36 ?_
      refine V_lstore_n C [(1, .long y36), (0, .ref (ad 26)), (3, .int x3), (4, .int x4)] dX5_digest_159 rfl (by decide) rfl ?_
      refine V_ldc2 C dX5_digest_160 kcX5_277 ?_
      refine V_lload_n C 0 dX5_digest_163 rfl ?_
      refine V_lmul C dX5_digest_164 ?_
      refine V_aload_n C 1 dX5_digest_165 rfl ?_
      refine V_iload_n C 2 dX5_digest_166 rfl ?_
      refine V_iconst C (3 : Int32) dX5_digest_167 (by decide) ?_
      obtain ⟨z37, M38, hz37, h⟩ := bW_t h
      refine V_callV C (st := [.long ((31 : Int64) * y36)]) (st' := [.int z37, .long ((31 : Int64) * y36)]) (mX5_tellsNight l x3 (3 : Int32) M hz37) wmX5_tellsNight lkX5_233 dX5_digest_168 (wo_26 T3 ad _) rfl rfl rfl rfl rfl rfl ⟨rfl, rfl, (Nat.le_of_ble_eq_true rfl), (Nat.le_of_ble_eq_true rfl)⟩ ⟨Nat.zero_le _, Nat.zero_le _⟩ (Nat.le_of_ble_eq_true rfl) ?_
      refine V_i2l C dX5_digest_171 ?_
      refine V_ladd C dX5_digest_172 ?_
      obtain ⟨y39, hy39, h⟩ := lt_t h
      refine V_topl C hy39 ?_
      refine V_lstore_n C [(1, .long y39), (0, .ref (ad 26)), (3, .int x3), (4, .int x4)] dX5_digest_173 rfl (by decide) rfl ?_
      refine V_iinc C 2 (x3 + 1) [(3, .int (x3 + 1)), (1, .long y39), (0, .ref (ad 26)), (4, .int x4)] dX5_digest_174 rfl rfl (by decide) rfl ?_
      refine V_goto C 45 dX5_digest_177 (by decide) ?_
      refine V_sub (lv' := [(0, .ref (ad 26)), (1, .long y39), (3, .int (x3 + 1))]) [2, 1, 0] rfl ?_
      exact hk45 y39 (x3 + 1) M38 h
    · replace h := ite_n q42 h
      refine V_ldc2 C dX5_digest_62 kcX5_277 ?_
      refine V_lload_n C 1 dX5_digest_65 rfl ?_
      refine V_lmul C dX5_digest_66 ?_
      refine V_aload_n C 0 dX5_digest_67 rfl ?_
      refine V_get C 9 dX5_digest_68 (wo_26 T3 ad _) rfl inKX5 (by decide) flX5_25 rfl rfl ?_
      refine V_iconst C (5 : Int32) dX5_digest_71 (by decide) ?_
      refine V_iload_n C 2 dX5_digest_72 rfl ?_
      refine V_imul C dX5_digest_73 ?_
      refine V_iload C 3 dX5_digest_74 rfl ?_
      refine V_iadd C dX5_digest_76 ?_
      obtain ⟨g40, h⟩ := gd_t h
      refine V_iald C rfl rfl (inb_in g40) dX5_digest_77 ?_
      refine V_i2l C dX5_digest_78 ?_
      refine V_ladd C dX5_digest_79 ?_
      obtain ⟨y41, hy41, h⟩ := lt_t h
      refine V_topl C hy41 ?_
      refine V_lstore_n C [(1, .long y41), (0, .ref (ad 26)), (3, .int x3), (4, .int x4)] dX5_digest_80 rfl (by decide) rfl ?_
      refine V_iinc C 3 (x4 + 1) [(4, .int (x4 + 1)), (1, .long y41), (0, .ref (ad 26)), (3, .int x3)] dX5_digest_81 rfl rfl (by decide) rfl ?_
      refine V_goto C 56 dX5_digest_84 (by decide) ?_
      refine V_sub (lv' := [(0, .ref (ad 26)), (1, .long y41), (3, .int x3), (4, .int (x4 + 1))]) [2, 1, 3, 0] rfl ?_
      exact ih y41 x3 (x4 + 1) M h
set_option maxHeartbeats 4000000 in
set_option maxRecDepth 100000 in
theorem vX5_digest_45 {p : Program} {l : Launch} {e : Env} {s : State} {m : MethodId} {args : Array Value} {below : List Frame} {meth : Method} {c : Code} {D : va_G} {T3 : ClassId × ClassId × ClassId} {ad sd : Nat → Nat} {A : Nat → Prop}  (C : CX p s m args meth c cX5_digest 5 RX5 (some .long) D T3 ad sd A) {r : Int64} {M9 : Mem} : ∀ (n : Nat) (x1 : Int64) (x3 : Int32) (M : Mem), fX5_digest_45 n x1 x3 M = some (r, M9) → VV p l e rmX5_digest s m args below meth c D T3 ad A 5 0 0 (QM below D T3 ad A args s (fun _ => some (.long r)) M9) M [(0, .ref (ad 26)), (1, .long x1), (3, .int x3)] 45 [] := by
  intro n
  induction n with
  | zero => intro x1 x3 M h; exact nomatch (show (none : Option (Int64 × Mem)) = some _ from h)
  | succ n ih =>
    intro x1 x3 M h
    rw [fX5_digest_45] at h
    refine V_iload_n C 2 dX5_digest_45 rfl ?_
    refine V_aload_n C 0 dX5_digest_46 rfl ?_
    refine V_get C 8 dX5_digest_47 (wo_26 T3 ad _) rfl inKX5 (by decide) flX5_94 rfl rfl ?_
    refine V_icmp_ge C 180 dX5_digest_50 (by decide) (fun q43 => ?_) (fun q43 => ?_)
    · replace h := ite_p q43 h
      refine V_iconst C (0 : Int32) dX5_digest_180 (by decide) ?_
      refine V_istore_n C [(3, .int (0 : Int32)), (0, .ref (ad 26)), (1, .long x1)] dX5_digest_181 rfl (by decide) rfl ?_
      refine V_sub (lv' := [(0, .ref (ad 26)), (1, .long x1), (3, .int (0 : Int32))]) [1, 2, 0] rfl ?_
      exact vX5_digest_182 C 1000 x1 (0 : Int32) M h
    · replace h := ite_n q43 h
      refine V_iconst C (0 : Int32) dX5_digest_53 (by decide) ?_
      refine V_istore C [(4, .int (0 : Int32)), (0, .ref (ad 26)), (1, .long x1), (3, .int x3)] dX5_digest_54 (by decide) rfl ?_
      refine V_sub (lv' := [(0, .ref (ad 26)), (1, .long x1), (3, .int x3), (4, .int (0 : Int32))]) [1, 2, 3, 0] rfl ?_
      exact vX5_digest_56 C (fX5_digest_45 n) ih 1000 x1 x3 (0 : Int32) M h
set_option maxHeartbeats 4000000 in
set_option maxRecDepth 100000 in
theorem vX5_digest_6 {p : Program} {l : Launch} {e : Env} {s : State} {m : MethodId} {args : Array Value} {below : List Frame} {meth : Method} {c : Code} {D : va_G} {T3 : ClassId × ClassId × ClassId} {ad sd : Nat → Nat} {A : Nat → Prop}  (C : CX p s m args meth c cX5_digest 5 RX5 (some .long) D T3 ad sd A) {r : Int64} {M9 : Mem} : ∀ (n : Nat) (x1 : Int64) (x3 : Int32) (M : Mem), fX5_digest_6 n x1 x3 M = some (r, M9) → VV p l e rmX5_digest s m args below meth c D T3 ad A 5 0 0 (QM below D T3 ad A args s (fun _ => some (.long r)) M9) M [(0, .ref (ad 26)), (1, .long x1), (3, .int x3)] 6 [] := by
  intro n
  induction n with
  | zero => intro x1 x3 M h; exact nomatch (show (none : Option (Int64 × Mem)) = some _ from h)
  | succ n ih =>
    intro x1 x3 M h
    rw [fX5_digest_6] at h
    refine V_iload_n C 2 dX5_digest_6 rfl ?_
    refine V_bipush C (8 : Int32) dX5_digest_7 (by decide) ?_
    refine V_icmp_ge C 31 dX5_digest_9 (by decide) (fun q47 => ?_) (fun q47 => ?_)
    · replace h := ite_p q47 h
      refine V_ldc2 C dX5_digest_31 kcX5_277 ?_
      refine V_lload_n C 1 dX5_digest_34 rfl ?_
      refine V_lmul C dX5_digest_35 ?_
      refine V_aload_n C 0 dX5_digest_36 rfl ?_
      obtain ⟨z1, M2, hz1, h⟩ := bW_t h
      refine V_callV C (st := [.long ((31 : Int64) * x1)]) (st' := [.int z1, .long ((31 : Int64) * x1)]) (mX5_reads l M hz1) wmX5_reads lkX5_116 dX5_digest_37 (wo_26 T3 ad _) rfl rfl rfl rfl rfl rfl ⟨rfl, rfl, (Nat.le_of_ble_eq_true rfl), (Nat.le_of_ble_eq_true rfl)⟩ ⟨Nat.zero_le _, Nat.zero_le _⟩ (Nat.le_of_ble_eq_true rfl) ?_
      refine V_i2l C dX5_digest_40 ?_
      refine V_ladd C dX5_digest_41 ?_
      obtain ⟨y3, hy3, h⟩ := lt_t h
      refine V_topl C hy3 ?_
      refine V_lstore_n C [(1, .long y3), (0, .ref (ad 26)), (3, .int x3)] dX5_digest_42 rfl (by decide) rfl ?_
      refine V_iconst C (0 : Int32) dX5_digest_43 (by decide) ?_
      refine V_istore_n C [(3, .int (0 : Int32)), (1, .long y3), (0, .ref (ad 26))] dX5_digest_44 rfl (by decide) rfl ?_
      refine V_sub (lv' := [(0, .ref (ad 26)), (1, .long y3), (3, .int (0 : Int32))]) [2, 1, 0] rfl ?_
      exact vX5_digest_45 C 1000 y3 (0 : Int32) M2 h
    · replace h := ite_n q47 h
      refine V_ldc2 C dX5_digest_12 kcX5_277 ?_
      refine V_lload_n C 1 dX5_digest_15 rfl ?_
      refine V_lmul C dX5_digest_16 ?_
      refine V_aload_n C 0 dX5_digest_17 rfl ?_
      refine V_iload_n C 2 dX5_digest_18 rfl ?_
      obtain ⟨z44, M45, hz44, h⟩ := bW_t h
      refine V_callV C (st := [.long ((31 : Int64) * x1)]) (st' := [.int z44, .long ((31 : Int64) * x1)]) (mX5_count l x3 M hz44) wmX5_count lkX5_281 dX5_digest_19 (wo_26 T3 ad _) rfl rfl rfl rfl rfl rfl ⟨rfl, rfl, (Nat.le_of_ble_eq_true rfl), (Nat.le_of_ble_eq_true rfl)⟩ ⟨Nat.zero_le _, Nat.zero_le _⟩ (Nat.le_of_ble_eq_true rfl) ?_
      refine V_i2l C dX5_digest_22 ?_
      refine V_ladd C dX5_digest_23 ?_
      obtain ⟨y46, hy46, h⟩ := lt_t h
      refine V_topl C hy46 ?_
      refine V_lstore_n C [(1, .long y46), (0, .ref (ad 26)), (3, .int x3)] dX5_digest_24 rfl (by decide) rfl ?_
      refine V_iinc C 2 (x3 + 1) [(3, .int (x3 + 1)), (1, .long y46), (0, .ref (ad 26))] dX5_digest_25 rfl rfl (by decide) rfl ?_
      refine V_goto C 6 dX5_digest_28 (by decide) ?_
      refine V_sub (lv' := [(0, .ref (ad 26)), (1, .long y46), (3, .int (x3 + 1))]) [2, 1, 0] rfl ?_
      exact ih y46 (x3 + 1) M45 h
set_option maxHeartbeats 4000000 in
set_option maxRecDepth 100000 in
theorem mX5_digest (l : Launch) (M : Mem) {r : Int64} {M9 : Mem} (h : fX5_digest M = some (r, M9)) : MC l yX5_digest cX5_digest 5 (some .long) rmX5_digest (fun ad sd => [.ref (ad 26)]) M (fun _ => some (.long r)) M9 := by
  refine MC_start (by decide) (fun ad sd => [(0, .ref (ad 26))]) (fun _ _ => rfl) (fun _ _ => Nat.le_of_ble_eq_true rfl) ?_
  intro p e s m args below meth c D T3 ad sd A C
  unfold fX5_digest at h
  refine V_ldc2 C dX5_digest_0 kcX5_279 ?_
  refine V_lstore_n C [(1, .long (17 : Int64)), (0, .ref (ad 26))] dX5_digest_3 rfl (by decide) rfl ?_
  refine V_iconst C (0 : Int32) dX5_digest_4 (by decide) ?_
  refine V_istore_n C [(3, .int (0 : Int32)), (1, .long (17 : Int64)), (0, .ref (ad 26))] dX5_digest_5 rfl (by decide) rfl ?_
  refine V_sub (lv' := [(0, .ref (ad 26)), (1, .long (17 : Int64)), (3, .int (0 : Int32))]) [2, 1, 0] rfl ?_
  exact vX5_digest_6 C 1000 (17 : Int64) (0 : Int32) M h
