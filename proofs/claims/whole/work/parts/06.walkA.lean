abbrev rmX4_itemOf : Room := { frames := 0, cells := 0, slots := 0, locals := 0 }
def fX4_itemOf (M : Mem) (r0 : Nat) (x1 : Int32) : Option Int32 := if x1 < 0 then some (-1 : Int32) else if (nI (aln r0)) ≤ x1 then some (-1 : Int32) else gd (inb x1 (aln r0)) (some (M r0 (x1).toNatClampNeg))
set_option maxHeartbeats 4000000 in
set_option maxRecDepth 100000 in
theorem mX4_itemOf (l : Launch) (r0 : Nat) (gr0 : isA r0 = true) (x1 : Int32) (M : Mem) {r : Int32} (h : fX4_itemOf M r0 x1 = some r) : MC l yX4_itemOf cX4_itemOf 2 (some .int) rmX4_itemOf (fun ad sd => [.ref (ad r0), .int x1]) M (fun _ => some (.int r)) M := by
  refine MC_start (by decide) (fun ad sd => [(0, .ref (ad r0)), (1, .int x1)]) (fun _ _ => rfl) (fun _ _ => Nat.le_of_ble_eq_true rfl) ?_
  intro p e s m args below meth c D T3 ad sd A C
  unfold fX4_itemOf at h
  refine V_iload_n C 1 dX4_itemOf_0 rfl ?_
  refine V_if_lt C 16 dX4_itemOf_1 (by decide) (fun q3 => ?_) (fun q3 => ?_)
  · replace h := ite_p q3 h
    refine V_iconst C (-1 : Int32) dX4_itemOf_16 (by decide) ?_
    obtain rfl := ret_P h
    exact V_iret C dX4_itemOf_17
  · replace h := ite_n q3 h
    refine V_iload_n C 1 dX4_itemOf_4 rfl ?_
    refine V_aload_n C 0 dX4_itemOf_5 rfl ?_
    refine V_alen C (v := (nI (aln r0))) gr0 rfl dX4_itemOf_6 ?_
    refine V_icmp_ge C 16 dX4_itemOf_7 (by decide) (fun q2 => ?_) (fun q2 => ?_)
    · replace h := ite_p q2 h
      refine V_iconst C (-1 : Int32) dX4_itemOf_16 (by decide) ?_
      obtain rfl := ret_P h
      exact V_iret C dX4_itemOf_17
    · replace h := ite_n q2 h
      refine V_aload_n C 0 dX4_itemOf_10 rfl ?_
      refine V_iload_n C 1 dX4_itemOf_11 rfl ?_
      obtain ⟨g1, h⟩ := gd_t h
      refine V_iald C gr0 rfl (inb_in g1) dX4_itemOf_12 ?_
      refine V_goto C 17 dX4_itemOf_13 (by decide) ?_
      obtain rfl := ret_P h
      exact V_iret C dX4_itemOf_17
abbrev rmJ0_isLatin1_aae02 : Room := { frames := 0, cells := 0, slots := 0, locals := 0 }
def fJ0_isLatin1_aae02 : Bool := true
set_option maxHeartbeats 4000000 in
set_option maxRecDepth 100000 in
theorem mJ0_isLatin1_aae02 (l : Launch) (M : Mem) {r : Bool} (h : fJ0_isLatin1_aae02 = r) : MC l yJ0_isLatin1_aae02 cJ0_isLatin1_aae02 1 (some .boolean) rmJ0_isLatin1_aae02 (fun ad sd => [.ref (sd 0)]) M (fun _ => some (.int (b2i r))) M := by
  refine MC_start (by decide) (fun ad sd => [(0, .ref (sd 0))]) (fun _ _ => rfl) (fun _ _ => Nat.le_of_ble_eq_true rfl) ?_
  intro p e s m args below meth c D T3 ad sd A C
  unfold fJ0_isLatin1_aae02 at h
  refine V_gets_C C dJ0_isLatin1_aae02_0 flJ0_38 ?_
  refine V_if_eq C 17 dJ0_isLatin1_aae02_3 (by decide) (fun q => absurd q (by decide)) (fun q => ?_)
  refine V_aload_n C 0 dJ0_isLatin1_aae02_6 rfl ?_
  refine V_getS_c C dJ0_isLatin1_aae02_7 flJ0_15 ?_
  refine V_if_ne C 17 dJ0_isLatin1_aae02_10 (by decide) (fun q => absurd q (by decide)) (fun q => ?_)
  refine V_iconst C (1 : Int32) dJ0_isLatin1_aae02_13 (by decide) ?_
  refine V_goto C 18 dJ0_isLatin1_aae02_14 (by decide) ?_
  subst h
  exact V_zret (x := true) C dJ0_isLatin1_aae02_18
abbrev rmJ0_coder_7d493 : Room := { frames := 0, cells := 0, slots := 0, locals := 0 }
def fJ0_coder_7d493 : Int32 := (0 : Int32)
set_option maxHeartbeats 4000000 in
set_option maxRecDepth 100000 in
theorem mJ0_coder_7d493 (l : Launch) (M : Mem) {r : Int32} (h : fJ0_coder_7d493 = r) : MC l yJ0_coder_7d493 cJ0_coder_7d493 1 (some .byte) rmJ0_coder_7d493 (fun ad sd => [.ref (sd 0)]) M (fun _ => some (.int r)) M := by
  refine MC_start (by decide) (fun ad sd => [(0, .ref (sd 0))]) (fun _ _ => rfl) (fun _ _ => Nat.le_of_ble_eq_true rfl) ?_
  intro p e s m args below meth c D T3 ad sd A C
  unfold fJ0_coder_7d493 at h
  refine V_gets_C C dJ0_coder_7d493_0 flJ0_38 ?_
  refine V_if_eq C 13 dJ0_coder_7d493_3 (by decide) (fun q => absurd q (by decide)) (fun q => ?_)
  refine V_aload_n C 0 dJ0_coder_7d493_6 rfl ?_
  refine V_getS_c C dJ0_coder_7d493_7 flJ0_15 ?_
  refine V_goto C 14 dJ0_coder_7d493_10 (by decide) ?_
  subst h
  exact V_bret C dJ0_coder_7d493_14
abbrev rmJ0_length_8abf5 : Room := { frames := 1, cells := 0, slots := 0, locals := 20 }
def fJ0_length_8abf5 : Int32 := (shrI (5 : Int32) (0 : Int32))
set_option maxHeartbeats 4000000 in
set_option maxRecDepth 100000 in
theorem mJ0_length_8abf5 (l : Launch) (M : Mem) {r : Int32} (h : fJ0_length_8abf5 = r) : MC l yJ0_length_8abf5 cJ0_length_8abf5 1 (some .int) rmJ0_length_8abf5 (fun ad sd => [.ref (sd 0)]) M (fun _ => some (.int r)) M := by
  refine MC_start (by decide) (fun ad sd => [(0, .ref (sd 0))]) (fun _ _ => rfl) (fun _ _ => Nat.le_of_ble_eq_true rfl) ?_
  intro p e s m args below meth c D T3 ad sd A C
  unfold fJ0_length_8abf5 at h
  refine V_aload_n C 0 dJ0_length_8abf5_0 rfl ?_
  refine V_getS_v C dJ0_length_8abf5_1 flJ0_9 ?_
  refine V_tlen_S C dJ0_length_8abf5_4 ?_
  refine V_aload_n C 0 dJ0_length_8abf5_5 rfl ?_
  refine V_callStr C (st := [.int (5 : Int32)]) (st' := [.int (0 : Int32), .int (5 : Int32)]) (mJ0_coder_7d493 l M (r := (0 : Int32)) rfl) wmJ0_coder_7d493 lkJ0_335 dJ0_length_8abf5_6 rfl rfl rfl rfl rfl ⟨rfl, rfl, (Nat.le_of_ble_eq_true rfl), (Nat.le_of_ble_eq_true rfl)⟩ ⟨Nat.zero_le _, Nat.zero_le _⟩ (Nat.le_of_ble_eq_true rfl) ?_
  refine V_ishr C dJ0_length_8abf5_9 ?_
  subst h
  exact V_iret C dJ0_length_8abf5_10
abbrev rmJ1_canEncode_9a6ad : Room := { frames := 0, cells := 0, slots := 0, locals := 0 }
def fJ1_canEncode_9a6ad (x0 : Int32) : Bool := if x0 < 0 then false else if (255 : Int32) < x0 then false else true
set_option maxHeartbeats 4000000 in
set_option maxRecDepth 100000 in
theorem mJ1_canEncode_9a6ad (l : Launch) (x0 : Int32) (M : Mem) {r : Bool} (h : fJ1_canEncode_9a6ad x0 = r) : MC l yJ1_canEncode_9a6ad cJ1_canEncode_9a6ad 1 (some .boolean) rmJ1_canEncode_9a6ad (fun ad sd => [.int x0]) M (fun _ => some (.int (b2i r))) M := by
  refine MC_start (by decide) (fun ad sd => [(0, .int x0)]) (fun _ _ => rfl) (fun _ _ => Nat.le_of_ble_eq_true rfl) ?_
  intro p e s m args below meth c D T3 ad sd A C
  unfold fJ1_canEncode_9a6ad at h
  refine V_iload_n C 0 dJ1_canEncode_9a6ad_0 rfl ?_
  refine V_if_lt C 15 dJ1_canEncode_9a6ad_1 (by decide) (fun q2 => ?_) (fun q2 => ?_)
  · replace h := ite_p q2 h
    refine V_iconst C (0 : Int32) dJ1_canEncode_9a6ad_15 (by decide) ?_
    subst h
    exact V_zret (x := false) C dJ1_canEncode_9a6ad_16
  · replace h := ite_n q2 h
    refine V_iload_n C 0 dJ1_canEncode_9a6ad_4 rfl ?_
    refine V_sipush C (255 : Int32) dJ1_canEncode_9a6ad_5 (by decide) ?_
    refine V_icmp_gt C 15 dJ1_canEncode_9a6ad_8 (by decide) (fun q1 => ?_) (fun q1 => ?_)
    · replace h := ite_p q1 h
      refine V_iconst C (0 : Int32) dJ1_canEncode_9a6ad_15 (by decide) ?_
      subst h
      exact V_zret (x := false) C dJ1_canEncode_9a6ad_16
    · replace h := ite_n q1 h
      refine V_iconst C (1 : Int32) dJ1_canEncode_9a6ad_11 (by decide) ?_
      refine V_goto C 16 dJ1_canEncode_9a6ad_12 (by decide) ?_
      subst h
      exact V_zret (x := true) C dJ1_canEncode_9a6ad_16
abbrev rmJ1_indexOfChar_4cfef : Room := { frames := 0, cells := 0, slots := 0, locals := 0 }
def fJ1_indexOfChar_4cfef_7 : Nat → Int32 → Int32 → Int32 → Option Int32
  | 0, _, _, _ => none
  | n + 1, x3, x4, x5 => if x3 ≤ x5 then some (-1 : Int32) else gd (inb x5 5) (if (tabS (x5).toNatClampNeg) = x4 then some x5 else fJ1_indexOfChar_4cfef_7 n x3 x4 (x5 + 1))
def fJ1_indexOfChar_4cfef (x1 : Int32) (x2 : Int32) (x3 : Int32) : Option Int32 := fJ1_indexOfChar_4cfef_7 1000 x3 (cst8 x1) x2
set_option maxHeartbeats 4000000 in
set_option maxRecDepth 100000 in
theorem vJ1_indexOfChar_4cfef_7 {p : Program} {l : Launch} {e : Env} {s : State} {m : MethodId} {args : Array Value} {below : List Frame} {meth : Method} {c : Code} {D : va_G} {T3 : ClassId × ClassId × ClassId} {ad sd : Nat → Nat} {A : Nat → Prop}  (C : CX p s m args meth c cJ1_indexOfChar_4cfef 6 RJ1 (some .int) D T3 ad sd A) {r : Int32} (M : Mem) : ∀ (n : Nat) (x3 : Int32) (x4 : Int32) (x5 : Int32), fJ1_indexOfChar_4cfef_7 n x3 x4 x5 = some r → VV p l e rmJ1_indexOfChar_4cfef s m args below meth c D T3 ad A 6 0 0 (QM below D T3 ad A args s (fun _ => some (.int r)) M) M [(0, .ref (sd 1)), (3, .int x3), (4, .int x4), (5, .int x5)] 7 [] := by
  intro n
  induction n with
  | zero => intro x3 x4 x5 h; exact nomatch (show (none : Option Int32) = some _ from h)
  | succ n ih =>
    intro x3 x4 x5 h
    rw [fJ1_indexOfChar_4cfef_7] at h
    refine V_iload C 3 dJ1_indexOfChar_4cfef_7 rfl ?_
    refine V_iload_n C 1 dJ1_indexOfChar_4cfef_9 rfl ?_
    refine V_icmp_ge C 31 dJ1_indexOfChar_4cfef_10 (by decide) (fun q3 => ?_) (fun q3 => ?_)
    · replace h := ite_p q3 h
      refine V_iconst C (-1 : Int32) dJ1_indexOfChar_4cfef_31 (by decide) ?_
      obtain rfl := ret_P h
      exact V_iret C dJ1_indexOfChar_4cfef_32
    · replace h := ite_n q3 h
      refine V_aload_n C 0 dJ1_indexOfChar_4cfef_13 rfl ?_
      refine V_iload C 3 dJ1_indexOfChar_4cfef_14 rfl ?_
      obtain ⟨g1, h⟩ := gd_t h
      refine V_tald_S C (inb_in g1) dJ1_indexOfChar_4cfef_16 ?_
      refine V_iload C 2 dJ1_indexOfChar_4cfef_17 rfl ?_
      refine V_icmp_ne C 25 dJ1_indexOfChar_4cfef_19 (by decide) (fun q2 => ?_) (fun q2 => ?_)
      · replace h := ite_n q2 h
        refine V_iinc C 3 (x5 + 1) [(5, .int (x5 + 1)), (0, .ref (sd 1)), (3, .int x3), (4, .int x4)] dJ1_indexOfChar_4cfef_25 rfl rfl (by decide) rfl ?_
        refine V_goto C 7 dJ1_indexOfChar_4cfef_28 (by decide) ?_
        refine V_sub (lv' := [(0, .ref (sd 1)), (3, .int x3), (4, .int x4), (5, .int (x5 + 1))]) [1, 2, 3, 0] rfl ?_
        exact ih x3 x4 (x5 + 1) h
      · replace h := ite_p q2 h
        refine V_iload C 3 dJ1_indexOfChar_4cfef_22 rfl ?_
        obtain rfl := ret_P h
        exact V_iret C dJ1_indexOfChar_4cfef_24
set_option maxHeartbeats 4000000 in
set_option maxRecDepth 100000 in
theorem mJ1_indexOfChar_4cfef (l : Launch) (x1 : Int32) (x2 : Int32) (x3 : Int32) (M : Mem) {r : Int32} (h : fJ1_indexOfChar_4cfef x1 x2 x3 = some r) : MC l yJ1_indexOfChar_4cfef cJ1_indexOfChar_4cfef 6 (some .int) rmJ1_indexOfChar_4cfef (fun ad sd => [.ref (sd 1), .int x1, .int x2, .int x3]) M (fun _ => some (.int r)) M := by
  refine MC_start (by decide) (fun ad sd => [(0, .ref (sd 1)), (1, .int x1), (2, .int x2), (3, .int x3)]) (fun _ _ => rfl) (fun _ _ => Nat.le_of_ble_eq_true rfl) ?_
  intro p e s m args below meth c D T3 ad sd A C
  unfold fJ1_indexOfChar_4cfef at h
  refine V_iload_n C 1 dJ1_indexOfChar_4cfef_0 rfl ?_
  refine V_i2b C dJ1_indexOfChar_4cfef_1 ?_
  refine V_istore C [(4, .int (cst8 x1)), (0, .ref (sd 1)), (1, .int x1), (2, .int x2), (3, .int x3)] dJ1_indexOfChar_4cfef_2 (by decide) rfl ?_
  refine V_iload_n C 3 dJ1_indexOfChar_4cfef_4 rfl ?_
  refine V_istore C [(5, .int x2), (4, .int (cst8 x1)), (0, .ref (sd 1)), (1, .int x1), (2, .int x2), (3, .int x3)] dJ1_indexOfChar_4cfef_5 (by decide) rfl ?_
  refine V_sub (lv' := [(0, .ref (sd 1)), (3, .int x3), (4, .int (cst8 x1)), (5, .int x2)]) [2, 5, 1, 0] rfl ?_
  exact vJ1_indexOfChar_4cfef_7 C M 1000 x3 (cst8 x1) x2 h
abbrev rmJ1_indexOf_4cfef : Room := { frames := 1, cells := 0, slots := 0, locals := 25 }
def fJ1_indexOf_4cfef (x1 : Int32) (x2 : Int32) (x3 : Int32) : Option Int32 := if (fJ1_canEncode_9a6ad x1) = true then if (mx x2 (0 : Int32)) < (mn x3 (5 : Int32)) then bP (fJ1_indexOfChar_4cfef x1 (mx x2 (0 : Int32)) (mn x3 (5 : Int32))) fun z1 => some z1 else some (-1 : Int32) else some (-1 : Int32)
set_option maxHeartbeats 4000000 in
set_option maxRecDepth 100000 in
theorem mJ1_indexOf_4cfef (l : Launch) (x1 : Int32) (x2 : Int32) (x3 : Int32) (M : Mem) {r : Int32} (h : fJ1_indexOf_4cfef x1 x2 x3 = some r) : MC l yJ1_indexOf_4cfef cJ1_indexOf_4cfef 4 (some .int) rmJ1_indexOf_4cfef (fun ad sd => [.ref (sd 1), .int x1, .int x2, .int x3]) M (fun _ => some (.int r)) M := by
  refine MC_start (by decide) (fun ad sd => [(0, .ref (sd 1)), (1, .int x1), (2, .int x2), (3, .int x3)]) (fun _ _ => rfl) (fun _ _ => Nat.le_of_ble_eq_true rfl) ?_
  intro p e s m args below meth c D T3 ad sd A C
  unfold fJ1_indexOf_4cfef at h
  refine V_iload_n C 1 dJ1_indexOf_4cfef_0 rfl ?_
  refine V_callS C (st := []) (st' := [.int (b2i (fJ1_canEncode_9a6ad x1))]) (mJ1_canEncode_9a6ad l x1 M rfl) wmJ1_canEncode_9a6ad lkJ1_88 dJ1_indexOf_4cfef_1 rfl rfl rfl ⟨rfl, rfl, (Nat.le_of_ble_eq_true rfl), (Nat.le_of_ble_eq_true rfl)⟩ ⟨Nat.zero_le _, Nat.zero_le _⟩ (Nat.le_of_ble_eq_true rfl) ?_
  refine V_ifB_ne C 9 dJ1_indexOf_4cfef_4 (by decide) (fun q3 => ?_) (fun q3 => ?_)
  · replace h := ite_p q3 h
    refine V_iload_n C 2 dJ1_indexOf_4cfef_9 rfl ?_
    refine V_iconst C (0 : Int32) dJ1_indexOf_4cfef_10 (by decide) ?_
    refine V_mmax C dJ1_indexOf_4cfef_11 lkJ1_92 wMmax_s wM_i wMmax_c (Nat.le_of_ble_eq_true rfl) (Nat.le_of_ble_eq_true rfl) (Nat.zero_le _) (Nat.zero_le _) ?_
    refine V_istore_n C [(2, .int (mx x2 (0 : Int32))), (0, .ref (sd 1)), (1, .int x1), (3, .int x3)] dJ1_indexOf_4cfef_14 rfl (by decide) rfl ?_
    refine V_iload_n C 3 dJ1_indexOf_4cfef_15 rfl ?_
    refine V_aload_n C 1 dJ1_indexOf_4cfef_16 rfl ?_
    refine V_tlen_S C dJ1_indexOf_4cfef_17 ?_
    refine V_mmin C dJ1_indexOf_4cfef_18 lkJ1_38 wMmin_s wM_i wMmin_c (Nat.le_of_ble_eq_true rfl) (Nat.le_of_ble_eq_true rfl) (Nat.zero_le _) (Nat.zero_le _) ?_
    refine V_istore_n C [(3, .int (mn x3 (5 : Int32))), (2, .int (mx x2 (0 : Int32))), (0, .ref (sd 1)), (1, .int x1)] dJ1_indexOf_4cfef_21 rfl (by decide) rfl ?_
    refine V_iload_n C 1 dJ1_indexOf_4cfef_22 rfl ?_
    refine V_iload_n C 0 dJ1_indexOf_4cfef_23 rfl ?_
    refine V_icmp_lt C 29 dJ1_indexOf_4cfef_24 (by decide) (fun q2 => ?_) (fun q2 => ?_)
    · replace h := ite_p q2 h
      refine V_aload_n C 2 dJ1_indexOf_4cfef_29 rfl ?_
      refine V_iload_n C 3 dJ1_indexOf_4cfef_30 rfl ?_
      refine V_iload_n C 1 dJ1_indexOf_4cfef_31 rfl ?_
      refine V_iload_n C 0 dJ1_indexOf_4cfef_32 rfl ?_
      obtain ⟨z1, hz1, h⟩ := bP_t h
      refine V_callS C (st := []) (st' := [.int z1]) (mJ1_indexOfChar_4cfef l x1 (mx x2 (0 : Int32)) (mn x3 (5 : Int32)) M hz1) wmJ1_indexOfChar_4cfef lkJ1_95 dJ1_indexOf_4cfef_33 rfl rfl rfl ⟨rfl, rfl, (Nat.le_of_ble_eq_true rfl), (Nat.le_of_ble_eq_true rfl)⟩ ⟨Nat.zero_le _, Nat.zero_le _⟩ (Nat.le_of_ble_eq_true rfl) ?_
      obtain rfl := ret_P h
      exact V_iret C dJ1_indexOf_4cfef_36
    · replace h := ite_n q2 h
      refine V_iconst C (-1 : Int32) dJ1_indexOf_4cfef_27 (by decide) ?_
      obtain rfl := ret_P h
      exact V_iret C dJ1_indexOf_4cfef_28
  · replace h := ite_n q3 h
    refine V_iconst C (-1 : Int32) dJ1_indexOf_4cfef_7 (by decide) ?_
    obtain rfl := ret_P h
    exact V_iret C dJ1_indexOf_4cfef_8
abbrev rmJ0_indexOf_7cf53 : Room := { frames := 2, cells := 0, slots := 0, locals := 48 }
def fJ0_indexOf_7cf53 (x1 : Int32) (x2 : Int32) : Option Int32 := bP (fJ1_indexOf_4cfef x1 x2 (fJ0_length_8abf5)) fun z1 => some z1
set_option maxHeartbeats 4000000 in
set_option maxRecDepth 100000 in
theorem mJ0_indexOf_7cf53 (l : Launch) (x1 : Int32) (x2 : Int32) (M : Mem) {r : Int32} (h : fJ0_indexOf_7cf53 x1 x2 = some r) : MC l yJ0_indexOf_7cf53 cJ0_indexOf_7cf53 3 (some .int) rmJ0_indexOf_7cf53 (fun ad sd => [.ref (sd 0), .int x1, .int x2]) M (fun _ => some (.int r)) M := by
  refine MC_start (by decide) (fun ad sd => [(0, .ref (sd 0)), (1, .int x1), (2, .int x2)]) (fun _ _ => rfl) (fun _ _ => Nat.le_of_ble_eq_true rfl) ?_
  intro p e s m args below meth c D T3 ad sd A C
  unfold fJ0_indexOf_7cf53 at h
  refine V_aload_n C 0 dJ0_indexOf_7cf53_0 rfl ?_
  refine V_callStr C (st := []) (st' := [.int (1 : Int32)]) (mJ0_isLatin1_aae02 l M (r := true) rfl) wmJ0_isLatin1_aae02 lkJ0_492 dJ0_indexOf_7cf53_1 rfl rfl rfl rfl rfl ⟨rfl, rfl, (Nat.le_of_ble_eq_true rfl), (Nat.le_of_ble_eq_true rfl)⟩ ⟨Nat.zero_le _, Nat.zero_le _⟩ (Nat.le_of_ble_eq_true rfl) ?_
  refine V_if_eq C 23 dJ0_indexOf_7cf53_4 (by decide) (fun q => absurd q (by decide)) (fun q => ?_)
  refine V_aload_n C 0 dJ0_indexOf_7cf53_7 rfl ?_
  refine V_getS_v C dJ0_indexOf_7cf53_8 flJ0_9 ?_
  refine V_iload_n C 1 dJ0_indexOf_7cf53_11 rfl ?_
  refine V_iload_n C 2 dJ0_indexOf_7cf53_12 rfl ?_
  refine V_aload_n C 0 dJ0_indexOf_7cf53_13 rfl ?_
  refine V_callStr C (st := [.int x2, .int x1, .ref (sd 1)]) (st' := [.int (fJ0_length_8abf5), .int x2, .int x1, .ref (sd 1)]) (mJ0_length_8abf5 l M rfl) wmJ0_length_8abf5 lkJ0_505 dJ0_indexOf_7cf53_14 rfl rfl rfl rfl rfl ⟨rfl, rfl, (Nat.le_of_ble_eq_true rfl), (Nat.le_of_ble_eq_true rfl)⟩ ⟨Nat.zero_le _, Nat.zero_le _⟩ (Nat.le_of_ble_eq_true rfl) ?_
  obtain ⟨z1, hz1, h⟩ := bP_t h
  refine V_callS C (st := []) (st' := [.int z1]) (mJ1_indexOf_4cfef l x1 x2 (fJ0_length_8abf5) M hz1) wmJ1_indexOf_4cfef lkJ0_637 dJ0_indexOf_7cf53_17 rfl rfl rfl ⟨rfl, rfl, (Nat.le_of_ble_eq_true rfl), (Nat.le_of_ble_eq_true rfl)⟩ ⟨Nat.zero_le _, Nat.zero_le _⟩ (Nat.le_of_ble_eq_true rfl) ?_
  refine V_goto C 36 dJ0_indexOf_7cf53_20 (by decide) ?_
  obtain rfl := ret_P h
  exact V_iret C dJ0_indexOf_7cf53_36
abbrev rmJ0_indexOf_0f7a4 : Room := { frames := 3, cells := 0, slots := 0, locals := 70 }
def fJ0_indexOf_0f7a4 (x1 : Int32) : Option Int32 := bP (fJ0_indexOf_7cf53 x1 (0 : Int32)) fun z1 => some z1
set_option maxHeartbeats 4000000 in
set_option maxRecDepth 100000 in
theorem mJ0_indexOf_0f7a4 (l : Launch) (x1 : Int32) (M : Mem) {r : Int32} (h : fJ0_indexOf_0f7a4 x1 = some r) : MC l yJ0_indexOf_0f7a4 cJ0_indexOf_0f7a4 2 (some .int) rmJ0_indexOf_0f7a4 (fun ad sd => [.ref (sd 0), .int x1]) M (fun _ => some (.int r)) M := by
  refine MC_start (by decide) (fun ad sd => [(0, .ref (sd 0)), (1, .int x1)]) (fun _ _ => rfl) (fun _ _ => Nat.le_of_ble_eq_true rfl) ?_
  intro p e s m args below meth c D T3 ad sd A C
  unfold fJ0_indexOf_0f7a4 at h
  refine V_aload_n C 0 dJ0_indexOf_0f7a4_0 rfl ?_
  refine V_iload_n C 1 dJ0_indexOf_0f7a4_1 rfl ?_
  refine V_iconst C (0 : Int32) dJ0_indexOf_0f7a4_2 (by decide) ?_
  obtain ⟨z1, hz1, h⟩ := bP_t h
  refine V_callStr C (st := []) (st' := [.int z1]) (mJ0_indexOf_7cf53 l x1 (0 : Int32) M hz1) wmJ0_indexOf_7cf53 lkJ0_633 dJ0_indexOf_0f7a4_3 rfl rfl rfl rfl rfl ⟨rfl, rfl, (Nat.le_of_ble_eq_true rfl), (Nat.le_of_ble_eq_true rfl)⟩ ⟨Nat.zero_le _, Nat.zero_le _⟩ (Nat.le_of_ble_eq_true rfl) ?_
  obtain rfl := ret_P h
  exact V_iret C dJ0_indexOf_0f7a4_6
abbrev rmX0_isWell : Room := { frames := 4, cells := 0, slots := 0, locals := 91 }
def fX0_isWell (M : Mem) (x1 : Int32) : Option Bool := bP (fX4_itemOf M 2 x1) fun z1 => if (rmI x1 (6 : Int32)) = 0 then if z1 < (97 : Int32) then some false else if (102 : Int32) < z1 then some false else some true else if (rmI x1 (6 : Int32)) = 1 then bP (fX4_itemOf M 2 (x1 - (1 : Int32))) fun z14 => if z1 ≤ z14 then some false else if (102 : Int32) < z1 then some false else some true else if (rmI x1 (6 : Int32)) = 2 then if z1 < (48 : Int32) then some false else if (57 : Int32) < z1 then some false else some true else if (rmI x1 (6 : Int32)) = 3 then bP (fJ0_indexOf_0f7a4 (cstC z1)) fun z10 => if z10 < 0 then some false else some true else if (rmI x1 (6 : Int32)) = 4 then if z1 < (49 : Int32) then some false else if (57 : Int32) < z1 then some false else some true else if z1 = (59 : Int32) then some true else some false
set_option maxHeartbeats 4000000 in
set_option maxRecDepth 100000 in
theorem mX0_isWell (l : Launch) (x1 : Int32) (M : Mem) {r : Bool} (h : fX0_isWell M x1 = some r) : MC l yX0_isWell cX0_isWell 3 (some .boolean) rmX0_isWell (fun ad sd => [.ref (ad 1), .int x1]) M (fun _ => some (.int (b2i r))) M := by
  refine MC_start (by decide) (fun ad sd => [(0, .ref (ad 1)), (1, .int x1)]) (fun _ _ => rfl) (fun _ _ => Nat.le_of_ble_eq_true rfl) ?_
  intro p e s m args below meth c D T3 ad sd A C
  unfold fX0_isWell at h
  refine V_aload_n C 0 dX0_isWell_0 rfl ?_
  refine V_get C 0 dX0_isWell_1 (wo_1 T3 ad _) rfl inKX0 (by decide) flX0_11 rfl rfl ?_
  refine V_iload_n C 1 dX0_isWell_4 rfl ?_
  obtain ⟨z1, hz1, h⟩ := bP_t h
  refine V_callSN C (st := []) (st' := [.int z1]) (mX4_itemOf l 2 rfl x1 M hz1) wmX4_itemOf lkX0_64 dX0_isWell_5 rfl rfl rfl ⟨rfl, rfl, (Nat.le_of_ble_eq_true rfl), (Nat.le_of_ble_eq_true rfl)⟩ ⟨Nat.zero_le _, Nat.zero_le _⟩ (Nat.le_of_ble_eq_true rfl) ?_
  refine V_istore_n C [(2, .int z1), (0, .ref (ad 1)), (1, .int x1)] dX0_isWell_8 rfl (by decide) rfl ?_
  refine V_iload_n C 2 dX0_isWell_9 rfl ?_
  refine V_bipush C (6 : Int32) dX0_isWell_10 (by decide) ?_
  refine V_irem C dX0_isWell_12 (by decide) ?_
  by_cases q3 : (rmI x1 (6 : Int32)) = 0
  · replace h := ite_p q3 h
    refine V_tblI C 48 dX0_isWell_13 (by rw [q3]; decide) (by rw [q3]; decide) (by rw [q3]; rfl) (by decide) ?_
    refine V_iload_n C 0 dX0_isWell_48 rfl ?_
    refine V_bipush C (97 : Int32) dX0_isWell_49 (by decide) ?_
    refine V_icmp_lt C 64 dX0_isWell_51 (by decide) (fun q18 => ?_) (fun q18 => ?_)
    · replace h := ite_p q18 h
      refine V_iconst C (0 : Int32) dX0_isWell_64 (by decide) ?_
      obtain rfl := ret_P h
      exact V_zret (x := false) C dX0_isWell_65
    · replace h := ite_n q18 h
      refine V_iload_n C 0 dX0_isWell_54 rfl ?_
      refine V_bipush C (102 : Int32) dX0_isWell_55 (by decide) ?_
      refine V_icmp_gt C 64 dX0_isWell_57 (by decide) (fun q17 => ?_) (fun q17 => ?_)
      · replace h := ite_p q17 h
        refine V_iconst C (0 : Int32) dX0_isWell_64 (by decide) ?_
        obtain rfl := ret_P h
        exact V_zret (x := false) C dX0_isWell_65
      · replace h := ite_n q17 h
        refine V_iconst C (1 : Int32) dX0_isWell_60 (by decide) ?_
        refine V_goto C 65 dX0_isWell_61 (by decide) ?_
        obtain rfl := ret_P h
        exact V_zret (x := true) C dX0_isWell_65
  · replace h := ite_n q3 h
    by_cases q4 : (rmI x1 (6 : Int32)) = 1
    · replace h := ite_p q4 h
      refine V_tblI C 66 dX0_isWell_13 (by rw [q4]; decide) (by rw [q4]; decide) (by rw [q4]; rfl) (by decide) ?_
      refine V_iload_n C 0 dX0_isWell_66 rfl ?_
      refine V_aload_n C 1 dX0_isWell_67 rfl ?_
      refine V_get C 0 dX0_isWell_68 (wo_1 T3 ad _) rfl inKX0 (by decide) flX0_11 rfl rfl ?_
      refine V_iload_n C 2 dX0_isWell_71 rfl ?_
      refine V_iconst C (1 : Int32) dX0_isWell_72 (by decide) ?_
      refine V_isub C dX0_isWell_73 ?_
      obtain ⟨z14, hz14, h⟩ := bP_t h
      refine V_callSN C (st := [.int z1]) (st' := [.int z14, .int z1]) (mX4_itemOf l 2 rfl (x1 - (1 : Int32)) M hz14) wmX4_itemOf lkX0_64 dX0_isWell_74 rfl rfl rfl ⟨rfl, rfl, (Nat.le_of_ble_eq_true rfl), (Nat.le_of_ble_eq_true rfl)⟩ ⟨Nat.zero_le _, Nat.zero_le _⟩ (Nat.le_of_ble_eq_true rfl) ?_
      refine V_icmp_le C 90 dX0_isWell_77 (by decide) (fun q16 => ?_) (fun q16 => ?_)
      · replace h := ite_p q16 h
        refine V_iconst C (0 : Int32) dX0_isWell_90 (by decide) ?_
        obtain rfl := ret_P h
        exact V_zret (x := false) C dX0_isWell_91
      · replace h := ite_n q16 h
        refine V_iload_n C 0 dX0_isWell_80 rfl ?_
        refine V_bipush C (102 : Int32) dX0_isWell_81 (by decide) ?_
        refine V_icmp_gt C 90 dX0_isWell_83 (by decide) (fun q15 => ?_) (fun q15 => ?_)
        · replace h := ite_p q15 h
          refine V_iconst C (0 : Int32) dX0_isWell_90 (by decide) ?_
          obtain rfl := ret_P h
          exact V_zret (x := false) C dX0_isWell_91
        · replace h := ite_n q15 h
          refine V_iconst C (1 : Int32) dX0_isWell_86 (by decide) ?_
          refine V_goto C 91 dX0_isWell_87 (by decide) ?_
          obtain rfl := ret_P h
          exact V_zret (x := true) C dX0_isWell_91
    · replace h := ite_n q4 h
      by_cases q5 : (rmI x1 (6 : Int32)) = 2
      · replace h := ite_p q5 h
        refine V_tblI C 92 dX0_isWell_13 (by rw [q5]; decide) (by rw [q5]; decide) (by rw [q5]; rfl) (by decide) ?_
        refine V_iload_n C 0 dX0_isWell_92 rfl ?_
        refine V_bipush C (48 : Int32) dX0_isWell_93 (by decide) ?_
        refine V_icmp_lt C 108 dX0_isWell_95 (by decide) (fun q13 => ?_) (fun q13 => ?_)
        · replace h := ite_p q13 h
          refine V_iconst C (0 : Int32) dX0_isWell_108 (by decide) ?_
          obtain rfl := ret_P h
          exact V_zret (x := false) C dX0_isWell_109
        · replace h := ite_n q13 h
          refine V_iload_n C 0 dX0_isWell_98 rfl ?_
          refine V_bipush C (57 : Int32) dX0_isWell_99 (by decide) ?_
          refine V_icmp_gt C 108 dX0_isWell_101 (by decide) (fun q12 => ?_) (fun q12 => ?_)
          · replace h := ite_p q12 h
            refine V_iconst C (0 : Int32) dX0_isWell_108 (by decide) ?_
            obtain rfl := ret_P h
            exact V_zret (x := false) C dX0_isWell_109
          · replace h := ite_n q12 h
            refine V_iconst C (1 : Int32) dX0_isWell_104 (by decide) ?_
            refine V_goto C 109 dX0_isWell_105 (by decide) ?_
            obtain rfl := ret_P h
            exact V_zret (x := true) C dX0_isWell_109
      · replace h := ite_n q5 h
        by_cases q6 : (rmI x1 (6 : Int32)) = 3
        · replace h := ite_p q6 h
          refine V_tblI C 110 dX0_isWell_13 (by rw [q6]; decide) (by rw [q6]; decide) (by rw [q6]; rfl) (by decide) ?_
          refine V_ldcS C rfl dX0_isWell_110 ?_
          refine V_iload_n C 0 dX0_isWell_112 rfl ?_
          refine V_i2c C dX0_isWell_113 ?_
          obtain ⟨z10, hz10, h⟩ := bP_t h
          refine V_callStr C (st := []) (st' := [.int z10]) (mJ0_indexOf_0f7a4 l (cstC z1) M hz10) wmJ0_indexOf_0f7a4 lkX0_70 dX0_isWell_114 rfl rfl rfl rfl rfl ⟨rfl, rfl, (Nat.le_of_ble_eq_true rfl), (Nat.le_of_ble_eq_true rfl)⟩ ⟨Nat.zero_le _, Nat.zero_le _⟩ (Nat.le_of_ble_eq_true rfl) ?_
          refine V_if_lt C 124 dX0_isWell_117 (by decide) (fun q11 => ?_) (fun q11 => ?_)
          · replace h := ite_p q11 h
            refine V_iconst C (0 : Int32) dX0_isWell_124 (by decide) ?_
            obtain rfl := ret_P h
            exact V_zret (x := false) C dX0_isWell_125
          · replace h := ite_n q11 h
            refine V_iconst C (1 : Int32) dX0_isWell_120 (by decide) ?_
            refine V_goto C 125 dX0_isWell_121 (by decide) ?_
            obtain rfl := ret_P h
            exact V_zret (x := true) C dX0_isWell_125
        · replace h := ite_n q6 h
          by_cases q7 : (rmI x1 (6 : Int32)) = 4
          · replace h := ite_p q7 h
            refine V_tblI C 126 dX0_isWell_13 (by rw [q7]; decide) (by rw [q7]; decide) (by rw [q7]; rfl) (by decide) ?_
            refine V_iload_n C 0 dX0_isWell_126 rfl ?_
            refine V_bipush C (49 : Int32) dX0_isWell_127 (by decide) ?_
            refine V_icmp_lt C 142 dX0_isWell_129 (by decide) (fun q9 => ?_) (fun q9 => ?_)
            · replace h := ite_p q9 h
              refine V_iconst C (0 : Int32) dX0_isWell_142 (by decide) ?_
              obtain rfl := ret_P h
              exact V_zret (x := false) C dX0_isWell_143
            · replace h := ite_n q9 h
              refine V_iload_n C 0 dX0_isWell_132 rfl ?_
              refine V_bipush C (57 : Int32) dX0_isWell_133 (by decide) ?_
              refine V_icmp_gt C 142 dX0_isWell_135 (by decide) (fun q8 => ?_) (fun q8 => ?_)
              · replace h := ite_p q8 h
                refine V_iconst C (0 : Int32) dX0_isWell_142 (by decide) ?_
                obtain rfl := ret_P h
                exact V_zret (x := false) C dX0_isWell_143
              · replace h := ite_n q8 h
                refine V_iconst C (1 : Int32) dX0_isWell_138 (by decide) ?_
                refine V_goto C 143 dX0_isWell_139 (by decide) ?_
                obtain rfl := ret_P h
                exact V_zret (x := true) C dX0_isWell_143
          · replace h := ite_n q7 h
            refine V_tblO C 144 dX0_isWell_13 (tbl_out (fun k h1 h2 => by
              rcases (show k = 0 ∨ k = 1 ∨ k = 2 ∨ k = 3 ∨ k = 4 by omega) with rfl | rfl | rfl | rfl | rfl
              · exact q3
              · exact q4
              · exact q5
              · exact q6
              · exact q7
              )) (by decide) ?_
            refine V_iload_n C 0 dX0_isWell_144 rfl ?_
            refine V_bipush C (59 : Int32) dX0_isWell_145 (by decide) ?_
            refine V_icmp_ne C 154 dX0_isWell_147 (by decide) (fun q2 => ?_) (fun q2 => ?_)
            · replace h := ite_n q2 h
              refine V_iconst C (0 : Int32) dX0_isWell_154 (by decide) ?_
              obtain rfl := ret_P h
              exact V_zret (x := false) C dX0_isWell_155
            · replace h := ite_p q2 h
              refine V_iconst C (1 : Int32) dX0_isWell_150 (by decide) ?_
              refine V_goto C 155 dX0_isWell_151 (by decide) ?_
              obtain rfl := ret_P h
              exact V_zret (x := true) C dX0_isWell_155
abbrev rmX0_firstFault : Room := { frames := 5, cells := 0, slots := 0, locals := 113 }
def fX0_firstFault_2 (M : Mem) : Nat → Int32 → Option Int32
  | 0, _ => none
  | n + 1, x1 => if (M 1 1) ≤ x1 then if (M 1 1) = 0 then some (-1 : Int32) else if (rmI (M 1 1) (6 : Int32)) = (5 : Int32) then some (-1 : Int32) else some (M 1 1) else bP (fX0_isWell M x1) fun z3 => if z3 = true then fX0_firstFault_2 M n (x1 + 1) else some x1
def fX0_firstFault (M : Mem) : Option Int32 := fX0_firstFault_2 M 1000 (0 : Int32)
set_option maxHeartbeats 4000000 in
set_option maxRecDepth 100000 in
theorem vX0_firstFault_2 {p : Program} {l : Launch} {e : Env} {s : State} {m : MethodId} {args : Array Value} {below : List Frame} {meth : Method} {c : Code} {D : va_G} {T3 : ClassId × ClassId × ClassId} {ad sd : Nat → Nat} {A : Nat → Prop}  (C : CX p s m args meth c cX0_firstFault 2 RX0 (some .int) D T3 ad sd A) {r : Int32} (M : Mem) : ∀ (n : Nat) (x1 : Int32), fX0_firstFault_2 M n x1 = some r → VV p l e rmX0_firstFault s m args below meth c D T3 ad A 2 0 0 (QM below D T3 ad A args s (fun _ => some (.int r)) M) M [(0, .ref (ad 1)), (1, .int x1)] 2 [] := by
  intro n
  induction n with
  | zero => intro x1 h; exact nomatch (show (none : Option Int32) = some _ from h)
  | succ n ih =>
    intro x1 h
    rw [fX0_firstFault_2] at h
    refine V_iload_n C 1 dX0_firstFault_2 rfl ?_
    refine V_aload_n C 0 dX0_firstFault_3 rfl ?_
    refine V_get C 1 dX0_firstFault_4 (wo_1 T3 ad _) rfl inKX0 (by decide) flX0_15 rfl rfl ?_
    refine V_icmp_ge C 26 dX0_firstFault_7 (by decide) (fun q5 => ?_) (fun q5 => ?_)
    · replace h := ite_p q5 h
      refine V_aload_n C 0 dX0_firstFault_26 rfl ?_
      refine V_get C 1 dX0_firstFault_27 (wo_1 T3 ad _) rfl inKX0 (by decide) flX0_15 rfl rfl ?_
      refine V_if_eq C 44 dX0_firstFault_30 (by decide) (fun q2 => ?_) (fun q2 => ?_)
      · replace h := ite_p q2 h
        refine V_iconst C (-1 : Int32) dX0_firstFault_44 (by decide) ?_
        refine V_goto C 52 dX0_firstFault_45 (by decide) ?_
        obtain rfl := ret_P h
        exact V_iret C dX0_firstFault_52
      · replace h := ite_n q2 h
        refine V_aload_n C 0 dX0_firstFault_33 rfl ?_
        refine V_get C 1 dX0_firstFault_34 (wo_1 T3 ad _) rfl inKX0 (by decide) flX0_15 rfl rfl ?_
        refine V_bipush C (6 : Int32) dX0_firstFault_37 (by decide) ?_
        refine V_irem C dX0_firstFault_39 (by decide) ?_
        refine V_iconst C (5 : Int32) dX0_firstFault_40 (by decide) ?_
        refine V_icmp_ne C 48 dX0_firstFault_41 (by decide) (fun q1 => ?_) (fun q1 => ?_)
        · replace h := ite_n q1 h
          refine V_aload_n C 0 dX0_firstFault_48 rfl ?_
          refine V_get C 1 dX0_firstFault_49 (wo_1 T3 ad _) rfl inKX0 (by decide) flX0_15 rfl rfl ?_
          obtain rfl := ret_P h
          exact V_iret C dX0_firstFault_52
        · replace h := ite_p q1 h
          refine V_iconst C (-1 : Int32) dX0_firstFault_44 (by decide) ?_
          refine V_goto C 52 dX0_firstFault_45 (by decide) ?_
          obtain rfl := ret_P h
          exact V_iret C dX0_firstFault_52
    · replace h := ite_n q5 h
      refine V_aload_n C 0 dX0_firstFault_10 rfl ?_
      refine V_iload_n C 1 dX0_firstFault_11 rfl ?_
      obtain ⟨z3, hz3, h⟩ := bP_t h
      refine V_callV C (st := []) (st' := [.int (b2i z3)]) (mX0_isWell l x1 M hz3) wmX0_isWell lkX0_60 dX0_firstFault_12 (wo_1 T3 ad _) rfl rfl rfl rfl rfl rfl ⟨rfl, rfl, (Nat.le_of_ble_eq_true rfl), (Nat.le_of_ble_eq_true rfl)⟩ ⟨Nat.zero_le _, Nat.zero_le _⟩ (Nat.le_of_ble_eq_true rfl) ?_
      refine V_ifB_ne C 20 dX0_firstFault_15 (by decide) (fun q4 => ?_) (fun q4 => ?_)
      · replace h := ite_p q4 h
        refine V_iinc C 1 (x1 + 1) [(1, .int (x1 + 1)), (0, .ref (ad 1))] dX0_firstFault_20 rfl rfl (by decide) rfl ?_
        refine V_goto C 2 dX0_firstFault_23 (by decide) ?_
        refine V_sub (lv' := [(0, .ref (ad 1)), (1, .int (x1 + 1))]) [1, 0] rfl ?_
        exact ih (x1 + 1) h
      · replace h := ite_n q4 h
        refine V_iload_n C 1 dX0_firstFault_18 rfl ?_
        obtain rfl := ret_P h
        exact V_iret C dX0_firstFault_19
set_option maxHeartbeats 4000000 in
set_option maxRecDepth 100000 in
theorem mX0_firstFault (l : Launch) (M : Mem) {r : Int32} (h : fX0_firstFault M = some r) : MC l yX0_firstFault cX0_firstFault 2 (some .int) rmX0_firstFault (fun ad sd => [.ref (ad 1)]) M (fun _ => some (.int r)) M := by
  refine MC_start (by decide) (fun ad sd => [(0, .ref (ad 1))]) (fun _ _ => rfl) (fun _ _ => Nat.le_of_ble_eq_true rfl) ?_
  intro p e s m args below meth c D T3 ad sd A C
  unfold fX0_firstFault at h
  refine V_iconst C (0 : Int32) dX0_firstFault_0 (by decide) ?_
  refine V_istore_n C [(1, .int (0 : Int32)), (0, .ref (ad 1))] dX0_firstFault_1 rfl (by decide) rfl ?_
  refine V_sub (lv' := [(0, .ref (ad 1)), (1, .int (0 : Int32))]) [1, 0] rfl ?_
  exact vX0_firstFault_2 C M 1000 (0 : Int32) h
abbrev rmX4_putInto : Room := { frames := 0, cells := 0, slots := 0, locals := 0 }
def fX4_putInto (r0 : Nat) (x1 : Int32) (x2 : Int32) (M : Mem) : Option (Unit × Mem) := if x1 < 0 then some ((), M) else if (nI (aln r0)) ≤ x1 then some ((), M) else gd (inb x1 (aln r0)) (lt (up M r0 (x1).toNatClampNeg x2) fun M1 => some ((), M1))
set_option maxHeartbeats 4000000 in
set_option maxRecDepth 100000 in
theorem mX4_putInto (l : Launch) (r0 : Nat) (gr0 : isA r0 = true) (x1 : Int32) (x2 : Int32) (M : Mem) {r : Unit} {M9 : Mem} (h : fX4_putInto r0 x1 x2 M = some (r, M9)) : MC l yX4_putInto cX4_putInto 3 none rmX4_putInto (fun ad sd => [.ref (ad r0), .int x1, .int x2]) M (fun _ => none) M9 := by
  refine MC_start (by decide) (fun ad sd => [(0, .ref (ad r0)), (1, .int x1), (2, .int x2)]) (fun _ _ => rfl) (fun _ _ => Nat.le_of_ble_eq_true rfl) ?_
  intro p e s m args below meth c D T3 ad sd A C
  unfold fX4_putInto at h
  refine V_iload_n C 1 dX4_putInto_0 rfl ?_
  refine V_if_lt C 14 dX4_putInto_1 (by decide) (fun q4 => ?_) (fun q4 => ?_)
  · replace h := ite_p q4 h
    obtain ⟨rfl, rfl⟩ := ret_W h
    exact V_vret C dX4_putInto_14
  · replace h := ite_n q4 h
    refine V_iload_n C 1 dX4_putInto_4 rfl ?_
    refine V_aload_n C 0 dX4_putInto_5 rfl ?_
    refine V_alen C (v := (nI (aln r0))) gr0 rfl dX4_putInto_6 ?_
    refine V_icmp_ge C 14 dX4_putInto_7 (by decide) (fun q3 => ?_) (fun q3 => ?_)
    · replace h := ite_p q3 h
      obtain ⟨rfl, rfl⟩ := ret_W h
      exact V_vret C dX4_putInto_14
    · replace h := ite_n q3 h
      refine V_aload_n C 0 dX4_putInto_10 rfl ?_
      refine V_iload_n C 1 dX4_putInto_11 rfl ?_
      refine V_iload_n C 2 dX4_putInto_12 rfl ?_
      obtain ⟨g2, h⟩ := gd_t h
      obtain ⟨M1, hM1, h⟩ := lt_t h
      refine V_iast C M1 gr0 rfl (inb_in g2) dX4_putInto_13 hM1 ?_
      obtain ⟨rfl, rfl⟩ := ret_W h
      exact V_vret C dX4_putInto_14
abbrev rmX0_learn : Room := { frames := 4, cells := 0, slots := 0, locals := 91 }
def fX0_learn (x1 : Int32) (M : Mem) : Option (Unit × Mem) := bP (fX4_itemOf M 2 (x1 * (6 : Int32))) fun z1 => bW (fX4_putInto 3 ((x1 * (5 : Int32)) + (0 : Int32)) (z1 - (97 : Int32)) M) fun z2 M3 => bP (fX4_itemOf M3 2 ((x1 * (6 : Int32)) + (1 : Int32))) fun z4 => bW (fX4_putInto 3 ((x1 * (5 : Int32)) + (1 : Int32)) (z4 - (97 : Int32)) M3) fun z5 M6 => bP (fX4_itemOf M6 2 ((x1 * (6 : Int32)) + (2 : Int32))) fun z7 => bW (fX4_putInto 3 ((x1 * (5 : Int32)) + (2 : Int32)) (z7 - (48 : Int32)) M6) fun z8 M9 => bP (fX4_itemOf M9 2 ((x1 * (6 : Int32)) + (3 : Int32))) fun z10 => bP (fJ0_indexOf_0f7a4 (cstC z10)) fun z11 => bW (fX4_putInto 3 ((x1 * (5 : Int32)) + (3 : Int32)) z11 M9) fun z12 M13 => bP (fX4_itemOf M13 2 ((x1 * (6 : Int32)) + (4 : Int32))) fun z14 => bW (fX4_putInto 3 ((x1 * (5 : Int32)) + (4 : Int32)) (z14 - (48 : Int32)) M13) fun z15 M16 => some ((), M16)
set_option maxHeartbeats 4000000 in
set_option maxRecDepth 100000 in
theorem mX0_learn (l : Launch) (x1 : Int32) (M : Mem) {r : Unit} {M9 : Mem} (h : fX0_learn x1 M = some (r, M9)) : MC l yX0_learn cX0_learn 4 none rmX0_learn (fun ad sd => [.ref (ad 1), .int x1]) M (fun _ => none) M9 := by
  refine MC_start (by decide) (fun ad sd => [(0, .ref (ad 1)), (1, .int x1)]) (fun _ _ => rfl) (fun _ _ => Nat.le_of_ble_eq_true rfl) ?_
  intro p e s m args below meth c D T3 ad sd A C
  unfold fX0_learn at h
  refine V_iload_n C 1 dX0_learn_0 rfl ?_
  refine V_bipush C (6 : Int32) dX0_learn_1 (by decide) ?_
  refine V_imul C dX0_learn_3 ?_
  refine V_istore_n C [(2, .int (x1 * (6 : Int32))), (0, .ref (ad 1)), (1, .int x1)] dX0_learn_4 rfl (by decide) rfl ?_
  refine V_iload_n C 2 dX0_learn_5 rfl ?_
  refine V_iconst C (5 : Int32) dX0_learn_6 (by decide) ?_
  refine V_imul C dX0_learn_7 ?_
  refine V_istore_n C [(3, .int (x1 * (5 : Int32))), (2, .int (x1 * (6 : Int32))), (0, .ref (ad 1)), (1, .int x1)] dX0_learn_8 rfl (by decide) rfl ?_
  refine V_aload_n C 2 dX0_learn_9 rfl ?_
  refine V_get C 4 dX0_learn_10 (wo_1 T3 ad _) rfl inKX0 (by decide) flX0_25 rfl rfl ?_
  refine V_iload_n C 0 dX0_learn_13 rfl ?_
  refine V_iconst C (0 : Int32) dX0_learn_14 (by decide) ?_
  refine V_iadd C dX0_learn_15 ?_
  refine V_aload_n C 2 dX0_learn_16 rfl ?_
  refine V_get C 0 dX0_learn_17 (wo_1 T3 ad _) rfl inKX0 (by decide) flX0_11 rfl rfl ?_
  refine V_iload_n C 1 dX0_learn_20 rfl ?_
  obtain ⟨z1, hz1, h⟩ := bP_t h
  refine V_callSN C (st := [.int ((x1 * (5 : Int32)) + (0 : Int32)), .ref (ad 3)]) (st' := [.int z1, .int ((x1 * (5 : Int32)) + (0 : Int32)), .ref (ad 3)]) (mX4_itemOf l 2 rfl (x1 * (6 : Int32)) M hz1) wmX4_itemOf lkX0_64 dX0_learn_21 rfl rfl rfl ⟨rfl, rfl, (Nat.le_of_ble_eq_true rfl), (Nat.le_of_ble_eq_true rfl)⟩ ⟨Nat.zero_le _, Nat.zero_le _⟩ (Nat.le_of_ble_eq_true rfl) ?_
  refine V_bipush C (97 : Int32) dX0_learn_24 (by decide) ?_
  refine V_isub C dX0_learn_26 ?_
  obtain ⟨z2, M3, hz2, h⟩ := bW_t h
  refine V_callSN C (st := []) (st' := []) (mX4_putInto l 3 rfl ((x1 * (5 : Int32)) + (0 : Int32)) (z1 - (97 : Int32)) M hz2) wmX4_putInto lkX0_76 dX0_learn_27 rfl rfl rfl ⟨rfl, rfl, (Nat.le_of_ble_eq_true rfl), (Nat.le_of_ble_eq_true rfl)⟩ ⟨Nat.zero_le _, Nat.zero_le _⟩ (Nat.le_of_ble_eq_true rfl) ?_
  refine V_aload_n C 2 dX0_learn_30 rfl ?_
  refine V_get C 4 dX0_learn_31 (wo_1 T3 ad _) rfl inKX0 (by decide) flX0_25 rfl rfl ?_
  refine V_iload_n C 0 dX0_learn_34 rfl ?_
  refine V_iconst C (1 : Int32) dX0_learn_35 (by decide) ?_
  refine V_iadd C dX0_learn_36 ?_
  refine V_aload_n C 2 dX0_learn_37 rfl ?_
  refine V_get C 0 dX0_learn_38 (wo_1 T3 ad _) rfl inKX0 (by decide) flX0_11 rfl rfl ?_
  refine V_iload_n C 1 dX0_learn_41 rfl ?_
  refine V_iconst C (1 : Int32) dX0_learn_42 (by decide) ?_
  refine V_iadd C dX0_learn_43 ?_
  obtain ⟨z4, hz4, h⟩ := bP_t h
  refine V_callSN C (st := [.int ((x1 * (5 : Int32)) + (1 : Int32)), .ref (ad 3)]) (st' := [.int z4, .int ((x1 * (5 : Int32)) + (1 : Int32)), .ref (ad 3)]) (mX4_itemOf l 2 rfl ((x1 * (6 : Int32)) + (1 : Int32)) M3 hz4) wmX4_itemOf lkX0_64 dX0_learn_44 rfl rfl rfl ⟨rfl, rfl, (Nat.le_of_ble_eq_true rfl), (Nat.le_of_ble_eq_true rfl)⟩ ⟨Nat.zero_le _, Nat.zero_le _⟩ (Nat.le_of_ble_eq_true rfl) ?_
  refine V_bipush C (97 : Int32) dX0_learn_47 (by decide) ?_
  refine V_isub C dX0_learn_49 ?_
  obtain ⟨z5, M6, hz5, h⟩ := bW_t h
  refine V_callSN C (st := []) (st' := []) (mX4_putInto l 3 rfl ((x1 * (5 : Int32)) + (1 : Int32)) (z4 - (97 : Int32)) M3 hz5) wmX4_putInto lkX0_76 dX0_learn_50 rfl rfl rfl ⟨rfl, rfl, (Nat.le_of_ble_eq_true rfl), (Nat.le_of_ble_eq_true rfl)⟩ ⟨Nat.zero_le _, Nat.zero_le _⟩ (Nat.le_of_ble_eq_true rfl) ?_
  refine V_aload_n C 2 dX0_learn_53 rfl ?_
  refine V_get C 4 dX0_learn_54 (wo_1 T3 ad _) rfl inKX0 (by decide) flX0_25 rfl rfl ?_
  refine V_iload_n C 0 dX0_learn_57 rfl ?_
  refine V_iconst C (2 : Int32) dX0_learn_58 (by decide) ?_
  refine V_iadd C dX0_learn_59 ?_
  refine V_aload_n C 2 dX0_learn_60 rfl ?_
  refine V_get C 0 dX0_learn_61 (wo_1 T3 ad _) rfl inKX0 (by decide) flX0_11 rfl rfl ?_
  refine V_iload_n C 1 dX0_learn_64 rfl ?_
  refine V_iconst C (2 : Int32) dX0_learn_65 (by decide) ?_
  refine V_iadd C dX0_learn_66 ?_
  obtain ⟨z7, hz7, h⟩ := bP_t h
  refine V_callSN C (st := [.int ((x1 * (5 : Int32)) + (2 : Int32)), .ref (ad 3)]) (st' := [.int z7, .int ((x1 * (5 : Int32)) + (2 : Int32)), .ref (ad 3)]) (mX4_itemOf l 2 rfl ((x1 * (6 : Int32)) + (2 : Int32)) M6 hz7) wmX4_itemOf lkX0_64 dX0_learn_67 rfl rfl rfl ⟨rfl, rfl, (Nat.le_of_ble_eq_true rfl), (Nat.le_of_ble_eq_true rfl)⟩ ⟨Nat.zero_le _, Nat.zero_le _⟩ (Nat.le_of_ble_eq_true rfl) ?_
  refine V_bipush C (48 : Int32) dX0_learn_70 (by decide) ?_
  refine V_isub C dX0_learn_72 ?_
  obtain ⟨z8, M9, hz8, h⟩ := bW_t h
  refine V_callSN C (st := []) (st' := []) (mX4_putInto l 3 rfl ((x1 * (5 : Int32)) + (2 : Int32)) (z7 - (48 : Int32)) M6 hz8) wmX4_putInto lkX0_76 dX0_learn_73 rfl rfl rfl ⟨rfl, rfl, (Nat.le_of_ble_eq_true rfl), (Nat.le_of_ble_eq_true rfl)⟩ ⟨Nat.zero_le _, Nat.zero_le _⟩ (Nat.le_of_ble_eq_true rfl) ?_
  refine V_aload_n C 2 dX0_learn_76 rfl ?_
  refine V_get C 4 dX0_learn_77 (wo_1 T3 ad _) rfl inKX0 (by decide) flX0_25 rfl rfl ?_
  refine V_iload_n C 0 dX0_learn_80 rfl ?_
  refine V_iconst C (3 : Int32) dX0_learn_81 (by decide) ?_
  refine V_iadd C dX0_learn_82 ?_
  refine V_ldcS C rfl dX0_learn_83 ?_
  refine V_aload_n C 2 dX0_learn_85 rfl ?_
  refine V_get C 0 dX0_learn_86 (wo_1 T3 ad _) rfl inKX0 (by decide) flX0_11 rfl rfl ?_
  refine V_iload_n C 1 dX0_learn_89 rfl ?_
  refine V_iconst C (3 : Int32) dX0_learn_90 (by decide) ?_
  refine V_iadd C dX0_learn_91 ?_
  obtain ⟨z10, hz10, h⟩ := bP_t h
  refine V_callSN C (st := [.ref (sd 0), .int ((x1 * (5 : Int32)) + (3 : Int32)), .ref (ad 3)]) (st' := [.int z10, .ref (sd 0), .int ((x1 * (5 : Int32)) + (3 : Int32)), .ref (ad 3)]) (mX4_itemOf l 2 rfl ((x1 * (6 : Int32)) + (3 : Int32)) M9 hz10) wmX4_itemOf lkX0_64 dX0_learn_92 rfl rfl rfl ⟨rfl, rfl, (Nat.le_of_ble_eq_true rfl), (Nat.le_of_ble_eq_true rfl)⟩ ⟨Nat.zero_le _, Nat.zero_le _⟩ (Nat.le_of_ble_eq_true rfl) ?_
  refine V_i2c C dX0_learn_95 ?_
  obtain ⟨z11, hz11, h⟩ := bP_t h
  refine V_callStr C (st := [.int ((x1 * (5 : Int32)) + (3 : Int32)), .ref (ad 3)]) (st' := [.int z11, .int ((x1 * (5 : Int32)) + (3 : Int32)), .ref (ad 3)]) (mJ0_indexOf_0f7a4 l (cstC z10) M9 hz11) wmJ0_indexOf_0f7a4 lkX0_70 dX0_learn_96 rfl rfl rfl rfl rfl ⟨rfl, rfl, (Nat.le_of_ble_eq_true rfl), (Nat.le_of_ble_eq_true rfl)⟩ ⟨Nat.zero_le _, Nat.zero_le _⟩ (Nat.le_of_ble_eq_true rfl) ?_
  obtain ⟨z12, M13, hz12, h⟩ := bW_t h
  refine V_callSN C (st := []) (st' := []) (mX4_putInto l 3 rfl ((x1 * (5 : Int32)) + (3 : Int32)) z11 M9 hz12) wmX4_putInto lkX0_76 dX0_learn_99 rfl rfl rfl ⟨rfl, rfl, (Nat.le_of_ble_eq_true rfl), (Nat.le_of_ble_eq_true rfl)⟩ ⟨Nat.zero_le _, Nat.zero_le _⟩ (Nat.le_of_ble_eq_true rfl) ?_
  refine V_aload_n C 2 dX0_learn_102 rfl ?_
  refine V_get C 4 dX0_learn_103 (wo_1 T3 ad _) rfl inKX0 (by decide) flX0_25 rfl rfl ?_
  refine V_iload_n C 0 dX0_learn_106 rfl ?_
  refine V_iconst C (4 : Int32) dX0_learn_107 (by decide) ?_
  refine V_iadd C dX0_learn_108 ?_
  refine V_aload_n C 2 dX0_learn_109 rfl ?_
  refine V_get C 0 dX0_learn_110 (wo_1 T3 ad _) rfl inKX0 (by decide) flX0_11 rfl rfl ?_
  refine V_iload_n C 1 dX0_learn_113 rfl ?_
  refine V_iconst C (4 : Int32) dX0_learn_114 (by decide) ?_
  refine V_iadd C dX0_learn_115 ?_
  obtain ⟨z14, hz14, h⟩ := bP_t h
  refine V_callSN C (st := [.int ((x1 * (5 : Int32)) + (4 : Int32)), .ref (ad 3)]) (st' := [.int z14, .int ((x1 * (5 : Int32)) + (4 : Int32)), .ref (ad 3)]) (mX4_itemOf l 2 rfl ((x1 * (6 : Int32)) + (4 : Int32)) M13 hz14) wmX4_itemOf lkX0_64 dX0_learn_116 rfl rfl rfl ⟨rfl, rfl, (Nat.le_of_ble_eq_true rfl), (Nat.le_of_ble_eq_true rfl)⟩ ⟨Nat.zero_le _, Nat.zero_le _⟩ (Nat.le_of_ble_eq_true rfl) ?_
  refine V_bipush C (48 : Int32) dX0_learn_119 (by decide) ?_
  refine V_isub C dX0_learn_121 ?_
  obtain ⟨z15, M16, hz15, h⟩ := bW_t h
  refine V_callSN C (st := []) (st' := []) (mX4_putInto l 3 rfl ((x1 * (5 : Int32)) + (4 : Int32)) (z14 - (48 : Int32)) M13 hz15) wmX4_putInto lkX0_76 dX0_learn_122 rfl rfl rfl ⟨rfl, rfl, (Nat.le_of_ble_eq_true rfl), (Nat.le_of_ble_eq_true rfl)⟩ ⟨Nat.zero_le _, Nat.zero_le _⟩ (Nat.le_of_ble_eq_true rfl) ?_
  obtain ⟨rfl, rfl⟩ := ret_W h
  exact V_vret C dX0_learn_125
abbrev rmX0_fact : Room := { frames := 0, cells := 0, slots := 0, locals := 0 }
def fX0_fact (M : Mem) (x1 : Int32) (x2 : Int32) : Option Int32 := if x1 < 0 then some (-2 : Int32) else if (M 1 3) ≤ x1 then some (-2 : Int32) else if x2 < 0 then some (-2 : Int32) else if x2 < (5 : Int32) then if (80 : Int32) ≤ ((x1 * (5 : Int32)) + x2) then some (-2 : Int32) else gd (inb ((x1 * (5 : Int32)) + x2) 80) (some (M 3 (((x1 * (5 : Int32)) + x2)).toNatClampNeg)) else some (-2 : Int32)
set_option maxHeartbeats 4000000 in
set_option maxRecDepth 100000 in
theorem mX0_fact (l : Launch) (x1 : Int32) (x2 : Int32) (M : Mem) {r : Int32} (h : fX0_fact M x1 x2 = some r) : MC l yX0_fact cX0_fact 4 (some .int) rmX0_fact (fun ad sd => [.ref (ad 1), .int x1, .int x2]) M (fun _ => some (.int r)) M := by
  refine MC_start (by decide) (fun ad sd => [(0, .ref (ad 1)), (1, .int x1), (2, .int x2)]) (fun _ _ => rfl) (fun _ _ => Nat.le_of_ble_eq_true rfl) ?_
  intro p e s m args below meth c D T3 ad sd A C
  unfold fX0_fact at h
  refine V_iload_n C 1 dX0_fact_0 rfl ?_
  refine V_if_lt C 21 dX0_fact_1 (by decide) (fun q6 => ?_) (fun q6 => ?_)
  · replace h := ite_p q6 h
    refine V_bipush C (-2 : Int32) dX0_fact_21 (by decide) ?_
    obtain rfl := ret_P h
    exact V_iret C dX0_fact_23
  · replace h := ite_n q6 h
    refine V_iload_n C 1 dX0_fact_4 rfl ?_
    refine V_aload_n C 0 dX0_fact_5 rfl ?_
    refine V_get C 3 dX0_fact_6 (wo_1 T3 ad _) rfl inKX0 (by decide) flX0_22 rfl rfl ?_
    refine V_icmp_ge C 21 dX0_fact_9 (by decide) (fun q5 => ?_) (fun q5 => ?_)
    · replace h := ite_p q5 h
      refine V_bipush C (-2 : Int32) dX0_fact_21 (by decide) ?_
      obtain rfl := ret_P h
      exact V_iret C dX0_fact_23
    · replace h := ite_n q5 h
      refine V_iload_n C 2 dX0_fact_12 rfl ?_
      refine V_if_lt C 21 dX0_fact_13 (by decide) (fun q4 => ?_) (fun q4 => ?_)
      · replace h := ite_p q4 h
        refine V_bipush C (-2 : Int32) dX0_fact_21 (by decide) ?_
        obtain rfl := ret_P h
        exact V_iret C dX0_fact_23
      · replace h := ite_n q4 h
        refine V_iload_n C 2 dX0_fact_16 rfl ?_
        refine V_iconst C (5 : Int32) dX0_fact_17 (by decide) ?_
        refine V_icmp_lt C 24 dX0_fact_18 (by decide) (fun q3 => ?_) (fun q3 => ?_)
        · replace h := ite_p q3 h
          refine V_iload_n C 1 dX0_fact_24 rfl ?_
          refine V_iconst C (5 : Int32) dX0_fact_25 (by decide) ?_
          refine V_imul C dX0_fact_26 ?_
          refine V_iload_n C 2 dX0_fact_27 rfl ?_
          refine V_iadd C dX0_fact_28 ?_
          refine V_istore_n C [(3, .int ((x1 * (5 : Int32)) + x2)), (0, .ref (ad 1)), (1, .int x1), (2, .int x2)] dX0_fact_29 rfl (by decide) rfl ?_
          refine V_iload_n C 0 dX0_fact_30 rfl ?_
          refine V_aload_n C 1 dX0_fact_31 rfl ?_
          refine V_get C 4 dX0_fact_32 (wo_1 T3 ad _) rfl inKX0 (by decide) flX0_25 rfl rfl ?_
          refine V_alen C (v := (80 : Int32)) rfl rfl dX0_fact_35 ?_
          refine V_icmp_ge C 48 dX0_fact_36 (by decide) (fun q2 => ?_) (fun q2 => ?_)
          · replace h := ite_p q2 h
            refine V_bipush C (-2 : Int32) dX0_fact_48 (by decide) ?_
            obtain rfl := ret_P h
            exact V_iret C dX0_fact_50
          · replace h := ite_n q2 h
            refine V_aload_n C 1 dX0_fact_39 rfl ?_
            refine V_get C 4 dX0_fact_40 (wo_1 T3 ad _) rfl inKX0 (by decide) flX0_25 rfl rfl ?_
            refine V_iload_n C 0 dX0_fact_43 rfl ?_
            obtain ⟨g1, h⟩ := gd_t h
            refine V_iald C rfl rfl (inb_in g1) dX0_fact_44 ?_
            refine V_goto C 50 dX0_fact_45 (by decide) ?_
            obtain rfl := ret_P h
            exact V_iret C dX0_fact_50
        · replace h := ite_n q3 h
          refine V_bipush C (-2 : Int32) dX0_fact_21 (by decide) ?_
          obtain rfl := ret_P h
          exact V_iret C dX0_fact_23
abbrev rmX0_putInOrder : Room := { frames := 1, cells := 0, slots := 0, locals := 23 }
def fX0_putInOrder_15 (kk4 : Int32 → Int32 → Mem → Option (Unit × Mem)) : Nat → Int32 → Int32 → Int32 → Mem → Option (Unit × Mem)
  | 0, _, _, _, _ => none
  | n + 1, x1, x2, x3, M => if x3 < 0 then kk4 x1 (x2 + (-1)) M else bP (fX0_fact M x3 (0 : Int32)) fun z1 => if z1 = x2 then bW (fX4_putInto 4 x1 x3 M) fun z2 M3 => fX0_putInOrder_15 kk4 n (x1 + 1) x2 (x3 + (-1)) M3 else fX0_putInOrder_15 kk4 n x1 x2 (x3 + (-1)) M
def fX0_putInOrder_4 : Nat → Int32 → Int32 → Mem → Option (Unit × Mem)
  | 0, _, _, _ => none
  | n + 1, x1, x2, M => if x2 < 0 then some ((), M) else fX0_putInOrder_15 (fX0_putInOrder_4 n) 1000 x1 x2 ((M 1 3) - (1 : Int32)) M
def fX0_putInOrder (M : Mem) : Option (Unit × Mem) := fX0_putInOrder_4 1000 (0 : Int32) (5 : Int32) M
set_option maxHeartbeats 4000000 in
set_option maxRecDepth 100000 in
theorem vX0_putInOrder_15 {p : Program} {l : Launch} {e : Env} {s : State} {m : MethodId} {args : Array Value} {below : List Frame} {meth : Method} {c : Code} {D : va_G} {T3 : ClassId × ClassId × ClassId} {ad sd : Nat → Nat} {A : Nat → Prop}  (C : CX p s m args meth c cX0_putInOrder 4 RX0 none D T3 ad sd A) {r : Unit} {M9 : Mem} (kk4 : Int32 → Int32 → Mem → Option (Unit × Mem)) (hk4 : ∀ (x1 : Int32) (x2 : Int32) (M : Mem), kk4 x1 x2 M = some (r, M9) → VV p l e rmX0_putInOrder s m args below meth c D T3 ad A 4 0 0 (QM below D T3 ad A args s (fun _ => none) M9) M [(0, .ref (ad 1)), (1, .int x1), (2, .int x2)] 4 []) : ∀ (n : Nat) (x1 : Int32) (x2 : Int32) (x3 : Int32) (M : Mem), fX0_putInOrder_15 kk4 n x1 x2 x3 M = some (r, M9) → VV p l e rmX0_putInOrder s m args below meth c D T3 ad A 4 0 0 (QM below D T3 ad A args s (fun _ => none) M9) M [(0, .ref (ad 1)), (1, .int x1), (2, .int x2), (3, .int x3)] 15 [] := by
  intro n
  induction n with
  | zero => intro x1 x2 x3 M h; exact nomatch (show (none : Option (Unit × Mem)) = some _ from h)
  | succ n ih =>
    intro x1 x2 x3 M h
    rw [fX0_putInOrder_15] at h
    refine V_iload_n C 3 dX0_putInOrder_15 rfl ?_
    refine V_if_lt C 47 dX0_putInOrder_16 (by decide) (fun q5 => ?_) (fun q5 => ?_)
    · replace h := ite_p q5 h
      refine V_iinc C 2 (x2 + (-1)) [(2, .int (x2 + (-1))), (0, .ref (ad 1)), (1, .int x1), (3, .int x3)] dX0_putInOrder_47 rfl rfl (by decide) rfl ?_
      refine V_goto C 4 dX0_putInOrder_50 (by decide) ?_
      refine V_sub (lv' := [(0, .ref (ad 1)), (1, .int x1), (2, .int (x2 + (-1)))]) [1, 2, 0] rfl ?_
      exact hk4 x1 (x2 + (-1)) M h
    · replace h := ite_n q5 h
      refine V_aload_n C 0 dX0_putInOrder_19 rfl ?_
      refine V_iload_n C 3 dX0_putInOrder_20 rfl ?_
      refine V_iconst C (0 : Int32) dX0_putInOrder_21 (by decide) ?_
      obtain ⟨z1, hz1, h⟩ := bP_t h
      refine V_callV C (st := []) (st' := [.int z1]) (mX0_fact l x3 (0 : Int32) M hz1) wmX0_fact lkX0_80 dX0_putInOrder_22 (wo_1 T3 ad _) rfl rfl rfl rfl rfl rfl ⟨rfl, rfl, (Nat.le_of_ble_eq_true rfl), (Nat.le_of_ble_eq_true rfl)⟩ ⟨Nat.zero_le _, Nat.zero_le _⟩ (Nat.le_of_ble_eq_true rfl) ?_
      refine V_iload_n C 2 dX0_putInOrder_25 rfl ?_
      refine V_icmp_ne C 41 dX0_putInOrder_26 (by decide) (fun q4 => ?_) (fun q4 => ?_)
      · replace h := ite_n q4 h
        refine V_iinc C 3 (x3 + (-1)) [(3, .int (x3 + (-1))), (0, .ref (ad 1)), (1, .int x1), (2, .int x2)] dX0_putInOrder_41 rfl rfl (by decide) rfl ?_
        refine V_goto C 15 dX0_putInOrder_44 (by decide) ?_
        refine V_sub (lv' := [(0, .ref (ad 1)), (1, .int x1), (2, .int x2), (3, .int (x3 + (-1)))]) [1, 2, 3, 0] rfl ?_
        exact ih x1 x2 (x3 + (-1)) M h
      · replace h := ite_p q4 h
        refine V_aload_n C 0 dX0_putInOrder_29 rfl ?_
        refine V_get C 5 dX0_putInOrder_30 (wo_1 T3 ad _) rfl inKX0 (by decide) flX0_28 rfl rfl ?_
        refine V_iload_n C 1 dX0_putInOrder_33 rfl ?_
        refine V_iload_n C 3 dX0_putInOrder_34 rfl ?_
        obtain ⟨z2, M3, hz2, h⟩ := bW_t h
        refine V_callSN C (st := []) (st' := []) (mX4_putInto l 4 rfl x1 x3 M hz2) wmX4_putInto lkX0_76 dX0_putInOrder_35 rfl rfl rfl ⟨rfl, rfl, (Nat.le_of_ble_eq_true rfl), (Nat.le_of_ble_eq_true rfl)⟩ ⟨Nat.zero_le _, Nat.zero_le _⟩ (Nat.le_of_ble_eq_true rfl) ?_
        refine V_iinc C 1 (x1 + 1) [(1, .int (x1 + 1)), (0, .ref (ad 1)), (2, .int x2), (3, .int x3)] dX0_putInOrder_38 rfl rfl (by decide) rfl ?_
        refine V_iinc C 3 (x3 + (-1)) [(3, .int (x3 + (-1))), (1, .int (x1 + 1)), (0, .ref (ad 1)), (2, .int x2)] dX0_putInOrder_41 rfl rfl (by decide) rfl ?_
        refine V_goto C 15 dX0_putInOrder_44 (by decide) ?_
        refine V_sub (lv' := [(0, .ref (ad 1)), (1, .int (x1 + 1)), (2, .int x2), (3, .int (x3 + (-1)))]) [2, 1, 3, 0] rfl ?_
        exact ih (x1 + 1) x2 (x3 + (-1)) M3 h
set_option maxHeartbeats 4000000 in
set_option maxRecDepth 100000 in
theorem vX0_putInOrder_4 {p : Program} {l : Launch} {e : Env} {s : State} {m : MethodId} {args : Array Value} {below : List Frame} {meth : Method} {c : Code} {D : va_G} {T3 : ClassId × ClassId × ClassId} {ad sd : Nat → Nat} {A : Nat → Prop}  (C : CX p s m args meth c cX0_putInOrder 4 RX0 none D T3 ad sd A) {r : Unit} {M9 : Mem} : ∀ (n : Nat) (x1 : Int32) (x2 : Int32) (M : Mem), fX0_putInOrder_4 n x1 x2 M = some (r, M9) → VV p l e rmX0_putInOrder s m args below meth c D T3 ad A 4 0 0 (QM below D T3 ad A args s (fun _ => none) M9) M [(0, .ref (ad 1)), (1, .int x1), (2, .int x2)] 4 [] := by
  intro n
  induction n with
  | zero => intro x1 x2 M h; exact nomatch (show (none : Option (Unit × Mem)) = some _ from h)
  | succ n ih =>
    intro x1 x2 M h
    rw [fX0_putInOrder_4] at h
    refine V_iload_n C 2 dX0_putInOrder_4 rfl ?_
    refine V_if_lt C 53 dX0_putInOrder_5 (by decide) (fun q6 => ?_) (fun q6 => ?_)
    · replace h := ite_p q6 h
      obtain ⟨rfl, rfl⟩ := ret_W h
      exact V_vret C dX0_putInOrder_53
    · replace h := ite_n q6 h
      refine V_aload_n C 0 dX0_putInOrder_8 rfl ?_
      refine V_get C 3 dX0_putInOrder_9 (wo_1 T3 ad _) rfl inKX0 (by decide) flX0_22 rfl rfl ?_
      refine V_iconst C (1 : Int32) dX0_putInOrder_12 (by decide) ?_
      refine V_isub C dX0_putInOrder_13 ?_
      refine V_istore_n C [(3, .int ((M 1 3) - (1 : Int32))), (0, .ref (ad 1)), (1, .int x1), (2, .int x2)] dX0_putInOrder_14 rfl (by decide) rfl ?_
      refine V_sub (lv' := [(0, .ref (ad 1)), (1, .int x1), (2, .int x2), (3, .int ((M 1 3) - (1 : Int32)))]) [1, 2, 3, 0] rfl ?_
      exact vX0_putInOrder_15 C (fX0_putInOrder_4 n) ih 1000 x1 x2 ((M 1 3) - (1 : Int32)) M h
set_option maxHeartbeats 4000000 in
set_option maxRecDepth 100000 in
theorem mX0_putInOrder (l : Launch) (M : Mem) {r : Unit} {M9 : Mem} (h : fX0_putInOrder M = some (r, M9)) : MC l yX0_putInOrder cX0_putInOrder 4 none rmX0_putInOrder (fun ad sd => [.ref (ad 1)]) M (fun _ => none) M9 := by
  refine MC_start (by decide) (fun ad sd => [(0, .ref (ad 1))]) (fun _ _ => rfl) (fun _ _ => Nat.le_of_ble_eq_true rfl) ?_
  intro p e s m args below meth c D T3 ad sd A C
  unfold fX0_putInOrder at h
  refine V_iconst C (0 : Int32) dX0_putInOrder_0 (by decide) ?_
  refine V_istore_n C [(1, .int (0 : Int32)), (0, .ref (ad 1))] dX0_putInOrder_1 rfl (by decide) rfl ?_
  refine V_iconst C (5 : Int32) dX0_putInOrder_2 (by decide) ?_
  refine V_istore_n C [(2, .int (5 : Int32)), (1, .int (0 : Int32)), (0, .ref (ad 1))] dX0_putInOrder_3 rfl (by decide) rfl ?_
  refine V_sub (lv' := [(0, .ref (ad 1)), (1, .int (0 : Int32)), (2, .int (5 : Int32))]) [2, 1, 0] rfl ?_
  exact vX0_putInOrder_4 C 1000 (0 : Int32) (5 : Int32) M h
abbrev rmX0_understand : Room := { frames := 6, cells := 0, slots := 0, locals := 134 }
def fX0_understand_35 : Nat → Int32 → Mem → Option (Unit × Mem)
  | 0, _, _ => none
  | n + 1, x1, M => if (M 1 3) ≤ x1 then bW (fX0_putInOrder M) fun z4 M5 => some ((), M5) else bW (fX0_learn x1 M) fun z6 M7 => fX0_understand_35 n (x1 + 1) M7
def fX0_understand (M : Mem) : Option (Unit × Mem) := bP (fX0_firstFault M) fun z1 => lt (up M 1 2 z1) fun M2 => if (M2 1 2) = (-1 : Int32) then lt (up M2 1 3 (((M2 1 1) + (1 : Int32)) / (6 : Int32))) fun M9 => fX0_understand_35 1000 (0 : Int32) M9 else lt (up M2 1 3 (0 : Int32)) fun M3 => fX0_understand_35 1000 (0 : Int32) M3
set_option maxHeartbeats 4000000 in
set_option maxRecDepth 100000 in
theorem vX0_understand_35 {p : Program} {l : Launch} {e : Env} {s : State} {m : MethodId} {args : Array Value} {below : List Frame} {meth : Method} {c : Code} {D : va_G} {T3 : ClassId × ClassId × ClassId} {ad sd : Nat → Nat} {A : Nat → Prop}  (C : CX p s m args meth c cX0_understand 2 RX0 none D T3 ad sd A) {r : Unit} {M9 : Mem} : ∀ (n : Nat) (x1 : Int32) (M : Mem), fX0_understand_35 n x1 M = some (r, M9) → VV p l e rmX0_understand s m args below meth c D T3 ad A 2 0 0 (QM below D T3 ad A args s (fun _ => none) M9) M [(0, .ref (ad 1)), (1, .int x1)] 35 [] := by
  intro n
  induction n with
  | zero => intro x1 M h; exact nomatch (show (none : Option (Unit × Mem)) = some _ from h)
  | succ n ih =>
    intro x1 M h
    rw [fX0_understand_35] at h
    refine V_iload_n C 1 dX0_understand_35 rfl ?_
    refine V_aload_n C 0 dX0_understand_36 rfl ?_
    refine V_get C 3 dX0_understand_37 (wo_1 T3 ad _) rfl inKX0 (by decide) flX0_22 rfl rfl ?_
    refine V_icmp_ge C 54 dX0_understand_40 (by decide) (fun q8 => ?_) (fun q8 => ?_)
    · replace h := ite_p q8 h
      refine V_aload_n C 0 dX0_understand_54 rfl ?_
      obtain ⟨z4, M5, hz4, h⟩ := bW_t h
      refine V_callV C (st := []) (st' := []) (mX0_putInOrder l M hz4) wmX0_putInOrder lkX0_57 dX0_understand_55 (wo_1 T3 ad _) rfl rfl rfl rfl rfl rfl ⟨rfl, rfl, (Nat.le_of_ble_eq_true rfl), (Nat.le_of_ble_eq_true rfl)⟩ ⟨Nat.zero_le _, Nat.zero_le _⟩ (Nat.le_of_ble_eq_true rfl) ?_
      obtain ⟨rfl, rfl⟩ := ret_W h
      exact V_vret C dX0_understand_58
    · replace h := ite_n q8 h
      refine V_aload_n C 0 dX0_understand_43 rfl ?_
      refine V_iload_n C 1 dX0_understand_44 rfl ?_
      obtain ⟨z6, M7, hz6, h⟩ := bW_t h
      refine V_callV C (st := []) (st' := []) (mX0_learn l x1 M hz6) wmX0_learn lkX0_54 dX0_understand_45 (wo_1 T3 ad _) rfl rfl rfl rfl rfl rfl ⟨rfl, rfl, (Nat.le_of_ble_eq_true rfl), (Nat.le_of_ble_eq_true rfl)⟩ ⟨Nat.zero_le _, Nat.zero_le _⟩ (Nat.le_of_ble_eq_true rfl) ?_
      refine V_iinc C 1 (x1 + 1) [(1, .int (x1 + 1)), (0, .ref (ad 1))] dX0_understand_48 rfl rfl (by decide) rfl ?_
      refine V_goto C 35 dX0_understand_51 (by decide) ?_
      refine V_sub (lv' := [(0, .ref (ad 1)), (1, .int (x1 + 1))]) [1, 0] rfl ?_
      exact ih (x1 + 1) M7 h
set_option maxHeartbeats 4000000 in
set_option maxRecDepth 100000 in
theorem mX0_understand (l : Launch) (M : Mem) {r : Unit} {M9 : Mem} (h : fX0_understand M = some (r, M9)) : MC l yX0_understand cX0_understand 2 none rmX0_understand (fun ad sd => [.ref (ad 1)]) M (fun _ => none) M9 := by
  refine MC_start (by decide) (fun ad sd => [(0, .ref (ad 1))]) (fun _ _ => rfl) (fun _ _ => Nat.le_of_ble_eq_true rfl) ?_
  intro p e s m args below meth c D T3 ad sd A C
  unfold fX0_understand at h
  refine V_aload_n C 0 dX0_understand_0 rfl ?_
  refine V_aload_n C 0 dX0_understand_1 rfl ?_
  obtain ⟨z1, hz1, h⟩ := bP_t h
  refine V_callV C (st := [.ref (ad 1)]) (st' := [.int z1, .ref (ad 1)]) (mX0_firstFault l M hz1) wmX0_firstFault lkX0_50 dX0_understand_2 (wo_1 T3 ad _) rfl rfl rfl rfl rfl rfl ⟨rfl, rfl, (Nat.le_of_ble_eq_true rfl), (Nat.le_of_ble_eq_true rfl)⟩ ⟨Nat.zero_le _, Nat.zero_le _⟩ (Nat.le_of_ble_eq_true rfl) ?_
  obtain ⟨M2, hM2, h⟩ := lt_t h
  refine V_put C M2 2 dX0_understand_5 (wo_1 T3 ad _) (ws_1_2 T3 ad _ _) rfl inKX0 tyX0 tyX0_ok nmX0 (by decide) flX0_19 rfl rfl rfl (Nat.le_of_ble_eq_true rfl) hM2 ?_
  refine V_aload_n C 0 dX0_understand_8 rfl ?_
  refine V_aload_n C 0 dX0_understand_9 rfl ?_
  refine V_get C 2 dX0_understand_10 (wo_1 T3 ad _) rfl inKX0 (by decide) flX0_19 rfl rfl ?_
  refine V_iconst C (-1 : Int32) dX0_understand_13 (by decide) ?_
  refine V_icmp_ne C 29 dX0_understand_14 (by decide) (fun q10 => ?_) (fun q10 => ?_)
  · replace h := ite_n q10 h
    refine V_iconst C (0 : Int32) dX0_understand_29 (by decide) ?_
    obtain ⟨M3, hM3, h⟩ := lt_t h
    refine V_put C M3 3 dX0_understand_30 (wo_1 T3 ad _) (ws_1_3 T3 ad _ _) rfl inKX0 tyX0 tyX0_ok nmX0 (by decide) flX0_22 rfl rfl rfl (Nat.le_of_ble_eq_true rfl) hM3 ?_
    refine V_iconst C (0 : Int32) dX0_understand_33 (by decide) ?_
    refine V_istore_n C [(1, .int (0 : Int32)), (0, .ref (ad 1))] dX0_understand_34 rfl (by decide) rfl ?_
    refine V_sub (lv' := [(0, .ref (ad 1)), (1, .int (0 : Int32))]) [1, 0] rfl ?_
    exact vX0_understand_35 C 1000 (0 : Int32) M3 h
  · replace h := ite_p q10 h
    refine V_aload_n C 0 dX0_understand_17 rfl ?_
    refine V_get C 1 dX0_understand_18 (wo_1 T3 ad _) rfl inKX0 (by decide) flX0_15 rfl rfl ?_
    refine V_iconst C (1 : Int32) dX0_understand_21 (by decide) ?_
    refine V_iadd C dX0_understand_22 ?_
    refine V_bipush C (6 : Int32) dX0_understand_23 (by decide) ?_
    refine V_idiv C dX0_understand_25 (by decide) ?_
    refine V_goto C 30 dX0_understand_26 (by decide) ?_
    obtain ⟨M9, hM9, h⟩ := lt_t h
    refine V_put C M9 3 dX0_understand_30 (wo_1 T3 ad _) (ws_1_3 T3 ad _ _) rfl inKX0 tyX0 tyX0_ok nmX0 (by decide) flX0_22 rfl rfl rfl (Nat.le_of_ble_eq_true rfl) hM9 ?_
    refine V_iconst C (0 : Int32) dX0_understand_33 (by decide) ?_
    refine V_istore_n C [(1, .int (0 : Int32)), (0, .ref (ad 1))] dX0_understand_34 rfl (by decide) rfl ?_
    refine V_sub (lv' := [(0, .ref (ad 1)), (1, .int (0 : Int32))]) [1, 0] rfl ?_
    exact vX0_understand_35 C 1000 (0 : Int32) M9 h
abbrev rmX0_addByte : Room := { frames := 7, cells := 0, slots := 0, locals := 155 }
def fX0_addByte (x1 : Int32) (M : Mem) : Option (Bool × Mem) := if (M 1 1) < 0 then some (false, M) else if (M 1 1) < (95 : Int32) then gd (inb (M 1 1) 95) (lt (up M 2 ((M 1 1)).toNatClampNeg x1) fun M1 => lt (up M1 1 1 ((M1 1 1) + (1 : Int32))) fun M3 => bW (fX0_understand M3) fun z4 M5 => some (true, M5)) else some (false, M)
set_option maxHeartbeats 4000000 in
set_option maxRecDepth 100000 in
theorem mX0_addByte (l : Launch) (x1 : Int32) (M : Mem) {r : Bool} {M9 : Mem} (h : fX0_addByte x1 M = some (r, M9)) : MC l yX0_addByte cX0_addByte 2 (some .boolean) rmX0_addByte (fun ad sd => [.ref (ad 1), .int x1]) M (fun _ => some (.int (b2i r))) M9 := by
  refine MC_start (by decide) (fun ad sd => [(0, .ref (ad 1)), (1, .int x1)]) (fun _ _ => rfl) (fun _ _ => Nat.le_of_ble_eq_true rfl) ?_
  intro p e s m args below meth c D T3 ad sd A C
  unfold fX0_addByte at h
  refine V_aload_n C 0 dX0_addByte_0 rfl ?_
  refine V_get C 1 dX0_addByte_1 (wo_1 T3 ad _) rfl inKX0 (by decide) flX0_15 rfl rfl ?_
  refine V_if_lt C 19 dX0_addByte_4 (by decide) (fun q7 => ?_) (fun q7 => ?_)
  · replace h := ite_p q7 h
    refine V_iconst C (0 : Int32) dX0_addByte_19 (by decide) ?_
    obtain ⟨rfl, rfl⟩ := ret_W h
    exact V_zret (x := false) C dX0_addByte_20
  · replace h := ite_n q7 h
    refine V_aload_n C 0 dX0_addByte_7 rfl ?_
    refine V_get C 1 dX0_addByte_8 (wo_1 T3 ad _) rfl inKX0 (by decide) flX0_15 rfl rfl ?_
    refine V_aload_n C 0 dX0_addByte_11 rfl ?_
    refine V_get C 0 dX0_addByte_12 (wo_1 T3 ad _) rfl inKX0 (by decide) flX0_11 rfl rfl ?_
    refine V_alen C (v := (95 : Int32)) rfl rfl dX0_addByte_15 ?_
    refine V_icmp_lt C 21 dX0_addByte_16 (by decide) (fun q6 => ?_) (fun q6 => ?_)
    · replace h := ite_p q6 h
      refine V_aload_n C 0 dX0_addByte_21 rfl ?_
      refine V_get C 0 dX0_addByte_22 (wo_1 T3 ad _) rfl inKX0 (by decide) flX0_11 rfl rfl ?_
      refine V_aload_n C 0 dX0_addByte_25 rfl ?_
      refine V_get C 1 dX0_addByte_26 (wo_1 T3 ad _) rfl inKX0 (by decide) flX0_15 rfl rfl ?_
      refine V_iload_n C 1 dX0_addByte_29 rfl ?_
      obtain ⟨g2, h⟩ := gd_t h
      obtain ⟨M1, hM1, h⟩ := lt_t h
      refine V_iast C M1 rfl rfl (inb_in g2) dX0_addByte_30 hM1 ?_
      refine V_aload_n C 0 dX0_addByte_31 rfl ?_
      refine V_dup C dX0_addByte_32 rfl ?_
      refine V_get C 1 dX0_addByte_33 (wo_1 T3 ad _) rfl inKX0 (by decide) flX0_15 rfl rfl ?_
      refine V_iconst C (1 : Int32) dX0_addByte_36 (by decide) ?_
      refine V_iadd C dX0_addByte_37 ?_
      obtain ⟨M3, hM3, h⟩ := lt_t h
      refine V_put C M3 1 dX0_addByte_38 (wo_1 T3 ad _) (ws_1_1 T3 ad _ _) rfl inKX0 tyX0 tyX0_ok nmX0 (by decide) flX0_15 rfl rfl rfl (Nat.le_of_ble_eq_true rfl) hM3 ?_
      refine V_aload_n C 0 dX0_addByte_41 rfl ?_
      obtain ⟨z4, M5, hz4, h⟩ := bW_t h
      refine V_callV C (st := []) (st' := []) (mX0_understand l M3 hz4) wmX0_understand lkX0_37 dX0_addByte_42 (wo_1 T3 ad _) rfl rfl rfl rfl rfl rfl ⟨rfl, rfl, (Nat.le_of_ble_eq_true rfl), (Nat.le_of_ble_eq_true rfl)⟩ ⟨Nat.zero_le _, Nat.zero_le _⟩ (Nat.le_of_ble_eq_true rfl) ?_
      refine V_iconst C (1 : Int32) dX0_addByte_45 (by decide) ?_
      obtain ⟨rfl, rfl⟩ := ret_W h
      exact V_zret (x := true) C dX0_addByte_46
    · replace h := ite_n q6 h
      refine V_iconst C (0 : Int32) dX0_addByte_19 (by decide) ?_
      obtain ⟨rfl, rfl⟩ := ret_W h
      exact V_zret (x := false) C dX0_addByte_20
abbrev rmX0_cutTo : Room := { frames := 7, cells := 0, slots := 0, locals := 155 }
def fX0_cutTo (x1 : Int32) (M : Mem) : Option (Unit × Mem) := lt (up M 1 1 x1) fun M1 => bW (fX0_understand M1) fun z2 M3 => some ((), M3)
set_option maxHeartbeats 4000000 in
set_option maxRecDepth 100000 in
theorem mX0_cutTo (l : Launch) (x1 : Int32) (M : Mem) {r : Unit} {M9 : Mem} (h : fX0_cutTo x1 M = some (r, M9)) : MC l yX0_cutTo cX0_cutTo 2 none rmX0_cutTo (fun ad sd => [.ref (ad 1), .int x1]) M (fun _ => none) M9 := by
  refine MC_start (by decide) (fun ad sd => [(0, .ref (ad 1)), (1, .int x1)]) (fun _ _ => rfl) (fun _ _ => Nat.le_of_ble_eq_true rfl) ?_
  intro p e s m args below meth c D T3 ad sd A C
  unfold fX0_cutTo at h
  refine V_aload_n C 0 dX0_cutTo_0 rfl ?_
  refine V_iload_n C 1 dX0_cutTo_1 rfl ?_
  obtain ⟨M1, hM1, h⟩ := lt_t h
  refine V_put C M1 1 dX0_cutTo_2 (wo_1 T3 ad _) (ws_1_1 T3 ad _ _) rfl inKX0 tyX0 tyX0_ok nmX0 (by decide) flX0_15 rfl rfl rfl (Nat.le_of_ble_eq_true rfl) hM1 ?_
  refine V_aload_n C 0 dX0_cutTo_5 rfl ?_
  obtain ⟨z2, M3, hz2, h⟩ := bW_t h
  refine V_callV C (st := []) (st' := []) (mX0_understand l M1 hz2) wmX0_understand lkX0_37 dX0_cutTo_6 (wo_1 T3 ad _) rfl rfl rfl rfl rfl rfl ⟨rfl, rfl, (Nat.le_of_ble_eq_true rfl), (Nat.le_of_ble_eq_true rfl)⟩ ⟨Nat.zero_le _, Nat.zero_le _⟩ (Nat.le_of_ble_eq_true rfl) ?_
  obtain ⟨rfl, rfl⟩ := ret_W h
  exact V_vret C dX0_cutTo_9
abbrev rmX0_dropLastChannel : Room := { frames := 8, cells := 0, slots := 0, locals := 176 }
def fX0_dropLastChannel (M : Mem) : Option (Unit × Mem) := bW (fX0_cutTo (mx (0 : Int32) ((((M 1 3) - (1 : Int32)) * (6 : Int32)) - (1 : Int32))) M) fun z1 M2 => some ((), M2)
set_option maxHeartbeats 4000000 in
set_option maxRecDepth 100000 in
theorem mX0_dropLastChannel (l : Launch) (M : Mem) {r : Unit} {M9 : Mem} (h : fX0_dropLastChannel M = some (r, M9)) : MC l yX0_dropLastChannel cX0_dropLastChannel 1 none rmX0_dropLastChannel (fun ad sd => [.ref (ad 1)]) M (fun _ => none) M9 := by
  refine MC_start (by decide) (fun ad sd => [(0, .ref (ad 1))]) (fun _ _ => rfl) (fun _ _ => Nat.le_of_ble_eq_true rfl) ?_
  intro p e s m args below meth c D T3 ad sd A C
  unfold fX0_dropLastChannel at h
  refine V_aload_n C 0 dX0_dropLastChannel_0 rfl ?_
  refine V_iconst C (0 : Int32) dX0_dropLastChannel_1 (by decide) ?_
  refine V_aload_n C 0 dX0_dropLastChannel_2 rfl ?_
  refine V_get C 3 dX0_dropLastChannel_3 (wo_1 T3 ad _) rfl inKX0 (by decide) flX0_22 rfl rfl ?_
  refine V_iconst C (1 : Int32) dX0_dropLastChannel_6 (by decide) ?_
  refine V_isub C dX0_dropLastChannel_7 ?_
  refine V_bipush C (6 : Int32) dX0_dropLastChannel_8 (by decide) ?_
  refine V_imul C dX0_dropLastChannel_10 ?_
  refine V_iconst C (1 : Int32) dX0_dropLastChannel_11 (by decide) ?_
  refine V_isub C dX0_dropLastChannel_12 ?_
  refine V_mmax C dX0_dropLastChannel_13 lkX0_40 wMmax_s wM_i wMmax_c (Nat.le_of_ble_eq_true rfl) (Nat.le_of_ble_eq_true rfl) (Nat.zero_le _) (Nat.zero_le _) ?_
  obtain ⟨z1, M2, hz1, h⟩ := bW_t h
  refine V_callV C (st := []) (st' := []) (mX0_cutTo l (mx (0 : Int32) ((((M 1 3) - (1 : Int32)) * (6 : Int32)) - (1 : Int32))) M hz1) wmX0_cutTo lkX0_46 dX0_dropLastChannel_16 (wo_1 T3 ad _) rfl rfl rfl rfl rfl rfl ⟨rfl, rfl, (Nat.le_of_ble_eq_true rfl), (Nat.le_of_ble_eq_true rfl)⟩ ⟨Nat.zero_le _, Nat.zero_le _⟩ (Nat.le_of_ble_eq_true rfl) ?_
  obtain ⟨rfl, rfl⟩ := ret_W h
  exact V_vret C dX0_dropLastChannel_19
abbrev rmX0_addStorm : Room := { frames := 0, cells := 0, slots := 0, locals := 0 }
def fX0_addStorm (x1 : Int32) (M : Mem) : Option (Bool × Mem) := if (M 1 7) < 0 then some (false, M) else if (M 1 7) < (8 : Int32) then gd (inb (M 1 7) 8) (lt (up M 5 ((M 1 7)).toNatClampNeg x1) fun M1 => lt (up M1 1 7 ((M1 1 7) + (1 : Int32))) fun M3 => some (true, M3)) else some (false, M)
set_option maxHeartbeats 4000000 in
set_option maxRecDepth 100000 in
theorem mX0_addStorm (l : Launch) (x1 : Int32) (M : Mem) {r : Bool} {M9 : Mem} (h : fX0_addStorm x1 M = some (r, M9)) : MC l yX0_addStorm cX0_addStorm 2 (some .boolean) rmX0_addStorm (fun ad sd => [.ref (ad 1), .int x1]) M (fun _ => some (.int (b2i r))) M9 := by
  refine MC_start (by decide) (fun ad sd => [(0, .ref (ad 1)), (1, .int x1)]) (fun _ _ => rfl) (fun _ _ => Nat.le_of_ble_eq_true rfl) ?_
  intro p e s m args below meth c D T3 ad sd A C
  unfold fX0_addStorm at h
  refine V_aload_n C 0 dX0_addStorm_0 rfl ?_
  refine V_get C 7 dX0_addStorm_1 (wo_1 T3 ad _) rfl inKX0 (by decide) flX0_34 rfl rfl ?_
  refine V_if_lt C 19 dX0_addStorm_4 (by decide) (fun q5 => ?_) (fun q5 => ?_)
  · replace h := ite_p q5 h
    refine V_iconst C (0 : Int32) dX0_addStorm_19 (by decide) ?_
    obtain ⟨rfl, rfl⟩ := ret_W h
    exact V_zret (x := false) C dX0_addStorm_20
  · replace h := ite_n q5 h
    refine V_aload_n C 0 dX0_addStorm_7 rfl ?_
    refine V_get C 7 dX0_addStorm_8 (wo_1 T3 ad _) rfl inKX0 (by decide) flX0_34 rfl rfl ?_
    refine V_aload_n C 0 dX0_addStorm_11 rfl ?_
    refine V_get C 6 dX0_addStorm_12 (wo_1 T3 ad _) rfl inKX0 (by decide) flX0_31 rfl rfl ?_
    refine V_alen C (v := (8 : Int32)) rfl rfl dX0_addStorm_15 ?_
    refine V_icmp_lt C 21 dX0_addStorm_16 (by decide) (fun q4 => ?_) (fun q4 => ?_)
    · replace h := ite_p q4 h
      refine V_aload_n C 0 dX0_addStorm_21 rfl ?_
      refine V_get C 6 dX0_addStorm_22 (wo_1 T3 ad _) rfl inKX0 (by decide) flX0_31 rfl rfl ?_
      refine V_aload_n C 0 dX0_addStorm_25 rfl ?_
      refine V_get C 7 dX0_addStorm_26 (wo_1 T3 ad _) rfl inKX0 (by decide) flX0_34 rfl rfl ?_
      refine V_iload_n C 1 dX0_addStorm_29 rfl ?_
      obtain ⟨g2, h⟩ := gd_t h
      obtain ⟨M1, hM1, h⟩ := lt_t h
      refine V_iast C M1 rfl rfl (inb_in g2) dX0_addStorm_30 hM1 ?_
      refine V_aload_n C 0 dX0_addStorm_31 rfl ?_
      refine V_dup C dX0_addStorm_32 rfl ?_
      refine V_get C 7 dX0_addStorm_33 (wo_1 T3 ad _) rfl inKX0 (by decide) flX0_34 rfl rfl ?_
      refine V_iconst C (1 : Int32) dX0_addStorm_36 (by decide) ?_
      refine V_iadd C dX0_addStorm_37 ?_
      obtain ⟨M3, hM3, h⟩ := lt_t h
      refine V_put C M3 7 dX0_addStorm_38 (wo_1 T3 ad _) (ws_1_7 T3 ad _ _) rfl inKX0 tyX0 tyX0_ok nmX0 (by decide) flX0_34 rfl rfl rfl (Nat.le_of_ble_eq_true rfl) hM3 ?_
      refine V_iconst C (1 : Int32) dX0_addStorm_41 (by decide) ?_
      obtain ⟨rfl, rfl⟩ := ret_W h
      exact V_zret (x := true) C dX0_addStorm_42
    · replace h := ite_n q4 h
      refine V_iconst C (0 : Int32) dX0_addStorm_19 (by decide) ?_
      obtain ⟨rfl, rfl⟩ := ret_W h
      exact V_zret (x := false) C dX0_addStorm_20
abbrev rmX0_dropStorm : Room := { frames := 0, cells := 0, slots := 0, locals := 0 }
def fX0_dropStorm (M : Mem) : Option (Bool × Mem) := if (M 1 7) = 0 then some (false, M) else lt (up M 1 7 ((M 1 7) - (1 : Int32))) fun M1 => some (true, M1)
set_option maxHeartbeats 4000000 in
set_option maxRecDepth 100000 in
theorem mX0_dropStorm (l : Launch) (M : Mem) {r : Bool} {M9 : Mem} (h : fX0_dropStorm M = some (r, M9)) : MC l yX0_dropStorm cX0_dropStorm 1 (some .boolean) rmX0_dropStorm (fun ad sd => [.ref (ad 1)]) M (fun _ => some (.int (b2i r))) M9 := by
  refine MC_start (by decide) (fun ad sd => [(0, .ref (ad 1))]) (fun _ _ => rfl) (fun _ _ => Nat.le_of_ble_eq_true rfl) ?_
  intro p e s m args below meth c D T3 ad sd A C
  unfold fX0_dropStorm at h
  refine V_aload_n C 0 dX0_dropStorm_0 rfl ?_
  refine V_get C 7 dX0_dropStorm_1 (wo_1 T3 ad _) rfl inKX0 (by decide) flX0_34 rfl rfl ?_
  refine V_if_ne C 9 dX0_dropStorm_4 (by decide) (fun q2 => ?_) (fun q2 => ?_)
  · replace h := ite_n q2 h
    refine V_aload_n C 0 dX0_dropStorm_9 rfl ?_
    refine V_dup C dX0_dropStorm_10 rfl ?_
    refine V_get C 7 dX0_dropStorm_11 (wo_1 T3 ad _) rfl inKX0 (by decide) flX0_34 rfl rfl ?_
    refine V_iconst C (1 : Int32) dX0_dropStorm_14 (by decide) ?_
    refine V_isub C dX0_dropStorm_15 ?_
    obtain ⟨M1, hM1, h⟩ := lt_t h
    refine V_put C M1 7 dX0_dropStorm_16 (wo_1 T3 ad _) (ws_1_7 T3 ad _ _) rfl inKX0 tyX0 tyX0_ok nmX0 (by decide) flX0_34 rfl rfl rfl (Nat.le_of_ble_eq_true rfl) hM1 ?_
    refine V_iconst C (1 : Int32) dX0_dropStorm_19 (by decide) ?_
    obtain ⟨rfl, rfl⟩ := ret_W h
    exact V_zret (x := true) C dX0_dropStorm_20
  · replace h := ite_p q2 h
    refine V_iconst C (0 : Int32) dX0_dropStorm_7 (by decide) ?_
    obtain ⟨rfl, rfl⟩ := ret_W h
    exact V_zret (x := false) C dX0_dropStorm_8
abbrev rmX0_hasChannel : Room := { frames := 0, cells := 0, slots := 0, locals := 0 }
def fX0_hasChannel (M : Mem) (x1 : Int32) : Bool := if x1 < 0 then false else if (M 1 3) ≤ x1 then false else true
set_option maxHeartbeats 4000000 in
set_option maxRecDepth 100000 in
theorem mX0_hasChannel (l : Launch) (x1 : Int32) (M : Mem) {r : Bool} (h : fX0_hasChannel M x1 = r) : MC l yX0_hasChannel cX0_hasChannel 2 (some .boolean) rmX0_hasChannel (fun ad sd => [.ref (ad 1), .int x1]) M (fun _ => some (.int (b2i r))) M := by
  refine MC_start (by decide) (fun ad sd => [(0, .ref (ad 1)), (1, .int x1)]) (fun _ _ => rfl) (fun _ _ => Nat.le_of_ble_eq_true rfl) ?_
  intro p e s m args below meth c D T3 ad sd A C
  unfold fX0_hasChannel at h
  refine V_iload_n C 1 dX0_hasChannel_0 rfl ?_
  refine V_if_lt C 16 dX0_hasChannel_1 (by decide) (fun q2 => ?_) (fun q2 => ?_)
  · replace h := ite_p q2 h
    refine V_iconst C (0 : Int32) dX0_hasChannel_16 (by decide) ?_
    subst h
    exact V_zret (x := false) C dX0_hasChannel_17
  · replace h := ite_n q2 h
    refine V_iload_n C 1 dX0_hasChannel_4 rfl ?_
    refine V_aload_n C 0 dX0_hasChannel_5 rfl ?_
    refine V_get C 3 dX0_hasChannel_6 (wo_1 T3 ad _) rfl inKX0 (by decide) flX0_22 rfl rfl ?_
    refine V_icmp_ge C 16 dX0_hasChannel_9 (by decide) (fun q1 => ?_) (fun q1 => ?_)
    · replace h := ite_p q1 h
      refine V_iconst C (0 : Int32) dX0_hasChannel_16 (by decide) ?_
      subst h
      exact V_zret (x := false) C dX0_hasChannel_17
    · replace h := ite_n q1 h
      refine V_iconst C (1 : Int32) dX0_hasChannel_12 (by decide) ?_
      refine V_goto C 17 dX0_hasChannel_13 (by decide) ?_
      subst h
      exact V_zret (x := true) C dX0_hasChannel_17
abbrev rmX0_isStormy : Room := { frames := 0, cells := 0, slots := 0, locals := 0 }
def fX0_isStormy_2 (M : Mem) : Nat → Int32 → Int32 → Option Bool
  | 0, _, _ => none
  | n + 1, x1, x2 => if (M 1 7) ≤ x2 then some false else if (8 : Int32) ≤ x2 then some false else gd (inb x2 8) (if (M 5 (x2).toNatClampNeg) = x1 then some true else fX0_isStormy_2 M n x1 (x2 + 1))
def fX0_isStormy (M : Mem) (x1 : Int32) : Option Bool := fX0_isStormy_2 M 1000 x1 (0 : Int32)
set_option maxHeartbeats 4000000 in
set_option maxRecDepth 100000 in
theorem vX0_isStormy_2 {p : Program} {l : Launch} {e : Env} {s : State} {m : MethodId} {args : Array Value} {below : List Frame} {meth : Method} {c : Code} {D : va_G} {T3 : ClassId × ClassId × ClassId} {ad sd : Nat → Nat} {A : Nat → Prop}  (C : CX p s m args meth c cX0_isStormy 3 RX0 (some .boolean) D T3 ad sd A) {r : Bool} (M : Mem) : ∀ (n : Nat) (x1 : Int32) (x2 : Int32), fX0_isStormy_2 M n x1 x2 = some r → VV p l e rmX0_isStormy s m args below meth c D T3 ad A 3 0 0 (QM below D T3 ad A args s (fun _ => some (.int (b2i r))) M) M [(0, .ref (ad 1)), (1, .int x1), (2, .int x2)] 2 [] := by
  intro n
  induction n with
  | zero => intro x1 x2 h; exact nomatch (show (none : Option Bool) = some _ from h)
  | succ n ih =>
    intro x1 x2 h
    rw [fX0_isStormy_2] at h
    refine V_iload_n C 2 dX0_isStormy_2 rfl ?_
    refine V_aload_n C 0 dX0_isStormy_3 rfl ?_
    refine V_get C 7 dX0_isStormy_4 (wo_1 T3 ad _) rfl inKX0 (by decide) flX0_34 rfl rfl ?_
    refine V_icmp_ge C 37 dX0_isStormy_7 (by decide) (fun q4 => ?_) (fun q4 => ?_)
    · replace h := ite_p q4 h
      refine V_iconst C (0 : Int32) dX0_isStormy_37 (by decide) ?_
      obtain rfl := ret_P h
      exact V_zret (x := false) C dX0_isStormy_38
    · replace h := ite_n q4 h
      refine V_iload_n C 2 dX0_isStormy_10 rfl ?_
      refine V_aload_n C 0 dX0_isStormy_11 rfl ?_
      refine V_get C 6 dX0_isStormy_12 (wo_1 T3 ad _) rfl inKX0 (by decide) flX0_31 rfl rfl ?_
      refine V_alen C (v := (8 : Int32)) rfl rfl dX0_isStormy_15 ?_
      refine V_icmp_ge C 37 dX0_isStormy_16 (by decide) (fun q3 => ?_) (fun q3 => ?_)
      · replace h := ite_p q3 h
        refine V_iconst C (0 : Int32) dX0_isStormy_37 (by decide) ?_
        obtain rfl := ret_P h
        exact V_zret (x := false) C dX0_isStormy_38
      · replace h := ite_n q3 h
        refine V_aload_n C 0 dX0_isStormy_19 rfl ?_
        refine V_get C 6 dX0_isStormy_20 (wo_1 T3 ad _) rfl inKX0 (by decide) flX0_31 rfl rfl ?_
        refine V_iload_n C 2 dX0_isStormy_23 rfl ?_
        obtain ⟨g1, h⟩ := gd_t h
        refine V_iald C rfl rfl (inb_in g1) dX0_isStormy_24 ?_
        refine V_iload_n C 1 dX0_isStormy_25 rfl ?_
        refine V_icmp_ne C 31 dX0_isStormy_26 (by decide) (fun q2 => ?_) (fun q2 => ?_)
        · replace h := ite_n q2 h
          refine V_iinc C 2 (x2 + 1) [(2, .int (x2 + 1)), (0, .ref (ad 1)), (1, .int x1)] dX0_isStormy_31 rfl rfl (by decide) rfl ?_
          refine V_goto C 2 dX0_isStormy_34 (by decide) ?_
          refine V_sub (lv' := [(0, .ref (ad 1)), (1, .int x1), (2, .int (x2 + 1))]) [1, 2, 0] rfl ?_
          exact ih x1 (x2 + 1) h
        · replace h := ite_p q2 h
          refine V_iconst C (1 : Int32) dX0_isStormy_29 (by decide) ?_
          obtain rfl := ret_P h
          exact V_zret (x := true) C dX0_isStormy_30
set_option maxHeartbeats 4000000 in
set_option maxRecDepth 100000 in
theorem mX0_isStormy (l : Launch) (x1 : Int32) (M : Mem) {r : Bool} (h : fX0_isStormy M x1 = some r) : MC l yX0_isStormy cX0_isStormy 3 (some .boolean) rmX0_isStormy (fun ad sd => [.ref (ad 1), .int x1]) M (fun _ => some (.int (b2i r))) M := by
  refine MC_start (by decide) (fun ad sd => [(0, .ref (ad 1)), (1, .int x1)]) (fun _ _ => rfl) (fun _ _ => Nat.le_of_ble_eq_true rfl) ?_
  intro p e s m args below meth c D T3 ad sd A C
  unfold fX0_isStormy at h
  refine V_iconst C (0 : Int32) dX0_isStormy_0 (by decide) ?_
  refine V_istore_n C [(2, .int (0 : Int32)), (0, .ref (ad 1)), (1, .int x1)] dX0_isStormy_1 rfl (by decide) rfl ?_
  refine V_sub (lv' := [(0, .ref (ad 1)), (1, .int x1), (2, .int (0 : Int32))]) [1, 2, 0] rfl ?_
  exact vX0_isStormy_2 C M 1000 x1 (0 : Int32) h
abbrev rmX4_shifted : Room := { frames := 0, cells := 0, slots := 0, locals := 0 }
def fX4_shifted (x0 : Int32) (x1 : Int32) (x2 : Int32) (x3 : Int32) (x4 : Bool) : Option Int32 := if x0 = (4 : Int32) then if x4 = true then some ((9 : Int32) - x1) else some x1 else if (1 : Int32) ≤ x2 then gd (decide (¬ x2 = 0)) (if x0 = 0 then some (rmI (x1 + (x3 / x2)) (10 : Int32)) else if x0 = 1 then gd (decide (¬ x2 = 0)) (if (rmI x3 x2) = 0 then some x1 else some (0 : Int32)) else if x0 = 2 then if x1 ≤ (x3 / x2) then some (0 : Int32) else some (x1 - (x3 / x2)) else if x0 = 3 then if (rmI (x3 / x2) (2 : Int32)) = 0 then some x1 else some ((9 : Int32) - x1) else some x1) else some x1
set_option maxHeartbeats 4000000 in
set_option maxRecDepth 100000 in
theorem mX4_shifted (l : Launch) (x0 : Int32) (x1 : Int32) (x2 : Int32) (x3 : Int32) (x4 : Bool) (M : Mem) {r : Int32} (h : fX4_shifted x0 x1 x2 x3 x4 = some r) : MC l yX4_shifted cX4_shifted 6 (some .int) rmX4_shifted (fun ad sd => [.int x0, .int x1, .int x2, .int x3, .int (b2i x4)]) M (fun _ => some (.int r)) M := by
  refine MC_start (by decide) (fun ad sd => [(0, .int x0), (1, .int x1), (2, .int x2), (3, .int x3), (4, .int (b2i x4))]) (fun _ _ => rfl) (fun _ _ => Nat.le_of_ble_eq_true rfl) ?_
  intro p e s m args below meth c D T3 ad sd A C
  unfold fX4_shifted at h
  refine V_iload_n C 0 dX4_shifted_0 rfl ?_
  refine V_iconst C (4 : Int32) dX4_shifted_1 (by decide) ?_
  refine V_icmp_ne C 19 dX4_shifted_2 (by decide) (fun q12 => ?_) (fun q12 => ?_)
  · replace h := ite_n q12 h
    refine V_iload_n C 2 dX4_shifted_19 rfl ?_
    refine V_iconst C (1 : Int32) dX4_shifted_20 (by decide) ?_
    refine V_icmp_ge C 26 dX4_shifted_21 (by decide) (fun q10 => ?_) (fun q10 => ?_)
    · replace h := ite_p q10 h
      refine V_iload_n C 3 dX4_shifted_26 rfl ?_
      refine V_iload_n C 2 dX4_shifted_27 rfl ?_
      obtain ⟨g1, h⟩ := gd_t h
      refine V_idiv C dX4_shifted_28 (of_decide_eq_true g1) ?_
      refine V_istore C [(5, .int (x3 / x2)), (0, .int x0), (1, .int x1), (2, .int x2), (3, .int x3), (4, .int (b2i x4))] dX4_shifted_29 (by decide) rfl ?_
      refine V_iload_n C 1 dX4_shifted_31 rfl ?_
      by_cases q2 : x0 = 0
      · replace h := ite_p q2 h
        refine V_tblI C 64 dX4_shifted_32 (by rw [q2]; decide) (by rw [q2]; decide) (by rw [q2]; rfl) (by decide) ?_
        refine V_iload_n C 2 dX4_shifted_64 rfl ?_
        refine V_iload C 0 dX4_shifted_65 rfl ?_
        refine V_iadd C dX4_shifted_67 ?_
        refine V_bipush C (10 : Int32) dX4_shifted_68 (by decide) ?_
        refine V_irem C dX4_shifted_70 (by decide) ?_
        obtain rfl := ret_P h
        exact V_iret C dX4_shifted_71
      · replace h := ite_n q2 h
        by_cases q3 : x0 = 1
        · replace h := ite_p q3 h
          refine V_tblI C 72 dX4_shifted_32 (by rw [q3]; decide) (by rw [q3]; decide) (by rw [q3]; rfl) (by decide) ?_
          refine V_iload_n C 4 dX4_shifted_72 rfl ?_
          refine V_iload_n C 3 dX4_shifted_73 rfl ?_
          obtain ⟨g8, h⟩ := gd_t h
          refine V_irem C dX4_shifted_74 (of_decide_eq_true g8) ?_
          refine V_if_ne C 82 dX4_shifted_75 (by decide) (fun q9 => ?_) (fun q9 => ?_)
          · replace h := ite_n q9 h
            refine V_iconst C (0 : Int32) dX4_shifted_82 (by decide) ?_
            obtain rfl := ret_P h
            exact V_iret C dX4_shifted_83
          · replace h := ite_p q9 h
            refine V_iload_n C 2 dX4_shifted_78 rfl ?_
            refine V_goto C 83 dX4_shifted_79 (by decide) ?_
            obtain rfl := ret_P h
            exact V_iret C dX4_shifted_83
        · replace h := ite_n q3 h
          by_cases q4 : x0 = 2
          · replace h := ite_p q4 h
            refine V_tblI C 84 dX4_shifted_32 (by rw [q4]; decide) (by rw [q4]; decide) (by rw [q4]; rfl) (by decide) ?_
            refine V_iload C 0 dX4_shifted_84 rfl ?_
            refine V_iload_n C 2 dX4_shifted_86 rfl ?_
            refine V_icmp_ge C 97 dX4_shifted_87 (by decide) (fun q7 => ?_) (fun q7 => ?_)
            · replace h := ite_p q7 h
              refine V_iconst C (0 : Int32) dX4_shifted_97 (by decide) ?_
              obtain rfl := ret_P h
              exact V_iret C dX4_shifted_98
            · replace h := ite_n q7 h
              refine V_iload_n C 2 dX4_shifted_90 rfl ?_
              refine V_iload C 0 dX4_shifted_91 rfl ?_
              refine V_isub C dX4_shifted_93 ?_
              refine V_goto C 98 dX4_shifted_94 (by decide) ?_
              obtain rfl := ret_P h
              exact V_iret C dX4_shifted_98
          · replace h := ite_n q4 h
            by_cases q5 : x0 = 3
            · replace h := ite_p q5 h
              refine V_tblI C 99 dX4_shifted_32 (by rw [q5]; decide) (by rw [q5]; decide) (by rw [q5]; rfl) (by decide) ?_
              refine V_iload C 0 dX4_shifted_99 rfl ?_
              refine V_iconst C (2 : Int32) dX4_shifted_101 (by decide) ?_
              refine V_irem C dX4_shifted_102 (by decide) ?_
              refine V_if_ne C 110 dX4_shifted_103 (by decide) (fun q6 => ?_) (fun q6 => ?_)
              · replace h := ite_n q6 h
                refine V_bipush C (9 : Int32) dX4_shifted_110 (by decide) ?_
                refine V_iload_n C 2 dX4_shifted_112 rfl ?_
                refine V_isub C dX4_shifted_113 ?_
                obtain rfl := ret_P h
                exact V_iret C dX4_shifted_114
              · replace h := ite_p q6 h
                refine V_iload_n C 2 dX4_shifted_106 rfl ?_
                refine V_goto C 114 dX4_shifted_107 (by decide) ?_
                obtain rfl := ret_P h
                exact V_iret C dX4_shifted_114
            · replace h := ite_n q5 h
              refine V_tblO C 115 dX4_shifted_32 (tbl_out (fun k h1 h2 => by
                rcases (show k = 0 ∨ k = 1 ∨ k = 2 ∨ k = 3 by omega) with rfl | rfl | rfl | rfl
                · exact q2
                · exact q3
                · exact q4
                · exact q5
                )) (by decide) ?_
              refine V_iload_n C 2 dX4_shifted_115 rfl ?_
              obtain rfl := ret_P h
              exact V_iret C dX4_shifted_116
    · replace h := ite_n q10 h
      refine V_iload_n C 1 dX4_shifted_24 rfl ?_
      obtain rfl := ret_P h
      exact V_iret C dX4_shifted_25
  · replace h := ite_p q12 h
    refine V_iload C 4 dX4_shifted_5 rfl ?_
    refine V_ifB_eq C 17 dX4_shifted_7 (by decide) (fun q11 => ?_) (fun q11 => ?_)
    · replace h := ite_n q11 h
      refine V_iload_n C 1 dX4_shifted_17 rfl ?_
      obtain rfl := ret_P h
      exact V_iret C dX4_shifted_18
    · replace h := ite_p q11 h
      refine V_bipush C (9 : Int32) dX4_shifted_10 (by decide) ?_
      refine V_iload_n C 1 dX4_shifted_12 rfl ?_
      refine V_isub C dX4_shifted_13 ?_
      refine V_goto C 18 dX4_shifted_14 (by decide) ?_
      obtain rfl := ret_P h
      exact V_iret C dX4_shifted_18
abbrev rmX0_depth : Room := { frames := 1, cells := 0, slots := 0, locals := 25 }
def fX0_depth (M : Mem) (x1 : Int32) (x2 : Int32) (x3 : Bool) : Option Int32 := bP (fX0_fact M x1 (3 : Int32)) fun z1 => bP (fX0_fact M x1 (2 : Int32)) fun z2 => bP (fX0_fact M x1 (4 : Int32)) fun z3 => bP (fX4_shifted z1 z2 z3 x2 x3) fun z4 => some z4
set_option maxHeartbeats 4000000 in
set_option maxRecDepth 100000 in
theorem mX0_depth (l : Launch) (x1 : Int32) (x2 : Int32) (x3 : Bool) (M : Mem) {r : Int32} (h : fX0_depth M x1 x2 x3 = some r) : MC l yX0_depth cX0_depth 4 (some .int) rmX0_depth (fun ad sd => [.ref (ad 1), .int x1, .int x2, .int (b2i x3)]) M (fun _ => some (.int r)) M := by
  refine MC_start (by decide) (fun ad sd => [(0, .ref (ad 1)), (1, .int x1), (2, .int x2), (3, .int (b2i x3))]) (fun _ _ => rfl) (fun _ _ => Nat.le_of_ble_eq_true rfl) ?_
  intro p e s m args below meth c D T3 ad sd A C
  unfold fX0_depth at h
  refine V_aload_n C 0 dX0_depth_0 rfl ?_
  refine V_iload_n C 1 dX0_depth_1 rfl ?_
  refine V_iconst C (3 : Int32) dX0_depth_2 (by decide) ?_
  obtain ⟨z1, hz1, h⟩ := bP_t h
  refine V_callV C (st := []) (st' := [.int z1]) (mX0_fact l x1 (3 : Int32) M hz1) wmX0_fact lkX0_80 dX0_depth_3 (wo_1 T3 ad _) rfl rfl rfl rfl rfl rfl ⟨rfl, rfl, (Nat.le_of_ble_eq_true rfl), (Nat.le_of_ble_eq_true rfl)⟩ ⟨Nat.zero_le _, Nat.zero_le _⟩ (Nat.le_of_ble_eq_true rfl) ?_
  refine V_aload_n C 0 dX0_depth_6 rfl ?_
  refine V_iload_n C 1 dX0_depth_7 rfl ?_
  refine V_iconst C (2 : Int32) dX0_depth_8 (by decide) ?_
  obtain ⟨z2, hz2, h⟩ := bP_t h
  refine V_callV C (st := [.int z1]) (st' := [.int z2, .int z1]) (mX0_fact l x1 (2 : Int32) M hz2) wmX0_fact lkX0_80 dX0_depth_9 (wo_1 T3 ad _) rfl rfl rfl rfl rfl rfl ⟨rfl, rfl, (Nat.le_of_ble_eq_true rfl), (Nat.le_of_ble_eq_true rfl)⟩ ⟨Nat.zero_le _, Nat.zero_le _⟩ (Nat.le_of_ble_eq_true rfl) ?_
  refine V_aload_n C 0 dX0_depth_12 rfl ?_
  refine V_iload_n C 1 dX0_depth_13 rfl ?_
  refine V_iconst C (4 : Int32) dX0_depth_14 (by decide) ?_
  obtain ⟨z3, hz3, h⟩ := bP_t h
  refine V_callV C (st := [.int z2, .int z1]) (st' := [.int z3, .int z2, .int z1]) (mX0_fact l x1 (4 : Int32) M hz3) wmX0_fact lkX0_80 dX0_depth_15 (wo_1 T3 ad _) rfl rfl rfl rfl rfl rfl ⟨rfl, rfl, (Nat.le_of_ble_eq_true rfl), (Nat.le_of_ble_eq_true rfl)⟩ ⟨Nat.zero_le _, Nat.zero_le _⟩ (Nat.le_of_ble_eq_true rfl) ?_
  refine V_iload_n C 2 dX0_depth_18 rfl ?_
  refine V_iload_n C 3 dX0_depth_19 rfl ?_
  obtain ⟨z4, hz4, h⟩ := bP_t h
  refine V_callSN C (st := []) (st' := [.int z4]) (mX4_shifted l z1 z2 z3 x2 x3 M hz4) wmX4_shifted lkX0_83 dX0_depth_20 rfl rfl rfl ⟨rfl, rfl, (Nat.le_of_ble_eq_true rfl), (Nat.le_of_ble_eq_true rfl)⟩ ⟨Nat.zero_le _, Nat.zero_le _⟩ (Nat.le_of_ble_eq_true rfl) ?_
  obtain rfl := ret_P h
  exact V_iret C dX0_depth_23
abbrev rmX0_fill : Room := { frames := 2, cells := 0, slots := 0, locals := 48 }
def fX0_fill_3 (r1 : Nat) : Nat → Int32 → Bool → Int32 → Mem → Option (Unit × Mem)
  | 0, _, _, _, _ => none
  | n + 1, x2, x3, x4, M => if (M 1 3) ≤ x4 then some ((), M) else if (nI (aln r1)) ≤ x4 then some ((), M) else bP (fX0_depth M x4 x2 x3) fun z1 => gd (inb x4 (aln r1)) (lt (up M r1 (x4).toNatClampNeg z1) fun M2 => fX0_fill_3 r1 n x2 x3 (x4 + 1) M2)
def fX0_fill (r1 : Nat) (x2 : Int32) (x3 : Bool) (M : Mem) : Option (Unit × Mem) := fX0_fill_3 r1 1000 x2 x3 (0 : Int32) M
set_option maxHeartbeats 4000000 in
set_option maxRecDepth 100000 in
theorem vX0_fill_3 {p : Program} {l : Launch} {e : Env} {s : State} {m : MethodId} {args : Array Value} {below : List Frame} {meth : Method} {c : Code} {D : va_G} {T3 : ClassId × ClassId × ClassId} {ad sd : Nat → Nat} {A : Nat → Prop}  (C : CX p s m args meth c cX0_fill 5 RX0 none D T3 ad sd A) {r : Unit} {M9 : Mem} (r1 : Nat) (gr1 : isA r1 = true) : ∀ (n : Nat) (x2 : Int32) (x3 : Bool) (x4 : Int32) (M : Mem), fX0_fill_3 r1 n x2 x3 x4 M = some (r, M9) → VV p l e rmX0_fill s m args below meth c D T3 ad A 5 0 0 (QM below D T3 ad A args s (fun _ => none) M9) M [(0, .ref (ad 1)), (1, .ref (ad r1)), (2, .int x2), (3, .int (b2i x3)), (4, .int x4)] 3 [] := by
  intro n
  induction n with
  | zero => intro x2 x3 x4 M h; exact nomatch (show (none : Option (Unit × Mem)) = some _ from h)
  | succ n ih =>
    intro x2 x3 x4 M h
    rw [fX0_fill_3] at h
    refine V_iload C 4 dX0_fill_3 rfl ?_
    refine V_aload_n C 0 dX0_fill_5 rfl ?_
    refine V_get C 3 dX0_fill_6 (wo_1 T3 ad _) rfl inKX0 (by decide) flX0_22 rfl rfl ?_
    refine V_icmp_ge C 37 dX0_fill_9 (by decide) (fun q5 => ?_) (fun q5 => ?_)
    · replace h := ite_p q5 h
      obtain ⟨rfl, rfl⟩ := ret_W h
      exact V_vret C dX0_fill_37
    · replace h := ite_n q5 h
      refine V_iload C 4 dX0_fill_12 rfl ?_
      refine V_aload_n C 1 dX0_fill_14 rfl ?_
      refine V_alen C (v := (nI (aln r1))) gr1 rfl dX0_fill_15 ?_
      refine V_icmp_ge C 37 dX0_fill_16 (by decide) (fun q4 => ?_) (fun q4 => ?_)
      · replace h := ite_p q4 h
        obtain ⟨rfl, rfl⟩ := ret_W h
        exact V_vret C dX0_fill_37
      · replace h := ite_n q4 h
        refine V_aload_n C 1 dX0_fill_19 rfl ?_
        refine V_iload C 4 dX0_fill_20 rfl ?_
        refine V_aload_n C 0 dX0_fill_22 rfl ?_
        refine V_iload C 4 dX0_fill_23 rfl ?_
        refine V_iload_n C 2 dX0_fill_25 rfl ?_
        refine V_iload_n C 3 dX0_fill_26 rfl ?_
        obtain ⟨z1, hz1, h⟩ := bP_t h
        refine V_callV C (st := [.int x4, .ref (ad r1)]) (st' := [.int z1, .int x4, .ref (ad r1)]) (mX0_depth l x4 x2 x3 M hz1) wmX0_depth lkX0_87 dX0_fill_27 (wo_1 T3 ad _) rfl rfl rfl rfl rfl rfl ⟨rfl, rfl, (Nat.le_of_ble_eq_true rfl), (Nat.le_of_ble_eq_true rfl)⟩ ⟨Nat.zero_le _, Nat.zero_le _⟩ (Nat.le_of_ble_eq_true rfl) ?_
        obtain ⟨g3, h⟩ := gd_t h
        obtain ⟨M2, hM2, h⟩ := lt_t h
        refine V_iast C M2 gr1 rfl (inb_in g3) dX0_fill_30 hM2 ?_
        refine V_iinc C 4 (x4 + 1) [(4, .int (x4 + 1)), (0, .ref (ad 1)), (1, .ref (ad r1)), (2, .int x2), (3, .int (b2i x3))] dX0_fill_31 rfl rfl (by decide) rfl ?_
        refine V_goto C 3 dX0_fill_34 (by decide) ?_
        refine V_sub (lv' := [(0, .ref (ad 1)), (1, .ref (ad r1)), (2, .int x2), (3, .int (b2i x3)), (4, .int (x4 + 1))]) [1, 2, 3, 4, 0] rfl ?_
        exact ih x2 x3 (x4 + 1) M2 h
set_option maxHeartbeats 4000000 in
set_option maxRecDepth 100000 in
theorem mX0_fill (l : Launch) (r1 : Nat) (gr1 : isA r1 = true) (x2 : Int32) (x3 : Bool) (M : Mem) {r : Unit} {M9 : Mem} (h : fX0_fill r1 x2 x3 M = some (r, M9)) : MC l yX0_fill cX0_fill 5 none rmX0_fill (fun ad sd => [.ref (ad 1), .ref (ad r1), .int x2, .int (b2i x3)]) M (fun _ => none) M9 := by
  refine MC_start (by decide) (fun ad sd => [(0, .ref (ad 1)), (1, .ref (ad r1)), (2, .int x2), (3, .int (b2i x3))]) (fun _ _ => rfl) (fun _ _ => Nat.le_of_ble_eq_true rfl) ?_
  intro p e s m args below meth c D T3 ad sd A C
  unfold fX0_fill at h
  refine V_iconst C (0 : Int32) dX0_fill_0 (by decide) ?_
  refine V_istore C [(4, .int (0 : Int32)), (0, .ref (ad 1)), (1, .ref (ad r1)), (2, .int x2), (3, .int (b2i x3))] dX0_fill_1 (by decide) rfl ?_
  refine V_sub (lv' := [(0, .ref (ad 1)), (1, .ref (ad r1)), (2, .int x2), (3, .int (b2i x3)), (4, .int (0 : Int32))]) [1, 2, 3, 4, 0] rfl ?_
  exact vX0_fill_3 C r1 gr1 1000 x2 x3 (0 : Int32) M h
abbrev rmJ7_fill_53178 : Room := { frames := 0, cells := 0, slots := 0, locals := 0 }
def fJ7_fill_53178_5 (r0 : Nat) : Nat → Int32 → Int32 → Int32 → Mem → Option (Unit × Mem)
  | 0, _, _, _, _ => none
  | n + 1, x1, x2, x3, M => if x3 ≤ x2 then some ((), M) else gd (inb x2 (aln r0)) (lt (up M r0 (x2).toNatClampNeg x1) fun M1 => fJ7_fill_53178_5 r0 n x1 (x2 + 1) x3 M1)
def fJ7_fill_53178 (r0 : Nat) (x1 : Int32) (M : Mem) : Option (Unit × Mem) := fJ7_fill_53178_5 r0 1000 x1 (0 : Int32) (nI (aln r0)) M
set_option maxHeartbeats 4000000 in
set_option maxRecDepth 100000 in
theorem vJ7_fill_53178_5 {p : Program} {l : Launch} {e : Env} {s : State} {m : MethodId} {args : Array Value} {below : List Frame} {meth : Method} {c : Code} {D : va_G} {T3 : ClassId × ClassId × ClassId} {ad sd : Nat → Nat} {A : Nat → Prop}  (C : CX p s m args meth c cJ7_fill_53178 4 RJ7 none D T3 ad sd A) {r : Unit} {M9 : Mem} (r0 : Nat) (gr0 : isA r0 = true) : ∀ (n : Nat) (x1 : Int32) (x2 : Int32) (x3 : Int32) (M : Mem), fJ7_fill_53178_5 r0 n x1 x2 x3 M = some (r, M9) → VV p l e rmJ7_fill_53178 s m args below meth c D T3 ad A 4 0 0 (QM below D T3 ad A args s (fun _ => none) M9) M [(0, .ref (ad r0)), (1, .int x1), (2, .int x2), (3, .int x3)] 5 [] := by
  intro n
  induction n with
  | zero => intro x1 x2 x3 M h; exact nomatch (show (none : Option (Unit × Mem)) = some _ from h)
  | succ n ih =>
    intro x1 x2 x3 M h
    rw [fJ7_fill_53178_5] at h
    refine V_iload_n C 2 dJ7_fill_53178_5 rfl ?_
    refine V_iload_n C 3 dJ7_fill_53178_6 rfl ?_
    refine V_icmp_ge C 20 dJ7_fill_53178_7 (by decide) (fun q3 => ?_) (fun q3 => ?_)
    · replace h := ite_p q3 h
      obtain ⟨rfl, rfl⟩ := ret_W h
      exact V_vret C dJ7_fill_53178_20
    · replace h := ite_n q3 h
      refine V_aload_n C 0 dJ7_fill_53178_10 rfl ?_
      refine V_iload_n C 2 dJ7_fill_53178_11 rfl ?_
      refine V_iload_n C 1 dJ7_fill_53178_12 rfl ?_
      obtain ⟨g2, h⟩ := gd_t h
      obtain ⟨M1, hM1, h⟩ := lt_t h
      refine V_iast C M1 gr0 rfl (inb_in g2) dJ7_fill_53178_13 hM1 ?_
      refine V_iinc C 2 (x2 + 1) [(2, .int (x2 + 1)), (0, .ref (ad r0)), (1, .int x1), (3, .int x3)] dJ7_fill_53178_14 rfl rfl (by decide) rfl ?_
      refine V_goto C 5 dJ7_fill_53178_17 (by decide) ?_
      refine V_sub (lv' := [(0, .ref (ad r0)), (1, .int x1), (2, .int (x2 + 1)), (3, .int x3)]) [1, 2, 0, 3] rfl ?_
      exact ih x1 (x2 + 1) x3 M1 h
set_option maxHeartbeats 4000000 in
set_option maxRecDepth 100000 in
theorem mJ7_fill_53178 (l : Launch) (r0 : Nat) (gr0 : isA r0 = true) (x1 : Int32) (M : Mem) {r : Unit} {M9 : Mem} (h : fJ7_fill_53178 r0 x1 M = some (r, M9)) : MC l yJ7_fill_53178 cJ7_fill_53178 4 none rmJ7_fill_53178 (fun ad sd => [.ref (ad r0), .int x1]) M (fun _ => none) M9 := by
  refine MC_start (by decide) (fun ad sd => [(0, .ref (ad r0)), (1, .int x1)]) (fun _ _ => rfl) (fun _ _ => Nat.le_of_ble_eq_true rfl) ?_
  intro p e s m args below meth c D T3 ad sd A C
  unfold fJ7_fill_53178 at h
  refine V_iconst C (0 : Int32) dJ7_fill_53178_0 (by decide) ?_
  refine V_istore_n C [(2, .int (0 : Int32)), (0, .ref (ad r0)), (1, .int x1)] dJ7_fill_53178_1 rfl (by decide) rfl ?_
  refine V_aload_n C 1 dJ7_fill_53178_2 rfl ?_
  refine V_alen C (v := (nI (aln r0))) gr0 rfl dJ7_fill_53178_3 ?_
  refine V_istore_n C [(3, .int (nI (aln r0))), (2, .int (0 : Int32)), (0, .ref (ad r0)), (1, .int x1)] dJ7_fill_53178_4 rfl (by decide) rfl ?_
  refine V_sub (lv' := [(0, .ref (ad r0)), (1, .int x1), (2, .int (0 : Int32)), (3, .int (nI (aln r0)))]) [2, 3, 1, 0] rfl ?_
  exact vJ7_fill_53178_5 C r0 gr0 1000 x1 (0 : Int32) (nI (aln r0)) M h
abbrev rmX1_tally : Room := { frames := 1, cells := 0, slots := 0, locals := 23 }
def fX1_tally_20 (r2 : Nat) : Nat → Int32 → Int32 → Mem → Option (Int32 × Mem)
  | 0, _, _, _ => none
  | n + 1, x3, x4, M => if (M 1 3) ≤ x4 then bP (fX4_itemOf M 13 (0 : Int32)) fun z5 => some (z5, M) else bP (fX4_itemOf M 4 x4) fun z6 => bP (fX4_itemOf M r2 z6) fun z7 => if x3 ≤ z7 then bP (fX0_fact M z6 (0 : Int32)) fun z8 => bP (fX4_itemOf M 13 z8) fun z9 => bP (fX0_fact M z6 (1 : Int32)) fun z10 => bP (fX4_itemOf M 13 z10) fun z11 => bW (fX4_putInto 13 z8 (z9 + z11) M) fun z12 M13 => fX1_tally_20 r2 n x3 (x4 + 1) M13 else fX1_tally_20 r2 n x3 (x4 + 1) M
def fX1_tally (r2 : Nat) (x3 : Int32) (M : Mem) : Option (Int32 × Mem) := bW (fJ7_fill_53178 13 (0 : Int32) M) fun z1 M2 => bW (fX4_putInto 13 (5 : Int32) (1 : Int32) M2) fun z3 M4 => fX1_tally_20 r2 1000 x3 (0 : Int32) M4
set_option maxHeartbeats 4000000 in
set_option maxRecDepth 100000 in
theorem vX1_tally_20 {p : Program} {l : Launch} {e : Env} {s : State} {m : MethodId} {args : Array Value} {below : List Frame} {meth : Method} {c : Code} {D : va_G} {T3 : ClassId × ClassId × ClassId} {ad sd : Nat → Nat} {A : Nat → Prop}  (C : CX p s m args meth c cX1_tally 7 RX1 (some .int) D T3 ad sd A) {r : Int32} {M9 : Mem} (r2 : Nat) (gr2 : isA r2 = true) : ∀ (n : Nat) (x3 : Int32) (x4 : Int32) (M : Mem), fX1_tally_20 r2 n x3 x4 M = some (r, M9) → VV p l e rmX1_tally s m args below meth c D T3 ad A 7 0 0 (QM below D T3 ad A args s (fun _ => some (.int r)) M9) M [(0, .ref (ad 11)), (1, .ref (ad 1)), (2, .ref (ad r2)), (3, .int x3), (4, .int x4)] 20 [] := by
  intro n
  induction n with
  | zero => intro x3 x4 M h; exact nomatch (show (none : Option (Int32 × Mem)) = some _ from h)
  | succ n ih =>
    intro x3 x4 M h
    rw [fX1_tally_20] at h
    refine V_iload C 4 dX1_tally_20 rfl ?_
    refine V_aload_n C 1 dX1_tally_22 rfl ?_
    refine V_getN C 3 dX1_tally_23 (wo_1 T3 ad _) rfl inKX0 (by decide) flX1_35 rfl rfl ?_
    refine V_icmp_ge C 101 dX1_tally_26 (by decide) (fun q15 => ?_) (fun q15 => ?_)
    · replace h := ite_p q15 h
      refine V_aload_n C 0 dX1_tally_101 rfl ?_
      refine V_get C 1 dX1_tally_102 (wo_11 T3 ad _) rfl inKX1 (by decide) flX1_15 rfl rfl ?_
      refine V_iconst C (0 : Int32) dX1_tally_105 (by decide) ?_
      obtain ⟨z5, hz5, h⟩ := bP_t h
      refine V_callSN C (st := []) (st' := [.int z5]) (mX4_itemOf l 13 rfl (0 : Int32) M hz5) wmX4_itemOf lkX1_43 dX1_tally_106 rfl rfl rfl ⟨rfl, rfl, (Nat.le_of_ble_eq_true rfl), (Nat.le_of_ble_eq_true rfl)⟩ ⟨Nat.zero_le _, Nat.zero_le _⟩ (Nat.le_of_ble_eq_true rfl) ?_
      obtain ⟨rfl, rfl⟩ := ret_W h
      exact V_iret C dX1_tally_109
    · replace h := ite_n q15 h
      refine V_aload_n C 1 dX1_tally_29 rfl ?_
      refine V_getN C 5 dX1_tally_30 (wo_1 T3 ad _) rfl inKX0 (by decide) flX1_40 rfl rfl ?_
      refine V_iload C 4 dX1_tally_33 rfl ?_
      obtain ⟨z6, hz6, h⟩ := bP_t h
      refine V_callSN C (st := []) (st' := [.int z6]) (mX4_itemOf l 4 rfl x4 M hz6) wmX4_itemOf lkX1_43 dX1_tally_35 rfl rfl rfl ⟨rfl, rfl, (Nat.le_of_ble_eq_true rfl), (Nat.le_of_ble_eq_true rfl)⟩ ⟨Nat.zero_le _, Nat.zero_le _⟩ (Nat.le_of_ble_eq_true rfl) ?_
      refine V_istore C [(5, .int z6), (0, .ref (ad 11)), (1, .ref (ad 1)), (2, .ref (ad r2)), (3, .int x3), (4, .int x4)] dX1_tally_38 (by decide) rfl ?_
      refine V_aload_n C 3 dX1_tally_40 rfl ?_
      refine V_iload C 0 dX1_tally_41 rfl ?_
      obtain ⟨z7, hz7, h⟩ := bP_t h
      refine V_callSN C (st := []) (st' := [.int z7]) (mX4_itemOf l r2 gr2 z6 M hz7) wmX4_itemOf lkX1_43 dX1_tally_43 rfl rfl rfl ⟨rfl, rfl, (Nat.le_of_ble_eq_true rfl), (Nat.le_of_ble_eq_true rfl)⟩ ⟨Nat.zero_le _, Nat.zero_le _⟩ (Nat.le_of_ble_eq_true rfl) ?_
      refine V_iload_n C 4 dX1_tally_46 rfl ?_
      refine V_icmp_ge C 53 dX1_tally_47 (by decide) (fun q14 => ?_) (fun q14 => ?_)
      · replace h := ite_p q14 h
        refine V_aload_n C 2 dX1_tally_53 rfl ?_
        refine V_iload C 0 dX1_tally_54 rfl ?_
        refine V_iconst C (0 : Int32) dX1_tally_56 (by decide) ?_
        obtain ⟨z8, hz8, h⟩ := bP_t h
        refine V_callV C (st := []) (st' := [.int z8]) (mX0_fact l z6 (0 : Int32) M hz8) wmX0_fact lkX1_47 dX1_tally_57 (wo_1 T3 ad _) rfl rfl rfl rfl rfl rfl ⟨rfl, rfl, (Nat.le_of_ble_eq_true rfl), (Nat.le_of_ble_eq_true rfl)⟩ ⟨Nat.zero_le _, Nat.zero_le _⟩ (Nat.le_of_ble_eq_true rfl) ?_
        refine V_istore C [(6, .int z8), (5, .int z6), (0, .ref (ad 11)), (1, .ref (ad 1)), (2, .ref (ad r2)), (3, .int x3), (4, .int x4)] dX1_tally_60 (by decide) rfl ?_
        refine V_aload_n C 2 dX1_tally_62 rfl ?_
        refine V_get C 1 dX1_tally_63 (wo_11 T3 ad _) rfl inKX1 (by decide) flX1_15 rfl rfl ?_
        refine V_iload C 0 dX1_tally_66 rfl ?_
        refine V_aload_n C 2 dX1_tally_68 rfl ?_
        refine V_get C 1 dX1_tally_69 (wo_11 T3 ad _) rfl inKX1 (by decide) flX1_15 rfl rfl ?_
        refine V_iload C 0 dX1_tally_72 rfl ?_
        obtain ⟨z9, hz9, h⟩ := bP_t h
        refine V_callSN C (st := [.int z8, .ref (ad 13)]) (st' := [.int z9, .int z8, .ref (ad 13)]) (mX4_itemOf l 13 rfl z8 M hz9) wmX4_itemOf lkX1_43 dX1_tally_74 rfl rfl rfl ⟨rfl, rfl, (Nat.le_of_ble_eq_true rfl), (Nat.le_of_ble_eq_true rfl)⟩ ⟨Nat.zero_le _, Nat.zero_le _⟩ (Nat.le_of_ble_eq_true rfl) ?_
        refine V_aload_n C 2 dX1_tally_77 rfl ?_
        refine V_get C 1 dX1_tally_78 (wo_11 T3 ad _) rfl inKX1 (by decide) flX1_15 rfl rfl ?_
        refine V_aload_n C 3 dX1_tally_81 rfl ?_
        refine V_iload C 1 dX1_tally_82 rfl ?_
        refine V_iconst C (1 : Int32) dX1_tally_84 (by decide) ?_
        obtain ⟨z10, hz10, h⟩ := bP_t h
        refine V_callV C (st := [.ref (ad 13), .int z9, .int z8, .ref (ad 13)]) (st' := [.int z10, .ref (ad 13), .int z9, .int z8, .ref (ad 13)]) (mX0_fact l z6 (1 : Int32) M hz10) wmX0_fact lkX1_47 dX1_tally_85 (wo_1 T3 ad _) rfl rfl rfl rfl rfl rfl ⟨rfl, rfl, (Nat.le_of_ble_eq_true rfl), (Nat.le_of_ble_eq_true rfl)⟩ ⟨Nat.zero_le _, Nat.zero_le _⟩ (Nat.le_of_ble_eq_true rfl) ?_
        obtain ⟨z11, hz11, h⟩ := bP_t h
        refine V_callSN C (st := [.int z9, .int z8, .ref (ad 13)]) (st' := [.int z11, .int z9, .int z8, .ref (ad 13)]) (mX4_itemOf l 13 rfl z10 M hz11) wmX4_itemOf lkX1_43 dX1_tally_88 rfl rfl rfl ⟨rfl, rfl, (Nat.le_of_ble_eq_true rfl), (Nat.le_of_ble_eq_true rfl)⟩ ⟨Nat.zero_le _, Nat.zero_le _⟩ (Nat.le_of_ble_eq_true rfl) ?_
        refine V_iadd C dX1_tally_91 ?_
        obtain ⟨z12, M13, hz12, h⟩ := bW_t h
        refine V_callSN C (st := []) (st' := []) (mX4_putInto l 13 rfl z8 (z9 + z11) M hz12) wmX4_putInto lkX1_31 dX1_tally_92 rfl rfl rfl ⟨rfl, rfl, (Nat.le_of_ble_eq_true rfl), (Nat.le_of_ble_eq_true rfl)⟩ ⟨Nat.zero_le _, Nat.zero_le _⟩ (Nat.le_of_ble_eq_true rfl) ?_
        refine V_iinc C 6 (x4 + 1) [(4, .int (x4 + 1)), (6, .int z8), (5, .int z6), (0, .ref (ad 11)), (1, .ref (ad 1)), (2, .ref (ad r2)), (3, .int x3)] dX1_tally_95 rfl rfl (by decide) rfl ?_
        refine V_goto C 20 dX1_tally_98 (by decide) ?_
        refine V_sub (lv' := [(0, .ref (ad 11)), (1, .ref (ad 1)), (2, .ref (ad r2)), (3, .int x3), (4, .int (x4 + 1))]) [3, 4, 5, 6, 0] rfl ?_
        exact ih x3 (x4 + 1) M13 h
      · replace h := ite_n q14 h
        refine V_goto C 95 dX1_tally_50 (by decide) ?_
        refine V_iinc C 5 (x4 + 1) [(4, .int (x4 + 1)), (5, .int z6), (0, .ref (ad 11)), (1, .ref (ad 1)), (2, .ref (ad r2)), (3, .int x3)] dX1_tally_95 rfl rfl (by decide) rfl ?_
        refine V_goto C 20 dX1_tally_98 (by decide) ?_
        refine V_sub (lv' := [(0, .ref (ad 11)), (1, .ref (ad 1)), (2, .ref (ad r2)), (3, .int x3), (4, .int (x4 + 1))]) [2, 3, 4, 5, 0] rfl ?_
        exact ih x3 (x4 + 1) M h
set_option maxHeartbeats 4000000 in
set_option maxRecDepth 100000 in
theorem mX1_tally (l : Launch) (r2 : Nat) (gr2 : isA r2 = true) (x3 : Int32) (M : Mem) {r : Int32} {M9 : Mem} (h : fX1_tally r2 x3 M = some (r, M9)) : MC l yX1_tally cX1_tally 7 (some .int) rmX1_tally (fun ad sd => [.ref (ad 11), .ref (ad 1), .ref (ad r2), .int x3]) M (fun _ => some (.int r)) M9 := by
  refine MC_start (by decide) (fun ad sd => [(0, .ref (ad 11)), (1, .ref (ad 1)), (2, .ref (ad r2)), (3, .int x3)]) (fun _ _ => rfl) (fun _ _ => Nat.le_of_ble_eq_true rfl) ?_
  intro p e s m args below meth c D T3 ad sd A C
  unfold fX1_tally at h
  refine V_aload_n C 0 dX1_tally_0 rfl ?_
  refine V_get C 1 dX1_tally_1 (wo_11 T3 ad _) rfl inKX1 (by decide) flX1_15 rfl rfl ?_
  refine V_iconst C (0 : Int32) dX1_tally_4 (by decide) ?_
  obtain ⟨z1, M2, hz1, h⟩ := bW_t h
  refine V_callS C (st := []) (st' := []) (mJ7_fill_53178 l 13 rfl (0 : Int32) M hz1) wmJ7_fill_53178 lkX1_25 dX1_tally_5 rfl rfl rfl ⟨rfl, rfl, (Nat.le_of_ble_eq_true rfl), (Nat.le_of_ble_eq_true rfl)⟩ ⟨Nat.zero_le _, Nat.zero_le _⟩ (Nat.le_of_ble_eq_true rfl) ?_
  refine V_aload_n C 0 dX1_tally_8 rfl ?_
  refine V_get C 1 dX1_tally_9 (wo_11 T3 ad _) rfl inKX1 (by decide) flX1_15 rfl rfl ?_
  refine V_iconst C (5 : Int32) dX1_tally_12 (by decide) ?_
  refine V_iconst C (1 : Int32) dX1_tally_13 (by decide) ?_
  obtain ⟨z3, M4, hz3, h⟩ := bW_t h
  refine V_callSN C (st := []) (st' := []) (mX4_putInto l 13 rfl (5 : Int32) (1 : Int32) M2 hz3) wmX4_putInto lkX1_31 dX1_tally_14 rfl rfl rfl ⟨rfl, rfl, (Nat.le_of_ble_eq_true rfl), (Nat.le_of_ble_eq_true rfl)⟩ ⟨Nat.zero_le _, Nat.zero_le _⟩ (Nat.le_of_ble_eq_true rfl) ?_
  refine V_iconst C (0 : Int32) dX1_tally_17 (by decide) ?_
  refine V_istore C [(4, .int (0 : Int32)), (0, .ref (ad 11)), (1, .ref (ad 1)), (2, .ref (ad r2)), (3, .int x3)] dX1_tally_18 (by decide) rfl ?_
  refine V_sub (lv' := [(0, .ref (ad 11)), (1, .ref (ad 1)), (2, .ref (ad r2)), (3, .int x3), (4, .int (0 : Int32))]) [1, 2, 3, 4, 0] rfl ?_
  exact vX1_tally_20 C r2 gr2 1000 x3 (0 : Int32) M4 h
abbrev rmX1_follow : Room := { frames := 1, cells := 0, slots := 0, locals := 23 }
def fX1_follow_75 (x2 : Int32) (M : Mem) : Option (Bool × Mem) := if x2 = (5 : Int32) then some (true, M) else some (false, M)
def fX1_follow_7 : Nat → Int32 → Mem → Option (Bool × Mem)
  | 0, _, _ => none
  | n + 1, x2, M => if (5 : Int32) ≤ (M 11 3) then fX1_follow_75 x2 M else if x2 = (5 : Int32) then fX1_follow_75 x2 M else bP (fX4_itemOf M 12 x2) fun z3 => if z3 = (-1 : Int32) then lt (up M 11 3 (0 : Int32)) fun M8 => some (false, M8) else gd (inb (M 11 3) 5) (lt (up M 14 ((M 11 3)).toNatClampNeg z3) fun M4 => lt (up M4 11 3 ((M4 11 3) + (1 : Int32))) fun M6 => bP (fX0_fact M6 z3 (1 : Int32)) fun z7 => fX1_follow_7 n z7 M6)
def fX1_follow (M : Mem) : Option (Bool × Mem) := lt (up M 11 3 (0 : Int32)) fun M1 => fX1_follow_7 1000 (0 : Int32) M1
set_option maxHeartbeats 4000000 in
set_option maxRecDepth 100000 in
theorem vX1_follow_75 {p : Program} {l : Launch} {e : Env} {s : State} {m : MethodId} {args : Array Value} {below : List Frame} {meth : Method} {c : Code} {D : va_G} {T3 : ClassId × ClassId × ClassId} {ad sd : Nat → Nat} {A : Nat → Prop}  (C : CX p s m args meth c cX1_follow 4 RX1 (some .boolean) D T3 ad sd A) {r : Bool} {M9 : Mem} : ∀ (x2 : Int32) (M : Mem), fX1_follow_75 x2 M = some (r, M9) → VV p l e rmX1_follow s m args below meth c D T3 ad A 4 0 0 (QM below D T3 ad A args s (fun _ => some (.int (b2i r))) M9) M [(2, .int x2)] 75 [] := by
  intro x2 M h
  unfold fX1_follow_75 at h
  refine V_iload_n C 0 dX1_follow_75 rfl ?_
  refine V_iconst C (5 : Int32) dX1_follow_76 (by decide) ?_
  refine V_icmp_ne C 84 dX1_follow_77 (by decide) (fun q2 => ?_) (fun q2 => ?_)
  · replace h := ite_n q2 h
    refine V_iconst C (0 : Int32) dX1_follow_84 (by decide) ?_
    obtain ⟨rfl, rfl⟩ := ret_W h
    exact V_zret (x := false) C dX1_follow_85
  · replace h := ite_p q2 h
    refine V_iconst C (1 : Int32) dX1_follow_80 (by decide) ?_
    refine V_goto C 85 dX1_follow_81 (by decide) ?_
    obtain ⟨rfl, rfl⟩ := ret_W h
    exact V_zret (x := true) C dX1_follow_85
set_option maxHeartbeats 4000000 in
set_option maxRecDepth 100000 in
theorem vX1_follow_7 {p : Program} {l : Launch} {e : Env} {s : State} {m : MethodId} {args : Array Value} {below : List Frame} {meth : Method} {c : Code} {D : va_G} {T3 : ClassId × ClassId × ClassId} {ad sd : Nat → Nat} {A : Nat → Prop}  (C : CX p s m args meth c cX1_follow 4 RX1 (some .boolean) D T3 ad sd A) {r : Bool} {M9 : Mem} : ∀ (n : Nat) (x2 : Int32) (M : Mem), fX1_follow_7 n x2 M = some (r, M9) → VV p l e rmX1_follow s m args below meth c D T3 ad A 4 0 0 (QM below D T3 ad A args s (fun _ => some (.int (b2i r))) M9) M [(0, .ref (ad 11)), (1, .ref (ad 1)), (2, .int x2)] 7 [] := by
  intro n
  induction n with
  | zero => intro x2 M h; exact nomatch (show (none : Option (Bool × Mem)) = some _ from h)
  | succ n ih =>
    intro x2 M h
    rw [fX1_follow_7] at h
    refine V_aload_n C 0 dX1_follow_7 rfl ?_
    refine V_get C 3 dX1_follow_8 (wo_11 T3 ad _) rfl inKX1 (by decide) flX1_21 rfl rfl ?_
    refine V_aload_n C 0 dX1_follow_11 rfl ?_
    refine V_get C 2 dX1_follow_12 (wo_11 T3 ad _) rfl inKX1 (by decide) flX1_18 rfl rfl ?_
    refine V_alen C (v := (5 : Int32)) rfl rfl dX1_follow_15 ?_
    refine V_icmp_ge C 75 dX1_follow_16 (by decide) (fun q11 => ?_) (fun q11 => ?_)
    · replace h := ite_p q11 h
      refine V_sub (lv' := [(2, .int x2)]) [2] rfl ?_
      exact vX1_follow_75 C x2 M h
    · replace h := ite_n q11 h
      refine V_iload_n C 2 dX1_follow_19 rfl ?_
      refine V_iconst C (5 : Int32) dX1_follow_20 (by decide) ?_
      refine V_icmp_eq C 75 dX1_follow_21 (by decide) (fun q10 => ?_) (fun q10 => ?_)
      · replace h := ite_p q10 h
        refine V_sub (lv' := [(2, .int x2)]) [2] rfl ?_
        exact vX1_follow_75 C x2 M h
      · replace h := ite_n q10 h
        refine V_aload_n C 0 dX1_follow_24 rfl ?_
        refine V_get C 0 dX1_follow_25 (wo_11 T3 ad _) rfl inKX1 (by decide) flX1_9 rfl rfl ?_
        refine V_iload_n C 2 dX1_follow_28 rfl ?_
        obtain ⟨z3, hz3, h⟩ := bP_t h
        refine V_callSN C (st := []) (st' := [.int z3]) (mX4_itemOf l 12 rfl x2 M hz3) wmX4_itemOf lkX1_43 dX1_follow_29 rfl rfl rfl ⟨rfl, rfl, (Nat.le_of_ble_eq_true rfl), (Nat.le_of_ble_eq_true rfl)⟩ ⟨Nat.zero_le _, Nat.zero_le _⟩ (Nat.le_of_ble_eq_true rfl) ?_
        refine V_istore_n C [(3, .int z3), (0, .ref (ad 11)), (1, .ref (ad 1)), (2, .int x2)] dX1_follow_32 rfl (by decide) rfl ?_
        refine V_iload_n C 0 dX1_follow_33 rfl ?_
        refine V_iconst C (-1 : Int32) dX1_follow_34 (by decide) ?_
        refine V_icmp_ne C 45 dX1_follow_35 (by decide) (fun q9 => ?_) (fun q9 => ?_)
        · replace h := ite_n q9 h
          refine V_aload_n C 1 dX1_follow_45 rfl ?_
          refine V_get C 2 dX1_follow_46 (wo_11 T3 ad _) rfl inKX1 (by decide) flX1_18 rfl rfl ?_
          refine V_aload_n C 1 dX1_follow_49 rfl ?_
          refine V_get C 3 dX1_follow_50 (wo_11 T3 ad _) rfl inKX1 (by decide) flX1_21 rfl rfl ?_
          refine V_iload_n C 0 dX1_follow_53 rfl ?_
          obtain ⟨g5, h⟩ := gd_t h
          obtain ⟨M4, hM4, h⟩ := lt_t h
          refine V_iast C M4 rfl rfl (inb_in g5) dX1_follow_54 hM4 ?_
          refine V_aload_n C 1 dX1_follow_55 rfl ?_
          refine V_dup C dX1_follow_56 rfl ?_
          refine V_get C 3 dX1_follow_57 (wo_11 T3 ad _) rfl inKX1 (by decide) flX1_21 rfl rfl ?_
          refine V_iconst C (1 : Int32) dX1_follow_60 (by decide) ?_
          refine V_iadd C dX1_follow_61 ?_
          obtain ⟨M6, hM6, h⟩ := lt_t h
          refine V_put C M6 3 dX1_follow_62 (wo_11 T3 ad _) (ws_11_3 T3 ad _ _) rfl inKX1 tyX1 tyX1_ok nmX1 (by decide) flX1_21 rfl rfl rfl (Nat.le_of_ble_eq_true rfl) hM6 ?_
          refine V_aload_n C 2 dX1_follow_65 rfl ?_
          refine V_iload_n C 0 dX1_follow_66 rfl ?_
          refine V_iconst C (1 : Int32) dX1_follow_67 (by decide) ?_
          obtain ⟨z7, hz7, h⟩ := bP_t h
          refine V_callV C (st := []) (st' := [.int z7]) (mX0_fact l z3 (1 : Int32) M6 hz7) wmX0_fact lkX1_47 dX1_follow_68 (wo_1 T3 ad _) rfl rfl rfl rfl rfl rfl ⟨rfl, rfl, (Nat.le_of_ble_eq_true rfl), (Nat.le_of_ble_eq_true rfl)⟩ ⟨Nat.zero_le _, Nat.zero_le _⟩ (Nat.le_of_ble_eq_true rfl) ?_
          refine V_istore_n C [(2, .int z7), (3, .int z3), (0, .ref (ad 11)), (1, .ref (ad 1))] dX1_follow_71 rfl (by decide) rfl ?_
          refine V_goto C 7 dX1_follow_72 (by decide) ?_
          refine V_sub (lv' := [(0, .ref (ad 11)), (1, .ref (ad 1)), (2, .int z7)]) [2, 3, 0] rfl ?_
          exact ih z7 M6 h
        · replace h := ite_p q9 h
          refine V_aload_n C 1 dX1_follow_38 rfl ?_
          refine V_iconst C (0 : Int32) dX1_follow_39 (by decide) ?_
          obtain ⟨M8, hM8, h⟩ := lt_t h
          refine V_put C M8 3 dX1_follow_40 (wo_11 T3 ad _) (ws_11_3 T3 ad _ _) rfl inKX1 tyX1 tyX1_ok nmX1 (by decide) flX1_21 rfl rfl rfl (Nat.le_of_ble_eq_true rfl) hM8 ?_
          refine V_iconst C (0 : Int32) dX1_follow_43 (by decide) ?_
          obtain ⟨rfl, rfl⟩ := ret_W h
          exact V_zret (x := false) C dX1_follow_44
set_option maxHeartbeats 4000000 in
set_option maxRecDepth 100000 in
theorem mX1_follow (l : Launch) (M : Mem) {r : Bool} {M9 : Mem} (h : fX1_follow M = some (r, M9)) : MC l yX1_follow cX1_follow 4 (some .boolean) rmX1_follow (fun ad sd => [.ref (ad 11), .ref (ad 1)]) M (fun _ => some (.int (b2i r))) M9 := by
  refine MC_start (by decide) (fun ad sd => [(0, .ref (ad 11)), (1, .ref (ad 1))]) (fun _ _ => rfl) (fun _ _ => Nat.le_of_ble_eq_true rfl) ?_
  intro p e s m args below meth c D T3 ad sd A C
  unfold fX1_follow at h
  refine V_iconst C (0 : Int32) dX1_follow_0 (by decide) ?_
  refine V_istore_n C [(2, .int (0 : Int32)), (0, .ref (ad 11)), (1, .ref (ad 1))] dX1_follow_1 rfl (by decide) rfl ?_
  refine V_aload_n C 1 dX1_follow_2 rfl ?_
  refine V_iconst C (0 : Int32) dX1_follow_3 (by decide) ?_
  obtain ⟨M1, hM1, h⟩ := lt_t h
  refine V_put C M1 3 dX1_follow_4 (wo_11 T3 ad _) (ws_11_3 T3 ad _ _) rfl inKX1 tyX1 tyX1_ok nmX1 (by decide) flX1_21 rfl rfl rfl (Nat.le_of_ble_eq_true rfl) hM1 ?_
  refine V_sub (lv' := [(0, .ref (ad 11)), (1, .ref (ad 1)), (2, .int (0 : Int32))]) [1, 2, 0] rfl ?_
  exact vX1_follow_7 C 1000 (0 : Int32) M1 h
abbrev rmX1_findLeast : Room := { frames := 2, cells := 0, slots := 0, locals := 46 }
def fX1_findLeast_63 (r2 : Nat) (kk20 : Int32 → Int32 → Mem → Option (Bool × Mem)) (x3 : Int32) (x4 : Int32) (x5 : Int32) (t0 : Bool) (M : Mem) : Option (Bool × Mem) := if t0 = true then bP (fX4_itemOf M r2 x5) fun z10 => if z10 < x3 then kk20 x3 (x4 + 1) M else bP (fX0_fact M x5 (0 : Int32)) fun z11 => bW (fX4_putInto 12 z11 x5 M) fun z12 M13 => kk20 x3 (x4 + 1) M13 else kk20 x3 (x4 + 1) M
def fX1_findLeast_20 (r2 : Nat) : Nat → Int32 → Int32 → Mem → Option (Bool × Mem)
  | 0, _, _, _ => none
  | n + 1, x3, x4, M => if (M 1 3) ≤ x4 then bW (fX1_follow M) fun z5 M6 => some (z5, M6) else bP (fX4_itemOf M 4 x4) fun z7 => bP (fX0_fact M z7 (1 : Int32)) fun z8 => bP (fX4_itemOf M 12 z8) fun z9 => if z9 = (-1 : Int32) then fX1_findLeast_63 r2 (fX1_findLeast_20 r2 n) x3 x4 z7 false M else fX1_findLeast_63 r2 (fX1_findLeast_20 r2 n) x3 x4 z7 true M
def fX1_findLeast (r2 : Nat) (x3 : Int32) (M : Mem) : Option (Bool × Mem) := bW (fJ7_fill_53178 12 (-1 : Int32) M) fun z1 M2 => bW (fX4_putInto 12 (5 : Int32) (0 : Int32) M2) fun z3 M4 => fX1_findLeast_20 r2 1000 x3 (0 : Int32) M4
set_option maxHeartbeats 4000000 in
set_option maxRecDepth 100000 in
theorem vX1_findLeast_63 {p : Program} {l : Launch} {e : Env} {s : State} {m : MethodId} {args : Array Value} {below : List Frame} {meth : Method} {c : Code} {D : va_G} {T3 : ClassId × ClassId × ClassId} {ad sd : Nat → Nat} {A : Nat → Prop}  (C : CX p s m args meth c cX1_findLeast 7 RX1 (some .boolean) D T3 ad sd A) {r : Bool} {M9 : Mem} (r2 : Nat) (gr2 : isA r2 = true) (kk20 : Int32 → Int32 → Mem → Option (Bool × Mem)) (hk20 : ∀ (x3 : Int32) (x4 : Int32) (M : Mem), kk20 x3 x4 M = some (r, M9) → VV p l e rmX1_findLeast s m args below meth c D T3 ad A 7 0 0 (QM below D T3 ad A args s (fun _ => some (.int (b2i r))) M9) M [(0, .ref (ad 11)), (1, .ref (ad 1)), (2, .ref (ad r2)), (3, .int x3), (4, .int x4)] 20 []) : ∀ (x3 : Int32) (x4 : Int32) (x5 : Int32) (t0 : Bool) (M : Mem), fX1_findLeast_63 r2 kk20 x3 x4 x5 t0 M = some (r, M9) → VV p l e rmX1_findLeast s m args below meth c D T3 ad A 7 0 0 (QM below D T3 ad A args s (fun _ => some (.int (b2i r))) M9) M [(0, .ref (ad 11)), (1, .ref (ad 1)), (2, .ref (ad r2)), (3, .int x3), (4, .int x4), (5, .int x5)] 63 [.int (b2i t0)] := by
  intro x3 x4 x5 t0 M h
  unfold fX1_findLeast_63 at h
  refine V_istore C [(6, .int (b2i t0)), (0, .ref (ad 11)), (1, .ref (ad 1)), (2, .ref (ad r2)), (3, .int x3), (4, .int x4), (5, .int x5)] dX1_findLeast_63 (by decide) rfl ?_
  refine V_iload C 0 dX1_findLeast_65 rfl ?_
  refine V_ifB_eq C 96 dX1_findLeast_67 (by decide) (fun q15 => ?_) (fun q15 => ?_)
  · replace h := ite_n q15 h
    refine V_iinc C 5 (x4 + 1) [(4, .int (x4 + 1)), (6, .int (b2i t0)), (0, .ref (ad 11)), (1, .ref (ad 1)), (2, .ref (ad r2)), (3, .int x3), (5, .int x5)] dX1_findLeast_96 rfl rfl (by decide) rfl ?_
    refine V_goto C 20 dX1_findLeast_99 (by decide) ?_
    refine V_sub (lv' := [(0, .ref (ad 11)), (1, .ref (ad 1)), (2, .ref (ad r2)), (3, .int x3), (4, .int (x4 + 1))]) [2, 3, 4, 5, 0] rfl ?_
    exact hk20 x3 (x4 + 1) M h
  · replace h := ite_p q15 h
    refine V_aload_n C 3 dX1_findLeast_70 rfl ?_
    refine V_iload C 6 dX1_findLeast_71 rfl ?_
    obtain ⟨z10, hz10, h⟩ := bP_t h
    refine V_callSN C (st := []) (st' := [.int z10]) (mX4_itemOf l r2 gr2 x5 M hz10) wmX4_itemOf lkX1_43 dX1_findLeast_73 rfl rfl rfl ⟨rfl, rfl, (Nat.le_of_ble_eq_true rfl), (Nat.le_of_ble_eq_true rfl)⟩ ⟨Nat.zero_le _, Nat.zero_le _⟩ (Nat.le_of_ble_eq_true rfl) ?_
    refine V_iload_n C 4 dX1_findLeast_76 rfl ?_
    refine V_icmp_lt C 96 dX1_findLeast_77 (by decide) (fun q14 => ?_) (fun q14 => ?_)
    · replace h := ite_p q14 h
      refine V_iinc C 5 (x4 + 1) [(4, .int (x4 + 1)), (6, .int (b2i t0)), (0, .ref (ad 11)), (1, .ref (ad 1)), (2, .ref (ad r2)), (3, .int x3), (5, .int x5)] dX1_findLeast_96 rfl rfl (by decide) rfl ?_
      refine V_goto C 20 dX1_findLeast_99 (by decide) ?_
      refine V_sub (lv' := [(0, .ref (ad 11)), (1, .ref (ad 1)), (2, .ref (ad r2)), (3, .int x3), (4, .int (x4 + 1))]) [2, 3, 4, 5, 0] rfl ?_
      exact hk20 x3 (x4 + 1) M h
    · replace h := ite_n q14 h
      refine V_aload_n C 1 dX1_findLeast_80 rfl ?_
      refine V_get C 0 dX1_findLeast_81 (wo_11 T3 ad _) rfl inKX1 (by decide) flX1_9 rfl rfl ?_
      refine V_aload_n C 2 dX1_findLeast_84 rfl ?_
      refine V_iload C 6 dX1_findLeast_85 rfl ?_
      refine V_iconst C (0 : Int32) dX1_findLeast_87 (by decide) ?_
      obtain ⟨z11, hz11, h⟩ := bP_t h
      refine V_callV C (st := [.ref (ad 12)]) (st' := [.int z11, .ref (ad 12)]) (mX0_fact l x5 (0 : Int32) M hz11) wmX0_fact lkX1_47 dX1_findLeast_88 (wo_1 T3 ad _) rfl rfl rfl rfl rfl rfl ⟨rfl, rfl, (Nat.le_of_ble_eq_true rfl), (Nat.le_of_ble_eq_true rfl)⟩ ⟨Nat.zero_le _, Nat.zero_le _⟩ (Nat.le_of_ble_eq_true rfl) ?_
      refine V_iload C 6 dX1_findLeast_91 rfl ?_
      obtain ⟨z12, M13, hz12, h⟩ := bW_t h
      refine V_callSN C (st := []) (st' := []) (mX4_putInto l 12 rfl z11 x5 M hz12) wmX4_putInto lkX1_31 dX1_findLeast_93 rfl rfl rfl ⟨rfl, rfl, (Nat.le_of_ble_eq_true rfl), (Nat.le_of_ble_eq_true rfl)⟩ ⟨Nat.zero_le _, Nat.zero_le _⟩ (Nat.le_of_ble_eq_true rfl) ?_
      refine V_iinc C 5 (x4 + 1) [(4, .int (x4 + 1)), (6, .int (b2i t0)), (0, .ref (ad 11)), (1, .ref (ad 1)), (2, .ref (ad r2)), (3, .int x3), (5, .int x5)] dX1_findLeast_96 rfl rfl (by decide) rfl ?_
      refine V_goto C 20 dX1_findLeast_99 (by decide) ?_
      refine V_sub (lv' := [(0, .ref (ad 11)), (1, .ref (ad 1)), (2, .ref (ad r2)), (3, .int x3), (4, .int (x4 + 1))]) [2, 3, 4, 5, 0] rfl ?_
      exact hk20 x3 (x4 + 1) M13 h
set_option maxHeartbeats 4000000 in
set_option maxRecDepth 100000 in
theorem vX1_findLeast_20 {p : Program} {l : Launch} {e : Env} {s : State} {m : MethodId} {args : Array Value} {below : List Frame} {meth : Method} {c : Code} {D : va_G} {T3 : ClassId × ClassId × ClassId} {ad sd : Nat → Nat} {A : Nat → Prop}  (C : CX p s m args meth c cX1_findLeast 7 RX1 (some .boolean) D T3 ad sd A) {r : Bool} {M9 : Mem} (r2 : Nat) (gr2 : isA r2 = true) : ∀ (n : Nat) (x3 : Int32) (x4 : Int32) (M : Mem), fX1_findLeast_20 r2 n x3 x4 M = some (r, M9) → VV p l e rmX1_findLeast s m args below meth c D T3 ad A 7 0 0 (QM below D T3 ad A args s (fun _ => some (.int (b2i r))) M9) M [(0, .ref (ad 11)), (1, .ref (ad 1)), (2, .ref (ad r2)), (3, .int x3), (4, .int x4)] 20 [] := by
  intro n
  induction n with
  | zero => intro x3 x4 M h; exact nomatch (show (none : Option (Bool × Mem)) = some _ from h)
  | succ n ih =>
    intro x3 x4 M h
    rw [fX1_findLeast_20] at h
    refine V_iload C 4 dX1_findLeast_20 rfl ?_
    refine V_aload_n C 1 dX1_findLeast_22 rfl ?_
    refine V_getN C 3 dX1_findLeast_23 (wo_1 T3 ad _) rfl inKX0 (by decide) flX1_35 rfl rfl ?_
    refine V_icmp_ge C 102 dX1_findLeast_26 (by decide) (fun q17 => ?_) (fun q17 => ?_)
    · replace h := ite_p q17 h
      refine V_aload_n C 0 dX1_findLeast_102 rfl ?_
      refine V_aload_n C 1 dX1_findLeast_103 rfl ?_
      obtain ⟨z5, M6, hz5, h⟩ := bW_t h
      refine V_callV C (st := []) (st' := [.int (b2i z5)]) (mX1_follow l M hz5) wmX1_follow lkX1_51 dX1_findLeast_104 (wo_11 T3 ad _) rfl rfl rfl rfl rfl rfl ⟨rfl, rfl, (Nat.le_of_ble_eq_true rfl), (Nat.le_of_ble_eq_true rfl)⟩ ⟨Nat.zero_le _, Nat.zero_le _⟩ (Nat.le_of_ble_eq_true rfl) ?_
      obtain ⟨rfl, rfl⟩ := ret_W h
      exact V_zret C dX1_findLeast_107
    · replace h := ite_n q17 h
      refine V_aload_n C 1 dX1_findLeast_29 rfl ?_
      refine V_getN C 5 dX1_findLeast_30 (wo_1 T3 ad _) rfl inKX0 (by decide) flX1_40 rfl rfl ?_
      refine V_iload C 4 dX1_findLeast_33 rfl ?_
      obtain ⟨z7, hz7, h⟩ := bP_t h
      refine V_callSN C (st := []) (st' := [.int z7]) (mX4_itemOf l 4 rfl x4 M hz7) wmX4_itemOf lkX1_43 dX1_findLeast_35 rfl rfl rfl ⟨rfl, rfl, (Nat.le_of_ble_eq_true rfl), (Nat.le_of_ble_eq_true rfl)⟩ ⟨Nat.zero_le _, Nat.zero_le _⟩ (Nat.le_of_ble_eq_true rfl) ?_
      refine V_istore C [(5, .int z7), (0, .ref (ad 11)), (1, .ref (ad 1)), (2, .ref (ad r2)), (3, .int x3), (4, .int x4)] dX1_findLeast_38 (by decide) rfl ?_
      refine V_aload_n C 1 dX1_findLeast_40 rfl ?_
      refine V_get C 0 dX1_findLeast_41 (wo_11 T3 ad _) rfl inKX1 (by decide) flX1_9 rfl rfl ?_
      refine V_aload_n C 2 dX1_findLeast_44 rfl ?_
      refine V_iload C 0 dX1_findLeast_45 rfl ?_
      refine V_iconst C (1 : Int32) dX1_findLeast_47 (by decide) ?_
      obtain ⟨z8, hz8, h⟩ := bP_t h
      refine V_callV C (st := [.ref (ad 12)]) (st' := [.int z8, .ref (ad 12)]) (mX0_fact l z7 (1 : Int32) M hz8) wmX0_fact lkX1_47 dX1_findLeast_48 (wo_1 T3 ad _) rfl rfl rfl rfl rfl rfl ⟨rfl, rfl, (Nat.le_of_ble_eq_true rfl), (Nat.le_of_ble_eq_true rfl)⟩ ⟨Nat.zero_le _, Nat.zero_le _⟩ (Nat.le_of_ble_eq_true rfl) ?_
      obtain ⟨z9, hz9, h⟩ := bP_t h
      refine V_callSN C (st := []) (st' := [.int z9]) (mX4_itemOf l 12 rfl z8 M hz9) wmX4_itemOf lkX1_43 dX1_findLeast_51 rfl rfl rfl ⟨rfl, rfl, (Nat.le_of_ble_eq_true rfl), (Nat.le_of_ble_eq_true rfl)⟩ ⟨Nat.zero_le _, Nat.zero_le _⟩ (Nat.le_of_ble_eq_true rfl) ?_
      refine V_iconst C (-1 : Int32) dX1_findLeast_54 (by decide) ?_
      refine V_icmp_eq C 62 dX1_findLeast_55 (by decide) (fun q16 => ?_) (fun q16 => ?_)
      · replace h := ite_p q16 h
        refine V_iconst C (0 : Int32) dX1_findLeast_62 (by decide) ?_
        refine V_sub (lv' := [(0, .ref (ad 11)), (1, .ref (ad 1)), (2, .ref (ad r2)), (3, .int x3), (4, .int x4), (5, .int z7)]) [1, 2, 3, 4, 5, 0] rfl ?_
        exact vX1_findLeast_63 C r2 gr2 (fX1_findLeast_20 r2 n) ih x3 x4 z7 false M h
      · replace h := ite_n q16 h
        refine V_iconst C (1 : Int32) dX1_findLeast_58 (by decide) ?_
        refine V_goto C 63 dX1_findLeast_59 (by decide) ?_
        refine V_sub (lv' := [(0, .ref (ad 11)), (1, .ref (ad 1)), (2, .ref (ad r2)), (3, .int x3), (4, .int x4), (5, .int z7)]) [1, 2, 3, 4, 5, 0] rfl ?_
        exact vX1_findLeast_63 C r2 gr2 (fX1_findLeast_20 r2 n) ih x3 x4 z7 true M h
set_option maxHeartbeats 4000000 in
set_option maxRecDepth 100000 in
theorem mX1_findLeast (l : Launch) (r2 : Nat) (gr2 : isA r2 = true) (x3 : Int32) (M : Mem) {r : Bool} {M9 : Mem} (h : fX1_findLeast r2 x3 M = some (r, M9)) : MC l yX1_findLeast cX1_findLeast 7 (some .boolean) rmX1_findLeast (fun ad sd => [.ref (ad 11), .ref (ad 1), .ref (ad r2), .int x3]) M (fun _ => some (.int (b2i r))) M9 := by
  refine MC_start (by decide) (fun ad sd => [(0, .ref (ad 11)), (1, .ref (ad 1)), (2, .ref (ad r2)), (3, .int x3)]) (fun _ _ => rfl) (fun _ _ => Nat.le_of_ble_eq_true rfl) ?_
  intro p e s m args below meth c D T3 ad sd A C
  unfold fX1_findLeast at h
  refine V_aload_n C 0 dX1_findLeast_0 rfl ?_
  refine V_get C 0 dX1_findLeast_1 (wo_11 T3 ad _) rfl inKX1 (by decide) flX1_9 rfl rfl ?_
  refine V_iconst C (-1 : Int32) dX1_findLeast_4 (by decide) ?_
  obtain ⟨z1, M2, hz1, h⟩ := bW_t h
  refine V_callS C (st := []) (st' := []) (mJ7_fill_53178 l 12 rfl (-1 : Int32) M hz1) wmJ7_fill_53178 lkX1_25 dX1_findLeast_5 rfl rfl rfl ⟨rfl, rfl, (Nat.le_of_ble_eq_true rfl), (Nat.le_of_ble_eq_true rfl)⟩ ⟨Nat.zero_le _, Nat.zero_le _⟩ (Nat.le_of_ble_eq_true rfl) ?_
  refine V_aload_n C 0 dX1_findLeast_8 rfl ?_
  refine V_get C 0 dX1_findLeast_9 (wo_11 T3 ad _) rfl inKX1 (by decide) flX1_9 rfl rfl ?_
  refine V_iconst C (5 : Int32) dX1_findLeast_12 (by decide) ?_
  refine V_iconst C (0 : Int32) dX1_findLeast_13 (by decide) ?_
  obtain ⟨z3, M4, hz3, h⟩ := bW_t h
  refine V_callSN C (st := []) (st' := []) (mX4_putInto l 12 rfl (5 : Int32) (0 : Int32) M2 hz3) wmX4_putInto lkX1_31 dX1_findLeast_14 rfl rfl rfl ⟨rfl, rfl, (Nat.le_of_ble_eq_true rfl), (Nat.le_of_ble_eq_true rfl)⟩ ⟨Nat.zero_le _, Nat.zero_le _⟩ (Nat.le_of_ble_eq_true rfl) ?_
  refine V_iconst C (0 : Int32) dX1_findLeast_17 (by decide) ?_
  refine V_istore C [(4, .int (0 : Int32)), (0, .ref (ad 11)), (1, .ref (ad 1)), (2, .ref (ad r2)), (3, .int x3)] dX1_findLeast_18 (by decide) rfl ?_
  refine V_sub (lv' := [(0, .ref (ad 11)), (1, .ref (ad 1)), (2, .ref (ad r2)), (3, .int x3), (4, .int (0 : Int32))]) [1, 2, 3, 4, 0] rfl ?_
  exact vX1_findLeast_20 C r2 gr2 1000 x3 (0 : Int32) M4 h
abbrev rmX1_step : Room := { frames := 1, cells := 0, slots := 0, locals := 21 }
def fX1_step (M : Mem) (x1 : Int32) : Option Int32 := if (M 11 3) ≤ x1 then some (-1 : Int32) else bP (fX4_itemOf M 14 x1) fun z1 => some z1
set_option maxHeartbeats 4000000 in
set_option maxRecDepth 100000 in
theorem mX1_step (l : Launch) (x1 : Int32) (M : Mem) {r : Int32} (h : fX1_step M x1 = some r) : MC l yX1_step cX1_step 2 (some .int) rmX1_step (fun ad sd => [.ref (ad 11), .int x1]) M (fun _ => some (.int r)) M := by
  refine MC_start (by decide) (fun ad sd => [(0, .ref (ad 11)), (1, .int x1)]) (fun _ _ => rfl) (fun _ _ => Nat.le_of_ble_eq_true rfl) ?_
  intro p e s m args below meth c D T3 ad sd A C
  unfold fX1_step at h
  refine V_iload_n C 1 dX1_step_0 rfl ?_
  refine V_aload_n C 0 dX1_step_1 rfl ?_
  refine V_get C 3 dX1_step_2 (wo_11 T3 ad _) rfl inKX1 (by decide) flX1_21 rfl rfl ?_
  refine V_icmp_ge C 19 dX1_step_5 (by decide) (fun q2 => ?_) (fun q2 => ?_)
  · replace h := ite_p q2 h
    refine V_iconst C (-1 : Int32) dX1_step_19 (by decide) ?_
    obtain rfl := ret_P h
    exact V_iret C dX1_step_20
  · replace h := ite_n q2 h
    refine V_aload_n C 0 dX1_step_8 rfl ?_
    refine V_get C 2 dX1_step_9 (wo_11 T3 ad _) rfl inKX1 (by decide) flX1_18 rfl rfl ?_
    refine V_iload_n C 1 dX1_step_12 rfl ?_
    obtain ⟨z1, hz1, h⟩ := bP_t h
    refine V_callSN C (st := []) (st' := [.int z1]) (mX4_itemOf l 14 rfl x1 M hz1) wmX4_itemOf lkX1_43 dX1_step_13 rfl rfl rfl ⟨rfl, rfl, (Nat.le_of_ble_eq_true rfl), (Nat.le_of_ble_eq_true rfl)⟩ ⟨Nat.zero_le _, Nat.zero_le _⟩ (Nat.le_of_ble_eq_true rfl) ?_
    refine V_goto C 20 dX1_step_16 (by decide) ?_
    obtain rfl := ret_P h
    exact V_iret C dX1_step_20
abbrev rmX3_add : Room := { frames := 1, cells := 0, slots := 0, locals := 22 }
def fX3_add (x1 : Int32) (x2 : Int32) (x3 : Int32) (M : Mem) : Option (Bool × Mem) := if (M 6 4) < (12 : Int32) then bW (fX4_putInto 7 (M 6 4) x1 M) fun z1 M2 => bW (fX4_putInto 8 (M2 6 4) x2 M2) fun z3 M4 => bW (fX4_putInto 9 (M4 6 4) x3 M4) fun z5 M6 => lt (up M6 6 4 ((M6 6 4) + (1 : Int32))) fun M7 => some (true, M7) else some (false, M)
set_option maxHeartbeats 4000000 in
set_option maxRecDepth 100000 in
theorem mX3_add (l : Launch) (x1 : Int32) (x2 : Int32) (x3 : Int32) (M : Mem) {r : Bool} {M9 : Mem} (h : fX3_add x1 x2 x3 M = some (r, M9)) : MC l yX3_add cX3_add 4 (some .boolean) rmX3_add (fun ad sd => [.ref (ad 6), .int x1, .int x2, .int x3]) M (fun _ => some (.int (b2i r))) M9 := by
  refine MC_start (by decide) (fun ad sd => [(0, .ref (ad 6)), (1, .int x1), (2, .int x2), (3, .int x3)]) (fun _ _ => rfl) (fun _ _ => Nat.le_of_ble_eq_true rfl) ?_
  intro p e s m args below meth c D T3 ad sd A C
  unfold fX3_add at h
  refine V_aload_n C 0 dX3_add_0 rfl ?_
  refine V_get C 4 dX3_add_1 (wo_6 T3 ad _) rfl inKX3 (by decide) flX3_24 rfl rfl ?_
  refine V_bipush C (12 : Int32) dX3_add_4 (by decide) ?_
  refine V_icmp_lt C 11 dX3_add_6 (by decide) (fun q8 => ?_) (fun q8 => ?_)
  · replace h := ite_p q8 h
    refine V_aload_n C 0 dX3_add_11 rfl ?_
    refine V_get C 0 dX3_add_12 (wo_6 T3 ad _) rfl inKX3 (by decide) flX3_11 rfl rfl ?_
    refine V_aload_n C 0 dX3_add_15 rfl ?_
    refine V_get C 4 dX3_add_16 (wo_6 T3 ad _) rfl inKX3 (by decide) flX3_24 rfl rfl ?_
    refine V_iload_n C 1 dX3_add_19 rfl ?_
    obtain ⟨z1, M2, hz1, h⟩ := bW_t h
    refine V_callSN C (st := []) (st' := []) (mX4_putInto l 7 rfl (M 6 4) x1 M hz1) wmX4_putInto lkX3_28 dX3_add_20 rfl rfl rfl ⟨rfl, rfl, (Nat.le_of_ble_eq_true rfl), (Nat.le_of_ble_eq_true rfl)⟩ ⟨Nat.zero_le _, Nat.zero_le _⟩ (Nat.le_of_ble_eq_true rfl) ?_
    refine V_aload_n C 0 dX3_add_23 rfl ?_
    refine V_get C 1 dX3_add_24 (wo_6 T3 ad _) rfl inKX3 (by decide) flX3_15 rfl rfl ?_
    refine V_aload_n C 0 dX3_add_27 rfl ?_
    refine V_get C 4 dX3_add_28 (wo_6 T3 ad _) rfl inKX3 (by decide) flX3_24 rfl rfl ?_
    refine V_iload_n C 2 dX3_add_31 rfl ?_
    obtain ⟨z3, M4, hz3, h⟩ := bW_t h
    refine V_callSN C (st := []) (st' := []) (mX4_putInto l 8 rfl (M2 6 4) x2 M2 hz3) wmX4_putInto lkX3_28 dX3_add_32 rfl rfl rfl ⟨rfl, rfl, (Nat.le_of_ble_eq_true rfl), (Nat.le_of_ble_eq_true rfl)⟩ ⟨Nat.zero_le _, Nat.zero_le _⟩ (Nat.le_of_ble_eq_true rfl) ?_
    refine V_aload_n C 0 dX3_add_35 rfl ?_
    refine V_get C 2 dX3_add_36 (wo_6 T3 ad _) rfl inKX3 (by decide) flX3_18 rfl rfl ?_
    refine V_aload_n C 0 dX3_add_39 rfl ?_
    refine V_get C 4 dX3_add_40 (wo_6 T3 ad _) rfl inKX3 (by decide) flX3_24 rfl rfl ?_
    refine V_iload_n C 3 dX3_add_43 rfl ?_
    obtain ⟨z5, M6, hz5, h⟩ := bW_t h
    refine V_callSN C (st := []) (st' := []) (mX4_putInto l 9 rfl (M4 6 4) x3 M4 hz5) wmX4_putInto lkX3_28 dX3_add_44 rfl rfl rfl ⟨rfl, rfl, (Nat.le_of_ble_eq_true rfl), (Nat.le_of_ble_eq_true rfl)⟩ ⟨Nat.zero_le _, Nat.zero_le _⟩ (Nat.le_of_ble_eq_true rfl) ?_
    refine V_aload_n C 0 dX3_add_47 rfl ?_
    refine V_dup C dX3_add_48 rfl ?_
    refine V_get C 4 dX3_add_49 (wo_6 T3 ad _) rfl inKX3 (by decide) flX3_24 rfl rfl ?_
    refine V_iconst C (1 : Int32) dX3_add_52 (by decide) ?_
    refine V_iadd C dX3_add_53 ?_
    obtain ⟨M7, hM7, h⟩ := lt_t h
    refine V_put C M7 4 dX3_add_54 (wo_6 T3 ad _) (ws_6_4 T3 ad _ _) rfl inKX3 tyX3 tyX3_ok nmX3 (by decide) flX3_24 rfl rfl rfl (Nat.le_of_ble_eq_true rfl) hM7 ?_
    refine V_iconst C (1 : Int32) dX3_add_57 (by decide) ?_
    obtain ⟨rfl, rfl⟩ := ret_W h
    exact V_zret (x := true) C dX3_add_58
  · replace h := ite_n q8 h
    refine V_iconst C (0 : Int32) dX3_add_9 (by decide) ?_
    obtain ⟨rfl, rfl⟩ := ret_W h
    exact V_zret (x := false) C dX3_add_10
abbrev rmX3_drop : Room := { frames := 0, cells := 0, slots := 0, locals := 0 }
def fX3_drop (M : Mem) : Option (Unit × Mem) := lt (up M 6 4 (0 : Int32)) fun M1 => some ((), M1)
set_option maxHeartbeats 4000000 in
set_option maxRecDepth 100000 in
theorem mX3_drop (l : Launch) (M : Mem) {r : Unit} {M9 : Mem} (h : fX3_drop M = some (r, M9)) : MC l yX3_drop cX3_drop 1 none rmX3_drop (fun ad sd => [.ref (ad 6)]) M (fun _ => none) M9 := by
  refine MC_start (by decide) (fun ad sd => [(0, .ref (ad 6))]) (fun _ _ => rfl) (fun _ _ => Nat.le_of_ble_eq_true rfl) ?_
  intro p e s m args below meth c D T3 ad sd A C
  unfold fX3_drop at h
  refine V_aload_n C 0 dX3_drop_0 rfl ?_
  refine V_iconst C (0 : Int32) dX3_drop_1 (by decide) ?_
  obtain ⟨M1, hM1, h⟩ := lt_t h
  refine V_put C M1 4 dX3_drop_2 (wo_6 T3 ad _) (ws_6_4 T3 ad _ _) rfl inKX3 tyX3 tyX3_ok nmX3 (by decide) flX3_24 rfl rfl rfl (Nat.le_of_ble_eq_true rfl) hM1 ?_
  obtain ⟨rfl, rfl⟩ := ret_W h
  exact V_vret C dX3_drop_5
abbrev rmX2_isLost : Room := { frames := 0, cells := 0, slots := 0, locals := 0 }
def fX2_isLost (M : Mem) (o0 : Nat) : Bool := if (M o0 1) = (-1 : Int32) then true else false
set_option maxHeartbeats 4000000 in
set_option maxRecDepth 100000 in
theorem mX2_isLost (l : Launch) (o0 : Nat) (go0 : isS o0 = true) (M : Mem) {r : Bool} (h : fX2_isLost M o0 = r) : MC l yX2_isLost cX2_isLost 1 (some .boolean) rmX2_isLost (fun ad sd => [.ref (ad o0)]) M (fun _ => some (.int (b2i r))) M := by
  refine MC_start (by decide) (fun ad sd => [(0, .ref (ad o0))]) (fun _ _ => rfl) (fun _ _ => Nat.le_of_ble_eq_true rfl) ?_
  intro p e s m args below meth c D T3 ad sd A C
  unfold fX2_isLost at h
  refine V_aload_n C 0 dX2_isLost_0 rfl ?_
  refine V_get C 1 dX2_isLost_1 (wS_get go0 T3 ad _) rfl inKX2 (by decide) flX2_15 rfl rfl ?_
  refine V_iconst C (-1 : Int32) dX2_isLost_4 (by decide) ?_
  refine V_icmp_ne C 12 dX2_isLost_5 (by decide) (fun q1 => ?_) (fun q1 => ?_)
  · replace h := ite_n q1 h
    refine V_iconst C (0 : Int32) dX2_isLost_12 (by decide) ?_
    subst h
    exact V_zret (x := false) C dX2_isLost_13
  · replace h := ite_p q1 h
    refine V_iconst C (1 : Int32) dX2_isLost_8 (by decide) ?_
    refine V_goto C 13 dX2_isLost_9 (by decide) ?_
    subst h
    exact V_zret (x := true) C dX2_isLost_13
abbrev rmX2_itemAt : Room := { frames := 1, cells := 0, slots := 0, locals := 21 }
def fX2_itemAt (M : Mem) (o0 : Nat) (x1 : Int32) : Option Int32 := if (M o0 2) ≤ x1 then some (-1 : Int32) else bP (fX4_itemOf M (o0 + 4) x1) fun z1 => some z1
set_option maxHeartbeats 4000000 in
set_option maxRecDepth 100000 in
theorem mX2_itemAt (l : Launch) (o0 : Nat) (go0 : isS o0 = true) (x1 : Int32) (M : Mem) {r : Int32} (h : fX2_itemAt M o0 x1 = some r) : MC l yX2_itemAt cX2_itemAt 2 (some .int) rmX2_itemAt (fun ad sd => [.ref (ad o0), .int x1]) M (fun _ => some (.int r)) M := by
  refine MC_start (by decide) (fun ad sd => [(0, .ref (ad o0)), (1, .int x1)]) (fun _ _ => rfl) (fun _ _ => Nat.le_of_ble_eq_true rfl) ?_
  intro p e s m args below meth c D T3 ad sd A C
  unfold fX2_itemAt at h
  refine V_iload_n C 1 dX2_itemAt_0 rfl ?_
  refine V_aload_n C 0 dX2_itemAt_1 rfl ?_
  refine V_get C 2 dX2_itemAt_2 (wS_get go0 T3 ad _) rfl inKX2 (by decide) flX2_19 rfl rfl ?_
  refine V_icmp_ge C 19 dX2_itemAt_5 (by decide) (fun q2 => ?_) (fun q2 => ?_)
  · replace h := ite_p q2 h
    refine V_iconst C (-1 : Int32) dX2_itemAt_19 (by decide) ?_
    obtain rfl := ret_P h
    exact V_iret C dX2_itemAt_20
  · replace h := ite_n q2 h
    refine V_aload_n C 0 dX2_itemAt_8 rfl ?_
    refine V_get C 0 dX2_itemAt_9 (wS_get go0 T3 ad _) rfl inKX2 (by decide) flX2_9 rfl rfl ?_
    refine V_iload_n C 1 dX2_itemAt_12 rfl ?_
    obtain ⟨z1, hz1, h⟩ := bP_t h
    refine V_callSN C (st := []) (st' := [.int z1]) (mX4_itemOf l (o0 + 4) (isS_A go0) x1 M hz1) wmX4_itemOf lkX2_28 dX2_itemAt_13 rfl rfl rfl ⟨rfl, rfl, (Nat.le_of_ble_eq_true rfl), (Nat.le_of_ble_eq_true rfl)⟩ ⟨Nat.zero_le _, Nat.zero_le _⟩ (Nat.le_of_ble_eq_true rfl) ?_
    refine V_goto C 20 dX2_itemAt_16 (by decide) ?_
    obtain rfl := ret_P h
    exact V_iret C dX2_itemAt_20
abbrev rmX3_depthBy : Room := { frames := 1, cells := 0, slots := 0, locals := 25 }
def fX3_depthBy (x0 : Int32) (x1 : Int32) (x2 : Int32) : Option Int32 := lt (((rmI x0 (9 : Int32)) + (1 : Int32))) fun y1 => bP (fX4_shifted (x0 / (9 : Int32)) x1 y1 x2 false) fun z2 => some z2
set_option maxHeartbeats 4000000 in
set_option maxRecDepth 100000 in
theorem mX3_depthBy (l : Launch) (x0 : Int32) (x1 : Int32) (x2 : Int32) (M : Mem) {r : Int32} (h : fX3_depthBy x0 x1 x2 = some r) : MC l yX3_depthBy cX3_depthBy 5 (some .int) rmX3_depthBy (fun ad sd => [.int x0, .int x1, .int x2]) M (fun _ => some (.int r)) M := by
  refine MC_start (by decide) (fun ad sd => [(0, .int x0), (1, .int x1), (2, .int x2)]) (fun _ _ => rfl) (fun _ _ => Nat.le_of_ble_eq_true rfl) ?_
  intro p e s m args below meth c D T3 ad sd A C
  unfold fX3_depthBy at h
  refine V_iload_n C 0 dX3_depthBy_0 rfl ?_
  refine V_bipush C (9 : Int32) dX3_depthBy_1 (by decide) ?_
  refine V_idiv C dX3_depthBy_3 (by decide) ?_
  refine V_istore_n C [(3, .int (x0 / (9 : Int32))), (0, .int x0), (1, .int x1), (2, .int x2)] dX3_depthBy_4 rfl (by decide) rfl ?_
  refine V_iload_n C 1 dX3_depthBy_5 rfl ?_
  refine V_bipush C (9 : Int32) dX3_depthBy_6 (by decide) ?_
  refine V_irem C dX3_depthBy_8 (by decide) ?_
  refine V_iconst C (1 : Int32) dX3_depthBy_9 (by decide) ?_
  refine V_iadd C dX3_depthBy_10 ?_
  obtain ⟨y1, hy1, h⟩ := lt_t h
  refine V_topi C hy1 ?_
  refine V_istore C [(4, .int y1), (3, .int (x0 / (9 : Int32))), (0, .int x0), (1, .int x1), (2, .int x2)] dX3_depthBy_11 (by decide) rfl ?_
  refine V_iload_n C 1 dX3_depthBy_13 rfl ?_
  refine V_iload_n C 3 dX3_depthBy_14 rfl ?_
  refine V_iload C 0 dX3_depthBy_15 rfl ?_
  refine V_iload_n C 4 dX3_depthBy_17 rfl ?_
  refine V_iconst C (0 : Int32) dX3_depthBy_18 (by decide) ?_
  obtain ⟨z2, hz2, h⟩ := bP_t h
  refine V_callSN C (st := []) (st' := [.int z2]) (mX4_shifted l (x0 / (9 : Int32)) x1 y1 x2 false M hz2) wmX4_shifted lkX3_44 dX3_depthBy_19 rfl rfl rfl ⟨rfl, rfl, (Nat.le_of_ble_eq_true rfl), (Nat.le_of_ble_eq_true rfl)⟩ ⟨Nat.zero_le _, Nat.zero_le _⟩ (Nat.le_of_ble_eq_true rfl) ?_
  obtain rfl := ret_P h
  exact V_iret C dX3_depthBy_22
abbrev rmX3_isFitting : Room := { frames := 2, cells := 0, slots := 0, locals := 49 }
def fX3_isFitting_30 (M : Mem) (kk3 : Int32 → Int32 → Int32 → Int32 → Option Bool) (x1 : Int32) (x2 : Int32) (x3 : Int32) (x4 : Int32) (t0 : Bool) : Option Bool := if t0 = true then bP (fX4_itemOf M 7 x4) fun z2 => bP (fX3_depthBy x3 x2 z2) fun z3 => bP (fX4_itemOf M 9 x4) fun z4 => if z3 = z4 then kk3 x1 x2 x3 (x4 + 1) else some false else kk3 x1 x2 x3 (x4 + 1)
def fX3_isFitting_3 (M : Mem) : Nat → Int32 → Int32 → Int32 → Int32 → Option Bool
  | 0, _, _, _, _ => none
  | n + 1, x1, x2, x3, x4 => if (M 6 4) ≤ x4 then some true else bP (fX4_itemOf M 8 x4) fun z1 => if z1 = x1 then fX3_isFitting_30 M (fX3_isFitting_3 M n) x1 x2 x3 x4 true else fX3_isFitting_30 M (fX3_isFitting_3 M n) x1 x2 x3 x4 false
def fX3_isFitting (M : Mem) (x1 : Int32) (x2 : Int32) (x3 : Int32) : Option Bool := fX3_isFitting_3 M 1000 x1 x2 x3 (0 : Int32)
set_option maxHeartbeats 4000000 in
set_option maxRecDepth 100000 in
theorem vX3_isFitting_30 {p : Program} {l : Launch} {e : Env} {s : State} {m : MethodId} {args : Array Value} {below : List Frame} {meth : Method} {c : Code} {D : va_G} {T3 : ClassId × ClassId × ClassId} {ad sd : Nat → Nat} {A : Nat → Prop}  (C : CX p s m args meth c cX3_isFitting 6 RX3 (some .boolean) D T3 ad sd A) {r : Bool} (M : Mem) (kk3 : Int32 → Int32 → Int32 → Int32 → Option Bool) (hk3 : ∀ (x1 : Int32) (x2 : Int32) (x3 : Int32) (x4 : Int32), kk3 x1 x2 x3 x4 = some r → VV p l e rmX3_isFitting s m args below meth c D T3 ad A 6 0 0 (QM below D T3 ad A args s (fun _ => some (.int (b2i r))) M) M [(0, .ref (ad 6)), (1, .int x1), (2, .int x2), (3, .int x3), (4, .int x4)] 3 []) : ∀ (x1 : Int32) (x2 : Int32) (x3 : Int32) (x4 : Int32) (t0 : Bool), fX3_isFitting_30 M kk3 x1 x2 x3 x4 t0 = some r → VV p l e rmX3_isFitting s m args below meth c D T3 ad A 6 0 0 (QM below D T3 ad A args s (fun _ => some (.int (b2i r))) M) M [(0, .ref (ad 6)), (1, .int x1), (2, .int x2), (3, .int x3), (4, .int x4)] 30 [.int (b2i t0)] := by
  intro x1 x2 x3 x4 t0 h
  unfold fX3_isFitting_30 at h
  refine V_istore C [(5, .int (b2i t0)), (0, .ref (ad 6)), (1, .int x1), (2, .int x2), (3, .int x3), (4, .int x4)] dX3_isFitting_30 (by decide) rfl ?_
  refine V_iload C 0 dX3_isFitting_32 rfl ?_
  refine V_ifB_eq C 65 dX3_isFitting_34 (by decide) (fun q6 => ?_) (fun q6 => ?_)
  · replace h := ite_n q6 h
    refine V_iinc C 5 (x4 + 1) [(4, .int (x4 + 1)), (5, .int (b2i t0)), (0, .ref (ad 6)), (1, .int x1), (2, .int x2), (3, .int x3)] dX3_isFitting_65 rfl rfl (by decide) rfl ?_
    refine V_goto C 3 dX3_isFitting_68 (by decide) ?_
    refine V_sub (lv' := [(0, .ref (ad 6)), (1, .int x1), (2, .int x2), (3, .int x3), (4, .int (x4 + 1))]) [2, 3, 4, 5, 0] rfl ?_
    exact hk3 x1 x2 x3 (x4 + 1) h
  · replace h := ite_p q6 h
    refine V_iload_n C 4 dX3_isFitting_37 rfl ?_
    refine V_iload_n C 3 dX3_isFitting_38 rfl ?_
    refine V_aload_n C 1 dX3_isFitting_39 rfl ?_
    refine V_get C 0 dX3_isFitting_40 (wo_6 T3 ad _) rfl inKX3 (by decide) flX3_11 rfl rfl ?_
    refine V_iload C 5 dX3_isFitting_43 rfl ?_
    obtain ⟨z2, hz2, h⟩ := bP_t h
    refine V_callSN C (st := [.int x2, .int x3]) (st' := [.int z2, .int x2, .int x3]) (mX4_itemOf l 7 rfl x4 M hz2) wmX4_itemOf lkX3_36 dX3_isFitting_45 rfl rfl rfl ⟨rfl, rfl, (Nat.le_of_ble_eq_true rfl), (Nat.le_of_ble_eq_true rfl)⟩ ⟨Nat.zero_le _, Nat.zero_le _⟩ (Nat.le_of_ble_eq_true rfl) ?_
    obtain ⟨z3, hz3, h⟩ := bP_t h
    refine V_callS C (st := []) (st' := [.int z3]) (mX3_depthBy l x3 x2 z2 M hz3) wmX3_depthBy lkX3_40 dX3_isFitting_48 rfl rfl rfl ⟨rfl, rfl, (Nat.le_of_ble_eq_true rfl), (Nat.le_of_ble_eq_true rfl)⟩ ⟨Nat.zero_le _, Nat.zero_le _⟩ (Nat.le_of_ble_eq_true rfl) ?_
    refine V_aload_n C 1 dX3_isFitting_51 rfl ?_
    refine V_get C 2 dX3_isFitting_52 (wo_6 T3 ad _) rfl inKX3 (by decide) flX3_18 rfl rfl ?_
    refine V_iload C 5 dX3_isFitting_55 rfl ?_
    obtain ⟨z4, hz4, h⟩ := bP_t h
    refine V_callSN C (st := [.int z3]) (st' := [.int z4, .int z3]) (mX4_itemOf l 9 rfl x4 M hz4) wmX4_itemOf lkX3_36 dX3_isFitting_57 rfl rfl rfl ⟨rfl, rfl, (Nat.le_of_ble_eq_true rfl), (Nat.le_of_ble_eq_true rfl)⟩ ⟨Nat.zero_le _, Nat.zero_le _⟩ (Nat.le_of_ble_eq_true rfl) ?_
    refine V_icmp_eq C 65 dX3_isFitting_60 (by decide) (fun q5 => ?_) (fun q5 => ?_)
    · replace h := ite_p q5 h
      refine V_iinc C 5 (x4 + 1) [(4, .int (x4 + 1)), (5, .int (b2i t0)), (0, .ref (ad 6)), (1, .int x1), (2, .int x2), (3, .int x3)] dX3_isFitting_65 rfl rfl (by decide) rfl ?_
      refine V_goto C 3 dX3_isFitting_68 (by decide) ?_
      refine V_sub (lv' := [(0, .ref (ad 6)), (1, .int x1), (2, .int x2), (3, .int x3), (4, .int (x4 + 1))]) [2, 3, 4, 5, 0] rfl ?_
      exact hk3 x1 x2 x3 (x4 + 1) h
    · replace h := ite_n q5 h
      refine V_iconst C (0 : Int32) dX3_isFitting_63 (by decide) ?_
      obtain rfl := ret_P h
      exact V_zret (x := false) C dX3_isFitting_64
set_option maxHeartbeats 4000000 in
set_option maxRecDepth 100000 in
theorem vX3_isFitting_3 {p : Program} {l : Launch} {e : Env} {s : State} {m : MethodId} {args : Array Value} {below : List Frame} {meth : Method} {c : Code} {D : va_G} {T3 : ClassId × ClassId × ClassId} {ad sd : Nat → Nat} {A : Nat → Prop}  (C : CX p s m args meth c cX3_isFitting 6 RX3 (some .boolean) D T3 ad sd A) {r : Bool} (M : Mem) : ∀ (n : Nat) (x1 : Int32) (x2 : Int32) (x3 : Int32) (x4 : Int32), fX3_isFitting_3 M n x1 x2 x3 x4 = some r → VV p l e rmX3_isFitting s m args below meth c D T3 ad A 6 0 0 (QM below D T3 ad A args s (fun _ => some (.int (b2i r))) M) M [(0, .ref (ad 6)), (1, .int x1), (2, .int x2), (3, .int x3), (4, .int x4)] 3 [] := by
  intro n
  induction n with
  | zero => intro x1 x2 x3 x4 h; exact nomatch (show (none : Option Bool) = some _ from h)
  | succ n ih =>
    intro x1 x2 x3 x4 h
    rw [fX3_isFitting_3] at h
    refine V_iload C 4 dX3_isFitting_3 rfl ?_
    refine V_aload_n C 0 dX3_isFitting_5 rfl ?_
    refine V_get C 4 dX3_isFitting_6 (wo_6 T3 ad _) rfl inKX3 (by decide) flX3_24 rfl rfl ?_
    refine V_icmp_ge C 71 dX3_isFitting_9 (by decide) (fun q8 => ?_) (fun q8 => ?_)
    · replace h := ite_p q8 h
      refine V_iconst C (1 : Int32) dX3_isFitting_71 (by decide) ?_
      obtain rfl := ret_P h
      exact V_zret (x := true) C dX3_isFitting_72
    · replace h := ite_n q8 h
      refine V_aload_n C 0 dX3_isFitting_12 rfl ?_
      refine V_get C 1 dX3_isFitting_13 (wo_6 T3 ad _) rfl inKX3 (by decide) flX3_15 rfl rfl ?_
      refine V_iload C 4 dX3_isFitting_16 rfl ?_
      obtain ⟨z1, hz1, h⟩ := bP_t h
      refine V_callSN C (st := []) (st' := [.int z1]) (mX4_itemOf l 8 rfl x4 M hz1) wmX4_itemOf lkX3_36 dX3_isFitting_18 rfl rfl rfl ⟨rfl, rfl, (Nat.le_of_ble_eq_true rfl), (Nat.le_of_ble_eq_true rfl)⟩ ⟨Nat.zero_le _, Nat.zero_le _⟩ (Nat.le_of_ble_eq_true rfl) ?_
      refine V_iload_n C 1 dX3_isFitting_21 rfl ?_
      refine V_icmp_ne C 29 dX3_isFitting_22 (by decide) (fun q7 => ?_) (fun q7 => ?_)
      · replace h := ite_n q7 h
        refine V_iconst C (0 : Int32) dX3_isFitting_29 (by decide) ?_
        exact vX3_isFitting_30 C M (fX3_isFitting_3 M n) ih x1 x2 x3 x4 false h
      · replace h := ite_p q7 h
        refine V_iconst C (1 : Int32) dX3_isFitting_25 (by decide) ?_
        refine V_goto C 30 dX3_isFitting_26 (by decide) ?_
        exact vX3_isFitting_30 C M (fX3_isFitting_3 M n) ih x1 x2 x3 x4 true h
set_option maxHeartbeats 4000000 in
set_option maxRecDepth 100000 in
theorem mX3_isFitting (l : Launch) (x1 : Int32) (x2 : Int32) (x3 : Int32) (M : Mem) {r : Bool} (h : fX3_isFitting M x1 x2 x3 = some r) : MC l yX3_isFitting cX3_isFitting 6 (some .boolean) rmX3_isFitting (fun ad sd => [.ref (ad 6), .int x1, .int x2, .int x3]) M (fun _ => some (.int (b2i r))) M := by
  refine MC_start (by decide) (fun ad sd => [(0, .ref (ad 6)), (1, .int x1), (2, .int x2), (3, .int x3)]) (fun _ _ => rfl) (fun _ _ => Nat.le_of_ble_eq_true rfl) ?_
  intro p e s m args below meth c D T3 ad sd A C
  unfold fX3_isFitting at h
  refine V_iconst C (0 : Int32) dX3_isFitting_0 (by decide) ?_
  refine V_istore C [(4, .int (0 : Int32)), (0, .ref (ad 6)), (1, .int x1), (2, .int x2), (3, .int x3)] dX3_isFitting_1 (by decide) rfl ?_
  refine V_sub (lv' := [(0, .ref (ad 6)), (1, .int x1), (2, .int x2), (3, .int x3), (4, .int (0 : Int32))]) [1, 2, 3, 4, 0] rfl ?_
  exact vX3_isFitting_3 C M 1000 x1 x2 x3 (0 : Int32) h
abbrev rmX3_fitting : Room := { frames := 3, cells := 0, slots := 0, locals := 74 }
def fX3_fitting_5 (M : Mem) : Nat → Int32 → Int32 → Int64 → Int32 → Option Int64
  | 0, _, _, _, _ => none
  | n + 1, x1, x2, x3, x5 => if (36 : Int32) ≤ x5 then some x3 else bP (fX3_isFitting M x1 x2 x5) fun z1 => if z1 = true then fX3_fitting_5 M n x1 x2 (x3 ||| (shlL (1 : Int64) x5)) (x5 + 1) else fX3_fitting_5 M n x1 x2 x3 (x5 + 1)
def fX3_fitting (M : Mem) (x1 : Int32) (x2 : Int32) : Option Int64 := fX3_fitting_5 M 1000 x1 x2 (0 : Int64) (0 : Int32)
set_option maxHeartbeats 4000000 in
set_option maxRecDepth 100000 in
theorem vX3_fitting_5 {p : Program} {l : Launch} {e : Env} {s : State} {m : MethodId} {args : Array Value} {below : List Frame} {meth : Method} {c : Code} {D : va_G} {T3 : ClassId × ClassId × ClassId} {ad sd : Nat → Nat} {A : Nat → Prop}  (C : CX p s m args meth c cX3_fitting 6 RX3 (some .long) D T3 ad sd A) {r : Int64} (M : Mem) : ∀ (n : Nat) (x1 : Int32) (x2 : Int32) (x3 : Int64) (x5 : Int32), fX3_fitting_5 M n x1 x2 x3 x5 = some r → VV p l e rmX3_fitting s m args below meth c D T3 ad A 6 0 0 (QM below D T3 ad A args s (fun _ => some (.long r)) M) M [(0, .ref (ad 6)), (1, .int x1), (2, .int x2), (3, .long x3), (5, .int x5)] 5 [] := by
  intro n
  induction n with
  | zero => intro x1 x2 x3 x5 h; exact nomatch (show (none : Option Int64) = some _ from h)
  | succ n ih =>
    intro x1 x2 x3 x5 h
    rw [fX3_fitting_5] at h
    refine V_iload C 4 dX3_fitting_5 rfl ?_
    refine V_bipush C (36 : Int32) dX3_fitting_7 (by decide) ?_
    refine V_icmp_ge C 36 dX3_fitting_9 (by decide) (fun q3 => ?_) (fun q3 => ?_)
    · replace h := ite_p q3 h
      refine V_lload_n C 3 dX3_fitting_36 rfl ?_
      obtain rfl := ret_P h
      exact V_lret C dX3_fitting_37
    · replace h := ite_n q3 h
      refine V_aload_n C 0 dX3_fitting_12 rfl ?_
      refine V_iload_n C 1 dX3_fitting_13 rfl ?_
      refine V_iload_n C 2 dX3_fitting_14 rfl ?_
      refine V_iload C 4 dX3_fitting_15 rfl ?_
      obtain ⟨z1, hz1, h⟩ := bP_t h
      refine V_callV C (st := []) (st' := [.int (b2i z1)]) (mX3_isFitting l x1 x2 x5 M hz1) wmX3_isFitting lkX3_32 dX3_fitting_17 (wo_6 T3 ad _) rfl rfl rfl rfl rfl rfl ⟨rfl, rfl, (Nat.le_of_ble_eq_true rfl), (Nat.le_of_ble_eq_true rfl)⟩ ⟨Nat.zero_le _, Nat.zero_le _⟩ (Nat.le_of_ble_eq_true rfl) ?_
      refine V_ifB_eq C 30 dX3_fitting_20 (by decide) (fun q2 => ?_) (fun q2 => ?_)
      · replace h := ite_n q2 h
        refine V_iinc C 4 (x5 + 1) [(5, .int (x5 + 1)), (0, .ref (ad 6)), (1, .int x1), (2, .int x2), (3, .long x3)] dX3_fitting_30 rfl rfl (by decide) rfl ?_
        refine V_goto C 5 dX3_fitting_33 (by decide) ?_
        refine V_sub (lv' := [(0, .ref (ad 6)), (1, .int x1), (2, .int x2), (3, .long x3), (5, .int (x5 + 1))]) [1, 2, 3, 4, 0] rfl ?_
        exact ih x1 x2 x3 (x5 + 1) h
      · replace h := ite_p q2 h
        refine V_lload_n C 3 dX3_fitting_23 rfl ?_
        refine V_lconst C (1 : Int64) dX3_fitting_24 (by decide) ?_
        refine V_iload C 4 dX3_fitting_25 rfl ?_
        refine V_lshl C dX3_fitting_27 ?_
        refine V_lor C dX3_fitting_28 ?_
        refine V_lstore_n C [(3, .long (x3 ||| (shlL (1 : Int64) x5))), (0, .ref (ad 6)), (1, .int x1), (2, .int x2), (5, .int x5)] dX3_fitting_29 rfl (by decide) rfl ?_
        refine V_iinc C 4 (x5 + 1) [(5, .int (x5 + 1)), (3, .long (x3 ||| (shlL (1 : Int64) x5))), (0, .ref (ad 6)), (1, .int x1), (2, .int x2)] dX3_fitting_30 rfl rfl (by decide) rfl ?_
        refine V_goto C 5 dX3_fitting_33 (by decide) ?_
        refine V_sub (lv' := [(0, .ref (ad 6)), (1, .int x1), (2, .int x2), (3, .long (x3 ||| (shlL (1 : Int64) x5))), (5, .int (x5 + 1))]) [2, 3, 4, 1, 0] rfl ?_
        exact ih x1 x2 (x3 ||| (shlL (1 : Int64) x5)) (x5 + 1) h
set_option maxHeartbeats 4000000 in
set_option maxRecDepth 100000 in
theorem mX3_fitting (l : Launch) (x1 : Int32) (x2 : Int32) (M : Mem) {r : Int64} (h : fX3_fitting M x1 x2 = some r) : MC l yX3_fitting cX3_fitting 6 (some .long) rmX3_fitting (fun ad sd => [.ref (ad 6), .int x1, .int x2]) M (fun _ => some (.long r)) M := by
  refine MC_start (by decide) (fun ad sd => [(0, .ref (ad 6)), (1, .int x1), (2, .int x2)]) (fun _ _ => rfl) (fun _ _ => Nat.le_of_ble_eq_true rfl) ?_
  intro p e s m args below meth c D T3 ad sd A C
  unfold fX3_fitting at h
  refine V_lconst C (0 : Int64) dX3_fitting_0 (by decide) ?_
  refine V_lstore_n C [(3, .long (0 : Int64)), (0, .ref (ad 6)), (1, .int x1), (2, .int x2)] dX3_fitting_1 rfl (by decide) rfl ?_
  refine V_iconst C (0 : Int32) dX3_fitting_2 (by decide) ?_
  refine V_istore C [(5, .int (0 : Int32)), (3, .long (0 : Int64)), (0, .ref (ad 6)), (1, .int x1), (2, .int x2)] dX3_fitting_3 (by decide) rfl ?_
  refine V_sub (lv' := [(0, .ref (ad 6)), (1, .int x1), (2, .int x2), (3, .long (0 : Int64)), (5, .int (0 : Int32))]) [2, 3, 4, 1, 0] rfl ?_
  exact vX3_fitting_5 C M 1000 x1 x2 (0 : Int64) (0 : Int32) h
abbrev rmJ13_bitCount_95d88 : Room := { frames := 0, cells := 0, slots := 0, locals := 0 }
def fJ13_bitCount_95d88 (x0 : Int64) : Int32 := lt ((x0 - ((ushrL x0 (1 : Int32)) &&& (6148914691236517205 : Int64)))) fun y1 => lt (((y1 &&& (3689348814741910323 : Int64)) + ((ushrL y1 (2 : Int32)) &&& (3689348814741910323 : Int64)))) fun y2 => lt (((y2 + (ushrL y2 (4 : Int32))) &&& (1085102592571150095 : Int64))) fun y3 => lt (((y3 + (ushrL y3 (8 : Int32))) + (ushrL (y3 + (ushrL y3 (8 : Int32))) (16 : Int32)))) fun y4 => ((Int64.toInt32 (y4 + (ushrL y4 (32 : Int32)))) &&& (127 : Int32))
set_option maxHeartbeats 4000000 in
set_option maxRecDepth 100000 in
theorem mJ13_bitCount_95d88 (l : Launch) (x0 : Int64) (M : Mem) {r : Int32} (h : fJ13_bitCount_95d88 x0 = r) : MC l yJ13_bitCount_95d88 cJ13_bitCount_95d88 2 (some .int) rmJ13_bitCount_95d88 (fun ad sd => [.long x0]) M (fun _ => some (.int r)) M := by
  refine MC_start (by decide) (fun ad sd => [(0, .long x0)]) (fun _ _ => rfl) (fun _ _ => Nat.le_of_ble_eq_true rfl) ?_
  intro p e s m args below meth c D T3 ad sd A C
  unfold fJ13_bitCount_95d88 at h
  refine V_lload_n C 0 dJ13_bitCount_95d88_0 rfl ?_
  refine V_lload_n C 0 dJ13_bitCount_95d88_1 rfl ?_
  refine V_iconst C (1 : Int32) dJ13_bitCount_95d88_2 (by decide) ?_
  refine V_lushr C dJ13_bitCount_95d88_3 ?_
  refine V_ldc2 C dJ13_bitCount_95d88_4 kcJ13_314 ?_
  refine V_land C dJ13_bitCount_95d88_7 ?_
  refine V_lsub C dJ13_bitCount_95d88_8 ?_
  obtain ⟨y1, hy1, h⟩ := lt_t h
  refine V_topl C hy1 ?_
  refine V_lstore_n C [(0, .long y1)] dJ13_bitCount_95d88_9 rfl (by decide) rfl ?_
  refine V_lload_n C 0 dJ13_bitCount_95d88_10 rfl ?_
  refine V_ldc2 C dJ13_bitCount_95d88_11 kcJ13_316 ?_
  refine V_land C dJ13_bitCount_95d88_14 ?_
  refine V_lload_n C 0 dJ13_bitCount_95d88_15 rfl ?_
  refine V_iconst C (2 : Int32) dJ13_bitCount_95d88_16 (by decide) ?_
  refine V_lushr C dJ13_bitCount_95d88_17 ?_
  refine V_ldc2 C dJ13_bitCount_95d88_18 kcJ13_316 ?_
  refine V_land C dJ13_bitCount_95d88_21 ?_
  refine V_ladd C dJ13_bitCount_95d88_22 ?_
  obtain ⟨y2, hy2, h⟩ := lt_t h
  refine V_topl C hy2 ?_
  refine V_lstore_n C [(0, .long y2)] dJ13_bitCount_95d88_23 rfl (by decide) rfl ?_
  refine V_lload_n C 0 dJ13_bitCount_95d88_24 rfl ?_
  refine V_lload_n C 0 dJ13_bitCount_95d88_25 rfl ?_
  refine V_iconst C (4 : Int32) dJ13_bitCount_95d88_26 (by decide) ?_
  refine V_lushr C dJ13_bitCount_95d88_27 ?_
  refine V_ladd C dJ13_bitCount_95d88_28 ?_
  refine V_ldc2 C dJ13_bitCount_95d88_29 kcJ13_318 ?_
  refine V_land C dJ13_bitCount_95d88_32 ?_
  obtain ⟨y3, hy3, h⟩ := lt_t h
  refine V_topl C hy3 ?_
  refine V_lstore_n C [(0, .long y3)] dJ13_bitCount_95d88_33 rfl (by decide) rfl ?_
  refine V_lload_n C 0 dJ13_bitCount_95d88_34 rfl ?_
  refine V_lload_n C 0 dJ13_bitCount_95d88_35 rfl ?_
  refine V_bipush C (8 : Int32) dJ13_bitCount_95d88_36 (by decide) ?_
  refine V_lushr C dJ13_bitCount_95d88_38 ?_
  refine V_ladd C dJ13_bitCount_95d88_39 ?_
  refine V_lstore_n C [(0, .long (y3 + (ushrL y3 (8 : Int32))))] dJ13_bitCount_95d88_40 rfl (by decide) rfl ?_
  refine V_lload_n C 0 dJ13_bitCount_95d88_41 rfl ?_
  refine V_lload_n C 0 dJ13_bitCount_95d88_42 rfl ?_
  refine V_bipush C (16 : Int32) dJ13_bitCount_95d88_43 (by decide) ?_
  refine V_lushr C dJ13_bitCount_95d88_45 ?_
  refine V_ladd C dJ13_bitCount_95d88_46 ?_
  obtain ⟨y4, hy4, h⟩ := lt_t h
  refine V_topl C hy4 ?_
  refine V_lstore_n C [(0, .long y4)] dJ13_bitCount_95d88_47 rfl (by decide) rfl ?_
  refine V_lload_n C 0 dJ13_bitCount_95d88_48 rfl ?_
  refine V_lload_n C 0 dJ13_bitCount_95d88_49 rfl ?_
  refine V_bipush C (32 : Int32) dJ13_bitCount_95d88_50 (by decide) ?_
  refine V_lushr C dJ13_bitCount_95d88_52 ?_
  refine V_ladd C dJ13_bitCount_95d88_53 ?_
  refine V_lstore_n C [(0, .long (y4 + (ushrL y4 (32 : Int32))))] dJ13_bitCount_95d88_54 rfl (by decide) rfl ?_
  refine V_lload_n C 0 dJ13_bitCount_95d88_55 rfl ?_
  refine V_l2i C dJ13_bitCount_95d88_56 ?_
  refine V_bipush C (127 : Int32) dJ13_bitCount_95d88_57 (by decide) ?_
  refine V_iand C dJ13_bitCount_95d88_59 ?_
  subst h
  exact V_iret C dJ13_bitCount_95d88_60
abbrev rmX3_isAmong : Room := { frames := 0, cells := 0, slots := 0, locals := 0 }
def fX3_isAmong (x0 : Int64) (x2 : Int32) : Bool := if (lg_cmp ((shrL x0 x2) &&& (1 : Int64)) (1 : Int64)) = 0 then true else false
set_option maxHeartbeats 4000000 in
set_option maxRecDepth 100000 in
theorem mX3_isAmong (l : Launch) (x0 : Int64) (x2 : Int32) (M : Mem) {r : Bool} (h : fX3_isAmong x0 x2 = r) : MC l yX3_isAmong cX3_isAmong 3 (some .boolean) rmX3_isAmong (fun ad sd => [.long x0, .int x2]) M (fun _ => some (.int (b2i r))) M := by
  refine MC_start (by decide) (fun ad sd => [(0, .long x0), (2, .int x2)]) (fun _ _ => rfl) (fun _ _ => Nat.le_of_ble_eq_true rfl) ?_
  intro p e s m args below meth c D T3 ad sd A C
  unfold fX3_isAmong at h
  refine V_lload_n C 0 dX3_isAmong_0 rfl ?_
  refine V_iload_n C 1 dX3_isAmong_1 rfl ?_
  refine V_lshr C dX3_isAmong_2 ?_
  refine V_lconst C (1 : Int64) dX3_isAmong_3 (by decide) ?_
  refine V_land C dX3_isAmong_4 ?_
  refine V_lconst C (1 : Int64) dX3_isAmong_5 (by decide) ?_
  refine V_lcmp C dX3_isAmong_6 ?_
  refine V_if_ne C 14 dX3_isAmong_7 (by decide) (fun q1 => ?_) (fun q1 => ?_)
  · replace h := ite_n q1 h
    refine V_iconst C (0 : Int32) dX3_isAmong_14 (by decide) ?_
    subst h
    exact V_zret (x := false) C dX3_isAmong_15
  · replace h := ite_p q1 h
    refine V_iconst C (1 : Int32) dX3_isAmong_10 (by decide) ?_
    refine V_goto C 15 dX3_isAmong_11 (by decide) ?_
    subst h
    exact V_zret (x := true) C dX3_isAmong_15
abbrev rmX3_lawAt : Room := { frames := 1, cells := 0, slots := 0, locals := 22 }
def fX3_lawAt_5 : Nat → Int64 → Int32 → Int32 → Int32 → Option Int32
  | 0, _, _, _, _ => none
  | n + 1, x0, x2, x3, x4 => if (36 : Int32) ≤ x4 then some (-1 : Int32) else if (fX3_isAmong x0 x4) = true then if x3 = x2 then some ((((x4 / (9 : Int32)) * (10 : Int32)) + (rmI x4 (9 : Int32))) + (1 : Int32)) else fX3_lawAt_5 n x0 x2 (x3 + 1) (x4 + 1) else fX3_lawAt_5 n x0 x2 x3 (x4 + 1)
def fX3_lawAt (x0 : Int64) (x2 : Int32) : Option Int32 := fX3_lawAt_5 1000 x0 x2 (0 : Int32) (0 : Int32)
set_option maxHeartbeats 4000000 in
set_option maxRecDepth 100000 in
theorem vX3_lawAt_5 {p : Program} {l : Launch} {e : Env} {s : State} {m : MethodId} {args : Array Value} {below : List Frame} {meth : Method} {c : Code} {D : va_G} {T3 : ClassId × ClassId × ClassId} {ad sd : Nat → Nat} {A : Nat → Prop}  (C : CX p s m args meth c cX3_lawAt 5 RX3 (some .int) D T3 ad sd A) {r : Int32} (M : Mem) : ∀ (n : Nat) (x0 : Int64) (x2 : Int32) (x3 : Int32) (x4 : Int32), fX3_lawAt_5 n x0 x2 x3 x4 = some r → VV p l e rmX3_lawAt s m args below meth c D T3 ad A 5 0 0 (QM below D T3 ad A args s (fun _ => some (.int r)) M) M [(0, .long x0), (2, .int x2), (3, .int x3), (4, .int x4)] 5 [] := by
  intro n
  induction n with
  | zero => intro x0 x2 x3 x4 h; exact nomatch (show (none : Option Int32) = some _ from h)
  | succ n ih =>
    intro x0 x2 x3 x4 h
    rw [fX3_lawAt_5] at h
    refine V_iload C 3 dX3_lawAt_5 rfl ?_
    refine V_bipush C (36 : Int32) dX3_lawAt_7 (by decide) ?_
    refine V_icmp_ge C 55 dX3_lawAt_9 (by decide) (fun q3 => ?_) (fun q3 => ?_)
    · replace h := ite_p q3 h
      refine V_iconst C (-1 : Int32) dX3_lawAt_55 (by decide) ?_
      obtain rfl := ret_P h
      exact V_iret C dX3_lawAt_56
    · replace h := ite_n q3 h
      refine V_lload_n C 0 dX3_lawAt_12 rfl ?_
      refine V_iload C 3 dX3_lawAt_13 rfl ?_
      refine V_callS C (st := []) (st' := [.int (b2i (fX3_isAmong x0 x4))]) (mX3_isAmong l x0 x4 M rfl) wmX3_isAmong lkX3_48 dX3_lawAt_15 rfl rfl rfl ⟨rfl, rfl, (Nat.le_of_ble_eq_true rfl), (Nat.le_of_ble_eq_true rfl)⟩ ⟨Nat.zero_le _, Nat.zero_le _⟩ (Nat.le_of_ble_eq_true rfl) ?_
      refine V_ifB_ne C 24 dX3_lawAt_18 (by decide) (fun q2 => ?_) (fun q2 => ?_)
      · replace h := ite_p q2 h
        refine V_iload_n C 2 dX3_lawAt_24 rfl ?_
        refine V_iload_n C 1 dX3_lawAt_25 rfl ?_
        refine V_icmp_ne C 46 dX3_lawAt_26 (by decide) (fun q1 => ?_) (fun q1 => ?_)
        · replace h := ite_n q1 h
          refine V_iinc C 2 (x3 + 1) [(3, .int (x3 + 1)), (0, .long x0), (2, .int x2), (4, .int x4)] dX3_lawAt_46 rfl rfl (by decide) rfl ?_
          refine V_iinc C 3 (x4 + 1) [(4, .int (x4 + 1)), (3, .int (x3 + 1)), (0, .long x0), (2, .int x2)] dX3_lawAt_49 rfl rfl (by decide) rfl ?_
          refine V_goto C 5 dX3_lawAt_52 (by decide) ?_
          refine V_sub (lv' := [(0, .long x0), (2, .int x2), (3, .int (x3 + 1)), (4, .int (x4 + 1))]) [2, 3, 1, 0] rfl ?_
          exact ih x0 x2 (x3 + 1) (x4 + 1) h
        · replace h := ite_p q1 h
          refine V_iload C 3 dX3_lawAt_29 rfl ?_
          refine V_bipush C (9 : Int32) dX3_lawAt_31 (by decide) ?_
          refine V_idiv C dX3_lawAt_33 (by decide) ?_
          refine V_bipush C (10 : Int32) dX3_lawAt_34 (by decide) ?_
          refine V_imul C dX3_lawAt_36 ?_
          refine V_iload C 3 dX3_lawAt_37 rfl ?_
          refine V_bipush C (9 : Int32) dX3_lawAt_39 (by decide) ?_
          refine V_irem C dX3_lawAt_41 (by decide) ?_
          refine V_iadd C dX3_lawAt_42 ?_
          refine V_iconst C (1 : Int32) dX3_lawAt_43 (by decide) ?_
          refine V_iadd C dX3_lawAt_44 ?_
          obtain rfl := ret_P h
          exact V_iret C dX3_lawAt_45
      · replace h := ite_n q2 h
        refine V_goto C 49 dX3_lawAt_21 (by decide) ?_
        refine V_iinc C 3 (x4 + 1) [(4, .int (x4 + 1)), (0, .long x0), (2, .int x2), (3, .int x3)] dX3_lawAt_49 rfl rfl (by decide) rfl ?_
        refine V_goto C 5 dX3_lawAt_52 (by decide) ?_
        refine V_sub (lv' := [(0, .long x0), (2, .int x2), (3, .int x3), (4, .int (x4 + 1))]) [1, 2, 3, 0] rfl ?_
        exact ih x0 x2 x3 (x4 + 1) h
set_option maxHeartbeats 4000000 in
set_option maxRecDepth 100000 in
theorem mX3_lawAt (l : Launch) (x0 : Int64) (x2 : Int32) (M : Mem) {r : Int32} (h : fX3_lawAt x0 x2 = some r) : MC l yX3_lawAt cX3_lawAt 5 (some .int) rmX3_lawAt (fun ad sd => [.long x0, .int x2]) M (fun _ => some (.int r)) M := by
  refine MC_start (by decide) (fun ad sd => [(0, .long x0), (2, .int x2)]) (fun _ _ => rfl) (fun _ _ => Nat.le_of_ble_eq_true rfl) ?_
  intro p e s m args below meth c D T3 ad sd A C
  unfold fX3_lawAt at h
  refine V_iconst C (0 : Int32) dX3_lawAt_0 (by decide) ?_
  refine V_istore_n C [(3, .int (0 : Int32)), (0, .long x0), (2, .int x2)] dX3_lawAt_1 rfl (by decide) rfl ?_
  refine V_iconst C (0 : Int32) dX3_lawAt_2 (by decide) ?_
  refine V_istore C [(4, .int (0 : Int32)), (3, .int (0 : Int32)), (0, .long x0), (2, .int x2)] dX3_lawAt_3 (by decide) rfl ?_
  refine V_sub (lv' := [(0, .long x0), (2, .int x2), (3, .int (0 : Int32)), (4, .int (0 : Int32))]) [2, 3, 1, 0] rfl ?_
  exact vX3_lawAt_5 C M 1000 x0 x2 (0 : Int32) (0 : Int32) h
abbrev rmX3_depthBits : Room := { frames := 2, cells := 0, slots := 0, locals := 49 }
def fX3_depthBits_6 : Nat → Int64 → Int32 → Int32 → Int32 → Int32 → Option Int32
  | 0, _, _, _, _, _ => none
  | n + 1, x0, x2, x3, x4, x5 => if (36 : Int32) ≤ x5 then some x4 else if (fX3_isAmong x0 x5) = true then bP (fX3_depthBy x5 x2 x3) fun z1 => fX3_depthBits_6 n x0 x2 x3 (x4 ||| (shlI (1 : Int32) z1)) (x5 + 1) else fX3_depthBits_6 n x0 x2 x3 x4 (x5 + 1)
def fX3_depthBits (x0 : Int64) (x2 : Int32) (x3 : Int32) : Option Int32 := fX3_depthBits_6 1000 x0 x2 x3 (0 : Int32) (0 : Int32)
set_option maxHeartbeats 4000000 in
set_option maxRecDepth 100000 in
theorem vX3_depthBits_6 {p : Program} {l : Launch} {e : Env} {s : State} {m : MethodId} {args : Array Value} {below : List Frame} {meth : Method} {c : Code} {D : va_G} {T3 : ClassId × ClassId × ClassId} {ad sd : Nat → Nat} {A : Nat → Prop}  (C : CX p s m args meth c cX3_depthBits 6 RX3 (some .int) D T3 ad sd A) {r : Int32} (M : Mem) : ∀ (n : Nat) (x0 : Int64) (x2 : Int32) (x3 : Int32) (x4 : Int32) (x5 : Int32), fX3_depthBits_6 n x0 x2 x3 x4 x5 = some r → VV p l e rmX3_depthBits s m args below meth c D T3 ad A 6 0 0 (QM below D T3 ad A args s (fun _ => some (.int r)) M) M [(0, .long x0), (2, .int x2), (3, .int x3), (4, .int x4), (5, .int x5)] 6 [] := by
  intro n
  induction n with
  | zero => intro x0 x2 x3 x4 x5 h; exact nomatch (show (none : Option Int32) = some _ from h)
  | succ n ih =>
    intro x0 x2 x3 x4 x5 h
    rw [fX3_depthBits_6] at h
    refine V_iload C 4 dX3_depthBits_6 rfl ?_
    refine V_bipush C (36 : Int32) dX3_depthBits_8 (by decide) ?_
    refine V_icmp_ge C 42 dX3_depthBits_10 (by decide) (fun q3 => ?_) (fun q3 => ?_)
    · replace h := ite_p q3 h
      refine V_iload C 3 dX3_depthBits_42 rfl ?_
      obtain rfl := ret_P h
      exact V_iret C dX3_depthBits_44
    · replace h := ite_n q3 h
      refine V_lload_n C 0 dX3_depthBits_13 rfl ?_
      refine V_iload C 4 dX3_depthBits_14 rfl ?_
      refine V_callS C (st := []) (st' := [.int (b2i (fX3_isAmong x0 x5))]) (mX3_isAmong l x0 x5 M rfl) wmX3_isAmong lkX3_48 dX3_depthBits_16 rfl rfl rfl ⟨rfl, rfl, (Nat.le_of_ble_eq_true rfl), (Nat.le_of_ble_eq_true rfl)⟩ ⟨Nat.zero_le _, Nat.zero_le _⟩ (Nat.le_of_ble_eq_true rfl) ?_
      refine V_ifB_eq C 36 dX3_depthBits_19 (by decide) (fun q2 => ?_) (fun q2 => ?_)
      · replace h := ite_n q2 h
        refine V_iinc C 4 (x5 + 1) [(5, .int (x5 + 1)), (0, .long x0), (2, .int x2), (3, .int x3), (4, .int x4)] dX3_depthBits_36 rfl rfl (by decide) rfl ?_
        refine V_goto C 6 dX3_depthBits_39 (by decide) ?_
        refine V_sub (lv' := [(0, .long x0), (2, .int x2), (3, .int x3), (4, .int x4), (5, .int (x5 + 1))]) [1, 2, 3, 4, 0] rfl ?_
        exact ih x0 x2 x3 x4 (x5 + 1) h
      · replace h := ite_p q2 h
        refine V_iload C 3 dX3_depthBits_22 rfl ?_
        refine V_iconst C (1 : Int32) dX3_depthBits_24 (by decide) ?_
        refine V_iload C 4 dX3_depthBits_25 rfl ?_
        refine V_iload_n C 1 dX3_depthBits_27 rfl ?_
        refine V_iload_n C 2 dX3_depthBits_28 rfl ?_
        obtain ⟨z1, hz1, h⟩ := bP_t h
        refine V_callS C (st := [.int (1 : Int32), .int x4]) (st' := [.int z1, .int (1 : Int32), .int x4]) (mX3_depthBy l x5 x2 x3 M hz1) wmX3_depthBy lkX3_40 dX3_depthBits_29 rfl rfl rfl ⟨rfl, rfl, (Nat.le_of_ble_eq_true rfl), (Nat.le_of_ble_eq_true rfl)⟩ ⟨Nat.zero_le _, Nat.zero_le _⟩ (Nat.le_of_ble_eq_true rfl) ?_
        refine V_ishl C dX3_depthBits_32 ?_
        refine V_ior C dX3_depthBits_33 ?_
        refine V_istore C [(4, .int (x4 ||| (shlI (1 : Int32) z1))), (0, .long x0), (2, .int x2), (3, .int x3), (5, .int x5)] dX3_depthBits_34 (by decide) rfl ?_
        refine V_iinc C 4 (x5 + 1) [(5, .int (x5 + 1)), (4, .int (x4 ||| (shlI (1 : Int32) z1))), (0, .long x0), (2, .int x2), (3, .int x3)] dX3_depthBits_36 rfl rfl (by decide) rfl ?_
        refine V_goto C 6 dX3_depthBits_39 (by decide) ?_
        refine V_sub (lv' := [(0, .long x0), (2, .int x2), (3, .int x3), (4, .int (x4 ||| (shlI (1 : Int32) z1))), (5, .int (x5 + 1))]) [2, 3, 4, 1, 0] rfl ?_
        exact ih x0 x2 x3 (x4 ||| (shlI (1 : Int32) z1)) (x5 + 1) h
set_option maxHeartbeats 4000000 in
set_option maxRecDepth 100000 in
theorem mX3_depthBits (l : Launch) (x0 : Int64) (x2 : Int32) (x3 : Int32) (M : Mem) {r : Int32} (h : fX3_depthBits x0 x2 x3 = some r) : MC l yX3_depthBits cX3_depthBits 6 (some .int) rmX3_depthBits (fun ad sd => [.long x0, .int x2, .int x3]) M (fun _ => some (.int r)) M := by
  refine MC_start (by decide) (fun ad sd => [(0, .long x0), (2, .int x2), (3, .int x3)]) (fun _ _ => rfl) (fun _ _ => Nat.le_of_ble_eq_true rfl) ?_
  intro p e s m args below meth c D T3 ad sd A C
  unfold fX3_depthBits at h
  refine V_iconst C (0 : Int32) dX3_depthBits_0 (by decide) ?_
  refine V_istore C [(4, .int (0 : Int32)), (0, .long x0), (2, .int x2), (3, .int x3)] dX3_depthBits_1 (by decide) rfl ?_
  refine V_iconst C (0 : Int32) dX3_depthBits_3 (by decide) ?_
  refine V_istore C [(5, .int (0 : Int32)), (4, .int (0 : Int32)), (0, .long x0), (2, .int x2), (3, .int x3)] dX3_depthBits_4 (by decide) rfl ?_
  refine V_sub (lv' := [(0, .long x0), (2, .int x2), (3, .int x3), (4, .int (0 : Int32)), (5, .int (0 : Int32))]) [2, 3, 4, 1, 0] rfl ?_
  exact vX3_depthBits_6 C M 1000 x0 x2 x3 (0 : Int32) (0 : Int32) h
abbrev rmX3_mostAlike : Room := { frames := 2, cells := 0, slots := 0, locals := 49 }
def fX3_mostAlike_14 : Nat → Int64 → Int32 → Int32 → Int32 → Int32 → Mem → Option (Int32 × Mem)
  | 0, _, _, _, _, _, _ => none
  | n + 1, x1, x3, x4, x5, x6, M => if (36 : Int32) ≤ x6 then some (x5, M) else if (fX3_isAmong x1 x6) = true then bP (fX3_depthBy x6 x3 x4) fun z3 => bP (fX4_itemOf M 10 z3) fun z4 => bW (fX4_putInto 10 z3 (z4 + (1 : Int32)) M) fun z5 M6 => fX3_mostAlike_14 n x1 x3 x4 (mx x5 (z4 + (1 : Int32))) (x6 + 1) M6 else fX3_mostAlike_14 n x1 x3 x4 x5 (x6 + 1) M
def fX3_mostAlike (x1 : Int64) (x3 : Int32) (x4 : Int32) (M : Mem) : Option (Int32 × Mem) := bW (fJ7_fill_53178 10 (0 : Int32) M) fun z1 M2 => fX3_mostAlike_14 1000 x1 x3 x4 (0 : Int32) (0 : Int32) M2
set_option maxHeartbeats 4000000 in
set_option maxRecDepth 100000 in
theorem vX3_mostAlike_14 {p : Program} {l : Launch} {e : Env} {s : State} {m : MethodId} {args : Array Value} {below : List Frame} {meth : Method} {c : Code} {D : va_G} {T3 : ClassId × ClassId × ClassId} {ad sd : Nat → Nat} {A : Nat → Prop}  (C : CX p s m args meth c cX3_mostAlike 9 RX3 (some .int) D T3 ad sd A) {r : Int32} {M9 : Mem} : ∀ (n : Nat) (x1 : Int64) (x3 : Int32) (x4 : Int32) (x5 : Int32) (x6 : Int32) (M : Mem), fX3_mostAlike_14 n x1 x3 x4 x5 x6 M = some (r, M9) → VV p l e rmX3_mostAlike s m args below meth c D T3 ad A 9 0 0 (QM below D T3 ad A args s (fun _ => some (.int r)) M9) M [(0, .ref (ad 6)), (1, .long x1), (3, .int x3), (4, .int x4), (5, .int x5), (6, .int x6)] 14 [] := by
  intro n
  induction n with
  | zero => intro x1 x3 x4 x5 x6 M h; exact nomatch (show (none : Option (Int32 × Mem)) = some _ from h)
  | succ n ih =>
    intro x1 x3 x4 x5 x6 M h
    rw [fX3_mostAlike_14] at h
    refine V_iload C 5 dX3_mostAlike_14 rfl ?_
    refine V_bipush C (36 : Int32) dX3_mostAlike_16 (by decide) ?_
    refine V_icmp_ge C 82 dX3_mostAlike_18 (by decide) (fun q8 => ?_) (fun q8 => ?_)
    · replace h := ite_p q8 h
      refine V_iload C 4 dX3_mostAlike_82 rfl ?_
      obtain ⟨rfl, rfl⟩ := ret_W h
      exact V_iret C dX3_mostAlike_84
    · replace h := ite_n q8 h
      refine V_lload_n C 1 dX3_mostAlike_21 rfl ?_
      refine V_iload C 5 dX3_mostAlike_22 rfl ?_
      refine V_callS C (st := []) (st' := [.int (b2i (fX3_isAmong x1 x6))]) (mX3_isAmong l x1 x6 M rfl) wmX3_isAmong lkX3_48 dX3_mostAlike_24 rfl rfl rfl ⟨rfl, rfl, (Nat.le_of_ble_eq_true rfl), (Nat.le_of_ble_eq_true rfl)⟩ ⟨Nat.zero_le _, Nat.zero_le _⟩ (Nat.le_of_ble_eq_true rfl) ?_
      refine V_ifB_ne C 33 dX3_mostAlike_27 (by decide) (fun q7 => ?_) (fun q7 => ?_)
      · replace h := ite_p q7 h
        refine V_iload C 5 dX3_mostAlike_33 rfl ?_
        refine V_iload_n C 2 dX3_mostAlike_35 rfl ?_
        refine V_iload C 3 dX3_mostAlike_36 rfl ?_
        obtain ⟨z3, hz3, h⟩ := bP_t h
        refine V_callS C (st := []) (st' := [.int z3]) (mX3_depthBy l x6 x3 x4 M hz3) wmX3_depthBy lkX3_40 dX3_mostAlike_38 rfl rfl rfl ⟨rfl, rfl, (Nat.le_of_ble_eq_true rfl), (Nat.le_of_ble_eq_true rfl)⟩ ⟨Nat.zero_le _, Nat.zero_le _⟩ (Nat.le_of_ble_eq_true rfl) ?_
        refine V_istore C [(7, .int z3), (0, .ref (ad 6)), (1, .long x1), (3, .int x3), (4, .int x4), (5, .int x5), (6, .int x6)] dX3_mostAlike_41 (by decide) rfl ?_
        refine V_aload_n C 1 dX3_mostAlike_43 rfl ?_
        refine V_get C 3 dX3_mostAlike_44 (wo_6 T3 ad _) rfl inKX3 (by decide) flX3_21 rfl rfl ?_
        refine V_iload C 0 dX3_mostAlike_47 rfl ?_
        obtain ⟨z4, hz4, h⟩ := bP_t h
        refine V_callSN C (st := []) (st' := [.int z4]) (mX4_itemOf l 10 rfl z3 M hz4) wmX4_itemOf lkX3_36 dX3_mostAlike_49 rfl rfl rfl ⟨rfl, rfl, (Nat.le_of_ble_eq_true rfl), (Nat.le_of_ble_eq_true rfl)⟩ ⟨Nat.zero_le _, Nat.zero_le _⟩ (Nat.le_of_ble_eq_true rfl) ?_
        refine V_iconst C (1 : Int32) dX3_mostAlike_52 (by decide) ?_
        refine V_iadd C dX3_mostAlike_53 ?_
        refine V_istore C [(8, .int (z4 + (1 : Int32))), (7, .int z3), (0, .ref (ad 6)), (1, .long x1), (3, .int x3), (4, .int x4), (5, .int x5), (6, .int x6)] dX3_mostAlike_54 (by decide) rfl ?_
        refine V_aload_n C 2 dX3_mostAlike_56 rfl ?_
        refine V_get C 3 dX3_mostAlike_57 (wo_6 T3 ad _) rfl inKX3 (by decide) flX3_21 rfl rfl ?_
        refine V_iload C 1 dX3_mostAlike_60 rfl ?_
        refine V_iload C 0 dX3_mostAlike_62 rfl ?_
        obtain ⟨z5, M6, hz5, h⟩ := bW_t h
        refine V_callSN C (st := []) (st' := []) (mX4_putInto l 10 rfl z3 (z4 + (1 : Int32)) M hz5) wmX4_putInto lkX3_28 dX3_mostAlike_64 rfl rfl rfl ⟨rfl, rfl, (Nat.le_of_ble_eq_true rfl), (Nat.le_of_ble_eq_true rfl)⟩ ⟨Nat.zero_le _, Nat.zero_le _⟩ (Nat.le_of_ble_eq_true rfl) ?_
        refine V_iload C 6 dX3_mostAlike_67 rfl ?_
        refine V_iload C 0 dX3_mostAlike_69 rfl ?_
        refine V_mmax C dX3_mostAlike_71 lkX3_58 wMmax_s wM_i wMmax_c (Nat.le_of_ble_eq_true rfl) (Nat.le_of_ble_eq_true rfl) (Nat.zero_le _) (Nat.zero_le _) ?_
        refine V_istore C [(5, .int (mx x5 (z4 + (1 : Int32)))), (8, .int (z4 + (1 : Int32))), (7, .int z3), (0, .ref (ad 6)), (1, .long x1), (3, .int x3), (4, .int x4), (6, .int x6)] dX3_mostAlike_74 (by decide) rfl ?_
        refine V_iinc C 7 (x6 + 1) [(6, .int (x6 + 1)), (5, .int (mx x5 (z4 + (1 : Int32)))), (8, .int (z4 + (1 : Int32))), (7, .int z3), (0, .ref (ad 6)), (1, .long x1), (3, .int x3), (4, .int x4)] dX3_mostAlike_76 rfl rfl (by decide) rfl ?_
        refine V_goto C 14 dX3_mostAlike_79 (by decide) ?_
        refine V_sub (lv' := [(0, .ref (ad 6)), (1, .long x1), (3, .int x3), (4, .int x4), (5, .int (mx x5 (z4 + (1 : Int32)))), (6, .int (x6 + 1))]) [4, 5, 6, 7, 1, 0] rfl ?_
        exact ih x1 x3 x4 (mx x5 (z4 + (1 : Int32))) (x6 + 1) M6 h
      · replace h := ite_n q7 h
        refine V_goto C 76 dX3_mostAlike_30 (by decide) ?_
        refine V_iinc C 5 (x6 + 1) [(6, .int (x6 + 1)), (0, .ref (ad 6)), (1, .long x1), (3, .int x3), (4, .int x4), (5, .int x5)] dX3_mostAlike_76 rfl rfl (by decide) rfl ?_
        refine V_goto C 14 dX3_mostAlike_79 (by decide) ?_
        refine V_sub (lv' := [(0, .ref (ad 6)), (1, .long x1), (3, .int x3), (4, .int x4), (5, .int x5), (6, .int (x6 + 1))]) [1, 2, 3, 4, 5, 0] rfl ?_
        exact ih x1 x3 x4 x5 (x6 + 1) M h
set_option maxHeartbeats 4000000 in
set_option maxRecDepth 100000 in
theorem mX3_mostAlike (l : Launch) (x1 : Int64) (x3 : Int32) (x4 : Int32) (M : Mem) {r : Int32} {M9 : Mem} (h : fX3_mostAlike x1 x3 x4 M = some (r, M9)) : MC l yX3_mostAlike cX3_mostAlike 9 (some .int) rmX3_mostAlike (fun ad sd => [.ref (ad 6), .long x1, .int x3, .int x4]) M (fun _ => some (.int r)) M9 := by
  refine MC_start (by decide) (fun ad sd => [(0, .ref (ad 6)), (1, .long x1), (3, .int x3), (4, .int x4)]) (fun _ _ => rfl) (fun _ _ => Nat.le_of_ble_eq_true rfl) ?_
  intro p e s m args below meth c D T3 ad sd A C
  unfold fX3_mostAlike at h
  refine V_iconst C (0 : Int32) dX3_mostAlike_0 (by decide) ?_
  refine V_istore C [(5, .int (0 : Int32)), (0, .ref (ad 6)), (1, .long x1), (3, .int x3), (4, .int x4)] dX3_mostAlike_1 (by decide) rfl ?_
  refine V_aload_n C 1 dX3_mostAlike_3 rfl ?_
  refine V_get C 3 dX3_mostAlike_4 (wo_6 T3 ad _) rfl inKX3 (by decide) flX3_21 rfl rfl ?_
  refine V_iconst C (0 : Int32) dX3_mostAlike_7 (by decide) ?_
  obtain ⟨z1, M2, hz1, h⟩ := bW_t h
  refine V_callS C (st := []) (st' := []) (mJ7_fill_53178 l 10 rfl (0 : Int32) M hz1) wmJ7_fill_53178 lkX3_52 dX3_mostAlike_8 rfl rfl rfl ⟨rfl, rfl, (Nat.le_of_ble_eq_true rfl), (Nat.le_of_ble_eq_true rfl)⟩ ⟨Nat.zero_le _, Nat.zero_le _⟩ (Nat.le_of_ble_eq_true rfl) ?_
  refine V_iconst C (0 : Int32) dX3_mostAlike_11 (by decide) ?_
  refine V_istore C [(6, .int (0 : Int32)), (5, .int (0 : Int32)), (0, .ref (ad 6)), (1, .long x1), (3, .int x3), (4, .int x4)] dX3_mostAlike_12 (by decide) rfl ?_
  refine V_sub (lv' := [(0, .ref (ad 6)), (1, .long x1), (3, .int x3), (4, .int x4), (5, .int (0 : Int32)), (6, .int (0 : Int32))]) [2, 3, 4, 5, 1, 0] rfl ?_
  exact vX3_mostAlike_14 C 1000 x1 x3 x4 (0 : Int32) (0 : Int32) M2 h
abbrev rmX1_findLikeliest : Room := { frames := 2, cells := 0, slots := 0, locals := 46 }
def fX1_findLikeliest_28 (r2 : Nat) : Nat → Int32 → Mem → Option (Int32 × Mem)
  | 0, _, _ => none
  | n + 1, x3, M => if (M 1 3) ≤ x3 then bW (fX1_follow M) fun z7 M8 => bP (fX4_itemOf M8 13 (0 : Int32)) fun z9 => some (z9, M8) else bP (fX4_itemOf M 4 x3) fun z10 => bP (fX0_fact M z10 (1 : Int32)) fun z11 => bP (fX4_itemOf M 13 z11) fun z12 => if z12 = (-1 : Int32) then fX1_findLikeliest_28 r2 n (x3 + 1) M else bP (fX0_fact M z10 (0 : Int32)) fun z13 => bP (fX4_itemOf M r2 z10) fun z14 => bP (fX4_itemOf M 13 z13) fun z15 => if z15 ≤ ((z12 / (16 : Int32)) * z14) then bW (fX4_putInto 13 z13 ((z12 / (16 : Int32)) * z14) M) fun z16 M17 => bW (fX4_putInto 12 z13 z10 M17) fun z18 M19 => fX1_findLikeliest_28 r2 n (x3 + 1) M19 else fX1_findLikeliest_28 r2 n (x3 + 1) M
def fX1_findLikeliest (r2 : Nat) (M : Mem) : Option (Int32 × Mem) := bW (fJ7_fill_53178 12 (-1 : Int32) M) fun z1 M2 => bW (fJ7_fill_53178 13 (-1 : Int32) M2) fun z3 M4 => bW (fX4_putInto 13 (5 : Int32) (1048576 : Int32) M4) fun z5 M6 => fX1_findLikeliest_28 r2 1000 (0 : Int32) M6
set_option maxHeartbeats 4000000 in
set_option maxRecDepth 100000 in
theorem vX1_findLikeliest_28 {p : Program} {l : Launch} {e : Env} {s : State} {m : MethodId} {args : Array Value} {below : List Frame} {meth : Method} {c : Code} {D : va_G} {T3 : ClassId × ClassId × ClassId} {ad sd : Nat → Nat} {A : Nat → Prop}  (C : CX p s m args meth c cX1_findLikeliest 8 RX1 (some .int) D T3 ad sd A) {r : Int32} {M9 : Mem} (r2 : Nat) (gr2 : isA r2 = true) : ∀ (n : Nat) (x3 : Int32) (M : Mem), fX1_findLikeliest_28 r2 n x3 M = some (r, M9) → VV p l e rmX1_findLikeliest s m args below meth c D T3 ad A 8 0 0 (QM below D T3 ad A args s (fun _ => some (.int r)) M9) M [(0, .ref (ad 11)), (1, .ref (ad 1)), (2, .ref (ad r2)), (3, .int x3)] 28 [] := by
  intro n
  induction n with
  | zero => intro x3 M h; exact nomatch (show (none : Option (Int32 × Mem)) = some _ from h)
  | succ n ih =>
    intro x3 M h
    rw [fX1_findLikeliest_28] at h
    refine V_iload_n C 3 dX1_findLikeliest_28 rfl ?_
    refine V_aload_n C 1 dX1_findLikeliest_29 rfl ?_
    refine V_getN C 3 dX1_findLikeliest_30 (wo_1 T3 ad _) rfl inKX0 (by decide) flX1_35 rfl rfl ?_
    refine V_icmp_ge C 139 dX1_findLikeliest_33 (by decide) (fun q22 => ?_) (fun q22 => ?_)
    · replace h := ite_p q22 h
      refine V_aload_n C 0 dX1_findLikeliest_139 rfl ?_
      refine V_aload_n C 1 dX1_findLikeliest_140 rfl ?_
      obtain ⟨z7, M8, hz7, h⟩ := bW_t h
      refine V_callV C (st := []) (st' := [.int (b2i z7)]) (mX1_follow l M hz7) wmX1_follow lkX1_51 dX1_findLikeliest_141 (wo_11 T3 ad _) rfl rfl rfl rfl rfl rfl ⟨rfl, rfl, (Nat.le_of_ble_eq_true rfl), (Nat.le_of_ble_eq_true rfl)⟩ ⟨Nat.zero_le _, Nat.zero_le _⟩ (Nat.le_of_ble_eq_true rfl) ?_
      refine V_pop C dX1_findLikeliest_144 rfl ?_
      refine V_aload_n C 0 dX1_findLikeliest_145 rfl ?_
      refine V_get C 1 dX1_findLikeliest_146 (wo_11 T3 ad _) rfl inKX1 (by decide) flX1_15 rfl rfl ?_
      refine V_iconst C (0 : Int32) dX1_findLikeliest_149 (by decide) ?_
      obtain ⟨z9, hz9, h⟩ := bP_t h
      refine V_callSN C (st := []) (st' := [.int z9]) (mX4_itemOf l 13 rfl (0 : Int32) M8 hz9) wmX4_itemOf lkX1_43 dX1_findLikeliest_150 rfl rfl rfl ⟨rfl, rfl, (Nat.le_of_ble_eq_true rfl), (Nat.le_of_ble_eq_true rfl)⟩ ⟨Nat.zero_le _, Nat.zero_le _⟩ (Nat.le_of_ble_eq_true rfl) ?_
      obtain ⟨rfl, rfl⟩ := ret_W h
      exact V_iret C dX1_findLikeliest_153
    · replace h := ite_n q22 h
      refine V_aload_n C 1 dX1_findLikeliest_36 rfl ?_
      refine V_getN C 5 dX1_findLikeliest_37 (wo_1 T3 ad _) rfl inKX0 (by decide) flX1_40 rfl rfl ?_
      refine V_iload_n C 3 dX1_findLikeliest_40 rfl ?_
      obtain ⟨z10, hz10, h⟩ := bP_t h
      refine V_callSN C (st := []) (st' := [.int z10]) (mX4_itemOf l 4 rfl x3 M hz10) wmX4_itemOf lkX1_43 dX1_findLikeliest_41 rfl rfl rfl ⟨rfl, rfl, (Nat.le_of_ble_eq_true rfl), (Nat.le_of_ble_eq_true rfl)⟩ ⟨Nat.zero_le _, Nat.zero_le _⟩ (Nat.le_of_ble_eq_true rfl) ?_
      refine V_istore C [(4, .int z10), (0, .ref (ad 11)), (1, .ref (ad 1)), (2, .ref (ad r2)), (3, .int x3)] dX1_findLikeliest_44 (by decide) rfl ?_
      refine V_aload_n C 1 dX1_findLikeliest_46 rfl ?_
      refine V_get C 1 dX1_findLikeliest_47 (wo_11 T3 ad _) rfl inKX1 (by decide) flX1_15 rfl rfl ?_
      refine V_aload_n C 2 dX1_findLikeliest_50 rfl ?_
      refine V_iload C 0 dX1_findLikeliest_51 rfl ?_
      refine V_iconst C (1 : Int32) dX1_findLikeliest_53 (by decide) ?_
      obtain ⟨z11, hz11, h⟩ := bP_t h
      refine V_callV C (st := [.ref (ad 13)]) (st' := [.int z11, .ref (ad 13)]) (mX0_fact l z10 (1 : Int32) M hz11) wmX0_fact lkX1_47 dX1_findLikeliest_54 (wo_1 T3 ad _) rfl rfl rfl rfl rfl rfl ⟨rfl, rfl, (Nat.le_of_ble_eq_true rfl), (Nat.le_of_ble_eq_true rfl)⟩ ⟨Nat.zero_le _, Nat.zero_le _⟩ (Nat.le_of_ble_eq_true rfl) ?_
      obtain ⟨z12, hz12, h⟩ := bP_t h
      refine V_callSN C (st := []) (st' := [.int z12]) (mX4_itemOf l 13 rfl z11 M hz12) wmX4_itemOf lkX1_43 dX1_findLikeliest_57 rfl rfl rfl ⟨rfl, rfl, (Nat.le_of_ble_eq_true rfl), (Nat.le_of_ble_eq_true rfl)⟩ ⟨Nat.zero_le _, Nat.zero_le _⟩ (Nat.le_of_ble_eq_true rfl) ?_
      refine V_istore C [(5, .int z12), (4, .int z10), (0, .ref (ad 11)), (1, .ref (ad 1)), (2, .ref (ad r2)), (3, .int x3)] dX1_findLikeliest_60 (by decide) rfl ?_
      refine V_iload C 0 dX1_findLikeliest_62 rfl ?_
      refine V_iconst C (-1 : Int32) dX1_findLikeliest_64 (by decide) ?_
      refine V_icmp_ne C 71 dX1_findLikeliest_65 (by decide) (fun q21 => ?_) (fun q21 => ?_)
      · replace h := ite_n q21 h
        refine V_aload_n C 3 dX1_findLikeliest_71 rfl ?_
        refine V_iload C 1 dX1_findLikeliest_72 rfl ?_
        refine V_iconst C (0 : Int32) dX1_findLikeliest_74 (by decide) ?_
        obtain ⟨z13, hz13, h⟩ := bP_t h
        refine V_callV C (st := []) (st' := [.int z13]) (mX0_fact l z10 (0 : Int32) M hz13) wmX0_fact lkX1_47 dX1_findLikeliest_75 (wo_1 T3 ad _) rfl rfl rfl rfl rfl rfl ⟨rfl, rfl, (Nat.le_of_ble_eq_true rfl), (Nat.le_of_ble_eq_true rfl)⟩ ⟨Nat.zero_le _, Nat.zero_le _⟩ (Nat.le_of_ble_eq_true rfl) ?_
        refine V_istore C [(6, .int z13), (5, .int z12), (4, .int z10), (0, .ref (ad 11)), (1, .ref (ad 1)), (2, .ref (ad r2)), (3, .int x3)] dX1_findLikeliest_78 (by decide) rfl ?_
        refine V_iload C 1 dX1_findLikeliest_80 rfl ?_
        refine V_bipush C (16 : Int32) dX1_findLikeliest_82 (by decide) ?_
        refine V_idiv C dX1_findLikeliest_84 (by decide) ?_
        refine V_aload_n C 5 dX1_findLikeliest_85 rfl ?_
        refine V_iload C 2 dX1_findLikeliest_86 rfl ?_
        obtain ⟨z14, hz14, h⟩ := bP_t h
        refine V_callSN C (st := [.int (z12 / (16 : Int32))]) (st' := [.int z14, .int (z12 / (16 : Int32))]) (mX4_itemOf l r2 gr2 z10 M hz14) wmX4_itemOf lkX1_43 dX1_findLikeliest_88 rfl rfl rfl ⟨rfl, rfl, (Nat.le_of_ble_eq_true rfl), (Nat.le_of_ble_eq_true rfl)⟩ ⟨Nat.zero_le _, Nat.zero_le _⟩ (Nat.le_of_ble_eq_true rfl) ?_
        refine V_imul C dX1_findLikeliest_91 ?_
        refine V_istore C [(7, .int ((z12 / (16 : Int32)) * z14)), (6, .int z13), (5, .int z12), (4, .int z10), (0, .ref (ad 11)), (1, .ref (ad 1)), (2, .ref (ad r2)), (3, .int x3)] dX1_findLikeliest_92 (by decide) rfl ?_
        refine V_iload C 0 dX1_findLikeliest_94 rfl ?_
        refine V_aload_n C 4 dX1_findLikeliest_96 rfl ?_
        refine V_get C 1 dX1_findLikeliest_97 (wo_11 T3 ad _) rfl inKX1 (by decide) flX1_15 rfl rfl ?_
        refine V_iload C 1 dX1_findLikeliest_100 rfl ?_
        obtain ⟨z15, hz15, h⟩ := bP_t h
        refine V_callSN C (st := [.int ((z12 / (16 : Int32)) * z14)]) (st' := [.int z15, .int ((z12 / (16 : Int32)) * z14)]) (mX4_itemOf l 13 rfl z13 M hz15) wmX4_itemOf lkX1_43 dX1_findLikeliest_102 rfl rfl rfl ⟨rfl, rfl, (Nat.le_of_ble_eq_true rfl), (Nat.le_of_ble_eq_true rfl)⟩ ⟨Nat.zero_le _, Nat.zero_le _⟩ (Nat.le_of_ble_eq_true rfl) ?_
        refine V_icmp_ge C 111 dX1_findLikeliest_105 (by decide) (fun q20 => ?_) (fun q20 => ?_)
        · replace h := ite_p q20 h
          refine V_aload_n C 4 dX1_findLikeliest_111 rfl ?_
          refine V_get C 1 dX1_findLikeliest_112 (wo_11 T3 ad _) rfl inKX1 (by decide) flX1_15 rfl rfl ?_
          refine V_iload C 1 dX1_findLikeliest_115 rfl ?_
          refine V_iload C 0 dX1_findLikeliest_117 rfl ?_
          obtain ⟨z16, M17, hz16, h⟩ := bW_t h
          refine V_callSN C (st := []) (st' := []) (mX4_putInto l 13 rfl z13 ((z12 / (16 : Int32)) * z14) M hz16) wmX4_putInto lkX1_31 dX1_findLikeliest_119 rfl rfl rfl ⟨rfl, rfl, (Nat.le_of_ble_eq_true rfl), (Nat.le_of_ble_eq_true rfl)⟩ ⟨Nat.zero_le _, Nat.zero_le _⟩ (Nat.le_of_ble_eq_true rfl) ?_
          refine V_aload_n C 4 dX1_findLikeliest_122 rfl ?_
          refine V_get C 0 dX1_findLikeliest_123 (wo_11 T3 ad _) rfl inKX1 (by decide) flX1_9 rfl rfl ?_
          refine V_iload C 1 dX1_findLikeliest_126 rfl ?_
          refine V_iload C 3 dX1_findLikeliest_128 rfl ?_
          obtain ⟨z18, M19, hz18, h⟩ := bW_t h
          refine V_callSN C (st := []) (st' := []) (mX4_putInto l 12 rfl z13 z10 M17 hz18) wmX4_putInto lkX1_31 dX1_findLikeliest_130 rfl rfl rfl ⟨rfl, rfl, (Nat.le_of_ble_eq_true rfl), (Nat.le_of_ble_eq_true rfl)⟩ ⟨Nat.zero_le _, Nat.zero_le _⟩ (Nat.le_of_ble_eq_true rfl) ?_
          refine V_iinc C 7 (x3 + 1) [(3, .int (x3 + 1)), (7, .int ((z12 / (16 : Int32)) * z14)), (6, .int z13), (5, .int z12), (4, .int z10), (0, .ref (ad 11)), (1, .ref (ad 1)), (2, .ref (ad r2))] dX1_findLikeliest_133 rfl rfl (by decide) rfl ?_
          refine V_goto C 28 dX1_findLikeliest_136 (by decide) ?_
          refine V_sub (lv' := [(0, .ref (ad 11)), (1, .ref (ad 1)), (2, .ref (ad r2)), (3, .int (x3 + 1))]) [5, 6, 7, 0] rfl ?_
          exact ih (x3 + 1) M19 h
        · replace h := ite_n q20 h
          refine V_goto C 133 dX1_findLikeliest_108 (by decide) ?_
          refine V_iinc C 7 (x3 + 1) [(3, .int (x3 + 1)), (7, .int ((z12 / (16 : Int32)) * z14)), (6, .int z13), (5, .int z12), (4, .int z10), (0, .ref (ad 11)), (1, .ref (ad 1)), (2, .ref (ad r2))] dX1_findLikeliest_133 rfl rfl (by decide) rfl ?_
          refine V_goto C 28 dX1_findLikeliest_136 (by decide) ?_
          refine V_sub (lv' := [(0, .ref (ad 11)), (1, .ref (ad 1)), (2, .ref (ad r2)), (3, .int (x3 + 1))]) [5, 6, 7, 0] rfl ?_
          exact ih (x3 + 1) M h
      · replace h := ite_p q21 h
        refine V_goto C 133 dX1_findLikeliest_68 (by decide) ?_
        refine V_iinc C 5 (x3 + 1) [(3, .int (x3 + 1)), (5, .int z12), (4, .int z10), (0, .ref (ad 11)), (1, .ref (ad 1)), (2, .ref (ad r2))] dX1_findLikeliest_133 rfl rfl (by decide) rfl ?_
        refine V_goto C 28 dX1_findLikeliest_136 (by decide) ?_
        refine V_sub (lv' := [(0, .ref (ad 11)), (1, .ref (ad 1)), (2, .ref (ad r2)), (3, .int (x3 + 1))]) [3, 4, 5, 0] rfl ?_
        exact ih (x3 + 1) M h
set_option maxHeartbeats 4000000 in
set_option maxRecDepth 100000 in
theorem mX1_findLikeliest (l : Launch) (r2 : Nat) (gr2 : isA r2 = true) (M : Mem) {r : Int32} {M9 : Mem} (h : fX1_findLikeliest r2 M = some (r, M9)) : MC l yX1_findLikeliest cX1_findLikeliest 8 (some .int) rmX1_findLikeliest (fun ad sd => [.ref (ad 11), .ref (ad 1), .ref (ad r2)]) M (fun _ => some (.int r)) M9 := by
  refine MC_start (by decide) (fun ad sd => [(0, .ref (ad 11)), (1, .ref (ad 1)), (2, .ref (ad r2))]) (fun _ _ => rfl) (fun _ _ => Nat.le_of_ble_eq_true rfl) ?_
  intro p e s m args below meth c D T3 ad sd A C
  unfold fX1_findLikeliest at h
  refine V_aload_n C 0 dX1_findLikeliest_0 rfl ?_
  refine V_get C 0 dX1_findLikeliest_1 (wo_11 T3 ad _) rfl inKX1 (by decide) flX1_9 rfl rfl ?_
  refine V_iconst C (-1 : Int32) dX1_findLikeliest_4 (by decide) ?_
  obtain ⟨z1, M2, hz1, h⟩ := bW_t h
  refine V_callS C (st := []) (st' := []) (mJ7_fill_53178 l 12 rfl (-1 : Int32) M hz1) wmJ7_fill_53178 lkX1_25 dX1_findLikeliest_5 rfl rfl rfl ⟨rfl, rfl, (Nat.le_of_ble_eq_true rfl), (Nat.le_of_ble_eq_true rfl)⟩ ⟨Nat.zero_le _, Nat.zero_le _⟩ (Nat.le_of_ble_eq_true rfl) ?_
  refine V_aload_n C 0 dX1_findLikeliest_8 rfl ?_
  refine V_get C 1 dX1_findLikeliest_9 (wo_11 T3 ad _) rfl inKX1 (by decide) flX1_15 rfl rfl ?_
  refine V_iconst C (-1 : Int32) dX1_findLikeliest_12 (by decide) ?_
  obtain ⟨z3, M4, hz3, h⟩ := bW_t h
  refine V_callS C (st := []) (st' := []) (mJ7_fill_53178 l 13 rfl (-1 : Int32) M2 hz3) wmJ7_fill_53178 lkX1_25 dX1_findLikeliest_13 rfl rfl rfl ⟨rfl, rfl, (Nat.le_of_ble_eq_true rfl), (Nat.le_of_ble_eq_true rfl)⟩ ⟨Nat.zero_le _, Nat.zero_le _⟩ (Nat.le_of_ble_eq_true rfl) ?_
  refine V_aload_n C 0 dX1_findLikeliest_16 rfl ?_
  refine V_get C 1 dX1_findLikeliest_17 (wo_11 T3 ad _) rfl inKX1 (by decide) flX1_15 rfl rfl ?_
  refine V_iconst C (5 : Int32) dX1_findLikeliest_20 (by decide) ?_
  refine V_ldc C dX1_findLikeliest_21 kcX1_55 ?_
  obtain ⟨z5, M6, hz5, h⟩ := bW_t h
  refine V_callSN C (st := []) (st' := []) (mX4_putInto l 13 rfl (5 : Int32) (1048576 : Int32) M4 hz5) wmX4_putInto lkX1_31 dX1_findLikeliest_23 rfl rfl rfl ⟨rfl, rfl, (Nat.le_of_ble_eq_true rfl), (Nat.le_of_ble_eq_true rfl)⟩ ⟨Nat.zero_le _, Nat.zero_le _⟩ (Nat.le_of_ble_eq_true rfl) ?_
  refine V_iconst C (0 : Int32) dX1_findLikeliest_26 (by decide) ?_
  refine V_istore_n C [(3, .int (0 : Int32)), (0, .ref (ad 11)), (1, .ref (ad 1)), (2, .ref (ad r2))] dX1_findLikeliest_27 rfl (by decide) rfl ?_
  refine V_sub (lv' := [(0, .ref (ad 11)), (1, .ref (ad 1)), (2, .ref (ad r2)), (3, .int (0 : Int32))]) [1, 2, 3, 0] rfl ?_
  exact vX1_findLikeliest_28 C r2 gr2 1000 (0 : Int32) M6 h
abbrev rmX2_renew : Room := { frames := 1, cells := 0, slots := 0, locals := 23 }
def fX2_renew (o0 : Nat) (x1 : Int32) (x2 : Int32) (M : Mem) : Option (Unit × Mem) := bW (fJ7_fill_53178 (o0 + 4) (0 : Int32) M) fun z1 M2 => lt (up M2 o0 1 x1) fun M3 => lt (up M3 o0 2 x2) fun M4 => some ((), M4)
set_option maxHeartbeats 4000000 in
set_option maxRecDepth 100000 in
theorem mX2_renew (l : Launch) (o0 : Nat) (go0 : isS o0 = true) (x1 : Int32) (x2 : Int32) (M : Mem) {r : Unit} {M9 : Mem} (h : fX2_renew o0 x1 x2 M = some (r, M9)) : MC l yX2_renew cX2_renew 3 none rmX2_renew (fun ad sd => [.ref (ad o0), .int x1, .int x2]) M (fun _ => none) M9 := by
  refine MC_start (by decide) (fun ad sd => [(0, .ref (ad o0)), (1, .int x1), (2, .int x2)]) (fun _ _ => rfl) (fun _ _ => Nat.le_of_ble_eq_true rfl) ?_
  intro p e s m args below meth c D T3 ad sd A C
  unfold fX2_renew at h
  refine V_aload_n C 0 dX2_renew_0 rfl ?_
  refine V_get C 0 dX2_renew_1 (wS_get go0 T3 ad _) rfl inKX2 (by decide) flX2_9 rfl rfl ?_
  refine V_iconst C (0 : Int32) dX2_renew_4 (by decide) ?_
  obtain ⟨z1, M2, hz1, h⟩ := bW_t h
  refine V_callS C (st := []) (st' := []) (mJ7_fill_53178 l (o0 + 4) (isS_A go0) (0 : Int32) M hz1) wmJ7_fill_53178 lkX2_22 dX2_renew_5 rfl rfl rfl ⟨rfl, rfl, (Nat.le_of_ble_eq_true rfl), (Nat.le_of_ble_eq_true rfl)⟩ ⟨Nat.zero_le _, Nat.zero_le _⟩ (Nat.le_of_ble_eq_true rfl) ?_
  refine V_aload_n C 0 dX2_renew_8 rfl ?_
  refine V_iload_n C 1 dX2_renew_9 rfl ?_
  obtain ⟨M3, hM3, h⟩ := lt_t h
  refine V_put C M3 1 dX2_renew_10 (wS_get go0 T3 ad _) (wS_set go0 (by decide) T3 ad _ _) rfl inKX2 tyX2 tyX2_ok nmX2 (by decide) flX2_15 rfl rfl rfl (Nat.le_of_ble_eq_true rfl) hM3 ?_
  refine V_aload_n C 0 dX2_renew_13 rfl ?_
  refine V_iload_n C 2 dX2_renew_14 rfl ?_
  obtain ⟨M4, hM4, h⟩ := lt_t h
  refine V_put C M4 2 dX2_renew_15 (wS_get go0 T3 ad _) (wS_set go0 (by decide) T3 ad _ _) rfl inKX2 tyX2 tyX2_ok nmX2 (by decide) flX2_19 rfl rfl rfl (Nat.le_of_ble_eq_true rfl) hM4 ?_
  obtain ⟨rfl, rfl⟩ := ret_W h
  exact V_vret C dX2_renew_18
abbrev rmX2_hasItems : Room := { frames := 0, cells := 0, slots := 0, locals := 0 }
def fX2_hasItems (M : Mem) (o0 : Nat) (x1 : Int32) (x2 : Int32) : Bool := if x1 < 0 then false else if x2 < 0 then false else if (M o0 2) < x1 then false else if ((M o0 2) - x1) < x2 then false else true
set_option maxHeartbeats 4000000 in
set_option maxRecDepth 100000 in
theorem mX2_hasItems (l : Launch) (o0 : Nat) (go0 : isS o0 = true) (x1 : Int32) (x2 : Int32) (M : Mem) {r : Bool} (h : fX2_hasItems M o0 x1 x2 = r) : MC l yX2_hasItems cX2_hasItems 3 (some .boolean) rmX2_hasItems (fun ad sd => [.ref (ad o0), .int x1, .int x2]) M (fun _ => some (.int (b2i r))) M := by
  refine MC_start (by decide) (fun ad sd => [(0, .ref (ad o0)), (1, .int x1), (2, .int x2)]) (fun _ _ => rfl) (fun _ _ => Nat.le_of_ble_eq_true rfl) ?_
  intro p e s m args below meth c D T3 ad sd A C
  unfold fX2_hasItems at h
  refine V_iload_n C 1 dX2_hasItems_0 rfl ?_
  refine V_if_lt C 30 dX2_hasItems_1 (by decide) (fun q4 => ?_) (fun q4 => ?_)
  · replace h := ite_p q4 h
    refine V_iconst C (0 : Int32) dX2_hasItems_30 (by decide) ?_
    subst h
    exact V_zret (x := false) C dX2_hasItems_31
  · replace h := ite_n q4 h
    refine V_iload_n C 2 dX2_hasItems_4 rfl ?_
    refine V_if_lt C 30 dX2_hasItems_5 (by decide) (fun q3 => ?_) (fun q3 => ?_)
    · replace h := ite_p q3 h
      refine V_iconst C (0 : Int32) dX2_hasItems_30 (by decide) ?_
      subst h
      exact V_zret (x := false) C dX2_hasItems_31
    · replace h := ite_n q3 h
      refine V_iload_n C 1 dX2_hasItems_8 rfl ?_
      refine V_aload_n C 0 dX2_hasItems_9 rfl ?_
      refine V_get C 2 dX2_hasItems_10 (wS_get go0 T3 ad _) rfl inKX2 (by decide) flX2_19 rfl rfl ?_
      refine V_icmp_gt C 30 dX2_hasItems_13 (by decide) (fun q2 => ?_) (fun q2 => ?_)
      · replace h := ite_p q2 h
        refine V_iconst C (0 : Int32) dX2_hasItems_30 (by decide) ?_
        subst h
        exact V_zret (x := false) C dX2_hasItems_31
      · replace h := ite_n q2 h
        refine V_iload_n C 2 dX2_hasItems_16 rfl ?_
        refine V_aload_n C 0 dX2_hasItems_17 rfl ?_
        refine V_get C 2 dX2_hasItems_18 (wS_get go0 T3 ad _) rfl inKX2 (by decide) flX2_19 rfl rfl ?_
        refine V_iload_n C 1 dX2_hasItems_21 rfl ?_
        refine V_isub C dX2_hasItems_22 ?_
        refine V_icmp_gt C 30 dX2_hasItems_23 (by decide) (fun q1 => ?_) (fun q1 => ?_)
        · replace h := ite_p q1 h
          refine V_iconst C (0 : Int32) dX2_hasItems_30 (by decide) ?_
          subst h
          exact V_zret (x := false) C dX2_hasItems_31
        · replace h := ite_n q1 h
          refine V_iconst C (1 : Int32) dX2_hasItems_26 (by decide) ?_
          refine V_goto C 31 dX2_hasItems_27 (by decide) ?_
          subst h
          exact V_zret (x := true) C dX2_hasItems_31
abbrev rmX2_put : Room := { frames := 1, cells := 0, slots := 0, locals := 22 }
def fX2_put_31 (o0 : Nat) (t1 : Int32) (t2 : Int32) (M : Mem) : Option (Unit × Mem) := bW (fX4_putInto (o0 + 4) t1 t2 M) fun z1 M2 => some ((), M2)
def fX2_put (o0 : Nat) (x1 : Int32) (x2 : Int32) (M : Mem) : Option (Unit × Mem) := if (M o0 1) = 0 then fX2_put_31 o0 x1 (cst8 x2) M else if (M o0 1) = (1 : Int32) then fX2_put_31 o0 x1 (cst16 x2) M else fX2_put_31 o0 x1 x2 M
set_option maxHeartbeats 4000000 in
set_option maxRecDepth 100000 in
theorem vX2_put_31 {p : Program} {l : Launch} {e : Env} {s : State} {m : MethodId} {args : Array Value} {below : List Frame} {meth : Method} {c : Code} {D : va_G} {T3 : ClassId × ClassId × ClassId} {ad sd : Nat → Nat} {A : Nat → Prop}  (C : CX p s m args meth c cX2_put 3 RX2 none D T3 ad sd A) {r : Unit} {M9 : Mem} (o0 : Nat) (go0 : isS o0 = true) : ∀ (t1 : Int32) (t2 : Int32) (M : Mem), fX2_put_31 o0 t1 t2 M = some (r, M9) → VV p l e rmX2_put s m args below meth c D T3 ad A 3 0 0 (QM below D T3 ad A args s (fun _ => none) M9) M [] 31 [.int t2, .int t1, .ref (ad (o0 + 4))] := by
  intro t1 t2 M h
  unfold fX2_put_31 at h
  obtain ⟨z1, M2, hz1, h⟩ := bW_t h
  refine V_callSN C (st := []) (st' := []) (mX4_putInto l (o0 + 4) (isS_A go0) t1 t2 M hz1) wmX4_putInto lkX2_32 dX2_put_31 rfl rfl rfl ⟨rfl, rfl, (Nat.le_of_ble_eq_true rfl), (Nat.le_of_ble_eq_true rfl)⟩ ⟨Nat.zero_le _, Nat.zero_le _⟩ (Nat.le_of_ble_eq_true rfl) ?_
  obtain ⟨rfl, rfl⟩ := ret_W h
  exact V_vret C dX2_put_34
set_option maxHeartbeats 4000000 in
set_option maxRecDepth 100000 in
theorem mX2_put (l : Launch) (o0 : Nat) (go0 : isS o0 = true) (x1 : Int32) (x2 : Int32) (M : Mem) {r : Unit} {M9 : Mem} (h : fX2_put o0 x1 x2 M = some (r, M9)) : MC l yX2_put cX2_put 3 none rmX2_put (fun ad sd => [.ref (ad o0), .int x1, .int x2]) M (fun _ => none) M9 := by
  refine MC_start (by decide) (fun ad sd => [(0, .ref (ad o0)), (1, .int x1), (2, .int x2)]) (fun _ _ => rfl) (fun _ _ => Nat.le_of_ble_eq_true rfl) ?_
  intro p e s m args below meth c D T3 ad sd A C
  unfold fX2_put at h
  refine V_aload_n C 0 dX2_put_0 rfl ?_
  refine V_get C 0 dX2_put_1 (wS_get go0 T3 ad _) rfl inKX2 (by decide) flX2_9 rfl rfl ?_
  refine V_iload_n C 1 dX2_put_4 rfl ?_
  refine V_aload_n C 0 dX2_put_5 rfl ?_
  refine V_get C 1 dX2_put_6 (wS_get go0 T3 ad _) rfl inKX2 (by decide) flX2_15 rfl rfl ?_
  refine V_if_ne C 17 dX2_put_9 (by decide) (fun q4 => ?_) (fun q4 => ?_)
  · replace h := ite_n q4 h
    refine V_aload_n C 0 dX2_put_17 rfl ?_
    refine V_get C 1 dX2_put_18 (wS_get go0 T3 ad _) rfl inKX2 (by decide) flX2_15 rfl rfl ?_
    refine V_iconst C (1 : Int32) dX2_put_21 (by decide) ?_
    refine V_icmp_ne C 30 dX2_put_22 (by decide) (fun q3 => ?_) (fun q3 => ?_)
    · replace h := ite_n q3 h
      refine V_iload_n C 2 dX2_put_30 rfl ?_
      refine V_sub (lv' := []) [] rfl ?_
      exact vX2_put_31 C o0 go0 x1 x2 M h
    · replace h := ite_p q3 h
      refine V_iload_n C 2 dX2_put_25 rfl ?_
      refine V_i2s C dX2_put_26 ?_
      refine V_goto C 31 dX2_put_27 (by decide) ?_
      refine V_sub (lv' := []) [] rfl ?_
      exact vX2_put_31 C o0 go0 x1 (cst16 x2) M h
  · replace h := ite_p q4 h
    refine V_iload_n C 2 dX2_put_12 rfl ?_
    refine V_i2b C dX2_put_13 ?_
    refine V_goto C 31 dX2_put_14 (by decide) ?_
    refine V_sub (lv' := []) [] rfl ?_
    exact vX2_put_31 C o0 go0 x1 (cst8 x2) M h
abbrev rmX0_jumping : Room := { frames := 1, cells := 0, slots := 0, locals := 23 }
def fX0_jumping_4 (M : Mem) : Nat → Int32 → Int32 → Option Int32
  | 0, _, _ => none
  | n + 1, x1, x2 => if (M 1 3) ≤ x2 then some x1 else bP (fX0_fact M x2 (3 : Int32)) fun z1 => if z1 = (4 : Int32) then fX0_jumping_4 M n (x1 + 1) (x2 + 1) else fX0_jumping_4 M n x1 (x2 + 1)
def fX0_jumping (M : Mem) : Option Int32 := fX0_jumping_4 M 1000 (0 : Int32) (0 : Int32)
set_option maxHeartbeats 4000000 in
set_option maxRecDepth 100000 in
theorem vX0_jumping_4 {p : Program} {l : Launch} {e : Env} {s : State} {m : MethodId} {args : Array Value} {below : List Frame} {meth : Method} {c : Code} {D : va_G} {T3 : ClassId × ClassId × ClassId} {ad sd : Nat → Nat} {A : Nat → Prop}  (C : CX p s m args meth c cX0_jumping 3 RX0 (some .int) D T3 ad sd A) {r : Int32} (M : Mem) : ∀ (n : Nat) (x1 : Int32) (x2 : Int32), fX0_jumping_4 M n x1 x2 = some r → VV p l e rmX0_jumping s m args below meth c D T3 ad A 3 0 0 (QM below D T3 ad A args s (fun _ => some (.int r)) M) M [(0, .ref (ad 1)), (1, .int x1), (2, .int x2)] 4 [] := by
  intro n
  induction n with
  | zero => intro x1 x2 h; exact nomatch (show (none : Option Int32) = some _ from h)
  | succ n ih =>
    intro x1 x2 h
    rw [fX0_jumping_4] at h
    refine V_iload_n C 2 dX0_jumping_4 rfl ?_
    refine V_aload_n C 0 dX0_jumping_5 rfl ?_
    refine V_get C 3 dX0_jumping_6 (wo_1 T3 ad _) rfl inKX0 (by decide) flX0_22 rfl rfl ?_
    refine V_icmp_ge C 31 dX0_jumping_9 (by decide) (fun q3 => ?_) (fun q3 => ?_)
    · replace h := ite_p q3 h
      refine V_iload_n C 1 dX0_jumping_31 rfl ?_
      obtain rfl := ret_P h
      exact V_iret C dX0_jumping_32
    · replace h := ite_n q3 h
      refine V_aload_n C 0 dX0_jumping_12 rfl ?_
      refine V_iload_n C 2 dX0_jumping_13 rfl ?_
      refine V_iconst C (3 : Int32) dX0_jumping_14 (by decide) ?_
      obtain ⟨z1, hz1, h⟩ := bP_t h
      refine V_callV C (st := []) (st' := [.int z1]) (mX0_fact l x2 (3 : Int32) M hz1) wmX0_fact lkX0_80 dX0_jumping_15 (wo_1 T3 ad _) rfl rfl rfl rfl rfl rfl ⟨rfl, rfl, (Nat.le_of_ble_eq_true rfl), (Nat.le_of_ble_eq_true rfl)⟩ ⟨Nat.zero_le _, Nat.zero_le _⟩ (Nat.le_of_ble_eq_true rfl) ?_
      refine V_iconst C (4 : Int32) dX0_jumping_18 (by decide) ?_
      refine V_icmp_ne C 25 dX0_jumping_19 (by decide) (fun q2 => ?_) (fun q2 => ?_)
      · replace h := ite_n q2 h
        refine V_iinc C 2 (x2 + 1) [(2, .int (x2 + 1)), (0, .ref (ad 1)), (1, .int x1)] dX0_jumping_25 rfl rfl (by decide) rfl ?_
        refine V_goto C 4 dX0_jumping_28 (by decide) ?_
        refine V_sub (lv' := [(0, .ref (ad 1)), (1, .int x1), (2, .int (x2 + 1))]) [1, 2, 0] rfl ?_
        exact ih x1 (x2 + 1) h
      · replace h := ite_p q2 h
        refine V_iinc C 1 (x1 + 1) [(1, .int (x1 + 1)), (0, .ref (ad 1)), (2, .int x2)] dX0_jumping_22 rfl rfl (by decide) rfl ?_
        refine V_iinc C 2 (x2 + 1) [(2, .int (x2 + 1)), (1, .int (x1 + 1)), (0, .ref (ad 1))] dX0_jumping_25 rfl rfl (by decide) rfl ?_
        refine V_goto C 4 dX0_jumping_28 (by decide) ?_
        refine V_sub (lv' := [(0, .ref (ad 1)), (1, .int (x1 + 1)), (2, .int (x2 + 1))]) [2, 1, 0] rfl ?_
        exact ih (x1 + 1) (x2 + 1) h
set_option maxHeartbeats 4000000 in
set_option maxRecDepth 100000 in
theorem mX0_jumping (l : Launch) (M : Mem) {r : Int32} (h : fX0_jumping M = some r) : MC l yX0_jumping cX0_jumping 3 (some .int) rmX0_jumping (fun ad sd => [.ref (ad 1)]) M (fun _ => some (.int r)) M := by
  refine MC_start (by decide) (fun ad sd => [(0, .ref (ad 1))]) (fun _ _ => rfl) (fun _ _ => Nat.le_of_ble_eq_true rfl) ?_
  intro p e s m args below meth c D T3 ad sd A C
  unfold fX0_jumping at h
  refine V_iconst C (0 : Int32) dX0_jumping_0 (by decide) ?_
  refine V_istore_n C [(1, .int (0 : Int32)), (0, .ref (ad 1))] dX0_jumping_1 rfl (by decide) rfl ?_
  refine V_iconst C (0 : Int32) dX0_jumping_2 (by decide) ?_
  refine V_istore_n C [(2, .int (0 : Int32)), (1, .int (0 : Int32)), (0, .ref (ad 1))] dX0_jumping_3 rfl (by decide) rfl ?_
  refine V_sub (lv' := [(0, .ref (ad 1)), (1, .int (0 : Int32)), (2, .int (0 : Int32))]) [2, 1, 0] rfl ?_
  exact vX0_jumping_4 C M 1000 (0 : Int32) (0 : Int32) h
abbrev rmX0_toldTogether : Room := { frames := 1, cells := 0, slots := 0, locals := 23 }
def fX0_toldTogether_4 (M : Mem) : Nat → Int32 → Int32 → Option Int32
  | 0, _, _ => none
  | n + 1, x1, x2 => if (M 1 3) ≤ x2 then some x1 else bP (fX0_fact M x2 (2 : Int32)) fun z1 => fX0_toldTogether_4 M n (x1 + z1) (x2 + 1)
def fX0_toldTogether (M : Mem) : Option Int32 := fX0_toldTogether_4 M 1000 (0 : Int32) (0 : Int32)
set_option maxHeartbeats 4000000 in
set_option maxRecDepth 100000 in
theorem vX0_toldTogether_4 {p : Program} {l : Launch} {e : Env} {s : State} {m : MethodId} {args : Array Value} {below : List Frame} {meth : Method} {c : Code} {D : va_G} {T3 : ClassId × ClassId × ClassId} {ad sd : Nat → Nat} {A : Nat → Prop}  (C : CX p s m args meth c cX0_toldTogether 3 RX0 (some .int) D T3 ad sd A) {r : Int32} (M : Mem) : ∀ (n : Nat) (x1 : Int32) (x2 : Int32), fX0_toldTogether_4 M n x1 x2 = some r → VV p l e rmX0_toldTogether s m args below meth c D T3 ad A 3 0 0 (QM below D T3 ad A args s (fun _ => some (.int r)) M) M [(0, .ref (ad 1)), (1, .int x1), (2, .int x2)] 4 [] := by
  intro n
  induction n with
  | zero => intro x1 x2 h; exact nomatch (show (none : Option Int32) = some _ from h)
  | succ n ih =>
    intro x1 x2 h
    rw [fX0_toldTogether_4] at h
    refine V_iload_n C 2 dX0_toldTogether_4 rfl ?_
    refine V_aload_n C 0 dX0_toldTogether_5 rfl ?_
    refine V_get C 3 dX0_toldTogether_6 (wo_1 T3 ad _) rfl inKX0 (by decide) flX0_22 rfl rfl ?_
    refine V_icmp_ge C 27 dX0_toldTogether_9 (by decide) (fun q2 => ?_) (fun q2 => ?_)
    · replace h := ite_p q2 h
      refine V_iload_n C 1 dX0_toldTogether_27 rfl ?_
      obtain rfl := ret_P h
      exact V_iret C dX0_toldTogether_28
    · replace h := ite_n q2 h
      refine V_iload_n C 1 dX0_toldTogether_12 rfl ?_
      refine V_aload_n C 0 dX0_toldTogether_13 rfl ?_
      refine V_iload_n C 2 dX0_toldTogether_14 rfl ?_
      refine V_iconst C (2 : Int32) dX0_toldTogether_15 (by decide) ?_
      obtain ⟨z1, hz1, h⟩ := bP_t h
      refine V_callV C (st := [.int x1]) (st' := [.int z1, .int x1]) (mX0_fact l x2 (2 : Int32) M hz1) wmX0_fact lkX0_80 dX0_toldTogether_16 (wo_1 T3 ad _) rfl rfl rfl rfl rfl rfl ⟨rfl, rfl, (Nat.le_of_ble_eq_true rfl), (Nat.le_of_ble_eq_true rfl)⟩ ⟨Nat.zero_le _, Nat.zero_le _⟩ (Nat.le_of_ble_eq_true rfl) ?_
      refine V_iadd C dX0_toldTogether_19 ?_
      refine V_istore_n C [(1, .int (x1 + z1)), (0, .ref (ad 1)), (2, .int x2)] dX0_toldTogether_20 rfl (by decide) rfl ?_
      refine V_iinc C 2 (x2 + 1) [(2, .int (x2 + 1)), (1, .int (x1 + z1)), (0, .ref (ad 1))] dX0_toldTogether_21 rfl rfl (by decide) rfl ?_
      refine V_goto C 4 dX0_toldTogether_24 (by decide) ?_
      refine V_sub (lv' := [(0, .ref (ad 1)), (1, .int (x1 + z1)), (2, .int (x2 + 1))]) [2, 1, 0] rfl ?_
      exact ih (x1 + z1) (x2 + 1) h
set_option maxHeartbeats 4000000 in
set_option maxRecDepth 100000 in
theorem mX0_toldTogether (l : Launch) (M : Mem) {r : Int32} (h : fX0_toldTogether M = some r) : MC l yX0_toldTogether cX0_toldTogether 3 (some .int) rmX0_toldTogether (fun ad sd => [.ref (ad 1)]) M (fun _ => some (.int r)) M := by
  refine MC_start (by decide) (fun ad sd => [(0, .ref (ad 1))]) (fun _ _ => rfl) (fun _ _ => Nat.le_of_ble_eq_true rfl) ?_
  intro p e s m args below meth c D T3 ad sd A C
  unfold fX0_toldTogether at h
  refine V_iconst C (0 : Int32) dX0_toldTogether_0 (by decide) ?_
  refine V_istore_n C [(1, .int (0 : Int32)), (0, .ref (ad 1))] dX0_toldTogether_1 rfl (by decide) rfl ?_
  refine V_iconst C (0 : Int32) dX0_toldTogether_2 (by decide) ?_
  refine V_istore_n C [(2, .int (0 : Int32)), (1, .int (0 : Int32)), (0, .ref (ad 1))] dX0_toldTogether_3 rfl (by decide) rfl ?_
  refine V_sub (lv' := [(0, .ref (ad 1)), (1, .int (0 : Int32)), (2, .int (0 : Int32))]) [2, 1, 0] rfl ?_
  exact vX0_toldTogether_4 C M 1000 (0 : Int32) (0 : Int32) h
