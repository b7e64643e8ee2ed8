/-! BITS OF LONGS. (lw_c, lw_sm, lw_shl, lw_and, lw_or, lw_shr, lw_ushr began as rows of the kit's paste file on bits.) -/
theorem lw_tb (n : Nat) : (lN n).toBitVec = BitVec.ofNat 64 n := rfl
theorem lw_inj {a b : Int64} (h : a.toBitVec = b.toBitVec) : a = b := Int64.toBitVec_inj.mp h
theorem lw_c : ∀ k, k < 64 → ((nI k).toInt64 &&& 63) = lN k := by decide +kernel
theorem lw_cu : ∀ k, k < 64 → ((nI k).toInt64.toUInt64 &&& Int64.toUInt64 63) = UInt64.ofNat k := by decide +kernel
theorem lw_sm : ∀ k, k < 64 → (BitVec.ofNat 64 k).smod 64 = BitVec.ofNat 64 k := by decide +kernel
theorem lw_smn : ∀ k, k < 64 → ((BitVec.ofNat 64 k).smod 64).toNat = k := by decide +kernel
theorem lw_ushr {n k : Nat} (hn : n < 2 ^ 64) (hk : k < 64) : ushrL (lN n) (nI k) = lN (n / 2 ^ k) := by
  unfold ushrL
  rw [lw_cu k hk]
  apply lw_inj
  apply BitVec.eq_of_toNat_eq
  show ((lN n).toUInt64 >>> UInt64.ofNat k).toNat = (BitVec.ofNat 64 _).toNat
  have h1 : (UInt64.ofNat k).toNat = k := by
    show (BitVec.ofNat 64 k).toNat = k
    rw [BitVec.toNat_ofNat, Nat.mod_eq_of_lt (by omega)]
  have h2 : (lN n).toUInt64.toNat = n := by
    show (BitVec.ofNat 64 n).toNat = n
    rw [BitVec.toNat_ofNat, Nat.mod_eq_of_lt hn]
  rw [UInt64.toNat_shiftRight, h1, h2, Nat.mod_eq_of_lt hk, Nat.shiftRight_eq_div_pow, BitVec.toNat_ofNat, Nat.mod_eq_of_lt (Nat.lt_of_le_of_lt (Nat.div_le_self _ _) hn)]
theorem lw_shl (n : Nat) {k : Nat} (hk : k < 64) : shlL (lN n) (nI k) = lN (n * 2 ^ k) := by
  unfold shlL
  rw [lw_c k hk]
  apply lw_inj
  rw [Int64.toBitVec_shiftLeft, lw_tb, lw_tb, lw_tb, lw_sm k hk]
  apply BitVec.eq_of_toNat_eq
  rw [BitVec.shiftLeft_eq', BitVec.toNat_shiftLeft, BitVec.toNat_ofNat, BitVec.toNat_ofNat, BitVec.toNat_ofNat, Nat.mod_eq_of_lt (show k < 2 ^ 64 by omega), Nat.shiftLeft_eq, Nat.mul_mod, Nat.mod_mod, ← Nat.mul_mod]
theorem lw_and {a b : Nat} (ha : a < 2 ^ 64) (hb : b < 2 ^ 64) : lN a &&& lN b = lN (a &&& b) := by
  apply lw_inj
  rw [Int64.toBitVec_and, lw_tb, lw_tb, lw_tb]
  apply BitVec.eq_of_toNat_eq
  rw [BitVec.toNat_and, BitVec.toNat_ofNat, BitVec.toNat_ofNat, BitVec.toNat_ofNat, Nat.mod_eq_of_lt ha, Nat.mod_eq_of_lt hb, Nat.mod_eq_of_lt (Nat.and_lt_two_pow _ hb)]
theorem lw_or {a b : Nat} (ha : a < 2 ^ 64) (hb : b < 2 ^ 64) : lN a ||| lN b = lN (a ||| b) := by
  apply lw_inj
  rw [Int64.toBitVec_or, lw_tb, lw_tb, lw_tb]
  apply BitVec.eq_of_toNat_eq
  rw [BitVec.toNat_or, BitVec.toNat_ofNat, BitVec.toNat_ofNat, BitVec.toNat_ofNat, Nat.mod_eq_of_lt ha, Nat.mod_eq_of_lt hb, Nat.mod_eq_of_lt (Nat.or_lt_two_pow ha hb)]
theorem lw_ti {a : Nat} (h : a < 2 ^ 63) : (lN a).toInt = (a : Int) := lg_ofNat_toInt h
theorem lw_shr {a k : Nat} (hk : k < 64) (h : a < 2 ^ 62) : shrL (lN a) (nI k) = lN (a / 2 ^ k) := by
  have hd : a / 2 ^ k ≤ a := Nat.div_le_self _ _
  unfold shrL
  rw [lw_c k hk]
  apply Int64.toInt_inj.mp
  have e : (lN a >>> lN k).toInt = (lN a).toInt >>> k := by
    have hs : ((lN k).toBitVec.smod 64).toNat = k := lw_smn k hk
    have := @BitVec.toInt_sshiftRight 64 (lN a).toBitVec ((lN k).toBitVec.smod 64).toNat
    rw [hs] at this
    show ((lN a).toBitVec.sshiftRight ((lN k).toBitVec.smod 64).toNat).toInt = _
    rw [hs]; exact this
  rw [e, Int.shiftRight_eq_div_pow, lw_ti (by omega), lw_ti (by omega)]
  rfl
theorem lw_add (a b : Nat) : lN a + lN b = lN (a + b) := by
  apply lw_inj
  rw [Int64.toBitVec_add, lw_tb, lw_tb, lw_tb, BitVec.ofNat_add]
theorem lw_sub {a b : Nat} (h : b ≤ a) (ha : a < 2 ^ 64) : lN a - lN b = lN (a - b) := by
  apply lw_inj
  rw [Int64.toBitVec_sub, lw_tb, lw_tb, lw_tb]
  apply BitVec.eq_of_toNat_eq
  rw [BitVec.toNat_sub, BitVec.toNat_ofNat, BitVec.toNat_ofNat, BitVec.toNat_ofNat]
  omega
/-- a set of laws as a long -/
def MskL (m n : Nat) (P : Nat → Bool) : Prop := m < 2 ^ n ∧ ∀ i, i < n → m.testBit i = P i
theorem mkL_step {m i : Nat} {P : Nat → Bool} (h : MskL m i P) : MskL (if P i = true then m ||| 2 ^ i else m) (i + 1) P := by
  obtain ⟨s1, s2⟩ := mk_step h.1 (P i)
  refine ⟨s1, fun c hc => ?_⟩
  rw [s2 c hc]
  by_cases e : c < i
  · rw [if_pos e]; exact h.2 c e
  · rw [if_neg e, show c = i by omega]
theorem among_s {m : Nat} {P : Nat → Bool} (h : MskL m 36 P) {i : Nat} (hi : i < 36) : fX3_isAmong (lN m) (nI i) = P i := by
  have hm := h.1
  have hq : m / 2 ^ i ≤ m := Nat.div_le_self _ _
  unfold fX3_isAmong
  rw [lw_shr (by omega) (by omega), show (1 : Int64) = lN 1 from rfl, lw_and (by omega) (by omega)]
  have e : m / 2 ^ i &&& 1 = m / 2 ^ i % 2 := by have := Nat.and_two_pow_sub_one_eq_mod (m / 2 ^ i) 1; exact this
  rw [e, ← h.2 i hi, Nat.testBit_eq_decide_div_mod_eq]
  by_cases q : m / 2 ^ i % 2 = 1
  · rw [q, if_pos ((lg_zero _ _).mpr rfl)]; rfl
  · rw [show m / 2 ^ i % 2 = 0 by omega, if_neg (fun z => by have := (lg_zero _ _).mp z; exact absurd this (by decide))]; rfl
/-! how many bits -/
def val : List Nat → Nat
  | [] => 0
  | a :: l => a + 256 * val l
def rp (b : Nat) : Nat → Nat
  | 0 => 0
  | k + 1 => b + 256 * rp b k
theorem byte_and {a c : Nat} (b d : Nat) (ha : a < 256) (hc : c < 256) : (a + 256 * b) &&& (c + 256 * d) = (a &&& c) + 256 * (b &&& d) := by
  apply Nat.eq_of_testBit_eq
  intro i
  have h : (a &&& c) < 256 := Nat.and_lt_two_pow (n := 8) a hc
  rw [Nat.testBit_and, Nat.add_comm a, Nat.add_comm c, Nat.add_comm (a &&& c), show 256 = 2 ^ 8 from rfl, Nat.testBit_two_pow_mul_add _ ha, Nat.testBit_two_pow_mul_add _ hc, Nat.testBit_two_pow_mul_add _ h]
  by_cases e : i < 8
  · rw [if_pos e, if_pos e, if_pos e, Nat.testBit_and]
  · rw [if_neg e, if_neg e, if_neg e, Nat.testBit_and]
def f1 (a : Nat) : Nat := a - ((a / 2) &&& 85)
def f2 (a : Nat) : Nat := (a &&& 51) + ((a / 4) &&& 51)
def f3 (a : Nat) : Nat := (a + a / 16) &&& 15
set_option maxRecDepth 100000 in
theorem k1 : ∀ a, a < 256 → ∀ r, r < 2 → (a / 2 + 128 * r) &&& 85 = (a / 2) &&& 85 ∧ (a / 2) &&& 85 ≤ a ∧ f1 a < 256 := by decide +kernel
set_option maxRecDepth 100000 in
theorem k2 : ∀ a, a < 256 → ∀ r, r < 4 → (a / 4 + 64 * r) &&& 51 = (a / 4) &&& 51 ∧ (f1 a &&& 51) + ((f1 a / 4) &&& 51) < 256 ∧ f2 (f1 a) < 256 ∧ f2 (f1 a) % 16 ≤ 4 ∧ f2 (f1 a) / 16 ≤ 4 := by decide +kernel
set_option maxRecDepth 100000 in
theorem k3 : ∀ a, a < 256 → a % 16 ≤ 4 → a / 16 ≤ 4 → ∀ r, r < 5 → (a + a / 16 + 16 * r) &&& 15 = (a + a / 16) &&& 15 ∧ a + a / 16 + 16 * r < 256 := by decide +kernel
set_option maxRecDepth 100000 in
theorem k4 : ∀ a, a < 256 → f3 (f2 (f1 a)) = a % 2 + a / 2 % 2 + a / 4 % 2 + a / 8 % 2 + a / 16 % 2 + a / 32 % 2 + a / 64 % 2 + a / 128 % 2 := by decide +kernel
theorem st1 : ∀ (l : List Nat) (k : Nat), l.length ≤ k → (∀ a ∈ l, a < 256) → val l - ((val l / 2) &&& rp 85 k) = val (l.map f1) ∧ (val l / 2) &&& rp 85 k ≤ val l
  | [], k, _, _ => by
    rw [show val [] = 0 from rfl, Nat.zero_sub, Nat.zero_div, Nat.zero_and]; exact ⟨rfl, Nat.le_refl _⟩
  | a :: l, k, hk, ha => by
    obtain ⟨k, rfl⟩ : ∃ j, k = j + 1 := ⟨k - 1, by rw [List.length_cons] at hk; omega⟩
    obtain ⟨i1, i2⟩ := st1 l k (by rw [List.length_cons] at hk; omega) (fun x hx => ha x (List.mem_cons_of_mem _ hx))
    have h1 := ha a List.mem_cons_self
    obtain ⟨q1, q2, q3⟩ := k1 a h1 (val l % 2) (Nat.mod_lt _ (by omega))
    have e : val (a :: l) / 2 = (a / 2 + 128 * (val l % 2)) + 256 * (val l / 2) := by rw [val]; omega
    have hsm : a / 2 + 128 * (val l % 2) < 256 := by omega
    rw [e, rp, byte_and _ _ hsm (by omega), q1, List.map_cons, val, val, ← i1]
    unfold f1
    omega
theorem st2 : ∀ (l : List Nat) (k : Nat), l.length ≤ k → (∀ a ∈ l, a < 256) → (val l &&& rp 51 k) + ((val l / 4) &&& rp 51 k) = val (l.map f2)
  | [], k, _, _ => by
    rw [show val [] = 0 from rfl, Nat.zero_div, Nat.zero_and]; rfl
  | a :: l, k, hk, ha => by
    obtain ⟨k, rfl⟩ : ∃ j, k = j + 1 := ⟨k - 1, by rw [List.length_cons] at hk; omega⟩
    have i1 := st2 l k (by rw [List.length_cons] at hk; omega) (fun x hx => ha x (List.mem_cons_of_mem _ hx))
    have h1 := ha a List.mem_cons_self
    obtain ⟨q1, _⟩ := k2 a h1 (val l % 4) (Nat.mod_lt _ (by omega))
    have e : val (a :: l) / 4 = (a / 4 + 64 * (val l % 4)) + 256 * (val l / 4) := by rw [val]; omega
    have hsm : a / 4 + 64 * (val l % 4) < 256 := by omega
    rw [e, rp, val, byte_and _ _ hsm (by omega), byte_and _ _ h1 (by omega), q1, List.map_cons, val, ← i1]
    unfold f2
    omega
theorem st3 : ∀ (l : List Nat) (k : Nat), l.length ≤ k → (∀ a ∈ l, a < 256 ∧ a % 16 ≤ 4 ∧ a / 16 ≤ 4) → (val l + val l / 16) &&& rp 15 k = val (l.map f3) ∧ val l % 16 ≤ 4
  | [], k, _, _ => by
    rw [show val [] = 0 from rfl, Nat.zero_div, Nat.zero_and]; exact ⟨rfl, Nat.zero_le _⟩
  | a :: l, k, hk, ha => by
    obtain ⟨k, rfl⟩ : ∃ j, k = j + 1 := ⟨k - 1, by rw [List.length_cons] at hk; omega⟩
    obtain ⟨i1, i2⟩ := st3 l k (by rw [List.length_cons] at hk; omega) (fun x hx => ha x (List.mem_cons_of_mem _ hx))
    obtain ⟨h1, h2, h3⟩ := ha a List.mem_cons_self
    obtain ⟨q1, q2⟩ := k3 a h1 h2 h3 (val l % 16) (by omega)
    have e : val (a :: l) + val (a :: l) / 16 = (a + a / 16 + 16 * (val l % 16)) + 256 * (val l + val l / 16) := by rw [val]; omega
    refine ⟨?_, by rw [val]; omega⟩
    rw [e, rp, byte_and _ _ q2 (by omega), q1, List.map_cons, val, ← i1]
    unfold f3
    omega
def bits8 (a : Nat) : Nat := a % 2 + a / 2 % 2 + a / 4 % 2 + a / 8 % 2 + a / 16 % 2 + a / 32 % 2 + a / 64 % 2 + a / 128 % 2
theorem bits8_le (a : Nat) : bits8 a ≤ 8 := by unfold bits8; omega
theorem val5_lt : ∀ (l : List Nat) (n : Nat), l.length ≤ n → (∀ a ∈ l, a < 256) → val l < 256 ^ n
  | [], n, _, _ => Nat.pow_pos (by omega)
  | a :: l, n, hn, ha => by
    obtain ⟨n, rfl⟩ : ∃ j, n = j + 1 := ⟨n - 1, by rw [List.length_cons] at hn; omega⟩
    have := val5_lt l n (by rw [List.length_cons] at hn; omega) (fun x hx => ha x (List.mem_cons_of_mem _ hx))
    have h1 := ha a List.mem_cons_self
    rw [val, Nat.pow_succ]; omega
theorem bitCount_s {m : Nat} (hm : m < 2 ^ 36) : fJ13_bitCount_95d88 (lN m) = nI (bits8 (m % 256) + bits8 (m / 256 % 256) + bits8 (m / 65536 % 256) + bits8 (m / 16777216 % 256) + bits8 (m / 4294967296)) := by
  have hv : m = val [m % 256, m / 256 % 256, m / 65536 % 256, m / 16777216 % 256, m / 4294967296] := by
    simp only [val]; omega
  have hb : ∀ a ∈ [m % 256, m / 256 % 256, m / 65536 % 256, m / 16777216 % 256, m / 4294967296], a < 256 := by
    intro a ha
    simp only [List.mem_cons, List.not_mem_nil, or_false] at ha
    omega
  generalize hl : [m % 256, m / 256 % 256, m / 65536 % 256, m / 16777216 % 256, m / 4294967296] = l at hv hb
  have hlen : l.length ≤ 5 := by rw [← hl]; exact Nat.le_refl _
  have hb1 : ∀ a ∈ l.map f1, a < 256 := by
    intro a ha
    obtain ⟨x, x1, rfl⟩ := List.mem_map.mp ha
    exact (k1 x (hb x x1) 0 (by omega)).2.2
  have hb2 : ∀ a ∈ (l.map f1).map f2, a < 256 ∧ a % 16 ≤ 4 ∧ a / 16 ≤ 4 := by
    intro a ha
    obtain ⟨y, y1, rfl⟩ := List.mem_map.mp ha
    obtain ⟨x, x1, rfl⟩ := List.mem_map.mp y1
    have := k2 x (hb x x1) 0 (by omega)
    exact this.2.2
  obtain ⟨t1, t1'⟩ := st1 l 8 (by omega) hb
  have t2 := st2 (l.map f1) 8 (by rw [List.length_map]; omega) hb1
  obtain ⟨t3, _⟩ := st3 ((l.map f1).map f2) 8 (by rw [List.length_map, List.length_map]; omega) hb2
  have v0 := val5_lt l 5 hlen hb
  have v1 := val5_lt (l.map f1) 5 (by rw [List.length_map]; omega) hb1
  have v2 := val5_lt ((l.map f1).map f2) 5 (by rw [List.length_map, List.length_map]; omega) (fun a ha => (hb2 a ha).1)
  have m85 : (6148914691236517205 : Int64) = lN (rp 85 8) := by decide
  have m51 : (3689348814741910323 : Int64) = lN (rp 51 8) := by decide
  have m15 : (1085102592571150095 : Int64) = lN (rp 15 8) := by decide
  have r85 : rp 85 8 < 2 ^ 64 := by decide
  have r51 : rp 51 8 < 2 ^ 64 := by decide
  have r15 : rp 15 8 < 2 ^ 64 := by decide
  have hLm : lN m = lN (val l) := by rw [← hv]
  unfold fJ13_bitCount_95d88
  rw [hLm]
  generalize hA : val l = A at t1 t1' v0 
  generalize hB : val (l.map f1) = B at t1 t2 v1 
  generalize hC : val ((l.map f1).map f2) = C at t2 t3 v2
  have e1 : A / 2 < 2 ^ 64 := by omega
  have a1 : (A / 2) &&& rp 85 8 < 2 ^ 64 := Nat.and_lt_two_pow _ r85
  rw [show (1 : Int32) = nI 1 from rfl, lw_ushr (by omega) (by omega), m85, lw_and (by omega) r85, lw_sub (by omega) (by omega), ltl_s, Nat.pow_one, t1, m51, show (2 : Int32) = nI 2 from rfl, lw_ushr (by omega) (by omega), lw_and (by omega) r51, lw_and (by omega) r51, lw_add, ltl_s, show 2 ^ 2 = 4 from rfl, t2, show (4 : Int32) = nI 4 from rfl, lw_ushr (by omega) (by omega), lw_add, m15, lw_and (by omega) r15, ltl_s, show 2 ^ 4 = 16 from rfl, t3, ← hl]
  simp only [List.map_cons, List.map_nil, val, Nat.mul_zero, Nat.add_zero]
  have c0 : f3 (f2 (f1 (m % 256))) = bits8 (m % 256) := k4 _ (by omega)
  have c1 : f3 (f2 (f1 (m / 256 % 256))) = bits8 (m / 256 % 256) := k4 _ (by omega)
  have c2 : f3 (f2 (f1 (m / 65536 % 256))) = bits8 (m / 65536 % 256) := k4 _ (by omega)
  have c3 : f3 (f2 (f1 (m / 16777216 % 256))) = bits8 (m / 16777216 % 256) := k4 _ (by omega)
  have c4 : f3 (f2 (f1 (m / 4294967296))) = bits8 (m / 4294967296) := k4 _ (by omega)
  rw [c0, c1, c2, c3, c4]
  have b0 := bits8_le (m % 256)
  have b1 := bits8_le (m / 256 % 256)
  have b2 := bits8_le (m / 65536 % 256)
  have b3 := bits8_le (m / 16777216 % 256)
  have b4 := bits8_le (m / 4294967296)
  generalize bits8 (m % 256) = x0 at b0 ⊢
  generalize bits8 (m / 256 % 256) = x1 at b1 ⊢
  generalize bits8 (m / 65536 % 256) = x2 at b2 ⊢
  generalize bits8 (m / 16777216 % 256) = x3 at b3 ⊢
  generalize bits8 (m / 4294967296) = x4 at b4 ⊢
  clear t1 t2 t3 v0 v1 v2 hA hB hC e1 a1 t1' hb1 hb2 hb hv hl hlen c0 c1 c2 c3 c4 m85 m51 m15 r85 r51 r15
  generalize hD : x0 + 256 * (x1 + 256 * (x2 + 256 * (x3 + 256 * x4))) = D
  rw [show (8 : Int32) = nI 8 from rfl, lw_ushr (by omega) (by omega), lw_add, show (16 : Int32) = nI 16 from rfl, lw_ushr (by omega) (by omega), lw_add, ltl_s, show (32 : Int32) = nI 32 from rfl, lw_ushr (by omega) (by omega), lw_add]
  have fin : (D + D / 2 ^ 8 + (D + D / 2 ^ 8) / 2 ^ 16 + (D + D / 2 ^ 8 + (D + D / 2 ^ 8) / 2 ^ 16) / 2 ^ 32) % 128 = x0 + x1 + x2 + x3 + x4 := by
    have d8 : D / 2 ^ 8 = x1 + 256 * (x2 + 256 * (x3 + 256 * x4)) := by omega
    rw [d8]
    have d16 : (D + (x1 + 256 * (x2 + 256 * (x3 + 256 * x4)))) / 2 ^ 16 = (x2 + x3) + 256 * ((x3 + x4) + 256 * x4) := by omega
    rw [d16]
    have d32 : (D + (x1 + 256 * (x2 + 256 * (x3 + 256 * x4))) + ((x2 + x3) + 256 * ((x3 + x4) + 256 * x4))) / 2 ^ 32 = x4 := by omega
    rw [d32]
    omega
  have hs : D + D / 2 ^ 8 + (D + D / 2 ^ 8) / 2 ^ 16 + (D + D / 2 ^ 8 + (D + D / 2 ^ 8) / 2 ^ 16) / 2 ^ 32 < 2 ^ 63 := by omega
  generalize D + D / 2 ^ 8 + (D + D / 2 ^ 8) / 2 ^ 16 + (D + D / 2 ^ 8 + (D + D / 2 ^ 8) / 2 ^ 16) / 2 ^ 32 = E at fin hs
  have ti : (lN E).toInt32 = nI E := by
    apply Int32.toBitVec_inj.1
    show (BitVec.ofNat 64 E).signExtend 32 = BitVec.ofNat 32 E
    rw [BitVec.signExtend_eq_setWidth_of_le _ (by decide)]
    apply BitVec.eq_of_toNat_eq
    rw [BitVec.toNat_setWidth, BitVec.toNat_ofNat, BitVec.toNat_ofNat]
    omega
  rw [ti, show (127 : Int32) = nI 127 from rfl, mk_and, show 127 = 2 ^ 7 - 1 from rfl, Nat.and_two_pow_sub_one_eq_mod, show 2 ^ 7 = 128 from rfl, fin]
