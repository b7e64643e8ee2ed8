theorem pL0 : (0 : Int32) = nI 0 := rfl
theorem pL1 : (1 : Int32) = nI 1 := rfl
theorem pL2 : (2 : Int32) = nI 2 := rfl
theorem pL3 : (3 : Int32) = nI 3 := rfl
theorem pL4 : (4 : Int32) = nI 4 := rfl
theorem pL5 : (5 : Int32) = nI 5 := rfl
theorem pL6 : (6 : Int32) = nI 6 := rfl
theorem pL7 : (7 : Int32) = nI 7 := rfl
theorem pL8 : (8 : Int32) = nI 8 := rfl
theorem pL9 : (9 : Int32) = nI 9 := rfl
theorem pL10 : (10 : Int32) = nI 10 := rfl
theorem pL11 : (11 : Int32) = nI 11 := rfl
theorem pL12 : (12 : Int32) = nI 12 := rfl
theorem pL15 : (15 : Int32) = nI 15 := rfl
theorem pL16 : (16 : Int32) = nI 16 := rfl
theorem pL17 : (17 : Int32) = nI 17 := rfl
theorem pL20 : (20 : Int32) = nI 20 := rfl
theorem pL30 : (30 : Int32) = nI 30 := rfl
theorem pL31 : (31 : Int32) = nI 31 := rfl
theorem pL35 : (35 : Int32) = nI 35 := rfl
theorem pL36 : (36 : Int32) = nI 36 := rfl
theorem pL37 : (37 : Int32) = nI 37 := rfl
theorem pL40 : (40 : Int32) = nI 40 := rfl
theorem pL47 : (47 : Int32) = nI 47 := rfl
theorem pL48 : (48 : Int32) = nI 48 := rfl
theorem pL49 : (49 : Int32) = nI 49 := rfl
theorem pL50 : (50 : Int32) = nI 50 := rfl
theorem pL53 : (53 : Int32) = nI 53 := rfl
theorem pL57 : (57 : Int32) = nI 57 := rfl
theorem pL59 : (59 : Int32) = nI 59 := rfl
theorem pL60 : (60 : Int32) = nI 60 := rfl
theorem pL61 : (61 : Int32) = nI 61 := rfl
theorem pL80 : (80 : Int32) = nI 80 := rfl
theorem pL95 : (95 : Int32) = nI 95 := rfl
theorem pL97 : (97 : Int32) = nI 97 := rfl
theorem pL98 : (98 : Int32) = nI 98 := rfl
theorem pL99 : (99 : Int32) = nI 99 := rfl
theorem pL100 : (100 : Int32) = nI 100 := rfl
theorem pL101 : (101 : Int32) = nI 101 := rfl
theorem pL102 : (102 : Int32) = nI 102 := rfl
theorem pL106 : (106 : Int32) = nI 106 := rfl
theorem pL112 : (112 : Int32) = nI 112 := rfl
theorem pL114 : (114 : Int32) = nI 114 := rfl
theorem pL115 : (115 : Int32) = nI 115 := rfl
theorem pL119 : (119 : Int32) = nI 119 := rfl
theorem pL240 : (240 : Int32) = nI 240 := rfl
theorem pL255 : (255 : Int32) = nI 255 := rfl
theorem pL65535 : (65535 : Int32) = nI 65535 := rfl
theorem pL1048576 : (1048576 : Int32) = nI 1048576 := rfl
theorem pz_lt (a b : Int32) : a < b ↔ a.toInt < b.toInt := Int32.lt_iff_toInt_lt
theorem pz_le (a b : Int32) : a ≤ b ↔ a.toInt ≤ b.toInt := Int32.le_iff_toInt_le
theorem pz_eq (a b : Int32) : a = b ↔ a.toInt = b.toInt := Int32.toInt_inj.symm
theorem pz_ti {a : Nat} (h : a < 2 ^ 31) : (nI a).toInt = (a : Int) := nI_toInt h
theorem pz_tn {a : Nat} (h : a < 2 ^ 31) : (-nI a).toInt = -(a : Int) := sb_negT h
theorem pz_rng (x : Int32) : -2147483648 ≤ x.toInt ∧ x.toInt < 2147483648 := ⟨Int32.le_toInt x, Int32.toInt_lt x⟩
theorem pz_tr {x : Int32} {a b : Nat} (h : x = nI a) (hb : a < 2 ^ 31) (e : b = a) : x.toInt = (b : Int) := by rw [h, e]; exact nI_toInt hb
theorem pz_of {x : Int32} (h : 0 ≤ x.toInt) : x = nI x.toInt.toNat := by
  have h1 := pz_rng x
  rw [pz_eq, pz_ti (by omega)]
  omega
theorem bP_s {α β : Type} (x : α) (k : α → Option β) : bP (some x) k = k x := rfl
theorem bW_s {α β : Type} (x : α) (M : Mem) (k : α → Mem → Option β) : bW (some (x, M)) k = k x M := rfl
theorem ltl_s {α β : Type} (x : α) (k : α → β) : lt x k = k x := rfl
theorem gd_true {α : Type} (x : Option α) : gd true x = x := rfl
theorem qm_0 {α : Type} (a : α) (b : Nat → α) : qm none a b = a := rfl
theorem qm_1 {α : Type} (o : Nat) (a : α) (b : Nat → α) : qm (some o) a b = b o := rfl
theorem up_eq (M : Mem) (i k : Nat) (v : Int32) : up M i k v i k = v := by simp [up, upf, upd]
theorem up_id {M : Mem} {i k a : Nat} {v : Int32} (h : ¬ a = i) : up M i k v a = M a := by simp [up, upf, h]
theorem up_ix {M : Mem} {i k j : Nat} {v : Int32} (h : ¬ j = k) : up M i k v i j = M i j := by simp [up, upf, upd, h]
theorem upf_eq (M : Mem) (i : Nat) (f : Nat → Int32) : upf M i f i = f := by simp [upf]
theorem upf_id {M : Mem} {i a : Nat} {f : Nat → Int32} (h : ¬ a = i) : upf M i f a = M a := by simp [upf, h]
theorem upf_up (M : Mem) (i k : Nat) (v : Int32) : up M i k v = upf M i (upd (M i) k v) := rfl
theorem upf_upf (M : Mem) (i : Nat) (f g : Nat → Int32) : upf (upf M i f) i g = upf M i g := by funext a; by_cases h : a = i <;> simp [upf, h]
theorem upf_self (M : Mem) (i : Nat) : upf M i (M i) = M := by funext a; by_cases h : a = i <;> simp [upf, h]
theorem pz_rm {a d : Nat} (ha : a < 2 ^ 31) (h0 : 0 < d) (hd : d < 2 ^ 31) : rmI (nI a) (nI d) = nI (a % d) := pk_rem ha h0 hd
theorem pz_inb {k n : Nat} (h : k < n) (hn : n < 2 ^ 31) : inb (nI k) n = true := by
  simp only [inb, Bool.and_eq_true, decide_eq_true_eq]
  exact ⟨nI_pos' (by omega), by rw [nI_clamp (by omega)]; exact h⟩
theorem pz_gd {α : Type} {k n : Nat} {x : Option α} (h : k < n) (hn : n < 2 ^ 31) : gd (inb (nI k) n) x = x := by rw [pz_inb h hn]; rfl
theorem pz_gdx {α : Type} {z : Int32} {k n : Nat} {x : Option α} (e : z = nI k) (h : k < n) (hn : n < 2 ^ 31) : gd (inb z n) x = x := by rw [e, pz_inb h hn]; rfl
theorem pz_gd0 {α : Type} {a : Nat} {x : Option α} (h : 0 < a) (ha : a < 2 ^ 31) : gd (decide (¬ nI a = 0)) x = x := by
  rw [decide_eq_true (by rw [pL0, nI_eq ha (by omega)]; omega)]; rfl
/-- a range of ints -/
def okR (x : Int32) (lo hi : Int) : Bool := decide (lo ≤ x.toInt ∧ x.toInt ≤ hi)
theorem okR_t {x : Int32} {lo hi : Int} (h : okR x lo hi = true) (h0 : 0 ≤ lo) : ∃ q : Nat, x = nI q ∧ lo ≤ q ∧ q ≤ hi := by
  simp only [okR, decide_eq_true_eq] at h
  refine ⟨x.toInt.toNat, pz_of (by omega), by omega, by omega⟩
theorem i64_ti (x : Int32) : x.toInt64.toInt = x.toInt := Int32.toInt_toInt64 x
theorem lg_neg (x y : Int64) : lg_cmp x y < 0 ↔ x.toInt < y.toInt := by
  unfold lg_cmp
  by_cases h1 : x > y
  · rw [if_pos h1]
    have := Int64.lt_iff_toInt_lt.mp h1
    constructor
    · intro h; exact absurd h (by decide)
    · intro h; omega
  · rw [if_neg h1]
    have h1' : ¬ y.toInt < x.toInt := fun h => h1 (Int64.lt_iff_toInt_lt.mpr h)
    by_cases h2 : x = y
    · rw [if_pos h2, h2]
      constructor
      · intro h; exact absurd h (by decide)
      · intro h; omega
    · rw [if_neg h2]
      have h2' : x.toInt ≠ y.toInt := fun h => h2 (Int64.toInt_inj.mp h)
      constructor
      · intro _; omega
      · intro _; decide
theorem lg_pos (x y : Int64) : 0 < lg_cmp x y ↔ y.toInt < x.toInt := by
  unfold lg_cmp
  by_cases h1 : x > y
  · rw [if_pos h1]
    have := Int64.lt_iff_toInt_lt.mp h1
    constructor
    · intro _; omega
    · intro _; decide
  · rw [if_neg h1]
    have h1' : ¬ y.toInt < x.toInt := fun h => h1 (Int64.lt_iff_toInt_lt.mpr h)
    by_cases h2 : x = y
    · rw [if_pos h2]
      constructor
      · intro h; exact absurd h (by decide)
      · intro h; omega
    · rw [if_neg h2]
      constructor
      · intro h; exact absurd h (by decide)
      · intro h; omega
theorem lg_zero (x y : Int64) : lg_cmp x y = 0 ↔ x = y := by
  unfold lg_cmp
  by_cases h1 : x > y
  · rw [if_pos h1]
    have h3 := Int64.lt_iff_toInt_lt.mp h1
    constructor
    · intro h; exact absurd h (by decide)
    · intro h; rw [h] at h3; omega
  · rw [if_neg h1]
    by_cases h2 : x = y
    · rw [if_pos h2]; simp [h2]
    · rw [if_neg h2]
      constructor
      · intro h; exact absurd h (by decide)
      · intro h; exact absurd h h2
theorem x5_in (x lo hi : Int64) : fX5_in x lo hi = decide (lo.toInt ≤ x.toInt ∧ x.toInt ≤ hi.toInt) := by
  unfold fX5_in
  by_cases h1 : x.toInt < lo.toInt
  · rw [if_pos ((lg_neg _ _).mpr h1)]
    exact (decide_eq_false (by omega)).symm
  · rw [if_neg (fun h => h1 ((lg_neg _ _).mp h))]
    by_cases h2 : hi.toInt < x.toInt
    · rw [if_pos ((lg_pos _ _).mpr h2)]
      exact (decide_eq_false (by omega)).symm
    · rw [if_neg (fun h => h2 ((lg_pos _ _).mp h))]
      exact (decide_eq_true (by omega)).symm
theorem x5_inR (x : Int32) (lo hi : Int64) : fX5_in x.toInt64 lo hi = okR x lo.toInt hi.toInt := by
  rw [x5_in, i64_ti]; rfl
theorem x4_isNight (x : Int32) : fX4_isNight x = okR x 0 99 := by
  unfold fX4_isNight okR
  by_cases h1 : x < 0
  · rw [if_pos h1]; exact (decide_eq_false (fun h => by have := (pz_lt _ _).mp h1; simp only [pL0, pz_ti (show 0 < 2 ^ 31 by decide)] at this; omega)).symm
  · rw [if_neg h1]
    have h1' : 0 ≤ x.toInt := by rw [pz_lt, pL0, pz_ti (by decide)] at h1; omega
    by_cases h2 : 99 < x
    · rw [if_pos h2]; exact (decide_eq_false (fun h => by have := (pz_lt _ _).mp h2; simp only [pL99, pz_ti (show 99 < 2 ^ 31 by decide)] at this; omega)).symm
    · rw [if_neg h2]; exact (decide_eq_true (by rw [pz_lt, pL99, pz_ti (by decide)] at h2; omega)).symm
theorem x5_isNight (x : Int32) : fX5_isNight x = okR x 0 99 := x5_inR x 0 99
theorem x4_isDraught (x : Int32) : fX4_isDraught x = okR x 1 9 := by
  unfold fX4_isDraught okR
  by_cases h1 : x < 1
  · rw [if_pos h1]; exact (decide_eq_false (fun h => by have := (pz_lt _ _).mp h1; simp only [pL1, pz_ti (show 1 < 2 ^ 31 by decide)] at this; omega)).symm
  · rw [if_neg h1]
    have h1' : 1 ≤ x.toInt := by rw [pz_lt, pL1, pz_ti (by decide)] at h1; omega
    by_cases h2 : 9 < x
    · rw [if_pos h2]; exact (decide_eq_false (fun h => by have := (pz_lt _ _).mp h2; simp only [pL9, pz_ti (show 9 < 2 ^ 31 by decide)] at this; omega)).symm
    · rw [if_neg h2]; exact (decide_eq_true (by rw [pz_lt, pL9, pz_ti (by decide)] at h2; omega)).symm
theorem x5_isDraught (x : Int32) : fX5_isDraught x = okR x 1 9 := x5_inR x 1 9
theorem x4_isShip (d q : Int32) : fX4_isShip d q = (okR d 1 9 && okR q 0 99) := by
  unfold fX4_isShip
  rw [x4_isDraught, x4_isNight]
  cases okR d 1 9 <;> cases okR q 0 99 <;> rfl
/-- a loop that counts up from i to e -/
theorem loop_up {σ ρ : Type} (f : Nat → Nat → σ → Option ρ) (I : Nat → σ → Prop) (G : Option ρ → Prop) (e : Nat)
    (hs : ∀ n i s, i < e → I i s → (∃ s', I (i + 1) s' ∧ f (n + 1) i s = f n (i + 1) s') ∨ G (f (n + 1) i s))
    (he : ∀ n s, I e s → G (f (n + 1) e s)) :
    ∀ n i s, i ≤ e → e - i < n → I i s → G (f n i s) := by
  intro n
  induction n with
  | zero => intro i s _ h; omega
  | succ n ih =>
    intro i s hi hn hI
    rcases Nat.lt_or_ge i e with h | h
    · rcases hs n i s h hI with ⟨s', h1, h2⟩ | h1
      · rw [h2]; exact ih (i + 1) s' h (by omega) h1
      · exact h1
    · have : i = e := by omega
      subst this
      exact he n s hI
/-- a loop that counts down: at i + 1 the place i is looked at -/
theorem loop_dn {σ ρ : Type} (f : Nat → Nat → σ → Option ρ) (I : Nat → σ → Prop) (G : Option ρ → Prop)
    (hs : ∀ n i s, I (i + 1) s → (∃ s', I i s' ∧ f (n + 1) (i + 1) s = f n i s') ∨ G (f (n + 1) (i + 1) s))
    (he : ∀ n s, I 0 s → G (f (n + 1) 0 s)) :
    ∀ n i s, i < n → I i s → G (f n i s) := by
  intro n
  induction n with
  | zero => intro i s h; omega
  | succ n ih =>
    intro i s hn hI
    cases i with
    | zero => exact he n s hI
    | succ i =>
      rcases hs n i s hI with ⟨s', h1, h2⟩ | h1
      · rw [h2]; exact ih i s' (by omega) h1
      · exact h1
theorem pz_m1 (n : Nat) : nI n + (-1) = nI n - 1 := by rw [Int32.sub_eq_add_neg]
theorem pz_s1 (n : Nat) : nI (n + 1) - 1 = nI n := nI_pred n
theorem pz_z1 : nI 0 - 1 = -1 := by decide
theorem pz_z1lt : nI 0 - 1 < 0 := by decide
theorem pz_nn {k : Nat} (h : k < 2 ^ 31) : ¬ nI k < 0 := nI_pos h
theorem rng_b {b lo hi : Nat} (hb : b < 2 ^ 31) (h1 : lo < 2 ^ 31) (h2 : hi < 2 ^ 31) : (if nI b < nI lo then some false else if nI hi < nI b then some false else some true) = some (decide (lo ≤ b) && decide (b ≤ hi)) := by
  by_cases q1 : b < lo
  · rw [if_pos ((nI_ltI hb h1).mpr q1), decide_eq_false (show ¬ lo ≤ b by omega)]; rfl
  · rw [if_neg (fun h => q1 ((nI_ltI hb h1).mp h)), decide_eq_true (show lo ≤ b by omega)]
    by_cases q2 : hi < b
    · rw [if_pos ((nI_ltI h2 hb).mpr q2), decide_eq_false (show ¬ b ≤ hi by omega)]; rfl
    · rw [if_neg (fun h => q2 ((nI_ltI h2 hb).mp h)), decide_eq_true (show b ≤ hi by omega)]; rfl
theorem itemOf_in {M : Mem} {r k : Nat} (h : k < aln r) (hr : aln r < 2 ^ 31) : fX4_itemOf M r (nI k) = some (M r k) := by
  unfold fX4_itemOf
  rw [if_neg (by rw [pz_lt, pL0, pz_ti (by omega), pz_ti (by omega)]; omega), if_neg (by rw [pz_le, pz_ti (by omega), pz_ti (by omega)]; omega), pz_gd h hr, nI_clamp (by omega)]
theorem putInto_in {M : Mem} {r k : Nat} {v : Int32} (h : k < aln r) (hr : aln r < 2 ^ 31) : fX4_putInto r (nI k) v M = some ((), up M r k v) := by
  unfold fX4_putInto
  rw [if_neg (by rw [pz_lt, pL0, pz_ti (by omega), pz_ti (by omega)]; omega), if_neg (by rw [pz_le, pz_ti (by omega), pz_ti (by omega)]; omega), pz_gd h hr, nI_clamp (by omega), ltl_s]
theorem it2 {M : Mem} {k : Nat} (h : k < 95) : fX4_itemOf M 2 (nI k) = some (M 2 k) := itemOf_in (r := 2) h (by decide)
theorem pi2 {M : Mem} {k : Nat} {v : Int32} (h : k < 95) : fX4_putInto 2 (nI k) v M = some ((), up M 2 k v) := putInto_in (r := 2) h (by decide)
theorem it3 {M : Mem} {k : Nat} (h : k < 80) : fX4_itemOf M 3 (nI k) = some (M 3 k) := itemOf_in (r := 3) h (by decide)
theorem pi3 {M : Mem} {k : Nat} {v : Int32} (h : k < 80) : fX4_putInto 3 (nI k) v M = some ((), up M 3 k v) := putInto_in (r := 3) h (by decide)
theorem it4 {M : Mem} {k : Nat} (h : k < 16) : fX4_itemOf M 4 (nI k) = some (M 4 k) := itemOf_in (r := 4) h (by decide)
theorem pi4 {M : Mem} {k : Nat} {v : Int32} (h : k < 16) : fX4_putInto 4 (nI k) v M = some ((), up M 4 k v) := putInto_in (r := 4) h (by decide)
theorem it5 {M : Mem} {k : Nat} (h : k < 8) : fX4_itemOf M 5 (nI k) = some (M 5 k) := itemOf_in (r := 5) h (by decide)
theorem pi5 {M : Mem} {k : Nat} {v : Int32} (h : k < 8) : fX4_putInto 5 (nI k) v M = some ((), up M 5 k v) := putInto_in (r := 5) h (by decide)
theorem it7 {M : Mem} {k : Nat} (h : k < 12) : fX4_itemOf M 7 (nI k) = some (M 7 k) := itemOf_in (r := 7) h (by decide)
theorem pi7 {M : Mem} {k : Nat} {v : Int32} (h : k < 12) : fX4_putInto 7 (nI k) v M = some ((), up M 7 k v) := putInto_in (r := 7) h (by decide)
theorem it8 {M : Mem} {k : Nat} (h : k < 12) : fX4_itemOf M 8 (nI k) = some (M 8 k) := itemOf_in (r := 8) h (by decide)
theorem pi8 {M : Mem} {k : Nat} {v : Int32} (h : k < 12) : fX4_putInto 8 (nI k) v M = some ((), up M 8 k v) := putInto_in (r := 8) h (by decide)
theorem it9 {M : Mem} {k : Nat} (h : k < 12) : fX4_itemOf M 9 (nI k) = some (M 9 k) := itemOf_in (r := 9) h (by decide)
theorem pi9 {M : Mem} {k : Nat} {v : Int32} (h : k < 12) : fX4_putInto 9 (nI k) v M = some ((), up M 9 k v) := putInto_in (r := 9) h (by decide)
theorem it10 {M : Mem} {k : Nat} (h : k < 10) : fX4_itemOf M 10 (nI k) = some (M 10 k) := itemOf_in (r := 10) h (by decide)
theorem pi10 {M : Mem} {k : Nat} {v : Int32} (h : k < 10) : fX4_putInto 10 (nI k) v M = some ((), up M 10 k v) := putInto_in (r := 10) h (by decide)
theorem it12 {M : Mem} {k : Nat} (h : k < 6) : fX4_itemOf M 12 (nI k) = some (M 12 k) := itemOf_in (r := 12) h (by decide)
theorem pi12 {M : Mem} {k : Nat} {v : Int32} (h : k < 6) : fX4_putInto 12 (nI k) v M = some ((), up M 12 k v) := putInto_in (r := 12) h (by decide)
theorem it13 {M : Mem} {k : Nat} (h : k < 6) : fX4_itemOf M 13 (nI k) = some (M 13 k) := itemOf_in (r := 13) h (by decide)
theorem pi13 {M : Mem} {k : Nat} {v : Int32} (h : k < 6) : fX4_putInto 13 (nI k) v M = some ((), up M 13 k v) := putInto_in (r := 13) h (by decide)
theorem it14 {M : Mem} {k : Nat} (h : k < 5) : fX4_itemOf M 14 (nI k) = some (M 14 k) := itemOf_in (r := 14) h (by decide)
theorem pi14 {M : Mem} {k : Nat} {v : Int32} (h : k < 5) : fX4_putInto 14 (nI k) v M = some ((), up M 14 k v) := putInto_in (r := 14) h (by decide)
theorem it24 {M : Mem} {k : Nat} (h : k < 16) : fX4_itemOf M 24 (nI k) = some (M 24 k) := itemOf_in (r := 24) h (by decide)
theorem pi24 {M : Mem} {k : Nat} {v : Int32} (h : k < 16) : fX4_putInto 24 (nI k) v M = some ((), up M 24 k v) := putInto_in (r := 24) h (by decide)
theorem it25 {M : Mem} {k : Nat} (h : k < 16) : fX4_itemOf M 25 (nI k) = some (M 25 k) := itemOf_in (r := 25) h (by decide)
theorem pi25 {M : Mem} {k : Nat} {v : Int32} (h : k < 16) : fX4_putInto 25 (nI k) v M = some ((), up M 25 k v) := putInto_in (r := 25) h (by decide)
