/-! THE BEST CHANCE: 0 is 'no way on', n + 1 is the chance n. -/
def mxN : Nat → (Nat → Nat) → Nat
  | 0, _ => 0
  | n + 1, f => max (mxN n f) (f n)
theorem mxN_congr {f g : Nat → Nat} : ∀ {N : Nat}, (∀ c, c < N → f c = g c) → mxN N f = mxN N g
  | 0, _ => rfl
  | N + 1, h => by rw [mxN, mxN, mxN_congr (fun c hc => h c (by omega)), h N (by omega)]
theorem mxN_ge {f : Nat → Nat} : ∀ {N c : Nat}, c < N → f c ≤ mxN N f
  | 0, _, h => absurd h (Nat.not_lt_zero _)
  | N + 1, c, h => by
    rw [mxN]
    by_cases e : c = N
    · subst e; exact Nat.le_max_right _ _
    · exact Nat.le_trans (mxN_ge (by omega)) (Nat.le_max_left _ _)
theorem mxN_le {f : Nat → Nat} {b : Nat} : ∀ {N : Nat}, (∀ c, c < N → f c ≤ b) → mxN N f ≤ b
  | 0, _ => Nat.zero_le _
  | N + 1, h => by
    rw [mxN]
    exact Nat.max_le.mpr ⟨mxN_le (fun c hc => h c (by omega)), h N (by omega)⟩
theorem mxN_att {f : Nat → Nat} : ∀ {N : Nat}, ¬ mxN N f = 0 → ∃ c, c < N ∧ f c = mxN N f
  | 0, h => absurd rfl h
  | N + 1, h => by
    rw [mxN] at h ⊢
    by_cases e : mxN N f ≤ f N
    · exact ⟨N, by omega, by omega⟩
    · obtain ⟨c, h1, h2⟩ := mxN_att (f := f) (N := N) (by omega)
      exact ⟨c, by omega, by omega⟩
theorem mxN_z {f : Nat → Nat} {N : Nat} : ¬ mxN N f = 0 ↔ ∃ c, c < N ∧ ¬ f c = 0 := by
  constructor
  · intro h
    obtain ⟨c, h1, h2⟩ := mxN_att h
    exact ⟨c, h1, by omega⟩
  · intro ⟨c, h1, h2⟩ h
    have := mxN_ge (f := f) h1
    omega
/-- the chance by a channel -/
def onN (w to : Nat → Nat) (b : Nat → Nat) (c : Nat) : Nat := if b (to c) = 0 then 0 else (b (to c) - 1) / 16 * w c + 1
theorem onN_z {w to b : Nat → Nat} {c : Nat} : onN w to b c = 0 ↔ b (to c) = 0 := by
  unfold onN
  by_cases e : b (to c) = 0
  · rw [if_pos e]; exact ⟨fun _ => e, fun _ => rfl⟩
  · rw [if_neg e]; exact ⟨fun h => by omega, fun h => absurd h e⟩
theorem onN_le {w to b : Nat → Nat} {c : Nat} (hw : w c ≤ 16) (hb : b (to c) ≤ 1048577) : onN w to b c ≤ 1048577 := by
  unfold onN
  by_cases e : b (to c) = 0
  · rw [if_pos e]; omega
  · rw [if_neg e]
    have h1 : (b (to c) - 1) / 16 ≤ 65536 := by omega
    have := Nat.mul_le_mul h1 hw
    omega
def bsF (N : Nat) (fr to w : Nat → Nat) : Nat → Nat → Nat
  | 0, p => if p = 5 then 1048577 else 0
  | j + 1, p => if p = 5 then 1048577 else mxN N (fun c => if fr c = p then onN w to (bsF N fr to w j) c else 0)
theorem bsF_st {N : Nat} {fr to w : Nat → Nat} (hU : Up N fr to) : ∀ j p, 5 - p ≤ j → p ≤ 5 → bsF N fr to w (j + 1) p = bsF N fr to w j p
  | 0, p, h, h5 => by
    have : p = 5 := by omega
    subst this; rfl
  | j + 1, p, h, h5 => by
    rw [bsF, bsF]
    by_cases e : p = 5
    · rw [if_pos e, if_pos e]
    · rw [if_neg e, if_neg e]
      refine mxN_congr (fun c hc => ?_)
      have hu := hU.2 c hc
      by_cases z : fr c = p
      · rw [if_pos z, if_pos z]
        unfold onN
        rw [bsF_st hU j (to c) (by omega) hu.2]
      · rw [if_neg z, if_neg z]
def bs (N : Nat) (fr to w : Nat → Nat) : Nat → Nat := bsF N fr to w 5
theorem bs_5 (N : Nat) (fr to w : Nat → Nat) : bs N fr to w 5 = 1048577 := rfl
theorem bs_eq {N : Nat} {fr to w : Nat → Nat} (hU : Up N fr to) {p : Nat} (hp : p < 5) : bs N fr to w p = mxN N (fun c => if fr c = p then onN w to (bs N fr to w) c else 0) := by
  have h : bs N fr to w p = bsF N fr to w 6 p := (bsF_st hU 5 p (by omega) (by omega)).symm
  rw [h, bsF, if_neg (by omega)]
  rfl
theorem bs_uniq {N : Nat} {fr to w : Nat → Nat} (hU : Up N fr to) {f : Nat → Nat} (h5 : f 5 = 1048577) (hf : ∀ p, p < 5 → f p = mxN N (fun c => if fr c = p then onN w to f c else 0)) : ∀ d p, 5 - p ≤ d → p ≤ 5 → f p = bs N fr to w p
  | 0, p, h, hp => by
    have : p = 5 := by omega
    subst this; rw [h5]; rfl
  | d + 1, p, h, hp => by
    by_cases e5 : p = 5
    · subst e5; rw [h5]; rfl
    rw [hf p (by omega), bs_eq hU (by omega)]
    refine mxN_congr (fun c hc => ?_)
    have hu := hU.2 c hc
    by_cases z : fr c = p
    · rw [if_pos z, if_pos z]
      unfold onN
      rw [bs_uniq hU h5 hf d (to c) (by omega) (by omega)]
    · rw [if_neg z, if_neg z]
theorem bsF_le {N : Nat} {fr to w : Nat → Nat} (hw : ∀ c, w c ≤ 16) : ∀ j p, bsF N fr to w j p ≤ 1048577
  | 0, p => by
    rw [bsF]
    by_cases e : p = 5
    · rw [if_pos e]; omega
    · rw [if_neg e]; omega
  | j + 1, p => by
    rw [bsF]
    by_cases e : p = 5
    · rw [if_pos e]; omega
    · rw [if_neg e]
      refine mxN_le (fun c hc => ?_)
      by_cases z : fr c = p
      · rw [if_pos z]; exact onN_le (hw c) (bsF_le hw j (to c))
      · rw [if_neg z]; omega
/-- the channels of a best way -/
def okB (N : Nat) (fr to w : Nat → Nat) (c : Nat) : Bool := decide (¬ onN w to (bs N fr to w) c = 0) && decide (onN w to (bs N fr to w) c = bs N fr to w (fr c))
theorem nx_bs {N : Nat} {fr to w : Nat → Nat} (hU : Up N fr to) : ∀ d p, 5 - p ≤ d → p ≤ 5 → (¬ bs N fr to w p = 0 ↔ ¬ nx N fr to (okB N fr to w) p = -1)
  | 0, p, h, hp => by
    have : p = 5 := by omega
    subst this
    exact ⟨fun _ => (by rw [nx_5]; decide), fun _ => (by rw [bs_5]; decide)⟩
  | d + 1, p, h, hp => by
    by_cases e5 : p = 5
    · subst e5
      exact ⟨fun _ => (by rw [nx_5]; decide), fun _ => (by rw [bs_5]; decide)⟩
    have hN := hU.1
    constructor
    · intro hb
      have hb' := hb
      rw [bs_eq hU (by omega)] at hb'
      obtain ⟨c, c1, c2⟩ := mxN_att hb'
      rw [← bs_eq hU (by omega)] at c2
      by_cases z : fr c = p
      · rw [if_pos z] at c2
        have ht : ¬ bs N fr to w (to c) = 0 := fun y => hb (c2.symm.trans (onN_z.mpr y))
        have hu := hU.2 c c1
        rw [nx_eq hU (by omega), lst_m1 (by omega)]
        refine ⟨c, c1, ?_⟩
        simp only [okB, Bool.and_eq_true, decide_eq_true_eq]
        exact ⟨z, ⟨fun y => ht (onN_z.mp y), by rw [c2, z]⟩, (nx_bs hU d (to c) (by omega) hu.2).mp ht⟩
      · rw [if_neg z] at c2; exact absurd c2.symm hb
    · intro hn
      obtain ⟨c, c1, c2, c3, c4, c5⟩ := nx_some hU (by omega) hn
      simp only [okB, Bool.and_eq_true, decide_eq_true_eq] at c3
      rw [← c2, ← c3.2]
      exact c3.1
theorem nx_all {N : Nat} {fr to w : Nat → Nat} (hU : Up N fr to) : ∀ d p, 5 - p ≤ d → p ≤ 5 → (¬ bs N fr to w p = 0 ↔ ¬ nx N fr to (fun _ => true) p = -1)
  | 0, p, h, hp => by
    have : p = 5 := by omega
    subst this
    exact ⟨fun _ => (by rw [nx_5]; decide), fun _ => (by rw [bs_5]; decide)⟩
  | d + 1, p, h, hp => by
    by_cases e5 : p = 5
    · subst e5
      exact ⟨fun _ => (by rw [nx_5]; decide), fun _ => (by rw [bs_5]; decide)⟩
    have hN := hU.1
    rw [bs_eq hU (by omega), mxN_z, nx_eq hU (by omega), lst_m1 (by omega)]
    constructor
    · intro ⟨c, c1, c2⟩
      by_cases z : fr c = p
      · rw [if_pos z] at c2
        have hu := hU.2 c c1
        refine ⟨c, c1, ?_⟩
        simp only [Bool.and_eq_true, decide_eq_true_eq]
        exact ⟨z, trivial, (nx_all hU d (to c) (by omega) hu.2).mp (fun y => c2 (onN_z.mpr y))⟩
      · rw [if_neg z] at c2; exact absurd rfl c2
    · intro ⟨c, c1, c2⟩
      simp only [Bool.and_eq_true, decide_eq_true_eq] at c2
      have hu := hU.2 c c1
      exact ⟨c, c1, by rw [if_pos c2.1]; exact fun y => (nx_all hU d (to c) (by omega) hu.2).mpr c2.2.2 (onN_z.mp y)⟩
/-- whoever takes the least channel of the best chance -/
theorem nb_uniq {N : Nat} {fr to w : Nat → Nat} (hU : Up N fr to) {p : Nat} (hp : p < 5) : lst N (fun c => decide (fr c = p) && (decide (¬ onN w to (bs N fr to w) c = 0) && decide (onN w to (bs N fr to w) c = bs N fr to w p))) (-1) = nx N fr to (okB N fr to w) p := by
  rw [nx_eq hU hp]
  refine lst_congr (fun c hc => ?_)
  have hu := hU.2 c hc
  by_cases z : fr c = p
  · rw [decide_eq_true z, Bool.true_and, Bool.true_and]
    have hk : okB N fr to w c = (decide (¬ onN w to (bs N fr to w) c = 0) && decide (onN w to (bs N fr to w) c = bs N fr to w p)) := by unfold okB; rw [z]
    rw [hk]
    by_cases y : onN w to (bs N fr to w) c = 0
    · rw [decide_eq_false (not_not_intro y), Bool.false_and, Bool.false_and]
    · have := (nx_bs (w := w) hU 5 (to c) (by omega) hu.2).mp (fun x => y (onN_z.mpr x))
      rw [decide_eq_true this, Bool.and_true]
  · rw [decide_eq_false z]; rfl
/-- -1 for 'no way on' -/
def enc (n : Nat) : Int32 := nI n - 1
theorem enc_ti {n : Nat} (h : n < 2 ^ 30) : (enc n).toInt = (n : Int) - 1 := by
  unfold enc
  rw [pL1, pk_sub_toInt h (by omega)]; rfl
theorem enc_le {a b : Nat} (ha : a < 2 ^ 30) (hb : b < 2 ^ 30) : enc a ≤ enc b ↔ a ≤ b := by
  rw [pz_le, enc_ti ha, enc_ti hb]; omega
theorem enc_eq {a b : Nat} (ha : a < 2 ^ 30) (hb : b < 2 ^ 30) : enc a = enc b ↔ a = b := by
  rw [pz_eq, enc_ti ha, enc_ti hb]; omega
theorem enc_m1 {a : Nat} (ha : a < 2 ^ 30) : enc a = -1 ↔ a = 0 := by
  rw [pz_eq, enc_ti ha, show (-1 : Int32).toInt = -1 by decide]; omega
theorem enc_n (a : Nat) : enc (a + 1) = nI a := pz_s1 a
theorem enc_nz {a : Nat} (h : ¬ a = 0) : enc a = nI (a - 1) := by
  obtain ⟨b, rfl⟩ : ∃ b, a = b + 1 := ⟨a - 1, by omega⟩
  rw [enc_n]; rfl
theorem on_s {w to β : Nat → Nat} {c : Nat} (hb : β (to c) ≤ 1048577) (h : ¬ β (to c) = 0) : enc (β (to c)) / 16 * nI (w c) = enc (onN w to β c) := by
  unfold onN
  rw [if_neg h, enc_n, enc_nz h, pL16, pk_div (by omega) (by omega) (by omega), pk_mul]
/-- the class's step -/
def stpB (fr to w : Nat → Nat) (s : (Nat → Int32) × (Nat → Int32)) (c : Nat) : (Nat → Int32) × (Nat → Int32) := if s.1 (to c) = -1 then s else if s.1 (fr c) ≤ s.1 (to c) / 16 * nI (w c) then (upd s.1 (fr c) (s.1 (to c) / 16 * nI (w c)), upd s.2 (fr c) (nI c)) else s
def stX (v : Nat → Nat) (s : Nat × Int32) (c : Nat) : Nat × Int32 := if v c = 0 then s else if s.1 ≤ v c then (v c, nI c) else s
theorem lst_any {P : Nat → Bool} {N : Nat} (h : ∃ c, c < N ∧ P c = true) (d d' : Int32) : lst N P d = lst N P d' := by
  obtain ⟨c, c1, c2, c3, c4⟩ := lst_yes (d := d) h
  rw [c3, lst_hit c1 c2 c4]
theorem seg_stX {fr v : Nat → Nat} {p : Nat} : ∀ (N m : Nat) (d : Int32), (segD fr p N).foldl (stX v) (m, d) = (max m (mxN N (fun c => if fr c = p then v c else 0)), lst N (fun c => decide (fr c = p) && (decide (¬ v c = 0) && decide (v c = max m (mxN N (fun c => if fr c = p then v c else 0))))) d)
  | 0, m, d => by rw [mxN, lst, Nat.max_zero]; rfl
  | N + 1, m, d => by
    rw [segD, lst, mxN]
    by_cases e : fr N = p
    · have e0 : ∀ (s : Nat × Int32), stX v s N = if v N = 0 then s else if s.1 ≤ v N then (v N, nI N) else s := fun _ => rfl
      rw [if_pos e, if_pos e, List.foldl_cons, e0, decide_eq_true e, Bool.true_and]
      by_cases z : v N = 0
      · rw [if_pos z, seg_stX N m d, z, Nat.max_zero, decide_eq_false (not_not_intro rfl), Bool.false_and, if_neg Bool.false_ne_true]
      · rw [if_neg z, decide_eq_true z, Bool.true_and]
        by_cases y : m ≤ v N
        · rw [if_pos y, seg_stX N (v N) (nI N), show max m (max (mxN N (fun c => if fr c = p then v c else 0)) (v N)) = max (v N) (mxN N (fun c => if fr c = p then v c else 0)) by omega]
          congr 1
          by_cases q : v N = max (v N) (mxN N (fun c => if fr c = p then v c else 0))
          · rw [if_pos (decide_eq_true q)]
          · obtain ⟨c, c1, c2⟩ := mxN_att (f := fun c => if fr c = p then v c else 0) (N := N) (by omega)
            refine lst_any ⟨c, c1, ?_⟩ _ _
            simp only [Bool.and_eq_true, decide_eq_true_eq]
            by_cases x : fr c = p
            · rw [if_pos x] at c2
              exact ⟨x, by omega, by omega⟩
            · rw [if_neg x] at c2; omega
        · rw [if_neg y, seg_stX N m d, show max m (max (mxN N (fun c => if fr c = p then v c else 0)) (v N)) = max m (mxN N (fun c => if fr c = p then v c else 0)) by omega]
          congr 1
          rw [if_neg]
          simp only [decide_eq_true_eq]
          omega
    · rw [if_neg e, if_neg e, Nat.max_zero, seg_stX N m d, decide_eq_false e, Bool.false_and, if_neg Bool.false_ne_true]
theorem seg_stpB {fr to w β : Nat → Nat} {p : Nat} {g : Nat → Int32} (hβ : ∀ x, β x ≤ 1048577) (hw : ∀ c, w c ≤ 16) : ∀ (l : List Nat), (∀ c ∈ l, fr c = p ∧ ¬ to c = p) → ∀ (m : Nat) (d : Int32), m ≤ 1048577 → l.foldl (stpB fr to w) (upd (fun x => enc (β x)) p (enc m), upd g p d) = (upd (fun x => enc (β x)) p (enc (l.foldl (stX (onN w to β)) (m, d)).1), upd g p (l.foldl (stX (onN w to β)) (m, d)).2)
  | [], _, m, d, _ => rfl
  | c :: l, hl, m, d, hm => by
    have hc := hl c List.mem_cons_self
    have hon := onN_le (w := w) (to := to) (b := β) (c := c) (hw c) (hβ _)
    have hb := hβ (to c)
    rw [List.foldl_cons, List.foldl_cons]
    have e1 : stpB fr to w (upd (fun x => enc (β x)) p (enc m), upd g p d) c = (upd (fun x => enc (β x)) p (enc (stX (onN w to β) (m, d) c).1), upd g p (stX (onN w to β) (m, d) c).2) := by
      unfold stpB stX
      have k1 : upd (fun x => enc (β x)) p (enc m) (to c) = enc (β (to c)) := upd_ne hc.2
      have k2 : upd (fun x => enc (β x)) p (enc m) p = enc m := upd_at _ _ _
      simp only [k1, hc.1, k2]
      by_cases z : β (to c) = 0
      · rw [if_pos ((enc_m1 (by omega)).mpr z), if_pos (onN_z.mpr z)]
      · rw [if_neg (fun y => z ((enc_m1 (by omega)).mp y)), if_neg (fun y => z (onN_z.mp y)), on_s hb z]
        by_cases y : m ≤ onN w to β c
        · rw [if_pos ((enc_le (by omega) (by omega)).mpr y), if_pos y, upd_upd, upd_upd]
        · rw [if_neg (fun x => y ((enc_le (by omega) (by omega)).mp x)), if_neg y]
    have hm' : (stX (onN w to β) (m, d) c).1 ≤ 1048577 := by
      unfold stX
      by_cases z : onN w to β c = 0
      · rw [if_pos z]; exact hm
      · rw [if_neg z]
        by_cases y : m ≤ onN w to β c
        · rw [if_pos y]; exact hon
        · rw [if_neg y]; exact hm
    rw [e1]
    exact seg_stpB hβ hw l (fun x hx => hl x (List.mem_cons_of_mem _ hx)) _ _ hm'
/-- the fold over the whole order -/
theorem fold_ordB {N : Nat} {fr to w : Nat → Nat} (hU : Up N fr to) (hw : ∀ c, w c ≤ 16) : ∀ (j : Nat) (β : Nat → Nat) (g : Nat → Int32), (∀ x, β x ≤ 1048577) → (∀ p, p < j → β p = 0 ∧ g p = -1) → ∃ β' g', (ordT N fr j).foldl (stpB fr to w) (fun x => enc (β x), g) = (fun x => enc (β' x), g') ∧ (∀ p, j ≤ p → β' p = β p ∧ g' p = g p) ∧ (∀ x, β' x ≤ 1048577) ∧ ∀ p, p < j → β' p = mxN N (fun c => if fr c = p then onN w to β' c else 0) ∧ g' p = lst N (fun c => decide (fr c = p) && (decide (¬ onN w to β' c = 0) && decide (onN w to β' c = β' p))) (-1)
  | 0, β, g, hβ, _ => ⟨β, g, rfl, fun _ _ => ⟨rfl, rfl⟩, hβ, fun p hp => absurd hp (Nat.not_lt_zero _)⟩
  | j + 1, β, g, hβ, hg => by
    have hs := seg_stpB (fr := fr) (to := to) (p := j) (g := g) hβ hw (segD fr j N) (fun c hc => by have h1 := segD_lt hc; have := hU.2 c h1.1; exact ⟨h1.2, by omega⟩) (β j) (g j) (hβ j)
    rw [upd_self g j, show upd (fun x => enc (β x)) j (enc (β j)) = fun x => enc (β x) from upd_self (fun x => enc (β x)) j, seg_stX, (hg j (Nat.lt_succ_self j)).1, (hg j (Nat.lt_succ_self j)).2, Nat.zero_max] at hs
    dsimp only at hs
    generalize hM : mxN N (fun c => if fr c = j then onN w to β c else 0) = m at hs
    have hm : m ≤ 1048577 := by
      rw [← hM]
      refine mxN_le (fun c hc => ?_)
      by_cases z : fr c = j
      · rw [if_pos z]; exact onN_le (hw c) (hβ _)
      · rw [if_neg z]; omega
    have eβ : upd (fun x => enc (β x)) j (enc m) = fun x => enc (if x = j then m else β x) := by
      funext x
      by_cases q : x = j
      · rw [q, upd_at, if_pos rfl]
      · rw [upd_ne q, if_neg q]
    rw [eβ] at hs
    obtain ⟨β', g', i1, i2, i3, i4⟩ := fold_ordB hU hw j (fun x => if x = j then m else β x) (upd g j (lst N (fun c => decide (fr c = j) && (decide (¬ onN w to β c = 0) && decide (onN w to β c = m))) (-1))) (fun x => by
      (try dsimp only)
      by_cases q : x = j
      · rw [if_pos q]; exact hm
      · rw [if_neg q]; exact hβ x) (fun p hp => by
      rw [upd_ne (by omega), if_neg (by omega)]
      exact hg p (by omega))
    refine ⟨β', g', by rw [ordT, List.foldl_append, hs]; exact i1, fun p hp => by rw [(i2 p (by omega)).1, (i2 p (by omega)).2, if_neg (by omega), upd_ne (by omega)]; exact ⟨rfl, rfl⟩, i3, fun p hp => ?_⟩
    rcases Nat.lt_or_ge p j with z | z
    · exact i4 p z
    · have : p = j := by omega
      subst this
      have hon : ∀ c, c < N → fr c = p → onN w to β' c = onN w to β c := fun c hc q => by
        have hu := hU.2 c hc
        unfold onN
        rw [(i2 (to c) (by omega)).1, if_neg (show ¬ to c = p by omega)]
      have hmx : mxN N (fun c => if fr c = p then onN w to β' c else 0) = m := by
        rw [← hM]
        refine mxN_congr (fun c hc => ?_)
        by_cases q : fr c = p
        · rw [if_pos q, if_pos q, hon c hc q]
        · rw [if_neg q, if_neg q]
      rw [(i2 p (Nat.le_refl _)).1, (i2 p (Nat.le_refl _)).2, upd_at, if_pos rfl, hmx]
      refine ⟨rfl, lst_congr (fun c hc => ?_)⟩
      by_cases q : fr c = p
      · rw [hon c hc q]
      · rw [decide_eq_false q]; rfl
