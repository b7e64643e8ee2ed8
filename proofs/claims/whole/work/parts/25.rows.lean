/-! ROWS: the least way on from a place, how many there are -/
def lst : Nat → (Nat → Bool) → Int32 → Int32
  | 0, _, d => d
  | N + 1, P, d => lst N P (if P N = true then nI N else d)
theorem lst_congr {P Q : Nat → Bool} : ∀ {N : Nat} {d : Int32}, (∀ c, c < N → P c = Q c) → lst N P d = lst N Q d
  | 0, _, _ => rfl
  | N + 1, d, h => by rw [lst, lst, h N (Nat.lt_succ_self N)]; exact lst_congr (fun c hc => h c (by omega))
theorem lst_no {P : Nat → Bool} : ∀ {N : Nat} {d : Int32}, (∀ c, c < N → P c = false) → lst N P d = d
  | 0, _, _ => rfl
  | N + 1, d, h => by rw [lst, h N (Nat.lt_succ_self N), if_neg (by decide)]; exact lst_no (fun c hc => h c (by omega))
theorem lst_yes {P : Nat → Bool} : ∀ {N : Nat} {d : Int32}, (∃ c, c < N ∧ P c = true) → ∃ c, c < N ∧ P c = true ∧ lst N P d = nI c ∧ ∀ x, x < c → P x = false
  | 0, _, ⟨c, hc, _⟩ => absurd hc (Nat.not_lt_zero _)
  | N + 1, d, h => by
    rw [lst]
    by_cases q : ∃ c, c < N ∧ P c = true
    · obtain ⟨c, h1, h2, h3⟩ := lst_yes (d := if P N = true then nI N else d) q
      exact ⟨c, by omega, h2, h3⟩
    · have hno : ∀ c, c < N → P c = false := fun c hc => by
        cases e : P c with
        | false => rfl
        | true => exact absurd ⟨c, hc, e⟩ q
      obtain ⟨c, h1, h2⟩ := h
      have : c = N := by
        rcases Nat.lt_or_ge c N with z | z
        · rw [hno c z] at h2; cases h2
        · omega
      subst this
      exact ⟨c, by omega, h2, by rw [lst_no hno, if_pos h2], hno⟩
theorem nI_ne_m1 {a : Nat} (h : a < 2 ^ 31) : ¬ nI a = -1 := fun z => by
  rw [pz_eq, pz_ti h] at z
  have : (-1 : Int32).toInt = -1 := rfl
  omega
theorem lst_m1 {P : Nat → Bool} {N : Nat} (hN : N < 2 ^ 31) : (¬ lst N P (-1) = -1) ↔ ∃ c, c < N ∧ P c = true := by
  constructor
  · intro h
    apply Classical.byContradiction
    intro q
    exact h (lst_no (fun c hc => by
      cases e : P c with
      | false => rfl
      | true => exact absurd ⟨c, hc, e⟩ q))
  · intro h
    obtain ⟨c, h1, _, h3, _⟩ := lst_yes (d := -1) h
    rw [h3]; exact nI_ne_m1 (by omega)
/-- the least channel by which one goes on from a place to the last; -1: none (0 at the last place) -/
def nxF (N : Nat) (fr to : Nat → Nat) (ok : Nat → Bool) : Nat → Nat → Int32
  | 0, p => if p = 5 then 0 else -1
  | j + 1, p => if p = 5 then 0 else lst N (fun c => decide (fr c = p) && (ok c && decide (¬ nxF N fr to ok j (to c) = -1))) (-1)
/-- a way's places rise to the last -/
def Up (N : Nat) (fr to : Nat → Nat) : Prop := N ≤ 16 ∧ ∀ c, c < N → fr c < to c ∧ to c ≤ 5
theorem nxF_st {N : Nat} {fr to : Nat → Nat} {ok : Nat → Bool} (hU : Up N fr to) : ∀ j p, 5 - p ≤ j → p ≤ 5 → nxF N fr to ok (j + 1) p = nxF N fr to ok j p
  | 0, p, h, h5 => by
    have : p = 5 := by omega
    subst this; rfl
  | j + 1, p, h, h5 => by
    rw [nxF, nxF]
    by_cases e : p = 5
    · rw [if_pos e, if_pos e]
    · rw [if_neg e, if_neg e]
      refine lst_congr (fun c hc => ?_)
      have hu := hU.2 c hc
      by_cases z : fr c = p
      · rw [nxF_st hU j (to c) (by omega) hu.2]
      · rw [decide_eq_false z]; rfl
def nx (N : Nat) (fr to : Nat → Nat) (ok : Nat → Bool) : Nat → Int32 := nxF N fr to ok 5
theorem nx_5 (N : Nat) (fr to : Nat → Nat) (ok : Nat → Bool) : nx N fr to ok 5 = 0 := rfl
theorem nx_eq {N : Nat} {fr to : Nat → Nat} {ok : Nat → Bool} (hU : Up N fr to) {p : Nat} (hp : p < 5) : nx N fr to ok p = lst N (fun c => decide (fr c = p) && (ok c && decide (¬ nx N fr to ok (to c) = -1))) (-1) := by
  have h : nx N fr to ok p = nxF N fr to ok 6 p := (nxF_st hU 5 p (by omega) (by omega)).symm
  rw [h, nxF, if_neg (by omega)]
  rfl
/-- whoever keeps the equations has the same ways on -/
theorem nx_uniq {N : Nat} {fr to : Nat → Nat} {ok : Nat → Bool} (hU : Up N fr to) {f : Nat → Int32} (h5 : ¬ f 5 = -1) (hf : ∀ p, p < 5 → f p = lst N (fun c => decide (fr c = p) && (ok c && decide (¬ f (to c) = -1))) (-1)) : ∀ d p, 5 - p ≤ d → p < 5 → f p = nx N fr to ok p
  | 0, p, h, hp => by omega
  | d + 1, p, h, hp => by
    rw [hf p hp, nx_eq hU hp]
    refine lst_congr (fun c hc => ?_)
    have hu := hU.2 c hc
    by_cases z : fr c = p
    · by_cases e : to c = 5
      · rw [e, nx_5, decide_eq_true h5, decide_eq_true (show ¬ (0 : Int32) = -1 by decide)]
      · rw [nx_uniq hU h5 hf d (to c) (by omega) (by omega)]
    · rw [decide_eq_false z]; rfl
theorem nx_some {N : Nat} {fr to : Nat → Nat} {ok : Nat → Bool} (hU : Up N fr to) {p : Nat} (hp : p < 5) (h : ¬ nx N fr to ok p = -1) : ∃ c, c < N ∧ fr c = p ∧ ok c = true ∧ ¬ nx N fr to ok (to c) = -1 ∧ nx N fr to ok p = nI c := by
  have e := nx_eq (ok := ok) hU hp
  rw [e] at h
  obtain ⟨c, h1, h2, h3, _⟩ := lst_yes (d := -1) ((lst_m1 (by have := hU.1; omega)).mp h)
  simp only [Bool.and_eq_true, decide_eq_true_eq] at h2
  exact ⟨c, h1, h2.1, h2.2.1, h2.2.2, by rw [e, h3]⟩
/-- the least row from a place on -/
def rowF (nxt : Nat → Int32) (to : Nat → Nat) : Nat → Nat → List Nat
  | 0, _ => []
  | j + 1, p => if p = 5 then [] else (nxt p).toNatClampNeg :: rowF nxt to j (to (nxt p).toNatClampNeg)
def row (N : Nat) (fr to : Nat → Nat) (ok : Nat → Bool) : List Nat := if nx N fr to ok 0 = -1 then [] else rowF (nx N fr to ok) to 5 0
theorem rowF_in {N : Nat} {fr to : Nat → Nat} {ok : Nat → Bool} (hU : Up N fr to) : ∀ j p, ¬ nx N fr to ok p = -1 → p ≤ 5 → (∀ c ∈ rowF (nx N fr to ok) to j p, c < N ∧ ok c = true) ∧ (rowF (nx N fr to ok) to j p).length ≤ 5 - p
  | 0, p, _, _ => ⟨fun c h => (by cases h), Nat.zero_le _⟩
  | j + 1, p, h, h5 => by
    rw [rowF]
    by_cases e : p = 5
    · rw [if_pos e]; exact ⟨fun c h => (by cases h), Nat.zero_le _⟩
    · rw [if_neg e]
      obtain ⟨c, h1, h2, h3, h4, h5'⟩ := nx_some hU (by omega) h
      have hN := hU.1
      rw [h5', nI_clamp (by omega)]
      have hu := hU.2 c h1
      obtain ⟨i1, i2⟩ := rowF_in hU j (to c) h4 hu.2
      refine ⟨fun x hx => ?_, by rw [List.length_cons]; omega⟩
      rcases List.mem_cons.mp hx with z | z
      · subst z; exact ⟨h1, h3⟩
      · exact i1 x z
theorem row_in {N : Nat} {fr to : Nat → Nat} {ok : Nat → Bool} (hU : Up N fr to) : (∀ c ∈ row N fr to ok, c < N ∧ ok c = true) ∧ (row N fr to ok).length ≤ 5 := by
  unfold row
  by_cases h : nx N fr to ok 0 = -1
  · rw [if_pos h]; exact ⟨fun c h => (by cases h), Nat.zero_le _⟩
  · rw [if_neg h]; exact rowF_in hU 5 0 h (by omega)
/-- the fold over the channels by place -/
def stp (fr to : Nat → Nat) (ok : Nat → Bool) (g : Nat → Int32) (c : Nat) : Nat → Int32 := if (decide (¬ g (to c) = -1) && ok c) = true then upd g (fr c) (nI c) else g
theorem upd_self (g : Nat → Int32) (p : Nat) : upd g p (g p) = g := by
  funext x
  by_cases h : x = p
  · subst h; simp [upd]
  · simp [upd, h]
theorem upd_upd (g : Nat → Int32) (p : Nat) (v w : Int32) : upd (upd g p v) p w = upd g p w := by
  funext x
  by_cases h : x = p <;> simp [upd, h]
theorem upd_at (g : Nat → Int32) (p : Nat) (v : Int32) : upd g p v p = v := by simp [upd]
theorem upd_ne {g : Nat → Int32} {p x : Nat} {v : Int32} (h : ¬ x = p) : upd g p v x = g x := by simp [upd, h]
theorem seg_stp {fr to : Nat → Nat} {ok : Nat → Bool} {p : Nat} : ∀ {N : Nat} {g : Nat → Int32}, (∀ c, c < N → fr c = p → ¬ to c = p) → (segD fr p N).foldl (stp fr to ok) g = upd g p (lst N (fun c => decide (fr c = p) && (ok c && decide (¬ g (to c) = -1))) (g p))
  | 0, g, _ => (upd_self g p).symm
  | N + 1, g, h => by
    rw [segD, lst]
    by_cases e : fr N = p
    · rw [if_pos e, List.foldl_cons, seg_stp (fun c hc => h c (by omega))]
      unfold stp
      rw [e, decide_eq_true (show p = p from rfl), Bool.true_and, Bool.and_comm (ok N)]
      by_cases q : (decide (¬ g (to N) = -1) && ok N) = true
      · rw [if_pos q, if_pos q, upd_upd, upd_at]
        congr 1
        refine lst_congr (fun c hc => ?_)
        by_cases z : fr c = p
        · rw [upd_ne (h c (by omega) z)]
        · rw [decide_eq_false z]; rfl
      · rw [if_neg q, if_neg q]
    · rw [if_neg e, seg_stp (fun c hc => h c (by omega)), decide_eq_false e, Bool.false_and, if_neg (by decide)]
theorem fold_ord {N : Nat} {fr to : Nat → Nat} {ok : Nat → Bool} (hU : Up N fr to) : ∀ (j : Nat) (g : Nat → Int32), (∀ p, p < j → g p = -1) → (∀ p, j ≤ p → (ordT N fr j).foldl (stp fr to ok) g p = g p) ∧ ∀ p, p < j → (ordT N fr j).foldl (stp fr to ok) g p = lst N (fun c => decide (fr c = p) && (ok c && decide (¬ (ordT N fr j).foldl (stp fr to ok) g (to c) = -1))) (-1)
  | 0, g, _ => ⟨fun _ _ => rfl, fun p hp => absurd hp (Nat.not_lt_zero _)⟩
  | j + 1, g, hg => by
    have hne : ∀ c, c < N → fr c = j → ¬ to c = j := fun c hc e => by have := hU.2 c hc; omega
    rw [ordT, List.foldl_append, seg_stp hne, hg j (Nat.lt_succ_self j)]
    generalize hG : upd g j (lst N (fun c => decide (fr c = j) && (ok c && decide (¬ g (to c) = -1))) (-1)) = G
    obtain ⟨i1, i2⟩ := fold_ord (ok := ok) hU j G (fun p hp => by rw [← hG, upd_ne (by omega)]; exact hg p (by omega))
    refine ⟨fun p hp => ?_, fun p hp => ?_⟩
    · rw [i1 p (by omega), ← hG, upd_ne (by omega)]
    · rcases Nat.lt_or_ge p j with z | z
      · exact i2 p z
      · have : p = j := by omega
        subst this
        rw [i1 p (Nat.le_refl _), ← hG, upd_at, hG]
        refine lst_congr (fun c hc => ?_)
        by_cases e : fr c = p
        · have hu := hU.2 c hc
          rw [i1 (to c) (by omega), ← hG, upd_ne (by omega)]
        · rw [decide_eq_false e]; rfl
/-- Arrays.fill -/
theorem fill_s {M : Mem} {r : Nat} {v : Int32} (hr : aln r < 1000) : ∃ g, fJ7_fill_53178 r v M = some ((), upf M r g) ∧ ∀ x, x < aln r → g x = v := by
  unfold fJ7_fill_53178
  refine loop_up (σ := Nat → Int32) (fun k i g => fJ7_fill_53178_5 r k v (nI i) (nI (aln r)) (upf M r g)) (fun i g => ∀ x, x < i → g x = v) (fun o => ∃ g, o = some ((), upf M r g) ∧ ∀ x, x < aln r → g x = v) (aln r) (fun k i g hi hI => ?_) (fun k g hI => ?_) 1000 0 (M r) (by omega) (by omega) (fun x hx => absurd hx (Nat.not_lt_zero _)) |> fun h => by
    (try dsimp only at h)
    rw [upf_self] at h
    exact h
  · left
    (try dsimp only)
    rw [fJ7_fill_53178_5, if_neg (fun z => by have := (nI_leI (by omega) (by omega)).mp z; omega), pz_gd hi (by omega), ltl_s, nI_clamp (by omega), nI_1, upf_up, upf_eq, upf_upf]
    refine ⟨upd g i v, fun x hx => ?_, rfl⟩
    by_cases e : x = i
    · rw [e, upd_at]
    · rw [upd_ne e]; exact hI x (by omega)
  · (try dsimp only)
    rw [fJ7_fill_53178_5, if_pos ((nI_leI (by omega) (by omega)).mpr (Nat.le_refl _))]
    exact ⟨g, rfl, hI⟩
def Chart (N : Nat) (fc : Nat → Nat → Nat) (M : Mem) : Prop := CF N fc M ∧ OF N (fun c => fc c 0) M
theorem wf_up {N : Nat} {fc : Nat → Nat → Nat} (h : WF N fc) : Up N (fun c => fc c 0) (fun c => fc c 1) := ⟨h.1, fun c hc => by have := h.2 c hc; exact ⟨this.1, this.2.1⟩⟩
theorem Chart.keep {N : Nat} {fc : Nat → Nat → Nat} {M S : Mem} (h : Chart N fc M) (h1 : S 1 3 = M 1 3) (h3 : S 3 = M 3) (h4 : S 4 = M 4) : Chart N fc S := ⟨⟨h1.trans h.1.1, fun c hc k hk => by rw [h3]; exact h.1.2 c hc k hk⟩, fun x hx => by rw [h4]; exact h.2 x hx⟩
theorem ord_at {N : Nat} {fc : Nat → Nat → Nat} (hW : WF N fc) {k : Nat} (hk : k < N) : (ordL N (fun c => fc c 0)).getD k 0 < N ∧ (ordL N (fun c => fc c 0)).take (k + 1) = (ordL N (fun c => fc c 0)).take k ++ [(ordL N (fun c => fc c 0)).getD k 0] := by
  have hl : (ordL N (fun c => fc c 0)).length = N := ordL_len (fun c hc => by have := hW.2 c hc; omega)
  have hk' : k < (ordL N (fun c => fc c 0)).length := by omega
  rw [List.getD_eq_getElem?_getD, List.getElem?_eq_getElem hk', Option.getD_some]
  exact ⟨ordT_lt (List.getElem_mem hk'), List.take_succ_eq_append_getElem hk'⟩
theorem ord_full {N : Nat} {fc : Nat → Nat → Nat} (hW : WF N fc) : (ordL N (fun c => fc c 0)).take N = ordL N (fun c => fc c 0) := by
  have hl : (ordL N (fun c => fc c 0)).length = N := ordL_len (fun c hc => by have := hW.2 c hc; omega)
  rw [List.take_of_length_le (by omega)]
