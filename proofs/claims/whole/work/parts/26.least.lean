def RowIs (M : Mem) (l : List Nat) : Prop := M 11 3 = nI l.length ∧ ∀ x, x < l.length → M 14 x = nI (l.getD x 0)
theorem step_s {M : Mem} {l : List Nat} (h : RowIs M l) (hl : l.length ≤ 5) {i : Nat} (hi : i < 2 ^ 31) : fX1_step M (nI i) = some (if i < l.length then nI (l.getD i 0) else -1) := by
  unfold fX1_step
  rw [h.1]
  by_cases q : i < l.length
  · rw [if_neg (fun z => by have := (nI_leI (by omega) (by omega)).mp z; omega), it14 (by omega), bP_s, h.2 i q, if_pos q]
  · rw [if_pos ((nI_leI (by omega) (by omega)).mpr (by omega)), if_neg q]
/-- nothing but the found row has changed -/
def FrR (M S : Mem) : Prop := (∀ a, ¬ a = 11 → ¬ a = 12 → ¬ a = 14 → S a = M a) ∧ ∀ k, ¬ k = 3 → S 11 k = M 11 k
theorem follow_7s {N : Nat} {fc : Nat → Nat → Nat} {M : Mem} (hC : CF N fc M) (hW : WF N fc) {ok : Nat → Bool} (hg : ∀ p, p < 5 → M 12 p = nx N (fun c => fc c 0) (fun c => fc c 1) ok p) : ∀ (d p : Nat) (pre : List Nat) (S : Mem) (fuel : Nat), 5 - p ≤ d → d < fuel → p ≤ 5 → ¬ nx N (fun c => fc c 0) (fun c => fc c 1) ok p = -1 → pre.length ≤ p → RowIs S pre → (∀ a, ¬ a = 11 → ¬ a = 14 → S a = M a) → (∀ k, ¬ k = 3 → S 11 k = M 11 k) →
    ∃ M', fX1_follow_7 fuel (nI p) S = some (true, M') ∧ (∀ a, ¬ a = 11 → ¬ a = 14 → M' a = M a) ∧ (∀ k, ¬ k = 3 → M' 11 k = M 11 k) ∧ RowIs M' (pre ++ rowF (nx N (fun c => fc c 0) (fun c => fc c 1) ok) (fun c => fc c 1) d p) := by
  intro d
  induction d with
  | zero =>
    intro p pre S fuel h1 h2 h5 hn hl hR f1 f2
    have : p = 5 := by omega
    subst this
    obtain ⟨k, rfl⟩ : ∃ k, fuel = k + 1 := ⟨fuel - 1, by omega⟩
    rw [fX1_follow_7]
    unfold fX1_follow_75
    rw [if_pos (show nI 5 = 5 from rfl), if_pos (show nI 5 = 5 from rfl), ite_self, rowF, List.append_nil]
    exact ⟨S, rfl, f1, f2, hR⟩
  | succ d ih =>
    intro p pre S fuel h1 h2 h5 hn hl hR f1 f2
    obtain ⟨k, rfl⟩ : ∃ k, fuel = k + 1 := ⟨fuel - 1, by omega⟩
    rw [fX1_follow_7]
    by_cases e : p = 5
    · subst e
      unfold fX1_follow_75
      rw [if_pos (show nI 5 = 5 from rfl), if_pos (show nI 5 = 5 from rfl), ite_self, rowF, if_pos rfl, List.append_nil]
      exact ⟨S, rfl, f1, f2, hR⟩
    · obtain ⟨c, c1, c2, c3, c4, c5⟩ := nx_some (wf_up hW) (by omega) hn
      have hw := hW.2 c c1
      have hN := hW.1
      rw [hR.1, if_neg (fun z => by rw [pL5] at z; have := (nI_leI (by omega) (by omega)).mp z; omega), if_neg (fun z => by rw [pL5] at z; have := (nI_eq (by omega) (by omega)).mp z; omega), it12 (by omega), bP_s, f1 12 (by decide) (by decide), hg p (by omega), c5, if_neg (nI_ne_m1 (by omega)), pz_gd (by omega) (by omega), ltl_s, nI_clamp (by omega), ltl_s, up_id (by decide), hR.1, nI_1]
      have hCS : CF N fc (up (up S 14 pre.length (nI c)) 11 3 (nI (pre.length + 1))) := ⟨by rw [up_id (by decide), up_id (by decide), f1 1 (by decide) (by decide)]; exact hC.1, fun x hx y hy => by rw [up_id (by decide), up_id (by decide), f1 3 (by decide) (by decide)]; exact hC.2 x hx y hy⟩
      rw [fact_1 hCS hN c1, bP_s]
      obtain ⟨M', g1, g2, g3, g4⟩ := ih (fc c 1) (pre ++ [c]) (up (up S 14 pre.length (nI c)) 11 3 (nI (pre.length + 1))) k (by omega) (by omega) hw.2.1 c4 (by rw [List.length_append, List.length_singleton]; omega) ⟨by rw [up_eq, List.length_append, List.length_singleton], fun x hx => by
        rw [List.length_append, List.length_singleton] at hx
        rw [up_id (by decide)]
        by_cases q : x = pre.length
        · rw [q, up_eq, getD_app_at]
        · rw [up_ix q, getD_app_lt (by omega)]; exact hR.2 x (by omega)⟩ (fun a a1 a2 => by rw [up_id a1, up_id a2]; exact f1 a a1 a2) (fun x hx => by rw [up_ix hx, up_id (by decide)]; exact f2 x hx)
      refine ⟨M', g1, g2, g3, ?_⟩
      rw [rowF, if_neg e, c5, nI_clamp (by omega)]
      rw [List.append_assoc] at g4
      exact g4
theorem follow_s {N : Nat} {fc : Nat → Nat → Nat} {M : Mem} (hC : CF N fc M) (hW : WF N fc) {ok : Nat → Bool} (hg : ∀ p, p < 5 → M 12 p = nx N (fun c => fc c 0) (fun c => fc c 1) ok p) : ∃ M', fX1_follow M = some (decide (¬ nx N (fun c => fc c 0) (fun c => fc c 1) ok 0 = -1), M') ∧ (∀ a, ¬ a = 11 → ¬ a = 14 → M' a = M a) ∧ (∀ k, ¬ k = 3 → M' 11 k = M 11 k) ∧ RowIs M' (row N (fun c => fc c 0) (fun c => fc c 1) ok) := by
  unfold fX1_follow row
  rw [ltl_s]
  by_cases h : nx N (fun c => fc c 0) (fun c => fc c 1) ok 0 = -1
  · rw [if_pos h, decide_eq_false (by simp [h]), fX1_follow_7, up_eq, if_neg (by decide), if_neg (by decide), pL0, it12 (by omega), bP_s, up_id (by decide), hg 0 (by omega), h, if_pos rfl, ltl_s]
    exact ⟨_, rfl, fun a a1 a2 => by rw [up_id a1, up_id a1], fun x hx => by rw [up_ix hx, up_ix hx], up_eq _ _ _ _, fun x hx => absurd hx (Nat.not_lt_zero _)⟩
  · rw [if_neg h, decide_eq_true h]
    exact follow_7s hC hW hg 5 0 [] (up M 11 3 0) 1000 (by omega) (by omega) (by omega) h (Nat.le_refl _) ⟨up_eq _ _ _ _, fun x hx => absurd hx (Nat.not_lt_zero _)⟩ (fun a a1 a2 => up_id a1) (fun x hx => up_ix hx)
theorem findLeast_s {N : Nat} {fc : Nat → Nat → Nat} {M : Mem} (hCh : Chart N fc M) (hW : WF N fc) {r2 : Nat} {d : Int32} (hr : 16 ≤ aln r2) (hr1 : aln r2 < 2 ^ 31) (r11 : ¬ r2 = 11) (r12 : ¬ r2 = 12) (r14 : ¬ r2 = 14) {ok : Nat → Bool} (hok : ∀ c, c < N → ok c = !decide (M r2 c < d)) : ∃ M', fX1_findLeast r2 d M = some (decide (¬ nx N (fun c => fc c 0) (fun c => fc c 1) ok 0 = -1), M') ∧ FrR M M' ∧ RowIs M' (row N (fun c => fc c 0) (fun c => fc c 1) ok) := by
  have hU := wf_up hW
  have hN := hW.1
  unfold fX1_findLeast
  obtain ⟨g0, e0, hg0⟩ := fill_s (M := M) (r := 12) (v := -1) (by decide)
  rw [e0, bW_s, pL5, pi12 (by omega), bW_s, upf_up, upf_eq, upf_upf]
  refine loop_up (σ := Nat → Int32) (fun k i g => fX1_findLeast_20 r2 k d (nI i) (upf M 12 g)) (fun i g => g = ((ordL N (fun c => fc c 0)).take i).foldl (stp (fun c => fc c 0) (fun c => fc c 1) ok) (upd g0 5 0)) (fun o => ∃ M', o = some (decide (¬ nx N (fun c => fc c 0) (fun c => fc c 1) ok 0 = -1), M') ∧ FrR M M' ∧ RowIs M' (row N (fun c => fc c 0) (fun c => fc c 1) ok)) N (fun k i g hi hI => ?_) (fun k g hI => ?_) 1000 0 (upd g0 5 0) (by omega) (by omega) rfl
  · left
    obtain ⟨o1, o2⟩ := ord_at hW hi
    have hS : Chart N fc (upf M 12 g) := hCh.keep (by rw [upf_id (by decide)]) (upf_id (by decide)) (upf_id (by decide))
    generalize hc : (ordL N (fun c => fc c 0)).getD i 0 = c at o1 o2
    have hw := hW.2 c o1
    have nxt : stp (fun c => fc c 0) (fun c => fc c 1) ok g c = ((ordL N (fun c => fc c 0)).take (i + 1)).foldl (stp (fun c => fc c 0) (fun c => fc c 1) ok) (upd g0 5 0) := by
      rw [o2, List.foldl_append, ← hI]; rfl
    refine ⟨stp (fun c => fc c 0) (fun c => fc c 1) ok g c, nxt, ?_⟩
    (try dsimp only)
    rw [fX1_findLeast_20, hS.1.1, if_neg (fun z => by have := (nI_leI (by omega) (by omega)).mp z; omega), it4 (by omega), bP_s, hS.2 i hi, hc, fact_1 hS.1 hN o1, bP_s, it12 (by omega), bP_s, upf_eq]
    unfold stp
    by_cases q : g (fc c 1) = -1
    · rw [if_pos q, decide_eq_false (by simp [q]), Bool.false_and, if_neg (by decide)]
      unfold fX1_findLeast_63
      rw [if_neg (by decide), nI_1]
    · rw [if_neg q, decide_eq_true q, Bool.true_and]
      unfold fX1_findLeast_63
      rw [if_pos rfl, itemOf_in (by omega) hr1, bP_s, upf_id r12, hok c o1]
      by_cases z : M r2 c < d
      · rw [if_pos z, decide_eq_true z, if_neg (by decide), nI_1]
      · rw [if_neg z, decide_eq_false z, if_pos (by decide), fact_0 hS.1 hN o1, bP_s, pi12 (by omega), bW_s, upf_up, upf_eq, upf_upf, nI_1]
  · have hS : Chart N fc (upf M 12 g) := hCh.keep (by rw [upf_id (by decide)]) (upf_id (by decide)) (upf_id (by decide))
    rw [ord_full hW] at hI
    have hst : ∀ p, p < 5 → upd g0 5 0 p = -1 := fun p hp => by rw [upd_ne (by omega)]; exact hg0 p (by show p < 6; omega)
    -- the places from 5 on: the first part of the order is empty
    have e5 : segD (fun c => fc c 0) 5 N = [] := by
      cases h : segD (fun c => fc c 0) 5 N with
      | nil => rfl
      | cons x l => have := segD_lt (fr := fun c => fc c 0) (p := 5) (N := N) (x := x) (by rw [h]; exact List.mem_cons_self); have h2 := hW.2 x this.1; have h3 := this.2; omega
    have eo : ordL N (fun c => fc c 0) = ordT N (fun c => fc c 0) 5 := by rw [ordL, ordT, e5, List.nil_append]
    rw [eo] at hI
    obtain ⟨f1, f2⟩ := fold_ord (ok := ok) hU 5 (upd g0 5 0) hst
    rw [← hI] at f1 f2
    have hg : ∀ p, p < 5 → (upf M 12 g) 12 p = nx N (fun c => fc c 0) (fun c => fc c 1) ok p := fun p hp => by
      rw [upf_eq]
      exact nx_uniq hU (by rw [f1 5 (Nat.le_refl _), upd_at]; decide) f2 5 p (by omega) hp
    obtain ⟨M', m1, m2, m3, m4⟩ := follow_s hS.1 hW hg
    (try dsimp only)
    rw [fX1_findLeast_20, hS.1.1, if_pos ((nI_leI (by omega) (by omega)).mpr (Nat.le_refl _)), m1, bW_s]
    exact ⟨M', rfl, ⟨fun a a1 a2 a3 => by rw [m2 a a1 a3, upf_id a2], fun x hx => by rw [m3 x hx, upf_id (by decide)]⟩, m4⟩
/-- how many rows -/
def sumN : Nat → (Nat → Nat) → Nat
  | 0, _ => 0
  | N + 1, f => sumN N f + f N
def sumI : Nat → (Nat → Int32) → Int32
  | 0, _ => 0
  | N + 1, f => sumI N f + f N
theorem sumN_congr {f g : Nat → Nat} : ∀ {N : Nat}, (∀ c, c < N → f c = g c) → sumN N f = sumN N g
  | 0, _ => rfl
  | N + 1, h => by rw [sumN, sumN, h N (Nat.lt_succ_self N), sumN_congr (fun c hc => h c (by omega))]
theorem sumI_congr {f g : Nat → Int32} : ∀ {N : Nat}, (∀ c, c < N → f c = g c) → sumI N f = sumI N g
  | 0, _ => rfl
  | N + 1, h => by rw [sumI, sumI, h N (Nat.lt_succ_self N), sumI_congr (fun c hc => h c (by omega))]
theorem sumI_nI (f : Nat → Nat) : ∀ N, sumI N (fun c => nI (f c)) = nI (sumN N f)
  | 0 => rfl
  | N + 1 => by rw [sumI, sumN, sumI_nI f N, nI_add]
theorem sumN_le {f : Nat → Nat} {b : Nat} : ∀ {N : Nat}, (∀ c, c < N → f c ≤ b) → sumN N f ≤ N * b
  | 0, _ => by rw [sumN]; omega
  | N + 1, h => by
    have h1 := sumN_le (N := N) (fun c hc => h c (by omega))
    have h2 := h N (Nat.lt_succ_self N)
    rw [sumN, Nat.succ_mul]; omega
theorem sumN_pos {f : Nat → Nat} : ∀ {N : Nat}, 0 < sumN N f ↔ ∃ c, c < N ∧ 0 < f c
  | 0 => ⟨fun h => absurd h (Nat.not_lt_zero _), fun ⟨c, hc, _⟩ => absurd hc (Nat.not_lt_zero _)⟩
  | N + 1 => by
    rw [sumN]
    constructor
    · intro h
      by_cases q : 0 < sumN N f
      · obtain ⟨c, h1, h2⟩ := sumN_pos.mp q; exact ⟨c, by omega, h2⟩
      · exact ⟨N, Nat.lt_succ_self N, by omega⟩
    · intro ⟨c, h1, h2⟩
      rcases Nat.lt_or_ge c N with z | z
      · have := sumN_pos.mpr ⟨c, z, h2⟩; omega
      · have : c = N := by omega
        subst this; omega
def cnF (N : Nat) (fr to : Nat → Nat) (ok : Nat → Bool) : Nat → Nat → Nat
  | 0, p => if p = 5 then 1 else 0
  | j + 1, p => if p = 5 then 1 else sumN N (fun c => if (decide (fr c = p) && ok c) = true then cnF N fr to ok j (to c) else 0)
theorem cnF_st {N : Nat} {fr to : Nat → Nat} {ok : Nat → Bool} (hU : Up N fr to) : ∀ j p, 5 - p ≤ j → p ≤ 5 → cnF N fr to ok (j + 1) p = cnF N fr to ok j p
  | 0, p, h, h5 => by
    have : p = 5 := by omega
    subst this; rfl
  | j + 1, p, h, h5 => by
    rw [cnF, cnF]
    by_cases e : p = 5
    · rw [if_pos e, if_pos e]
    · rw [if_neg e, if_neg e]
      refine sumN_congr (fun c hc => ?_)
      have hu := hU.2 c hc
      by_cases z : fr c = p
      · rw [cnF_st hU j (to c) (by omega) hu.2]
      · rw [decide_eq_false z, Bool.false_and, if_neg (by decide), if_neg (by decide)]
def cn (N : Nat) (fr to : Nat → Nat) (ok : Nat → Bool) : Nat → Nat := cnF N fr to ok 5
theorem cn_5 (N : Nat) (fr to : Nat → Nat) (ok : Nat → Bool) : cn N fr to ok 5 = 1 := rfl
theorem cn_eq {N : Nat} {fr to : Nat → Nat} {ok : Nat → Bool} (hU : Up N fr to) {p : Nat} (hp : p < 5) : cn N fr to ok p = sumN N (fun c => if (decide (fr c = p) && ok c) = true then cn N fr to ok (to c) else 0) := by
  have h : cn N fr to ok p = cnF N fr to ok 6 p := (cnF_st hU 5 p (by omega) (by omega)).symm
  rw [h, cnF, if_neg (by omega)]
  rfl
theorem cnF_le {N : Nat} {fr to : Nat → Nat} {ok : Nat → Bool} (hN : N ≤ 16) : ∀ j p, cnF N fr to ok j p ≤ 16 ^ j
  | 0, p => by rw [cnF]; split <;> omega
  | j + 1, p => by
    have h0 : 1 ≤ 16 ^ (j + 1) := Nat.le_trans Nat.one_le_two_pow (Nat.pow_le_pow_left (show 2 ≤ 16 by omega) (j + 1))
    rw [cnF]
    by_cases e : p = 5
    · rw [if_pos e]; exact h0
    · rw [if_neg e]
      have h1 := sumN_le (N := N) (f := fun c => if (decide (fr c = p) && ok c) = true then cnF N fr to ok j (to c) else 0) (b := 16 ^ j) (fun c _ => by
        (try dsimp only)
        split
        · exact cnF_le hN j (to c)
        · exact Nat.zero_le _)
      refine Nat.le_trans h1 (Nat.le_trans (Nat.mul_le_mul_right _ hN) ?_)
      rw [Nat.pow_succ, Nat.mul_comm]; exact Nat.le_refl _
theorem cn_lt {N : Nat} {fr to : Nat → Nat} {ok : Nat → Bool} (hU : Up N fr to) (p : Nat) : cn N fr to ok p < 2 ^ 31 := Nat.lt_of_le_of_lt (cnF_le hU.1 5 p) (by decide)
/-- there are rows just where there is a way on -/
theorem cn_nx {N : Nat} {fr to : Nat → Nat} {ok : Nat → Bool} (hU : Up N fr to) : ∀ d p, 5 - p ≤ d → p ≤ 5 → (0 < cn N fr to ok p ↔ ¬ nx N fr to ok p = -1)
  | 0, p, h, h5 => by
    have : p = 5 := by omega
    subst this
    rw [cn_5, nx_5]
    exact ⟨fun _ => by decide, fun _ => Nat.one_pos⟩
  | d + 1, p, h, h5 => by
    by_cases e : p = 5
    · subst e
      rw [cn_5, nx_5]
      exact ⟨fun _ => by decide, fun _ => Nat.one_pos⟩
    · have hN := hU.1
      rw [cn_eq hU (by omega), nx_eq hU (by omega), sumN_pos, lst_m1 (by omega)]
      constructor
      · intro ⟨c, h1, h2⟩
        refine ⟨c, h1, ?_⟩
        split at h2
        · rename_i hq
          simp only [Bool.and_eq_true, decide_eq_true_eq] at hq ⊢
          have hu := hU.2 c h1
          exact ⟨hq.1, hq.2, (cn_nx hU d (to c) (by omega) hu.2).mp h2⟩
        · omega
      · intro ⟨c, h1, h2⟩
        simp only [Bool.and_eq_true, decide_eq_true_eq] at h2
        have hu := hU.2 c h1
        refine ⟨c, h1, ?_⟩
        rw [if_pos (by simp [h2.1, h2.2.1])]
        exact (cn_nx hU d (to c) (by omega) hu.2).mpr h2.2.2
/-- whoever keeps the equations counts so -/
theorem cn_uniq {N : Nat} {fr to : Nat → Nat} {ok : Nat → Bool} (hU : Up N fr to) {f : Nat → Int32} (h5 : f 5 = 1) (hf : ∀ p, p < 5 → f p = sumI N (fun c => if (decide (fr c = p) && ok c) = true then f (to c) else 0)) : ∀ d p, 5 - p ≤ d → p ≤ 5 → f p = nI (cn N fr to ok p)
  | 0, p, h, hp => by
    have : p = 5 := by omega
    subst this; rw [h5, cn_5]; rfl
  | d + 1, p, h, hp => by
    by_cases e : p = 5
    · subst e; rw [h5, cn_5]; rfl
    · rw [hf p (by omega), cn_eq hU (by omega), ← sumI_nI]
      refine sumI_congr (fun c hc => ?_)
      by_cases q : (decide (fr c = p) && ok c) = true
      · rw [if_pos q, if_pos q]
        simp only [Bool.and_eq_true, decide_eq_true_eq] at q
        have hu := hU.2 c hc
        exact cn_uniq hU h5 hf d (to c) (by omega) hu.2
      · rw [if_neg q, if_neg q]; rfl
def stpC (fr to : Nat → Nat) (ok : Nat → Bool) (g : Nat → Int32) (c : Nat) : Nat → Int32 := if ok c = true then upd g (fr c) (g (fr c) + g (to c)) else g
theorem seg_stpC {fr to : Nat → Nat} {ok : Nat → Bool} {p : Nat} : ∀ {N : Nat} {g : Nat → Int32}, (∀ c, c < N → fr c = p → ¬ to c = p) → (segD fr p N).foldl (stpC fr to ok) g = upd g p (g p + sumI N (fun c => if (decide (fr c = p) && ok c) = true then g (to c) else 0))
  | 0, g, _ => by rw [sumI, Int32.add_zero, upd_self]; rfl
  | N + 1, g, h => by
    rw [segD, sumI]
    by_cases e : fr N = p
    · rw [if_pos e, List.foldl_cons, seg_stpC (fun c hc => h c (by omega))]
      unfold stpC
      rw [e, decide_eq_true (show p = p from rfl), Bool.true_and]
      by_cases q : ok N = true
      · rw [if_pos q, if_pos q, upd_upd, upd_at, Int32.add_assoc, Int32.add_comm (g (to N))]
        congr 2
        congr 1
        refine sumI_congr (fun c hc => ?_)
        by_cases z : fr c = p
        · rw [upd_ne (h c (by omega) z)]
        · rw [decide_eq_false z, Bool.false_and, if_neg (by decide), if_neg (by decide)]
      · rw [if_neg q, if_neg q, Int32.add_zero]
    · rw [if_neg e, seg_stpC (fun c hc => h c (by omega)), decide_eq_false e, Bool.false_and, if_neg (by decide), Int32.add_zero]
theorem fold_ordC {N : Nat} {fr to : Nat → Nat} {ok : Nat → Bool} (hU : Up N fr to) : ∀ (j : Nat) (g : Nat → Int32), (∀ p, p < j → g p = 0) → (∀ p, j ≤ p → (ordT N fr j).foldl (stpC fr to ok) g p = g p) ∧ ∀ p, p < j → (ordT N fr j).foldl (stpC fr to ok) g p = sumI N (fun c => if (decide (fr c = p) && ok c) = true then (ordT N fr j).foldl (stpC fr to ok) g (to c) else 0)
  | 0, g, _ => ⟨fun _ _ => rfl, fun p hp => absurd hp (Nat.not_lt_zero _)⟩
  | j + 1, g, hg => by
    have hne : ∀ c, c < N → fr c = j → ¬ to c = j := fun c hc e => by have := hU.2 c hc; omega
    rw [ordT, List.foldl_append, seg_stpC hne, hg j (Nat.lt_succ_self j), Int32.zero_add]
    generalize hG : upd g j (sumI N (fun c => if (decide (fr c = j) && ok c) = true then g (to c) else 0)) = G
    obtain ⟨i1, i2⟩ := fold_ordC (ok := ok) hU j G (fun p hp => by rw [← hG, upd_ne (by omega)]; exact hg p (by omega))
    refine ⟨fun p hp => ?_, fun p hp => ?_⟩
    · rw [i1 p (by omega), ← hG, upd_ne (by omega)]
    · rcases Nat.lt_or_ge p j with z | z
      · exact i2 p z
      · have : p = j := by omega
        subst this
        rw [i1 p (Nat.le_refl _), ← hG, upd_at, hG]
        refine sumI_congr (fun c hc => ?_)
        by_cases e : fr c = p
        · have hu := hU.2 c hc
          rw [i1 (to c) (by omega), ← hG, upd_ne (by omega)]
        · rw [decide_eq_false e, Bool.false_and, if_neg (by decide), if_neg (by decide)]
theorem tally_s {N : Nat} {fc : Nat → Nat → Nat} {M : Mem} (hCh : Chart N fc M) (hW : WF N fc) {r2 : Nat} {d : Int32} (hr : 16 ≤ aln r2) (hr1 : aln r2 < 2 ^ 31) (r13 : ¬ r2 = 13) {ok : Nat → Bool} (hok : ∀ c, c < N → ok c = decide (d ≤ M r2 c)) : ∃ M', fX1_tally r2 d M = some (nI (cn N (fun c => fc c 0) (fun c => fc c 1) ok 0), M') ∧ ∀ a, ¬ a = 13 → M' a = M a := by
  have hU := wf_up hW
  have hN := hW.1
  unfold fX1_tally
  obtain ⟨g0, e0, hg0⟩ := fill_s (M := M) (r := 13) (v := 0) (by decide)
  rw [e0, bW_s, pL5, pi13 (by omega), bW_s, upf_up, upf_eq, upf_upf]
  refine loop_up (σ := Nat → Int32) (fun k i g => fX1_tally_20 r2 k d (nI i) (upf M 13 g)) (fun i g => g = ((ordL N (fun c => fc c 0)).take i).foldl (stpC (fun c => fc c 0) (fun c => fc c 1) ok) (upd g0 5 1)) (fun o => ∃ M', o = some (nI (cn N (fun c => fc c 0) (fun c => fc c 1) ok 0), M') ∧ ∀ a, ¬ a = 13 → M' a = M a) N (fun k i g hi hI => ?_) (fun k g hI => ?_) 1000 0 (upd g0 5 1) (by omega) (by omega) rfl
  · left
    obtain ⟨o1, o2⟩ := ord_at hW hi
    have hS : Chart N fc (upf M 13 g) := hCh.keep (by rw [upf_id (by decide)]) (upf_id (by decide)) (upf_id (by decide))
    generalize hc : (ordL N (fun c => fc c 0)).getD i 0 = c at o1 o2
    have hw := hW.2 c o1
    have nxt : stpC (fun c => fc c 0) (fun c => fc c 1) ok g c = ((ordL N (fun c => fc c 0)).take (i + 1)).foldl (stpC (fun c => fc c 0) (fun c => fc c 1) ok) (upd g0 5 1) := by
      rw [o2, List.foldl_append, ← hI]; rfl
    refine ⟨stpC (fun c => fc c 0) (fun c => fc c 1) ok g c, nxt, ?_⟩
    (try dsimp only)
    rw [fX1_tally_20, hS.1.1, if_neg (fun z => by have := (nI_leI (by omega) (by omega)).mp z; omega), it4 (by omega), bP_s, hS.2 i hi, hc, itemOf_in (by omega) hr1, bP_s, upf_id r13]
    unfold stpC
    rw [hok c o1]
    by_cases z : d ≤ M r2 c
    · rw [if_pos z, decide_eq_true z, if_pos rfl, fact_0 hS.1 hN o1, bP_s, it13 (by omega), bP_s, fact_1 hS.1 hN o1, bP_s, it13 (by omega), bP_s, pi13 (by omega), bW_s, upf_eq, upf_up, upf_eq, upf_upf, nI_1]
    · rw [if_neg z, decide_eq_false z, if_neg (by decide), nI_1]
  · have hS : Chart N fc (upf M 13 g) := hCh.keep (by rw [upf_id (by decide)]) (upf_id (by decide)) (upf_id (by decide))
    rw [ord_full hW] at hI
    have hst : ∀ p, p < 5 → upd g0 5 1 p = 0 := fun p hp => by rw [upd_ne (by omega)]; exact hg0 p (by show p < 6; omega)
    have e5 : segD (fun c => fc c 0) 5 N = [] := by
      cases h : segD (fun c => fc c 0) 5 N with
      | nil => rfl
      | cons x l => have := segD_lt (fr := fun c => fc c 0) (p := 5) (N := N) (x := x) (by rw [h]; exact List.mem_cons_self); have h2 := hW.2 x this.1; have h3 := this.2; omega
    have eo : ordL N (fun c => fc c 0) = ordT N (fun c => fc c 0) 5 := by rw [ordL, ordT, e5, List.nil_append]
    rw [eo] at hI
    obtain ⟨f1, f2⟩ := fold_ordC (ok := ok) hU 5 (upd g0 5 1) hst
    rw [← hI] at f1 f2
    have hz := cn_uniq hU (f := g) (by rw [f1 5 (Nat.le_refl _), upd_at]) f2 5 0 (by omega) (by omega)
    (try dsimp only)
    rw [fX1_tally_20, hS.1.1, if_pos ((nI_leI (by omega) (by omega)).mpr (Nat.le_refl _)), pL0, it13 (by omega), bP_s, upf_eq, hz]
    exact ⟨_, rfl, fun a ha => upf_id ha⟩
