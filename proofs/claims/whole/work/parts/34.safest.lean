/-! THE CLASS'S SAFEST ROW, AND THE SURE ONE. -/
theorem e5_nil {N : Nat} {fc : Nat → Nat → Nat} (hW : WF N fc) : ordL N (fun c => fc c 0) = ordT N (fun c => fc c 0) 5 := by
  have e5 : segD (fun c => fc c 0) 5 N = [] := by
    cases h : segD (fun c => fc c 0) 5 N with
    | nil => rfl
    | cons x l => have := segD_lt (fr := fun c => fc c 0) (p := 5) (N := N) (x := x) (by rw [h]; exact List.mem_cons_self); have h2 := hW.2 x this.1; have h3 := this.2; omega
  rw [ordL, ordT, e5, List.nil_append]
theorem findLik_s {N : Nat} {fc : Nat → Nat → Nat} {M : Mem} (hCh : Chart N fc M) (hW : WF N fc) {r2 : Nat} (hr : 16 ≤ aln r2) (hr1 : aln r2 < 2 ^ 31) (r12 : ¬ r2 = 12) (r13 : ¬ r2 = 13) {w : Nat → Nat} (hw : ∀ c, w c ≤ 16) (hok : ∀ c, c < N → M r2 c = nI (w c)) : ∃ M', fX1_findLikeliest r2 M = some (enc (bs N (fun c => fc c 0) (fun c => fc c 1) w 0), M') ∧ (∀ a, ¬ a = 11 → ¬ a = 12 → ¬ a = 13 → ¬ a = 14 → M' a = M a) ∧ (∀ k, ¬ k = 3 → M' 11 k = M 11 k) ∧ RowIs M' (rws N fc (okB N (fun c => fc c 0) (fun c => fc c 1) w)) := by
  have hU := wf_up hW
  have hN := hW.1
  unfold fX1_findLikeliest
  obtain ⟨g0, e0, hg0⟩ := fill_s (M := M) (r := 12) (v := -1) (by decide)
  obtain ⟨b0, e1, hb0⟩ := fill_s (M := upf M 12 g0) (r := 13) (v := -1) (by decide)
  rw [e0, bW_s, e1, bW_s, pL5, pi13 (by omega), bW_s, upf_up, upf_eq, upf_upf]
  refine loop_up (σ := (Nat → Int32) × (Nat → Int32)) (fun k i s => fX1_findLikeliest_28 r2 k (nI i) (upf (upf M 12 s.2) 13 s.1)) (fun i s => ∀ x, x < 6 → s.1 x = (((ordL N (fun c => fc c 0)).take i).foldl (stpB (fun c => fc c 0) (fun c => fc c 1) w) (fun x => enc (if x = 5 then 1048577 else 0), fun _ => -1)).1 x ∧ s.2 x = (((ordL N (fun c => fc c 0)).take i).foldl (stpB (fun c => fc c 0) (fun c => fc c 1) w) (fun x => enc (if x = 5 then 1048577 else 0), fun _ => -1)).2 x) (fun o => ∃ M', o = some (enc (bs N (fun c => fc c 0) (fun c => fc c 1) w 0), M') ∧ (∀ a, ¬ a = 11 → ¬ a = 12 → ¬ a = 13 → ¬ a = 14 → M' a = M a) ∧ (∀ k, ¬ k = 3 → M' 11 k = M 11 k) ∧ RowIs M' (rws N fc (okB N (fun c => fc c 0) (fun c => fc c 1) w))) N (fun k i s hi hI => ?_) (fun k s hI => ?_) 1000 0 (upd b0 5 1048576, g0) (by omega) (by omega) (fun x hx => ?_)
  · left
    obtain ⟨o1, o2⟩ := ord_at hW hi
    have hS : Chart N fc (upf (upf M 12 s.2) 13 s.1) := hCh.keep (by rw [upf_id (by decide), upf_id (by decide)]) (by rw [upf_id (by decide), upf_id (by decide)]) (by rw [upf_id (by decide), upf_id (by decide)])
    generalize hc : (ordL N (fun c => fc c 0)).getD i 0 = c at o1 o2
    have hwc := hW.2 c o1
    generalize hT : ((ordL N (fun c => fc c 0)).take i).foldl (stpB (fun c => fc c 0) (fun c => fc c 1) w) (fun x => enc (if x = 5 then 1048577 else 0), fun _ => -1) = T at hI
    have nxt : ((ordL N (fun c => fc c 0)).take (i + 1)).foldl (stpB (fun c => fc c 0) (fun c => fc c 1) w) (fun x => enc (if x = 5 then 1048577 else 0), fun _ => -1) = stpB (fun c => fc c 0) (fun c => fc c 1) w T c := by
      rw [o2, List.foldl_append, hT]; rfl
    rw [nxt]
    refine ⟨if s.1 (fc c 1) = -1 then s else if s.1 (fc c 0) ≤ s.1 (fc c 1) / 16 * nI (w c) then (upd s.1 (fc c 0) (s.1 (fc c 1) / 16 * nI (w c)), upd s.2 (fc c 0) (nI c)) else s, fun x hx => ?_, ?_⟩
    · unfold stpB
      rw [(hI (fc c 1) (by omega)).1, (hI (fc c 0) (by omega)).1]
      by_cases z : T.1 (fc c 1) = -1
      · rw [if_pos z, if_pos z]; exact hI x hx
      · rw [if_neg z, if_neg z]
        by_cases y : T.1 (fc c 0) ≤ T.1 (fc c 1) / 16 * nI (w c)
        · rw [if_pos y, if_pos y]
          (try dsimp only)
          by_cases q : x = fc c 0
          · rw [q, upd_at, upd_at, upd_at, upd_at]; exact ⟨rfl, rfl⟩
          · rw [upd_ne q, upd_ne q, upd_ne q, upd_ne q]; exact hI x hx
        · rw [if_neg y, if_neg y]; exact hI x hx
    · (try dsimp only)
      rw [fX1_findLikeliest_28, hS.1.1, if_neg (fun z => by have := (nI_leI (by omega) (by omega)).mp z; omega), it4 (by omega), bP_s, hS.2 i hi, hc, fact_1 hS.1 hN o1, bP_s, it13 (by omega), bP_s, upf_eq]
      by_cases z : s.1 (fc c 1) = -1
      · rw [if_pos z, if_pos z, nI_1]
      · rw [if_neg z, if_neg z, fact_0 hS.1 hN o1, bP_s, itemOf_in (by omega) hr1, bP_s, upf_id r13, upf_id r12, hok c o1, it13 (by omega), bP_s, upf_eq]
        by_cases y : s.1 (fc c 0) ≤ s.1 (fc c 1) / 16 * nI (w c)
        · rw [if_pos y, if_pos y, pi13 (by omega), bW_s, pi12 (by omega), bW_s, nI_1]
          congr 1
          rw [upf_up, upf_up, upf_eq, upf_upf, upf_id (show ¬ 12 = 13 by decide), upf_eq]
          funext a
          by_cases a1 : a = 12
          · rw [a1, upf_eq, upf_id (show ¬ 12 = 13 by decide), upf_eq]
          · by_cases a2 : a = 13
            · rw [a2, upf_id (show ¬ 13 = 12 by decide), upf_eq, upf_eq]
            · rw [upf_id a1, upf_id a2, upf_id a1, upf_id a2, upf_id a1]
        · rw [if_neg y, if_neg y, nI_1]
  · have hS : Chart N fc (upf (upf M 12 s.2) 13 s.1) := hCh.keep (by rw [upf_id (by decide), upf_id (by decide)]) (by rw [upf_id (by decide), upf_id (by decide)]) (by rw [upf_id (by decide), upf_id (by decide)])
    rw [ord_full hW, e5_nil hW] at hI
    obtain ⟨β, g, f1, f2, f3, f4⟩ := fold_ordB (w := w) hU hw 5 (fun x => if x = 5 then 1048577 else 0) (fun _ => -1) (fun x => by
      (try dsimp only)
      by_cases q : x = 5
      · rw [if_pos q]; omega
      · rw [if_neg q]; omega) (fun p hp => ⟨if_neg (by omega), rfl⟩)
    rw [f1] at hI
    have b5 : β 5 = 1048577 := by rw [(f2 5 (Nat.le_refl _)).1, if_pos rfl]
    have hβ : ∀ p, p ≤ 5 → β p = bs N (fun c => fc c 0) (fun c => fc c 1) w p := fun p hp => bs_uniq hU b5 (fun p hp => (f4 p hp).1) 5 p (by omega) hp
    have hg : ∀ p, p < 5 → (upf (upf M 12 s.2) 13 s.1) 12 p = nx N (fun c => fc c 0) (fun c => fc c 1) (okB N (fun c => fc c 0) (fun c => fc c 1) w) p := fun p hp => by
      rw [upf_id (by decide), upf_eq, (hI p (by omega)).2, ← nb_uniq hU hp]
      (try dsimp only)
      rw [(f4 p hp).2]
      refine lst_congr (fun c hc => ?_)
      have hu := hU.2 c hc
      have : onN w (fun c => fc c 1) β c = onN w (fun c => fc c 1) (bs N (fun c => fc c 0) (fun c => fc c 1) w) c := by
        unfold onN
        rw [hβ _ hu.2]
      rw [this, hβ p (by omega)]
    obtain ⟨M', m1, m2, m3, m4⟩ := follow_s hS.1 hW hg
    (try dsimp only)
    rw [fX1_findLikeliest_28, hS.1.1, if_pos ((nI_leI (by omega) (by omega)).mpr (Nat.le_refl _)), m1, bW_s, pL0, it13 (by omega), bP_s, m2 13 (by decide) (by decide), upf_eq, (hI 0 (by omega)).1]
    (try dsimp only)
    rw [hβ 0 (by omega)]
    exact ⟨M', rfl, fun a a1 a2 a3 a4 => by rw [m2 a a1 a4, upf_id a3, upf_id a2], fun x hx => by rw [m3 x hx, upf_id (by decide), upf_id (by decide)], m4⟩
  · (try dsimp only)
    rw [List.take_zero, List.foldl_nil]
    (try dsimp only)
    by_cases e : x = 5
    · rw [e, upd_at, if_pos rfl]; exact ⟨by decide, hg0 5 (by decide)⟩
    · rw [upd_ne e, if_neg e]; exact ⟨by rw [hb0 x hx]; decide, hg0 x hx⟩
/-- the chance of a channel in sixteenths -/
def wgt (fc : Nat → Nat → Nat) (od d q c : Nat) : Nat := (if d ≤ dpt fc c q false then 16 - od else 0) + (if d ≤ dpt fc c q true then od else 0)
theorem wgt_le {fc : Nat → Nat → Nat} {od d q : Nat} (ho : od ≤ 16) (c : Nat) : wgt fc od d q c ≤ 16 := by
  unfold wgt
  by_cases a : d ≤ dpt fc c q false
  · rw [if_pos a]
    by_cases b : d ≤ dpt fc c q true
    · rw [if_pos b]; omega
    · rw [if_neg b]; omega
  · rw [if_neg a]
    by_cases b : d ≤ dpt fc c q true
    · rw [if_pos b]; omega
    · rw [if_neg b]; omega
def bst (N : Nat) (fc : Nat → Nat → Nat) (od d q : Nat) : Nat := bs N (fun c => fc c 0) (fun c => fc c 1) (wgt fc od d q) 0
def safeRow (N : Nat) (fc : Nat → Nat → Nat) (od d q : Nat) : List Nat := if bst N fc od d q ≤ 1 then rws N fc (fun _ => true) else rws N fc (okB N (fun c => fc c 0) (fun c => fc c 1) (wgt fc od d q))
theorem findSafest4_s {N : Nat} {fc : Nat → Nat → Nat} {ns : Nat} {sn : Nat → Nat} {od : Nat} {M : Mem} (hK : KC N fc ns sn od M) (hW : WF N fc) (ho : od ≤ 16) {d q : Nat} (hd : d ≤ 9) (hq : q ≤ 99) : ∃ M', fX4_findSafest (nI d) (nI q) M = some (nI (bst N fc od d q - 1), M') ∧ FrC M M' ∧ RowIs M' (safeRow N fc od d q) := by
  have hN := hW.1
  unfold fX4_findSafest
  obtain ⟨g, g1, g2⟩ := dfill_s (r := 24) hK.1.1 hW (st := false) (show 16 ≤ 16 by decide) (show 16 < 2 ^ 31 by decide) (by decide) (by decide) hq
  rw [g1, bW_s]
  have hK1 := hK.keep (FrC.u24 M g)
  obtain ⟨g', g3, g4⟩ := dfill_s (r := 25) hK1.1.1 hW (st := true) (show 16 ≤ 16 by decide) (show 16 < 2 ^ 31 by decide) (by decide) (by decide) hq
  rw [g3, bW_s]
  have e0 : upf (upf M 24 g) 25 g' = upf (upf M 25 g') 24 g := by
    funext a
    by_cases h1 : a = 24
    · rw [h1, upf_id (show ¬ 24 = 25 by decide), upf_eq, upf_eq]
    · by_cases h2 : a = 25
      · rw [h2, upf_eq, upf_id (show ¬ 25 = 24 by decide), upf_eq]
      · rw [upf_id h2, upf_id h1, upf_id h1, upf_id h2]
  rw [e0]
  have s16 : (16 : Int32) - nI od = nI (16 - od) := by rw [pL16]; exact pk_sub ho
  refine loop_up (σ := Nat → Int32) (fun k i f => fX4_findSafest_28 k (nI d) (nI i) (upf (upf M 25 g') 24 f)) (fun i f => ∀ c, c < N → f c = if c < i then nI (wgt fc od d q c) else g c) (fun o => ∃ M', o = some (nI (bst N fc od d q - 1), M') ∧ FrC M M' ∧ RowIs M' (safeRow N fc od d q)) 16 (fun k i f hi hI => ?_) (fun k f hI => ?_) 1000 0 g (by omega) (by omega) (fun c _ => by rw [if_neg (Nat.not_lt_zero _)])
  · left
    have hO : (upf (upf M 25 g') 24 f) 0 6 = nI od := by rw [upf_id (by decide), upf_id (by decide)]; exact hK.2.2
    refine ⟨upd f i ((if f i < nI d then 0 else nI (16 - od)) + (if g' i < nI d then 0 else nI od)), fun c hc => ?_, ?_⟩
    · by_cases e : c = i
      · subst e
        have p1 := dpt_le hW hc q false
        have p2 := dpt_le hW hc q true
        rw [upd_at, if_pos (show c < c + 1 by omega), hI c hc, if_neg (show ¬ c < c by omega), g2 c hc, g4 c hc]
        unfold wgt
        have x1 : (if nI (dpt fc c q false) < nI d then (0 : Int32) else nI (16 - od)) = nI (if d ≤ dpt fc c q false then 16 - od else 0) := by
          by_cases z : d ≤ dpt fc c q false
          · rw [if_pos z, if_neg (fun y => by have := (nI_ltI (by omega) (by omega)).mp y; omega)]
          · rw [if_neg z, if_pos ((nI_ltI (by omega) (by omega)).mpr (by omega))]; rfl
        have x2 : (if nI (dpt fc c q true) < nI d then (0 : Int32) else nI od) = nI (if d ≤ dpt fc c q true then od else 0) := by
          by_cases z : d ≤ dpt fc c q true
          · rw [if_pos z, if_neg (fun y => by have := (nI_ltI (by omega) (by omega)).mp y; omega)]
          · rw [if_neg z, if_pos ((nI_ltI (by omega) (by omega)).mpr (by omega))]; rfl
        rw [x1, x2, nI_add]
      · rw [upd_ne e, hI c hc]
        by_cases e2 : c < i
        · rw [if_pos e2, if_pos (by omega)]
        · rw [if_neg e2, if_neg (by omega)]
    · have h67 : ∀ (t : Int32), fX4_findSafest_67 (fX4_findSafest_28 k) (nI d) (nI i) t (upf (upf M 25 g') 24 f) = fX4_findSafest_28 k (nI d) (nI (i + 1)) (upf (upf M 25 g') 24 (upd f i (t + (if g' i < nI d then 0 else nI od)))) := by
        intro t
        unfold fX4_findSafest_67
        rw [pz_gd (by omega) (by omega), nI_clamp (by omega), upf_id (show ¬ 25 = 24 by decide), upf_eq, hO]
        by_cases z : g' i < nI d
        · rw [if_pos z, if_pos z, pz_gd (by omega) (by omega), ltl_s, upf_up, upf_eq, upf_upf, nI_1, Int32.add_zero]
        · rw [if_neg z, if_neg z, pz_gd (by omega) (by omega), ltl_s, upf_up, upf_eq, upf_upf, nI_1]
      (try dsimp only)
      rw [fX4_findSafest_28, if_neg (fun z => by rw [pL16] at z; have := (nI_leI (by omega) (by omega)).mp z; omega), if_neg (fun z => by rw [pL16] at z; have := (nI_leI (by omega) (by omega)).mp z; omega), pz_gd (by omega) (by omega), nI_clamp (by omega), upf_eq, hO, s16]
      by_cases z : f i < nI d
      · rw [if_pos z, if_pos z, h67]
      · rw [if_neg z, if_neg z, h67]
  · (try dsimp only)
    rw [fX4_findSafest_28, if_pos (show (16 : Int32) ≤ nI 16 by decide)]
    unfold fX4_findSafest_102
    have hF : FrC M (upf (upf M 25 g') 24 f) := (FrC.u25 M g').trans (FrC.u24 _ f)
    obtain ⟨M1, m1, m2, m3, m4⟩ := findLik_s (hK.keep hF).1 hW (r2 := 24) (show 16 ≤ 16 by decide) (show 16 < 2 ^ 31 by decide) (by decide) (by decide) (w := wgt fc od d q) (wgt_le ho) (fun c hc => by rw [upf_eq, hI c hc, if_pos (by omega)])
    have hF1 : FrC M M1 := hF.trans ⟨fun a a1 a2 a3 a4 _ _ => m2 a a1 a2 a3 a4, m3⟩
    have hb : bst N fc od d q ≤ 1048577 := bsF_le (wgt_le ho) 5 0
    have hb1 : bst N fc od d q < 2 ^ 30 := by omega
    rw [m1, bW_s]
    unfold safeRow
    by_cases z : bst N fc od d q ≤ 1
    · rw [if_pos (by rw [show (0 : Int32) = enc 1 by decide]; exact (enc_le hb1 (by omega)).mpr z), if_pos z]
      obtain ⟨M2, l1, l2, l3⟩ := findLeast_s (hK.keep hF1).1 hW (r2 := 24) (d := 0) (show 16 ≤ 16 by decide) (show 16 < 2 ^ 31 by decide) (by decide) (by decide) (by decide) (ok := fun _ => true) (fun c hc => by
        have hwl := wgt_le (fc := fc) (d := d) (q := q) ho c
        rw [m2 24 (by decide) (by decide) (by decide) (by decide), upf_eq, hI c hc, if_pos (by omega), decide_eq_false (nI_pos (by omega))]; rfl)
      rw [l1, bW_s, show bst N fc od d q - 1 = 0 by omega]
      exact ⟨M2, rfl, hF1.trans (.of l2), l3⟩
    · rw [if_neg (fun y => z (by rw [show (0 : Int32) = enc 1 by decide] at y; exact (enc_le hb1 (by omega)).mp y)), if_neg z, show enc (bs N (fun c => fc c 0) (fun c => fc c 1) (wgt fc od d q) 0) = nI (bst N fc od d q - 1) from enc_nz (show ¬ bst N fc od d q = 0 by omega)]
      exact ⟨M1, rfl, hF1, m4⟩
/-- the sure row -/
def okS (fc : Nat → Nat → Nat) (d q c : Nat) : Bool := decide (d ≤ min (dpt fc c q false) (dpt fc c q true))
theorem mn_s {a b : Nat} (ha : a < 2 ^ 31) (hb : b < 2 ^ 31) : mn (nI a) (nI b) = nI (min a b) := by
  unfold mn
  by_cases z : b < a
  · rw [if_pos ((nI_ltI hb ha).mpr z), show min a b = b by omega]
  · rw [if_neg (fun y => z ((nI_ltI hb ha).mp y)), show min a b = a by omega]
theorem sure4_s {N : Nat} {fc : Nat → Nat → Nat} {ns : Nat} {sn : Nat → Nat} {od : Nat} {M : Mem} (hK : KC N fc ns sn od M) (hW : WF N fc) {d q w : Nat} (hd1 : 1 ≤ d) (hd : d ≤ 9) (hq : q ≤ 99) (hw : w ≤ 4) : ∃ M', fX4_sure (nI d) (nI q) (nI w) M = some (stepOf (rws N fc (okS fc d q)) w, M') ∧ FrC M M' := by
  have hN := hW.1
  unfold fX4_sure
  rw [if_pos (ship_in hd1 hd hq), if_neg (nI_pos (by omega)), if_pos (by rw [pL5]; exact (nI_ltI (by omega) (by omega)).mpr (by omega))]
  obtain ⟨g, g1, g2⟩ := dfill_s (r := 24) hK.1.1 hW (st := false) (show 16 ≤ 16 by decide) (show 16 < 2 ^ 31 by decide) (by decide) (by decide) hq
  rw [g1, bW_s]
  have hK1 := hK.keep (FrC.u24 M g)
  obtain ⟨g', g3, g4⟩ := dfill_s (r := 25) hK1.1.1 hW (st := true) (show 16 ≤ 16 by decide) (show 16 < 2 ^ 31 by decide) (by decide) (by decide) hq
  rw [g3, bW_s]
  have e0 : upf (upf M 24 g) 25 g' = upf (upf M 25 g') 24 g := by
    funext a
    by_cases h1 : a = 24
    · rw [h1, upf_id (show ¬ 24 = 25 by decide), upf_eq, upf_eq]
    · by_cases h2 : a = 25
      · rw [h2, upf_eq, upf_id (show ¬ 25 = 24 by decide), upf_eq]
      · rw [upf_id h2, upf_id h1, upf_id h1, upf_id h2]
  rw [e0]
  refine loop_up (σ := Nat → Int32) (fun k i f => fX4_sure_49 k (nI d) (nI w) (nI i) (upf (upf M 25 g') 24 f)) (fun i f => ∀ c, c < N → f c = if c < i then nI (min (dpt fc c q false) (dpt fc c q true)) else g c) (fun o => ∃ M', o = some (stepOf (rws N fc (okS fc d q)) w, M') ∧ FrC M M') 16 (fun k i f hi hI => ?_) (fun k f hI => ?_) 1000 0 g (by omega) (by omega) (fun c _ => by rw [if_neg (Nat.not_lt_zero _)])
  · left
    refine ⟨upd f i (mn (f i) (g' i)), fun c hc => ?_, ?_⟩
    · by_cases e : c = i
      · subst e
        have p1 := dpt_le hW hc q false
        have p2 := dpt_le hW hc q true
        rw [upd_at, if_pos (show c < c + 1 by omega), hI c hc, if_neg (show ¬ c < c by omega), g2 c hc, g4 c hc, mn_s (by omega) (by omega)]
      · rw [upd_ne e, hI c hc]
        by_cases e2 : c < i
        · rw [if_pos e2, if_pos (by omega)]
        · rw [if_neg e2, if_neg (by omega)]
    · (try dsimp only)
      rw [fX4_sure_49, if_neg (fun z => by rw [pL16] at z; have := (nI_leI (by omega) (by omega)).mp z; omega), if_neg (fun z => by rw [pL16] at z; have := (nI_leI (by omega) (by omega)).mp z; omega), pz_gd (by omega) (by omega), pz_gd (by omega) (by omega), pz_gd (by omega) (by omega), ltl_s, nI_clamp (by omega), upf_up, upf_eq, upf_id (show ¬ 25 = 24 by decide), upf_eq, upf_upf, nI_1]
  · (try dsimp only)
    rw [fX4_sure_49, if_pos (show (16 : Int32) ≤ nI 16 by decide)]
    unfold fX4_sure_99
    have hF : FrC M (upf (upf M 25 g') 24 f) := (FrC.u25 M g').trans (FrC.u24 _ f)
    obtain ⟨M', m1, m2, m3⟩ := least_s (hK.keep hF).1 hW (show d < 2 ^ 31 by omega) (f := fun c => min (dpt fc c q false) (dpt fc c q true)) (fun c hc => ⟨by rw [upf_eq, hI c hc, if_pos (by omega)], by have := dpt_le hW hc q false; omega⟩)
    rw [m1, bW_s, step_s m3 (rws_len hW _) (by omega), bP_s]
    exact ⟨M', rfl, hF.trans m2⟩
theorem sureOf_s {N : Nat} {fc : Nat → Nat → Nat} {ns : Nat} {sn : Nat → Nat} {od : Nat} {M : Mem} (hK : KM N fc ns sn od M) (hW : WF N fc) {d q w : Nat} (hd : d ≤ 9) (hq : q ≤ 99) (hw : w ≤ 4) : ∃ M', fX5_sureOf (nI d) (nI q) (nI w) M = some (stepOf (rws N fc (okS fc d q)) w, M') ∧ FrW M M' := by
  obtain ⟨m, m1, m2⟩ := enoughIn_s hK.1 hW (st := true) hd hq
  obtain ⟨v, v1, v2⟩ := enoughIn_s hK.1 hW (st := false) hd hq
  have hmv : Msk (m &&& v) N (okS fc d q) := by
    refine ⟨Nat.lt_of_le_of_lt Nat.and_le_left m2.1, fun c hc => ?_⟩
    rw [Nat.testBit_and, m2.2 c hc, v2.2 c hc]
    unfold okS
    (try dsimp only)
    by_cases a : d ≤ dpt fc c q true
    · by_cases b : d ≤ dpt fc c q false
      · rw [decide_eq_true a, decide_eq_true b, decide_eq_true (by omega)]; rfl
      · rw [decide_eq_true a, decide_eq_false b, decide_eq_false (by omega)]; rfl
    · rw [decide_eq_false a, decide_eq_false (show ¬ d ≤ min (dpt fc c q false) (dpt fc c q true) by omega), Bool.false_and]
  obtain ⟨M', n, g1, g2, g3, g4, g5, g6⟩ := fways_s hK hW hmv
  refine ⟨M', ?_, g5⟩
  unfold fX5_sureOf
  rw [m1, bP_s, v1, bP_s, mk_and, g1, bW_s, tellM_s g6 (rws_len hW _) hw]
theorem allRows_s {N : Nat} {fc : Nat → Nat → Nat} {ns : Nat} {sn : Nat → Nat} {od : Nat} {M : Mem} (hK : KC N fc ns sn od M) (hW : WF N fc) : ∃ M', fX4_allRows M = some (nI (cn N (fun c => fc c 0) (fun c => fc c 1) (fun _ => true) 0), M') ∧ FrC M M' := by
  unfold fX4_allRows
  obtain ⟨g, g1, g2⟩ := dfill_s (r := 24) hK.1.1 hW (q := 0) (st := false) (show 16 ≤ 16 by decide) (show 16 < 2 ^ 31 by decide) (by decide) (by decide) (by omega)
  rw [show (0 : Int32) = nI 0 from rfl, g1, bW_s]
  have hF := FrC.u24 M g
  obtain ⟨M', t1, t2⟩ := tally_s (hK.keep hF).1 hW (r2 := 24) (d := nI 0) (show 16 ≤ 16 by decide) (show 16 < 2 ^ 31 by decide) (by decide) (ok := fun _ => true) (fun c hc => by have := dpt_le hW hc 0 false; rw [upf_eq, g2 c hc, decide_eq_true ((nI_leI (by omega) (by omega)).mpr (Nat.zero_le _))])
  rw [t1, bW_s]
  exact ⟨M', rfl, hF.trans (.t13 t2)⟩
theorem allWays_s {N : Nat} {fc : Nat → Nat → Nat} {ns : Nat} {sn : Nat → Nat} {od : Nat} {M : Mem} (hK : KM N fc ns sn od M) (hW : WF N fc) : ∃ M', fX5_findWays 65535 M = some (nI (cn N (fun c => fc c 0) (fun c => fc c 1) (fun _ => true) 0), M') ∧ FrW M M' := by
  have hm : Msk 65535 N (fun _ => true) := ⟨by omega, fun c hc => by
    have hN := hW.1
    have : ∀ c, c < 16 → (65535 : Nat).testBit c = true := by decide
    exact this c (by omega)⟩
  obtain ⟨M', n, g1, g2, g3, g4, g5, g6⟩ := fways_s hK hW hm
  exact ⟨M', by rw [pL65535, g1, g2], g5⟩
