/-! THE REFERENCE'S SAFEST ROW. -/
theorem fs24 {N : Nat} {fc : Nat → Nat → Nat} {ns : Nat} {sn : Nat → Nat} {od : Nat} {M : Mem} (hK : KM N fc ns sn od M) (hW : WF N fc) (ho : od ≤ 16) {d q : Nat} (hd : d ≤ 9) (hq : q ≤ 99) (kk : Int32 → Int32 → Int32 → Mem → Option (Unit × Mem)) {B : Nat → Nat} (hB : ∀ x, B x ≤ 1048577) {p : Nat} (hp : p < 5) {f : Nat → Int32} (hf : ∀ x, p < x → x ≤ 5 → f x = enc (B x)) : fX5_findSafest_24 kk 1000 (nI d) (nI q) (nI p) 0 (upf M 39 (upd f p (-1))) = kk (nI d) (nI q) (nI p + -1) (upf M 39 (upd f p (enc (mxN N (fun c => if fc c 0 = p then onN (wgt fc od d q) (fun c => fc c 1) B c else 0))))) := by
  have hN := hW.1
  refine loop_up (σ := Unit) (fun k i _ => fX5_findSafest_24 kk k (nI d) (nI q) (nI p) (nI i) (upf M 39 (upd f p (enc (mxN i (fun c => if fc c 0 = p then onN (wgt fc od d q) (fun c => fc c 1) B c else 0)))))) (fun _ _ => True) (fun o => o = kk (nI d) (nI q) (nI p + -1) (upf M 39 (upd f p (enc (mxN N (fun c => if fc c 0 = p then onN (wgt fc od d q) (fun c => fc c 1) B c else 0)))))) N (fun k i s hi _ => ?_) (fun k s _ => ?_) 1000 0 () (by omega) (by omega) trivial
  · left
    refine ⟨(), trivial, ?_⟩
    have hw := hW.2 i hi
    have hm : mxN i (fun c => if fc c 0 = p then onN (wgt fc od d q) (fun c => fc c 1) B c else 0) ≤ 1048577 := mxN_le (fun c hc => by
      by_cases z : fc c 0 = p
      · rw [if_pos z]; exact onN_le (wgt_le ho c) (hB _)
      · rw [if_neg z]; omega)
    have hon := onN_le (w := wgt fc od d q) (to := fun c => fc c 1) (b := B) (c := i) (wgt_le ho i) (hB _)
    (try dsimp only)
    rw [mxN]
    generalize mxN i (fun c => if fc c 0 = p then onN (wgt fc od d q) (fun c => fc c 1) B c else 0) = m at hm
    have hS : KM N fc ns sn od (upf M 39 (upd f p (enc m))) := hK.keep ⟨fun a _ _ _ _ _ a6 => upf_id a6, fun k _ => by rw [upf_id (by decide)]⟩
    rw [fX5_findSafest_24, hS.1.1, if_neg (fun z => by have := (nI_leI (by omega) (by omega)).mp z; omega), (told_0 hS.1 hN hi _).1, (told_0 hS.1 hN hi (none : Option Int32)).2]
    by_cases z : fc i 0 = p
    · rw [if_pos (by rw [z]), if_pos z, onBy_s hS hW ho hi hd hq (B := B) (by rw [upf_eq, upd_ne (by omega)]; exact hf _ (by omega) hw.2.1) (hB _), bP_s, pz_gd (by omega) (by omega), nI_clamp (by omega), upf_eq, upd_at]
      by_cases y : onN (wgt fc od d q) (fun c => fc c 1) B i ≤ m
      · rw [if_pos ((enc_le (by omega) (by omega)).mpr y), pz_gd (by omega) (by omega), pz_gd (by omega) (by omega), ltl_s, upf_up, upf_eq, upf_upf, upd_upd, nI_1, Nat.max_eq_left y]
      · rw [if_neg (fun x => y ((enc_le (by omega) (by omega)).mp x)), pz_gd (by omega) (by omega), ltl_s, upf_up, upf_eq, upf_upf, upd_upd, nI_1, Nat.max_eq_right (by omega)]
    · rw [if_neg (fun y => z ((nI_eq (by omega) (by omega)).mp y)), if_neg z, Nat.max_zero, nI_1]
  · (try dsimp only)
    rw [fX5_findSafest_24, upf_id (by decide), hK.1.1, if_pos ((nI_leI (by omega) (by omega)).mpr (Nat.le_refl _))]
theorem fs133 {N : Nat} {fc : Nat → Nat → Nat} {M : Mem} (hC : MF N fc M) (hW : WF N fc) {d q : Nat} (kk : Int32 → Int32 → Int32 → Mem → Option (Unit × Mem)) {p : Nat} (hp : p < 5) {P : Nat → Bool} (hT : ∀ (k i : Nat) (x : Int32), i < N → fX5_findSafest_133 kk (k + 1) (nI d) (nI q) (nI p) x (nI i) M = fX5_findSafest_197 kk (fX5_findSafest_133 kk k) (nI d) (nI q) (nI p) x (nI i) (P i) M) {c len : Nat} (hnx : lst N (fun c => decide (fc c 0 = p) && P c) (-1) = nI c) (hc : c < N) (hl : M 26 15 = nI len) (hl5 : len < 5) : fX5_findSafest_133 kk 1000 (nI d) (nI q) (nI p) (-1) (M 26 8 - 1) M = kk (nI d) (nI q) (nI (fc c 1)) (up (up M 35 len (nI c)) 26 15 (nI (len + 1))) := by
  have hN := hW.1
  rw [hC.1]
  refine loop_dn (σ := Int32) (fun k i b => fX5_findSafest_133 kk k (nI d) (nI q) (nI p) b (nI i - 1) M) (fun i b => i ≤ N ∧ lst i (fun c => decide (fc c 0 = p) && P c) b = nI c) (fun o => o = kk (nI d) (nI q) (nI (fc c 1)) (up (up M 35 len (nI c)) 26 15 (nI (len + 1)))) (fun k i b hI => ?_) (fun k b hI => ?_) 1000 N (-1) (by omega) ⟨Nat.le_refl _, hnx⟩
  · left
    obtain ⟨hi, he⟩ := hI
    have hi' : i < N := by omega
    have hw := hW.2 i hi'
    rw [lst] at he
    refine ⟨_, ⟨by omega, he⟩, ?_⟩
    (try dsimp only)
    rw [pz_s1, hT k i b hi']
    unfold fX5_findSafest_197
    rw [(told_0 hC hN hi' _).1, (told_0 hC hN hi' (none : Option Int32)).2, pz_m1]
    by_cases z : fc i 0 = p
    · rw [if_pos (by rw [z]), decide_eq_true z, Bool.true_and]
      cases P i with
      | true => rw [if_pos rfl, if_pos rfl]
      | false => rw [if_neg Bool.false_ne_true, if_neg Bool.false_ne_true]
    · rw [if_neg (fun y => z ((nI_eq (by omega) (by omega)).mp y)), decide_eq_false z, Bool.false_and, if_neg Bool.false_ne_true]
  · obtain ⟨hi, he⟩ := hI
    rw [lst] at he
    subst he
    (try dsimp only)
    rw [fX5_findSafest_133, if_pos pz_z1lt, hl, pz_gd (by omega) (by omega), ltl_s, nI_clamp (by omega), ltl_s, up_id (show ¬26 = 35 by decide), hl, nI_1]
    have hS : MF N fc (up (up M 35 len (nI c)) 26 15 (nI (len + 1))) := hC.keep (by rw [up_ix (by decide), up_id (by decide)]) (by rw [up_id (by decide), up_id (by decide)])
    rw [(told_1 hS hN hc _).1, ltl_s, (told_1 hS hN hc (none : Option Int32)).2]
theorem fs117 {N : Nat} {fc : Nat → Nat → Nat} {ns : Nat} {sn : Nat → Nat} {od : Nat} {M : Mem} (hK : KM N fc ns sn od M) (hW : WF N fc) (ho : od ≤ 16) {d q : Nat} (hd : d ≤ 9) (hq : q ≤ 99) {ok : Nat → Bool} (hg : ∀ p, p ≤ 5 → M 39 p = enc (bs N (fun c => fc c 0) (fun c => fc c 1) (wgt fc od d q) p)) (hok : ok = if bst N fc od d q ≤ 1 then fun _ => true else okB N (fun c => fc c 0) (fun c => fc c 1) (wgt fc od d q)) (h0 : ¬ bst N fc od d q = 0) : ∀ (dd p : Nat) (pre : List Nat) (S : Mem) (fuel : Nat), 5 - p ≤ dd → dd < fuel → p ≤ 5 → ¬ nx N (fun c => fc c 0) (fun c => fc c 1) ok p = -1 → pre.length ≤ p → RowM S pre → (∀ a, ¬ a = 26 → ¬ a = 35 → S a = M a) → (∀ k, ¬ k = 15 → S 26 k = M 26 k) →
    ∃ M', fX5_findSafest_117 fuel (nI d) (nI q) (nI p) S = some ((), M') ∧ (∀ a, ¬ a = 26 → ¬ a = 35 → M' a = M a) ∧ (∀ k, ¬ k = 15 → M' 26 k = M 26 k) ∧ RowM M' (pre ++ rowF (nx N (fun c => fc c 0) (fun c => fc c 1) ok) (fun c => fc c 1) dd p) := by
  intro dd
  have hU := wf_up hW
  have hN := hW.1
  have hle : ∀ p, bs N (fun c => fc c 0) (fun c => fc c 1) (wgt fc od d q) p ≤ 1048577 := bsF_le (wgt_le ho) 5
  induction dd with
  | zero =>
    intro p pre S fuel h1 h2 h5 hn hl hR f1 f2
    have : p = 5 := by omega
    subst this
    obtain ⟨k, rfl⟩ : ∃ k, fuel = k + 1 := ⟨fuel - 1, by omega⟩
    rw [fX5_findSafest_117, if_pos (show (5 : Int32) ≤ nI 5 by decide), rowF, List.append_nil]
    exact ⟨S, rfl, f1, f2, hR⟩
  | succ dd ih =>
    intro p pre S fuel h1 h2 h5 hn hl hR f1 f2
    obtain ⟨k, rfl⟩ : ∃ k, fuel = k + 1 := ⟨fuel - 1, by omega⟩
    rw [fX5_findSafest_117]
    by_cases e : p = 5
    · subst e
      rw [if_pos (show (5 : Int32) ≤ nI 5 by decide), rowF, if_pos rfl, List.append_nil]
      exact ⟨S, rfl, f1, f2, hR⟩
    · obtain ⟨c, c1, c2, c3, c4, c5⟩ := nx_some hU (by omega) hn
      have hw := hW.2 c c1
      have hFS : FrW M S := ⟨fun a a1 _ a3 _ _ _ => f1 a a1 a3, f2⟩
      have hKS := hK.keep hFS
      have h39 : S 39 = M 39 := f1 39 (by decide) (by decide)
      have hT : ∀ (k' i : Nat) (x : Int32), i < N → fX5_findSafest_133 (fX5_findSafest_117 k) (k' + 1) (nI d) (nI q) (nI p) x (nI i) S = fX5_findSafest_197 (fX5_findSafest_117 k) (fX5_findSafest_133 (fX5_findSafest_117 k) k') (nI d) (nI q) (nI p) x (nI i) (if bst N fc od d q ≤ 1 then decide (¬ bs N (fun c => fc c 0) (fun c => fc c 1) (wgt fc od d q) (fc i 1) = 0) else decide (onN (wgt fc od d q) (fun c => fc c 1) (bs N (fun c => fc c 0) (fun c => fc c 1) (wgt fc od d q)) i = bs N (fun c => fc c 0) (fun c => fc c 1) (wgt fc od d q) p)) S := by
        intro k' i x hi
        have hwi := hW.2 i hi
        have hbi := hle (fc i 1)
        have hbp := hle p
        have hb0 := hle 0
        have hon := onN_le (w := wgt fc od d q) (to := fun c => fc c 1) (b := bs N (fun c => fc c 0) (fun c => fc c 1) (wgt fc od d q)) (c := i) (wgt_le ho i) hbi
        rw [fX5_findSafest_133, if_neg (nI_pos (by omega)), show (0 : Int32).toNatClampNeg = 0 from rfl, h39, hg 0 (by omega)]
        by_cases y : bst N fc od d q ≤ 1
        · rw [if_pos (by rw [show (0 : Int32) = enc 1 by decide]; exact (enc_eq (by omega) (by omega)).mpr (show bst N fc od d q = 1 by omega)), if_pos y, (told_1 hKS.1 hN hi _).1, (told_1 hKS.1 hN hi (none : Option Int32)).2, pz_gd (by omega) (by omega), nI_clamp (by omega), hg _ hwi.2.1]
          by_cases z : bs N (fun c => fc c 0) (fun c => fc c 1) (wgt fc od d q) (fc i 1) = 0
          · rw [if_pos ((enc_m1 (by omega)).mpr z), decide_eq_false (not_not_intro z)]
          · rw [if_neg (fun w => z ((enc_m1 (by omega)).mp w)), decide_eq_true z]
        · rw [if_neg (fun w => y (by rw [show (0 : Int32) = enc 1 by decide] at w; have := (enc_eq (by omega) (by omega)).mp w; unfold bst; omega)), if_neg y, onBy_s hKS hW ho hi hd hq (by rw [h39]; exact hg _ hwi.2.1) hbi, bP_s, pz_gd (by omega) (by omega), nI_clamp (by omega), hg p (by omega)]
          by_cases z : onN (wgt fc od d q) (fun c => fc c 1) (bs N (fun c => fc c 0) (fun c => fc c 1) (wgt fc od d q)) i = bs N (fun c => fc c 0) (fun c => fc c 1) (wgt fc od d q) p
          · rw [if_pos ((enc_eq (by omega) (by omega)).mpr z), decide_eq_true z]
          · rw [if_neg (fun w => z ((enc_eq (by omega) (by omega)).mp w)), decide_eq_false z]
      have hnx : lst N (fun c' => decide (fc c' 0 = p) && (if bst N fc od d q ≤ 1 then decide (¬ bs N (fun c => fc c 0) (fun c => fc c 1) (wgt fc od d q) (fc c' 1) = 0) else decide (onN (wgt fc od d q) (fun c => fc c 1) (bs N (fun c => fc c 0) (fun c => fc c 1) (wgt fc od d q)) c' = bs N (fun c => fc c 0) (fun c => fc c 1) (wgt fc od d q) p))) (-1) = nI c := by
        rw [← c5]
        by_cases y : bst N fc od d q ≤ 1
        · rw [if_pos y] at hok
          rw [nx_eq hU (by omega), hok]
          refine lst_congr (fun x hx => ?_)
          have hwx := hW.2 x hx
          rw [if_pos y, Bool.true_and]
          congr 1
          exact decide_eq_decide.mpr (nx_all hU 5 (fc x 1) (by omega) hwx.2.1)
        · rw [if_neg y] at hok
          have hbp : ¬ bs N (fun c => fc c 0) (fun c => fc c 1) (wgt fc od d q) p = 0 := (nx_bs hU 5 p (by omega) h5).mpr (by rw [← hok]; exact hn)
          rw [hok, ← nb_uniq hU (by omega)]
          refine lst_congr (fun x hx => ?_)
          rw [if_neg y]
          by_cases z : onN (wgt fc od d q) (fun c => fc c 1) (bs N (fun c => fc c 0) (fun c => fc c 1) (wgt fc od d q)) x = bs N (fun c => fc c 0) (fun c => fc c 1) (wgt fc od d q) p
          · have z0 : ¬ onN (wgt fc od d q) (fun c => fc c 1) (bs N (fun c => fc c 0) (fun c => fc c 1) (wgt fc od d q)) x = 0 := by rw [z]; exact hbp
            simp only [decide_eq_true z, decide_eq_true z0, Bool.and_true]
          · simp only [decide_eq_false z, Bool.and_false]
      rw [if_neg (fun z => by rw [pL5] at z; have := (nI_leI (by omega) (by omega)).mp z; omega), fs133 hKS.1 hW _ (by omega) hT hnx c1 hR.1 (by omega)]
      obtain ⟨M', g1, g2, g3, g4⟩ := ih (fc c 1) (pre ++ [c]) (up (up S 35 pre.length (nI c)) 26 15 (nI (pre.length + 1))) k (by omega) (by omega) hw.2.1 c4 (by rw [List.length_append, List.length_singleton]; omega) ⟨by rw [up_eq, List.length_append, List.length_singleton], fun x hx => by
        rw [List.length_append, List.length_singleton] at hx
        rw [up_id (by decide)]
        by_cases q : x = pre.length
        · rw [q, up_eq, getD_app_at]
        · rw [up_ix q, getD_app_lt (by omega)]; exact hR.2 x (by omega)⟩ (fun a a1 a2 => by rw [up_id a1, up_id a2]; exact f1 a a1 a2) (fun x hx => by rw [up_ix hx, up_id (by decide)]; exact f2 x hx)
      refine ⟨M', g1, g2, g3, ?_⟩
      rw [rowF, if_neg e, c5, nI_clamp (by omega)]
      rw [List.append_assoc] at g4
      exact g4
theorem findSafest5_s {N : Nat} {fc : Nat → Nat → Nat} {ns : Nat} {sn : Nat → Nat} {od : Nat} {M : Mem} (hK : KM N fc ns sn od M) (hW : WF N fc) (ho : od ≤ 16) {d q : Nat} (hd : d ≤ 9) (hq : q ≤ 99) : ∃ M', fX5_findSafest (nI d) (nI q) M = some ((), M') ∧ FrW M M' ∧ RowM M' (safeRow N fc od d q) ∧ M' 39 0 = enc (bst N fc od d q) := by
  have hU := wf_up hW
  have hle : ∀ p, bs N (fun c => fc c 0) (fun c => fc c 1) (wgt fc od d q) p ≤ 1048577 := bsF_le (wgt_le ho) 5
  unfold fX5_findSafest
  rw [ltl_s, show (5 : Int32).toNatClampNeg = 5 from rfl, upf_up]
  refine loop_dn (σ := Nat → Int32) (fun k j g => fX5_findSafest_10 k (nI d) (nI q) (nI j - 1) (upf M 39 g)) (fun j g => j ≤ 5 ∧ ∀ p, j ≤ p → p ≤ 5 → g p = enc (bs N (fun c => fc c 0) (fun c => fc c 1) (wgt fc od d q) p)) (fun o => ∃ M', o = some ((), M') ∧ FrW M M' ∧ RowM M' (safeRow N fc od d q) ∧ M' 39 0 = enc (bst N fc od d q)) (fun k j g hI => ?_) (fun k g hI => ?_) 1000 5 (upd (M 39) 5 1048576) (by omega) ⟨Nat.le_refl _, fun p h1 h2 => by rw [show p = 5 by omega, upd_at, bs_5]; decide⟩
  · left
    obtain ⟨hj, hp⟩ := hI
    (try dsimp only)
    rw [fX5_findSafest_10, pz_s1, if_neg (nI_pos (by omega)), pz_gd (by omega) (by omega), ltl_s, nI_clamp (by omega), upf_up, upf_eq, upf_upf, fs24 hK hW ho hd hq _ hle (by omega) (fun x h1 h2 => hp x (by omega) h2), pz_m1, ← bs_eq hU (by omega)]
    refine ⟨_, ⟨by omega, fun p h1 h2 => ?_⟩, rfl⟩
    by_cases e : p = j
    · rw [e, upd_at]
    · rw [upd_ne e]; exact hp p (by omega) h2
  · obtain ⟨hj, hp⟩ := hI
    have hb0 := hle 0
    have hF : FrW M (up (upf M 39 g) 26 15 0) := ⟨fun a a1 _ _ _ _ a6 => by rw [up_id a1, upf_id a6], fun k hk => by rw [up_ix hk, upf_id (by decide)]⟩
    have hKS := hK.keep hF
    have hg : ∀ p, p ≤ 5 → (up (upf M 39 g) 26 15 0) 39 p = enc (bs N (fun c => fc c 0) (fun c => fc c 1) (wgt fc od d q) p) := fun p h => by rw [up_id (by decide), upf_eq]; exact hp p (by omega) h
    (try dsimp only)
    rw [fX5_findSafest_10, if_pos pz_z1lt, ltl_s, show (0 : Int32).toNatClampNeg = 0 from rfl, hg 0 (by omega), show bs N (fun c => fc c 0) (fun c => fc c 1) (wgt fc od d q) 0 = bst N fc od d q from rfl]
    have hb1 : bst N fc od d q ≤ 1048577 := hb0
    by_cases y : bst N fc od d q = 0
    · have hn : nx N (fun c => fc c 0) (fun c => fc c 1) (fun _ => true) 0 = -1 := Classical.byContradiction (fun z => (nx_all (w := wgt fc od d q) hU 5 0 (by omega) (by omega)).mpr z y)
      rw [if_pos ((enc_m1 (by omega)).mpr y), fX5_findSafest_117, if_pos (show (5 : Int32) ≤ 5 by decide)]
      refine ⟨_, rfl, hF, ?_, hg 0 (by omega)⟩
      unfold safeRow rws row
      rw [if_pos (by omega), if_pos hn]
      exact ⟨up_eq _ _ _ _, fun x hx => absurd hx (Nat.not_lt_zero _)⟩
    · rw [if_neg (fun z => y ((enc_m1 (by omega)).mp z))]
      have hn : ¬ nx N (fun c => fc c 0) (fun c => fc c 1) (if bst N fc od d q ≤ 1 then fun _ => true else okB N (fun c => fc c 0) (fun c => fc c 1) (wgt fc od d q)) 0 = -1 := by
        by_cases z : bst N fc od d q ≤ 1
        · rw [if_pos z]; exact (nx_all (w := wgt fc od d q) hU 5 0 (by omega) (by omega)).mp y
        · rw [if_neg z]; exact (nx_bs (w := wgt fc od d q) hU 5 0 (by omega) (by omega)).mp y
      obtain ⟨M', m1, m2, m3, m4⟩ := fs117 hKS hW ho hd hq hg rfl y 5 0 [] (up (upf M 39 g) 26 15 0) 1000 (by omega) (by omega) (by omega) hn (Nat.le_refl _) ⟨up_eq _ _ _ _, fun x hx => absurd hx (Nat.not_lt_zero _)⟩ (fun _ _ _ => rfl) (fun _ _ => rfl)
      refine ⟨M', m1, hF.trans ⟨fun a a1 _ a3 _ _ _ => m2 a a1 a3, m3⟩, ?_, by rw [m2 39 (by decide) (by decide)]; exact hg 0 (by omega)⟩
      unfold safeRow rws row
      rw [List.nil_append] at m4
      by_cases z : bst N fc od d q ≤ 1
      · rw [if_pos z] at m4 hn ⊢; rw [if_neg hn]; exact m4
      · rw [if_neg z] at m4 hn ⊢; rw [if_neg hn]; exact m4
def vSafest (N : Nat) (fc : Nat → Nat → Nat) (od d q : Nat) (x : Int32) : Int32 := if x = -2 then rat20 (bst N fc od d q - 1) 0 else if x = -1 then rat20 (bst N fc od d q - 1) 1 else stepOf (safeRow N fc od d q) x.toNatClampNeg
theorem safe_len {N : Nat} {fc : Nat → Nat → Nat} (hW : WF N fc) (od d q : Nat) : (safeRow N fc od d q).length ≤ 5 := by
  unfold safeRow
  by_cases z : bst N fc od d q ≤ 1
  · rw [if_pos z]; exact rws_len hW _
  · rw [if_neg z]; exact rws_len hW _
theorem okR_m2 {x : Int32} {hi : Int} (h : okR x (-2) hi = true) : x = -2 ∨ x = -1 ∨ ∃ q : Nat, x = nI q ∧ (q : Int) ≤ hi := by
  simp only [okR, decide_eq_true_eq] at h
  by_cases e : x.toInt = -2
  · left; rw [pz_eq, e]; decide
  · right
    by_cases e : x.toInt = -1
    · left; rw [pz_eq, e]; decide
    · right; exact ⟨x.toInt.toNat, pz_of (by omega), by omega⟩
theorem nI_ne_m2 {a : Nat} (h : a < 2 ^ 31) : ¬ nI a = -2 := fun z => by
  have := congrArg Int32.toInt z
  rw [pz_ti h, show (-2 : Int32).toInt = -2 by decide] at this
  omega
theorem tells5_s {N : Nat} {fc : Nat → Nat → Nat} (hW : WF N fc) {od d q : Nat} (ho : od ≤ 16) {M : Mem} (hR : RowM M (safeRow N fc od d q)) (h0 : M 39 0 = enc (bst N fc od d q)) {x : Int32} (hx : okR x (-2) 4 = true) : fX5_tellsSafest M x = some (vSafest N fc od d q x) := by
  have hb : bst N fc od d q ≤ 1048577 := bsF_le (wgt_le ho) 5 0
  have hgp : 0 < Nat.gcd (bst N fc od d q - 1) 1048576 := Nat.gcd_pos_of_pos_right _ (by omega)
  have hgl : Nat.gcd (bst N fc od d q - 1) 1048576 ≤ 1048576 := Nat.gcd_le_right _ (by omega)
  have fin : fX5_tellsSafest_20 M x (nI (bst N fc od d q - 1)) = some (vSafest N fc od d q x) := by
    unfold fX5_tellsSafest_20 vSafest
    rw [com20_s (by omega), bP_s]
    rcases okR_m2 hx with rfl | rfl | ⟨w, rfl, hw⟩
    · unfold rat20
      rw [if_pos rfl, if_pos rfl, if_pos rfl, pz_gd0 hgp (by omega), pk_div (by omega) hgp (by omega)]
    · unfold rat20
      rw [if_neg (show ¬ (-1 : Int32) = -2 by decide), if_neg (show ¬ (-1 : Int32) = -2 by decide), if_pos rfl, if_pos rfl, if_neg (show ¬ (1 : Nat) = 0 by decide), pz_gd0 hgp (by omega), pL1048576, pk_div (by omega) hgp (by omega)]
    · have hl := safe_len hW od d q
      rw [if_neg (nI_ne_m2 (by omega)), if_neg (nI_ne_m1 (by omega)), if_neg (nI_ne_m2 (by omega)), if_neg (nI_ne_m1 (by omega)), hR.1, nI_clamp (by omega)]
      unfold stepOf
      by_cases e : w < (safeRow N fc od d q).length
      · rw [if_neg (fun z => by have := (nI_leI (by omega) (by omega)).mp z; omega), if_pos e, pz_gd (by omega) (by omega), hR.2 w e]
      · rw [if_pos ((nI_leI (by omega) (by omega)).mpr (by omega)), if_neg e]
  unfold fX5_tellsSafest
  rw [show (0 : Int32).toNatClampNeg = 0 from rfl, h0]
  by_cases z : bst N fc od d q = 0
  · rw [if_pos ((enc_m1 (by omega)).mpr z)]
    rw [z] at fin
    rw [← fin]; rfl
  · rw [if_neg (fun y => z ((enc_m1 (by omega)).mp y)), enc_nz z]
    exact fin
theorem safestOf_s {N : Nat} {fc : Nat → Nat → Nat} {ns : Nat} {sn : Nat → Nat} {od : Nat} {M : Mem} (hK : KM N fc ns sn od M) (hW : WF N fc) (ho : od ≤ 16) {d q : Nat} (hd : d ≤ 9) (hq : q ≤ 99) {x : Int32} (hx : okR x (-2) 4 = true) : ∃ M', fX5_safestOf (nI d) (nI q) x M = some (vSafest N fc od d q x, M') ∧ FrW M M' := by
  obtain ⟨M', m1, m2, m3, m4⟩ := findSafest5_s hK hW ho hd hq
  refine ⟨M', ?_, m2⟩
  unfold fX5_safestOf
  rw [m1, bW_s, tells5_s hW ho m3 m4 hx, bP_s]
theorem safest4_s {N : Nat} {fc : Nat → Nat → Nat} {ns : Nat} {sn : Nat → Nat} {od : Nat} {M : Mem} (hK : KC N fc ns sn od M) (hW : WF N fc) (ho : od ≤ 16) {d q : Nat} (hd1 : 1 ≤ d) (hd : d ≤ 9) (hq : q ≤ 99) (x : Int32) : ∃ M', fX4_safest (nI d) (nI q) x M = some (if okR x (-2) 4 = true then vSafest N fc od d q x else -2, M') ∧ FrC M M' := by
  have hb : bst N fc od d q ≤ 1048577 := bsF_le (wgt_le ho) 5 0
  unfold fX4_safest
  rw [if_pos (ship_in hd1 hd hq), rng_2 x (-2) 5 _ _ (-2) 4 (by decide) (by decide)]
  cases e : okR x (-2) 4 with
  | false => rw [if_neg (by decide), if_neg (by decide)]; exact ⟨M, rfl, .rfl M⟩
  | true =>
    rw [if_pos rfl, if_pos rfl]
    obtain ⟨M', m1, m2, m3⟩ := findSafest4_s hK hW ho hd hq
    refine ⟨M', ?_, m2⟩
    rw [m1, bW_s]
    unfold vSafest
    rcases okR_m2 e with rfl | rfl | ⟨w, rfl, hw⟩
    · rw [if_neg (by decide), show (-2 : Int32) + 2 = nI 0 by decide, low20_s (by omega) (by omega), bP_s, if_pos rfl]
    · rw [if_neg (by decide), show (-1 : Int32) + 2 = nI 1 by decide, low20_s (by omega) (by omega), bP_s, if_neg (by decide), if_pos rfl]
    · rw [if_pos (nI_pos' (by omega)), step_s m3 (safe_len hW _ _ _) (by omega), bP_s, if_neg (nI_ne_m2 (by omega)), if_neg (nI_ne_m1 (by omega)), nI_clamp (by omega)]
      rfl
