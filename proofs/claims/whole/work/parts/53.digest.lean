/-! THE DIGEST. -/
def mixL (a : Int64) (l : List Int32) : Int64 := l.foldl fX4_mix a
theorem mixL_c (a : Int64) (x : Int32) (l : List Int32) : mixL (fX4_mix a x) l = mixL a (x :: l) := rfl
theorem mixL_a (a : Int64) (l m : List Int32) : mixL (mixL a l) m = mixL a (l ++ m) := by unfold mixL; rw [List.foldl_append]
def dCh (N : Nat) (fc : Nat → Nat → Nat) (ns : Nat) (sn : Nat → Nat) (sz : Nat) (sd : Nat → Nat → Nat) (c : Nat) : List Int32 := [nI (dpt fc c 7 (stm ns sn 7)), nI (dpt fc c 6 (stm ns sn 6)), vLaws (lwp fc sz sd c) (-1), vLaws (lwp fc sz sd c) 0, vNext (lwp fc sz sd c) (fc c 2) 9, nI (vTells (lwp fc sz sd c) (fc c 2) 3)]
def dTold (fc : Nat → Nat → Nat) (c : Nat) : Nat → List Int32
  | 0 => []
  | k + 1 => nI (fc c (4 - k)) :: dTold fc c k
theorem KC.E {N : Nat} {fc : Nat → Nat → Nat} {ns : Nat} {sn : Nat → Nat} {od : Nat} {M : Mem} {S : Mem} (h : KC N fc ns sn od M) (f : FrE M S) : KC N fc ns sn od S := h.k5 (fun a a1 a2 => f a (by omega) (by omega) (by omega)) (by rw [f 0 (by decide) (by decide) (by decide)])
theorem ZC.E {sz : Nat} {sd : Nat → Nat → Nat} {M S : Mem} (h : ZC sz sd M) (f : FrE M S) : ZC sz sd S := h.keep (f 6 (by decide) (by decide) (by decide)) (f 7 (by decide) (by decide) (by decide)) (f 8 (by decide) (by decide) (by decide)) (f 9 (by decide) (by decide) (by decide))
theorem chan4_s {N : Nat} {fc : Nat → Nat → Nat} {ns : Nat} {sn : Nat → Nat} {od : Nat} {M : Mem} (hK : KC N fc ns sn od M) (hW : WF N fc) {c k : Nat} (hc : c < N) (hk : k < 5) : fX4_channel M (nI c) (nI k) = some (nI (fc c k)) := by
  unfold fX4_channel
  rw [fact_s hK.1.1 hW.1 hc hk, bP_s]
theorem dCh4_s {N : Nat} {fc : Nat → Nat → Nat} {ns : Nat} {sn : Nat → Nat} {od : Nat} {M : Mem} (hK : KC N fc ns sn od M) (hW : WF N fc) {sz : Nat} {sd : Nat → Nat → Nat} (hZ : ZC sz sd M) (hR : ZR sz sd) {c : Nat} (hc : c < N) (a : Int64) : ∃ M', fX4_digestChannel a (nI c) M = some (mixL a (dTold fc c 5 ++ dCh N fc ns sn sz sd c), M') ∧ FrE M M' := by
  have hN := hW.1
  obtain ⟨M', t1, t2⟩ := tells4_s hK hW hZ hR hc (show 3 ≤ 99 by omega)
  unfold fX4_digestChannel
  refine loop_up (σ := Int64) (fun k i s => fX4_digestChannel_6 k (nI c) s (nI i) M) (fun i s => mixL s (dTold fc c (5 - i)) = mixL a (dTold fc c 5)) (fun o => ∃ M', o = some (mixL a (dTold fc c 5 ++ dCh N fc ns sn sz sd c), M') ∧ FrE M M') 5 (fun k i s hi hI => ?_) (fun k s hI => ?_) 1000 0 a (by omega) (by omega) rfl
  · left
    refine ⟨fX4_mix s (nI (fc c i)), ?_, ?_⟩
    · rw [show 5 - i = (4 - i) + 1 by omega, dTold, show 4 - (4 - i) = i by omega] at hI
      rw [show 5 - (i + 1) = 4 - i by omega, mixL_c]
      exact hI
    · (try dsimp only)
      rw [fX4_digestChannel_6, if_neg (fun z => by rw [pL5] at z; have := (nI_leI (by omega) (by omega)).mp z; omega), chan4_s hK hW hc hi, bP_s, nI_1]
  · have hcb : chB N (nI c) = true := decide_eq_true (by rw [pz_ti (by omega)]; omega)
    (try dsimp only)
    rw [fX4_digestChannel_6, if_pos (show (5 : Int32) ≤ nI 5 by decide), show (7 : Int32) = nI 7 from rfl, deep4_s hK hW, hcb, okR_nI (by omega), decide_eq_true (by omega), Bool.true_and, if_pos rfl, bP_s, map4_s hK hW (show 7 ≤ 99 by omega) hc, bP_s, laws4_s hK hW hZ hR hc, if_pos (show okR (-1) (-1) 35 = true by decide), bP_s, ltl_s, laws4_s hK hW hZ hR hc, if_pos (show okR 0 (-1) 35 = true by decide), bP_s, show (9 : Int32) = nI 9 from rfl, next4_s hK hW hZ hR hc (show 9 ≤ 99 by omega), bP_s, show (3 : Int32) = nI 3 from rfl, t1, bW_s, nI_clamp (by omega), nI_clamp (by omega)]
    refine ⟨M', ?_, .o10 t2⟩
    rw [← mixL_a, ← hI]
    rfl
def dNd (N : Nat) (fc : Nat → Nat → Nat) (ns : Nat) (sn : Nat → Nat) (od d q : Nat) : List Int32 := [vWays N fc ns sn d q (-1), vWays N fc ns sn d q 0, vWaits N fc ns sn d q, vMap N fc ns sn d q, vChg N fc ns sn d q, rat16 (chN6 N fc od d q) 0, rat16 (chN6 N fc od d q) 1, stepOf (rws N fc (okS fc d q)) 0, vSafest N fc od d q (-2), vSafest N fc od d q (-1), vSafest N fc od d q 0, vWorth N fc ns sn d q]
theorem nd4_s {N : Nat} {fc : Nat → Nat → Nat} {ns : Nat} {sn : Nat → Nat} {od : Nat} {M : Mem} (hK : KC N fc ns sn od M) (hW : WF N fc) (ho : od ≤ 16) {d q : Nat} (hd1 : 1 ≤ d) (hd : d ≤ 9) (hq : q ≤ 99) {j n : Nat} (hj : j < 2) (hdj : tabD j = nI d) (a : Int64) : ∃ M', fX4_digestNight_24 (n + 1) (nI q) a (nI j) M = fX4_digestNight_24 n (nI q) (mixL a (dNd N fc ns sn od d q)) (nI (j + 1)) M' ∧ FrC M M' := by
  obtain ⟨M1, e1, f1⟩ := ways4_s hK hW hd1 hd hq (-1)
  have K1 := hK.keep f1
  obtain ⟨M2, e2, f2⟩ := ways4_s K1 hW hd1 hd hq 0
  have K2 := K1.keep f2
  obtain ⟨M3, e3, f3⟩ := waits4_s K2 hW hd1 hd hq
  have K3 := K2.keep f3
  obtain ⟨M4, e4, f4⟩ := byMap4_s K3 hW hd1 hd hq
  have K4 := K3.keep f4
  obtain ⟨M5, e5, f5⟩ := byChange4_s K4 hW hd1 hd hq
  have K5 := K4.keep f5
  obtain ⟨M6, e6, f6⟩ := through4_s K5 hW ho hd1 hd hq (show 0 < 2 by omega)
  have K6 := K5.keep f6
  obtain ⟨M7, e7, f7⟩ := through4_s K6 hW ho hd1 hd hq (show 1 < 2 by omega)
  have K7 := K6.keep f7
  obtain ⟨M8, e8, f8⟩ := sure4_s K7 hW hd1 hd hq (show 0 ≤ 4 by omega)
  have K8 := K7.keep f8
  obtain ⟨M9, e9, f9⟩ := safest4_s K8 hW ho hd1 hd hq (-2)
  have K9 := K8.keep f9
  obtain ⟨MA, eA, fA⟩ := safest4_s K9 hW ho hd1 hd hq (-1)
  have KA := K9.keep fA
  obtain ⟨MB, eB, fB⟩ := safest4_s KA hW ho hd1 hd hq 0
  have KB := KA.keep fB
  obtain ⟨MC, eC, fC⟩ := worth4_s KB hW hd1 hd hq
  refine ⟨MC, ?_, f1.trans (f2.trans (f3.trans (f4.trans (f5.trans (f6.trans (f7.trans (f8.trans (f9.trans (fA.trans (fB.trans fC))))))))))⟩
  rw [if_pos (by decide)] at e1 e2 e9 eA eB
  have s1 : (-2 : Int32) + 1 = -1 := by decide
  have s2 : (-1 : Int32) + 1 = 0 := by decide
  have s3 : (0 : Int32) + 1 = 1 := by decide
  rw [fX4_digestNight_24, if_neg (fun z => by rw [pL2] at z; have := (nI_leI (by omega) (by omega)).mp z; omega), pz_gd (by omega) (by omega), nI_clamp (by omega), hdj, e1, bW_s, e2, bW_s, e3, bW_s, ltl_s, e4, bW_s, e5, bW_s, ltl_s, show fX4_through (nI d) (nI q) 0 M5 = _ from e6, bW_s, show fX4_through (nI d) (nI q) 1 M6 = _ from e7, bW_s, ltl_s, show fX4_sure (nI d) (nI q) 0 M7 = _ from e8, bW_s]
  rw [fX4_digestNight_159, if_neg (by decide), e9, bW_s, s1, fX4_digestNight_159, if_neg (by decide), eA, bW_s, s2, fX4_digestNight_159, if_neg (by decide), eB, bW_s, s3, fX4_digestNight_159, if_pos (by decide), eC, bW_s, nI_1]
  rfl
theorem night4_s {N : Nat} {fc : Nat → Nat → Nat} {ns : Nat} {sn : Nat → Nat} {od : Nat} {M : Mem} (hK : KC N fc ns sn od M) (hW : WF N fc) (ho : od ≤ 16) {q : Nat} (hq : q ≤ 99) (a : Int64) : ∃ M', fX4_digestNight a (nI q) M = some (mixL a (vDraft N fc ns sn q :: (dNd N fc ns sn od 2 q ++ dNd N fc ns sn od 5 q)), M') ∧ FrC M M' := by
  obtain ⟨M1, e1, f1⟩ := draft4_s hK hW hq
  have K1 := hK.keep f1
  obtain ⟨M2, e2, f2⟩ := nd4_s K1 hW ho (d := 2) (by omega) (by omega) hq (j := 0) (n := 999) (by omega) (by decide) (fX4_mix a (vDraft N fc ns sn q))
  have K2 := K1.keep f2
  obtain ⟨M3, e3, f3⟩ := nd4_s K2 hW ho (d := 5) (by omega) (by omega) hq (j := 1) (n := 998) (by omega) (by decide) (mixL (fX4_mix a (vDraft N fc ns sn q)) (dNd N fc ns sn od 2 q))
  refine ⟨M3, ?_, f1.trans (f2.trans f3)⟩
  unfold fX4_digestNight
  rw [e1, bW_s, show (0 : Int32) = nI 0 from rfl, e2, e3, fX4_digestNight_24, if_pos (show (2 : Int32) ≤ nI (1 + 1) by decide), ← mixL_c, ← mixL_a]
def vWr (N : Nat) (fc : Nat → Nat → Nat) (ns : Nat) (sn : Nat → Nat) (d : Nat) : Int32 := if 1 < N then vWreck N fc ns sn d 1 9 else -2
def dDr (N : Nat) (fc : Nat → Nat → Nat) (ns : Nat) (sn : Nat → Nat) (od d : Nat) : List Int32 := [vSaved N fc ns sn d 0, vSaved N fc ns sn d 1, vWr N fc ns sn d, vSeason N fc ns sn od 7 d 3 20]
theorem wr4_s {N : Nat} {fc : Nat → Nat → Nat} {ns : Nat} {sn : Nat → Nat} {od : Nat} {M : Mem} (hK : KC N fc ns sn od M) (hW : WF N fc) {d : Nat} (hd1 : 1 ≤ d) (hd : d ≤ 9) : ∃ M', fX4_wreck (nI d) 1 9 M = some (vWr N fc ns sn d, M') ∧ FrC M M' := by
  unfold vWr
  by_cases e : 1 < N
  · rw [if_pos e]
    exact wreck4_s hK hW hd1 hd e (show 9 ≤ 99 by omega)
  · rw [if_neg e]
    refine ⟨M, ?_, .rfl M⟩
    unfold fX4_wreck
    rw [show (9 : Int32) = nI 9 from rfl, ship_in hd1 hd (show 9 ≤ 99 by omega), if_pos rfl, has_s hK.1.1 hW, show chB N 1 = false from decide_eq_false (by rw [show (1 : Int32).toInt = 1 by decide]; omega), if_neg Bool.false_ne_true]
theorem dr4_s {N : Nat} {fc : Nat → Nat → Nat} {ns : Nat} {sn : Nat → Nat} {od : Nat} {M : Mem} (hK : KC N fc ns sn od M) (hW : WF N fc) {d : Nat} (hd1 : 1 ≤ d) (hd : d ≤ 9) {j n : Nat} (hj : j < 2) (hdj : tabD j = nI d) (a : Int64) : ∃ M', fX4_digest_112 (n + 1) a (nI j) M = fX4_digest_112 n (mixL a (dDr N fc ns sn od d)) (nI (j + 1)) M' ∧ FrC M M' := by
  obtain ⟨M1, e1, f1⟩ := saved4_s hK hW hd1 hd (show 0 < 2 by omega)
  have K1 := hK.keep f1
  obtain ⟨M2, e2, f2⟩ := saved4_s K1 hW hd1 hd (show 1 < 2 by omega)
  have K2 := K1.keep f2
  obtain ⟨M3, e3, f3⟩ := wr4_s K2 hW hd1 hd
  have K3 := K2.keep f3
  obtain ⟨M4, e4, f4⟩ := season4_s K3 hW hd1 hd (show 3 ≤ 99 by omega) (show 20 ≤ 40 by omega) 7
  refine ⟨M4, ?_, f1.trans (f2.trans (f3.trans f4))⟩
  rw [fX4_digest_112, if_neg (fun z => by rw [pL2] at z; have := (nI_leI (by omega) (by omega)).mp z; omega), pz_gd (by omega) (by omega), nI_clamp (by omega), hdj, show fX4_saved (nI d) 0 M = _ from e1, bW_s, show fX4_saved (nI d) 1 M1 = _ from e2, bW_s, e3, bW_s, ltl_s, show fX4_season 7 (nI d) 3 20 M3 = _ from e4, bW_s, nI_1]
  rfl
theorem digest_b {M : Mem} (h : Inv M) : ∃ v M1 M2, fX4_digest M = some (v, M1) ∧ fX5_digest M1 = some (v, M2) ∧ Inv M2 := by
  sorry
