/-! THE DIGEST. -/
def mixL (a : Int64) (l : List Int32) : Int64 := l.foldl fX4_mix a
theorem mixL_c (a : Int64) (x : Int32) (l : List Int32) : mixL (fX4_mix a x) l = mixL a (x :: l) := rfl
theorem mixL_a (a : Int64) (l m : List Int32) : mixL (mixL a l) m = mixL a (l ++ m) := by unfold mixL; rw [List.foldl_append]
def dCh (N : Nat) (fc : Nat → Nat → Nat) (ns : Nat) (sn : Nat → Nat) (sz : Nat) (sd : Nat → Nat → Nat) (c : Nat) : List Int32 := [nI (dpt fc c 7 (stm ns sn 7)), nI (dpt fc c 6 (stm ns sn 6)), vLaws (lwp fc sz sd c) (-1), vLaws (lwp fc sz sd c) 0, vNext (lwp fc sz sd c) (fc c 2) 9, nI (vTells (lwp fc sz sd c) (fc c 2) 3)]
def dTold (fc : Nat → Nat → Nat) (c : Nat) : Nat → List Int32
  | 0 => []
  | k + 1 => nI (fc c (4 - k)) :: dTold fc c k
theorem KC.E {N : Nat} {fc : Nat → Nat → Nat} {ns : Nat} {sn : Nat → Nat} {od : Nat} {M : Mem} {S : Mem} (h : KC N fc ns sn od M) (f : FrE M S) : KC N fc ns sn od S := h.k5 (fun a a1 a2 => f a (by omega) (by omega) (by omega)) (by rw [f 0 (by decide) (by decide) (by decide)])
theorem ZC.E {sz : Nat} {sd : Nat → Nat → Nat} {M S : Mem} (h : ZC sz sd M) (f : FrE M S) : ZC sz sd S := h.keep (f 6 (by decide) (by decide) (by decide)) (f 7 (by decide) (by decide) (by decide)) (f 8 (by decide) (by decide) (by decide)) (f 9 (by decide) (by decide) (by decide))
theorem chan4_s {N : Nat} {fc : Nat → Nat → Nat} {ns : Nat} {sn : Nat → Nat} {od : Nat} {M : Mem} (hK : KC N fc ns sn od M) (hW : WF N fc) {c k : Nat} (hc : c < N) (hk : k < 5) : fX4_channel M (nI c) (nI k) = some (nI (fc c k)) := by
  unfold fX4_channel
  rw [fact_s hK.1.1 hW.1 hc hk, bP_s]
theorem dCh4_s {N : Nat} {fc : Nat → Nat → Nat} {ns : Nat} {sn : Nat → Nat} {od : Nat} {M : Mem} (hK : KC N fc ns sn od M) (hW : WF N fc) {sz : Nat} {sd : Nat → Nat → Nat} (hZ : ZC sz sd M) (hR : ZR sz sd) {c : Nat} (hc : c < N) (a : Int64) : ∃ M', fX4_digestChannel a (nI c) M = some (mixL a (dTold fc c 5 ++ dCh N fc ns sn sz sd c), M') ∧ FrE M M' := by
  have hN := hW.1
  obtain ⟨M', t1, t2⟩ := tells4_s hK hW hZ hR hc (show 3 ≤ 99 by omega)
  unfold fX4_digestChannel
  refine loop_up (σ := Int64) (fun k i s => fX4_digestChannel_6 k (nI c) s (nI i) M) (fun i s => mixL s (dTold fc c (5 - i)) = mixL a (dTold fc c 5)) (fun o => ∃ M', o = some (mixL a (dTold fc c 5 ++ dCh N fc ns sn sz sd c), M') ∧ FrE M M') 5 (fun k i s hi hI => ?_) (fun k s hI => ?_) 1000 0 a (by omega) (by omega) rfl
  · left
    refine ⟨fX4_mix s (nI (fc c i)), ?_, ?_⟩
    · rw [show 5 - i = (4 - i) + 1 by omega, dTold, show 4 - (4 - i) = i by omega] at hI
      rw [show 5 - (i + 1) = 4 - i by omega, mixL_c]
      exact hI
    · (try dsimp only)
      rw [fX4_digestChannel_6, if_neg (fun z => by rw [pL5] at z; have := (nI_leI (by omega) (by omega)).mp z; omega), chan4_s hK hW hc hi, bP_s, nI_1]
  · have hcb : chB N (nI c) = true := decide_eq_true (by rw [pz_ti (by omega)]; omega)
    (try dsimp only)
    rw [fX4_digestChannel_6, if_pos (show (5 : Int32) ≤ nI 5 by decide), show (7 : Int32) = nI 7 from rfl, deep4_s hK hW, hcb, okR_nI (by omega), decide_eq_true (by omega), Bool.true_and, if_pos rfl, bP_s, map4_s hK hW (show 7 ≤ 99 by omega) hc, bP_s, laws4_s hK hW hZ hR hc, if_pos (show okR (-1) (-1) 35 = true by decide), bP_s, ltl_s, laws4_s hK hW hZ hR hc, if_pos (show okR 0 (-1) 35 = true by decide), bP_s, show (9 : Int32) = nI 9 from rfl, next4_s hK hW hZ hR hc (show 9 ≤ 99 by omega), bP_s, show (3 : Int32) = nI 3 from rfl, t1, bW_s, nI_clamp (by omega), nI_clamp (by omega)]
    refine ⟨M', ?_, .o10 t2⟩
    rw [← mixL_a, ← hI]
    rfl
def dNd (N : Nat) (fc : Nat → Nat → Nat) (ns : Nat) (sn : Nat → Nat) (od d q : Nat) : List Int32 := [vWays N fc ns sn d q (-1), vWays N fc ns sn d q 0, vWaits N fc ns sn d q, vMap N fc ns sn d q, vChg N fc ns sn d q, rat16 (chN6 N fc od d q) 0, rat16 (chN6 N fc od d q) 1, stepOf (rws N fc (okS fc d q)) 0, vSafest N fc od d q (-2), vSafest N fc od d q (-1), vSafest N fc od d q 0, vWorth N fc ns sn d q]
theorem nd4_s {N : Nat} {fc : Nat → Nat → Nat} {ns : Nat} {sn : Nat → Nat} {od : Nat} {M : Mem} (hK : KC N fc ns sn od M) (hW : WF N fc) (ho : od ≤ 16) {d q : Nat} (hd1 : 1 ≤ d) (hd : d ≤ 9) (hq : q ≤ 99) {j n : Nat} (hj : j < 2) (hdj : tabD j = nI d) (a : Int64) : ∃ M', fX4_digestNight_24 (n + 1) (nI q) a (nI j) M = fX4_digestNight_24 n (nI q) (mixL a (dNd N fc ns sn od d q)) (nI (j + 1)) M' ∧ FrC M M' := by
  obtain ⟨M1, e1, f1⟩ := ways4_s hK hW hd1 hd hq (-1)
  have K1 := hK.keep f1
  obtain ⟨M2, e2, f2⟩ := ways4_s K1 hW hd1 hd hq 0
  have K2 := K1.keep f2
  obtain ⟨M3, e3, f3⟩ := waits4_s K2 hW hd1 hd hq
  have K3 := K2.keep f3
  obtain ⟨M4, e4, f4⟩ := byMap4_s K3 hW hd1 hd hq
  have K4 := K3.keep f4
  obtain ⟨M5, e5, f5⟩ := byChange4_s K4 hW hd1 hd hq
  have K5 := K4.keep f5
  obtain ⟨M6, e6, f6⟩ := through4_s K5 hW ho hd1 hd hq (show 0 < 2 by omega)
  have K6 := K5.keep f6
  obtain ⟨M7, e7, f7⟩ := through4_s K6 hW ho hd1 hd hq (show 1 < 2 by omega)
  have K7 := K6.keep f7
  obtain ⟨M8, e8, f8⟩ := sure4_s K7 hW hd1 hd hq (show 0 ≤ 4 by omega)
  have K8 := K7.keep f8
  obtain ⟨M9, e9, f9⟩ := safest4_s K8 hW ho hd1 hd hq (-2)
  have K9 := K8.keep f9
  obtain ⟨MA, eA, fA⟩ := safest4_s K9 hW ho hd1 hd hq (-1)
  have KA := K9.keep fA
  obtain ⟨MB, eB, fB⟩ := safest4_s KA hW ho hd1 hd hq 0
  have KB := KA.keep fB
  obtain ⟨MC, eC, fC⟩ := worth4_s KB hW hd1 hd hq
  refine ⟨MC, ?_, f1.trans (f2.trans (f3.trans (f4.trans (f5.trans (f6.trans (f7.trans (f8.trans (f9.trans (fA.trans (fB.trans fC))))))))))⟩
  rw [if_pos (by decide)] at e1 e2 e9 eA eB
  have s1 : (-2 : Int32) + 1 = -1 := by decide
  have s2 : (-1 : Int32) + 1 = 0 := by decide
  have s3 : (0 : Int32) + 1 = 1 := by decide
  rw [fX4_digestNight_24, if_neg (fun z => by rw [pL2] at z; have := (nI_leI (by omega) (by omega)).mp z; omega), pz_gd (by omega) (by omega), nI_clamp (by omega), hdj, e1, bW_s, e2, bW_s, e3, bW_s, ltl_s, e4, bW_s, e5, bW_s, ltl_s, show fX4_through (nI d) (nI q) 0 M5 = _ from e6, bW_s, show fX4_through (nI d) (nI q) 1 M6 = _ from e7, bW_s, ltl_s, show fX4_sure (nI d) (nI q) 0 M7 = _ from e8, bW_s]
  rw [fX4_digestNight_159, if_neg (by decide), e9, bW_s, s1, fX4_digestNight_159, if_neg (by decide), eA, bW_s, s2, fX4_digestNight_159, if_neg (by decide), eB, bW_s, s3, fX4_digestNight_159, if_pos (by decide), eC, bW_s, nI_1]
  rfl
theorem night4_s {N : Nat} {fc : Nat → Nat → Nat} {ns : Nat} {sn : Nat → Nat} {od : Nat} {M : Mem} (hK : KC N fc ns sn od M) (hW : WF N fc) (ho : od ≤ 16) {q : Nat} (hq : q ≤ 99) (a : Int64) : ∃ M', fX4_digestNight a (nI q) M = some (mixL a (vDraft N fc ns sn q :: (dNd N fc ns sn od 2 q ++ dNd N fc ns sn od 5 q)), M') ∧ FrC M M' := by
  obtain ⟨M1, e1, f1⟩ := draft4_s hK hW hq
  have K1 := hK.keep f1
  obtain ⟨M2, e2, f2⟩ := nd4_s K1 hW ho (d := 2) (by omega) (by omega) hq (j := 0) (n := 999) (by omega) (by decide) (fX4_mix a (vDraft N fc ns sn q))
  have K2 := K1.keep f2
  obtain ⟨M3, e3, f3⟩ := nd4_s K2 hW ho (d := 5) (by omega) (by omega) hq (j := 1) (n := 998) (by omega) (by decide) (mixL (fX4_mix a (vDraft N fc ns sn q)) (dNd N fc ns sn od 2 q))
  refine ⟨M3, ?_, f1.trans (f2.trans f3)⟩
  unfold fX4_digestNight
  rw [e1, bW_s, show (0 : Int32) = nI 0 from rfl, e2, e3, fX4_digestNight_24, if_pos (show (2 : Int32) ≤ nI (1 + 1) by decide), ← mixL_c, ← mixL_a]
def vWr (N : Nat) (fc : Nat → Nat → Nat) (ns : Nat) (sn : Nat → Nat) (d : Nat) : Int32 := if 1 < N then vWreck N fc ns sn d 1 9 else -2
def dDr (N : Nat) (fc : Nat → Nat → Nat) (ns : Nat) (sn : Nat → Nat) (od d : Nat) : List Int32 := [vSaved N fc ns sn d 0, vSaved N fc ns sn d 1, vWr N fc ns sn d, vSeason N fc ns sn od 7 d 3 20]
theorem wr4_s {N : Nat} {fc : Nat → Nat → Nat} {ns : Nat} {sn : Nat → Nat} {od : Nat} {M : Mem} (hK : KC N fc ns sn od M) (hW : WF N fc) {d : Nat} (hd1 : 1 ≤ d) (hd : d ≤ 9) : ∃ M', fX4_wreck (nI d) 1 9 M = some (vWr N fc ns sn d, M') ∧ FrC M M' := by
  unfold vWr
  by_cases e : 1 < N
  · rw [if_pos e]
    exact wreck4_s hK hW hd1 hd e (show 9 ≤ 99 by omega)
  · rw [if_neg e]
    refine ⟨M, ?_, .rfl M⟩
    unfold fX4_wreck
    rw [show (9 : Int32) = nI 9 from rfl, ship_in hd1 hd (show 9 ≤ 99 by omega), if_pos rfl, has_s hK.1.1 hW, show chB N 1 = false from decide_eq_false (by rw [show (1 : Int32).toInt = 1 by decide]; omega), if_neg Bool.false_ne_true]
theorem dr4_s {N : Nat} {fc : Nat → Nat → Nat} {ns : Nat} {sn : Nat → Nat} {od : Nat} {M : Mem} (hK : KC N fc ns sn od M) (hW : WF N fc) {d : Nat} (hd1 : 1 ≤ d) (hd : d ≤ 9) {j n : Nat} (hj : j < 2) (hdj : tabD j = nI d) (a : Int64) : ∃ M', fX4_digest_112 (n + 1) a (nI j) M = fX4_digest_112 n (mixL a (dDr N fc ns sn od d)) (nI (j + 1)) M' ∧ FrC M M' := by
  obtain ⟨M1, e1, f1⟩ := saved4_s hK hW hd1 hd (show 0 < 2 by omega)
  have K1 := hK.keep f1
  obtain ⟨M2, e2, f2⟩ := saved4_s K1 hW hd1 hd (show 1 < 2 by omega)
  have K2 := K1.keep f2
  obtain ⟨M3, e3, f3⟩ := wr4_s K2 hW hd1 hd
  have K3 := K2.keep f3
  obtain ⟨M4, e4, f4⟩ := season4_s K3 hW hd1 hd (show 3 ≤ 99 by omega) (show 20 ≤ 40 by omega) 7
  refine ⟨M4, ?_, f1.trans (f2.trans (f3.trans f4))⟩
  rw [fX4_digest_112, if_neg (fun z => by rw [pL2] at z; have := (nI_leI (by omega) (by omega)).mp z; omega), pz_gd (by omega) (by omega), nI_clamp (by omega), hdj, show fX4_saved (nI d) 0 M = _ from e1, bW_s, show fX4_saved (nI d) 1 M1 = _ from e2, bW_s, e3, bW_s, ltl_s, show fX4_season 7 (nI d) 3 20 M3 = _ from e4, bW_s, nI_1]
  rfl
def dChs (N : Nat) (fc : Nat → Nat → Nat) (ns : Nat) (sn : Nat → Nat) (sz : Nat) (sd : Nat → Nat → Nat) : Nat → List Int32
  | 0 => []
  | i + 1 => dChs N fc ns sn sz sd i ++ (dTold fc i 5 ++ dCh N fc ns sn sz sd i)
def dNt (N : Nat) (fc : Nat → Nat → Nat) (ns : Nat) (sn : Nat → Nat) (od q : Nat) : List Int32 := vDraft N fc ns sn q :: (dNd N fc ns sn od 2 q ++ dNd N fc ns sn od 5 q)
def dEnd (N : Nat) (fc : Nat → Nat → Nat) (ns : Nat) (sn : Nat → Nat) (od : Nat) : List Int32 := dNt N fc ns sn od 0 ++ (dNt N fc ns sn od 1 ++ (dNt N fc ns sn od 7 ++ (dNt N fc ns sn od 50 ++ (dDr N fc ns sn od 2 ++ dDr N fc ns sn od 5))))
def dCnt (N : Nat) (fc : Nat → Nat → Nat) (n ns sz od : Nat) : List Int32 := [nI N, nI n, nI ns, nI sz, nI od, nI (sumN N (fun c => fc c 2)), nI (cntP (fun c => decide (fc c 3 = 4)) N), nI (cn N (fun c => fc c 0) (fun c => fc c 1) (fun _ => true) 0)]
theorem end4_s {N : Nat} {fc : Nat → Nat → Nat} {ns : Nat} {sn : Nat → Nat} {od : Nat} {M : Mem} (hK : KC N fc ns sn od M) (hW : WF N fc) (ho : od ≤ 16) (a : Int64) : ∃ M', fX4_digest_74 1000 a 0 M = some (mixL a (dEnd N fc ns sn od), M') ∧ FrC M M' := by
  obtain ⟨M1, e1, f1⟩ := night4_s hK hW ho (q := 0) (by omega) a
  have K1 := hK.keep f1
  obtain ⟨M2, e2, f2⟩ := night4_s K1 hW ho (q := 1) (by omega) (mixL a (dNt N fc ns sn od 0))
  have K2 := K1.keep f2
  obtain ⟨M3, e3, f3⟩ := night4_s K2 hW ho (q := 7) (by omega) (mixL (mixL a (dNt N fc ns sn od 0)) (dNt N fc ns sn od 1))
  have K3 := K2.keep f3
  obtain ⟨M4, e4, f4⟩ := night4_s K3 hW ho (q := 50) (by omega) (mixL (mixL (mixL a (dNt N fc ns sn od 0)) (dNt N fc ns sn od 1)) (dNt N fc ns sn od 7))
  have K4 := K3.keep f4
  obtain ⟨M5, e5, f5⟩ := dr4_s K4 hW (d := 2) (by omega) (by omega) (j := 0) (n := 999) (by omega) (by decide) (mixL (mixL (mixL (mixL a (dNt N fc ns sn od 0)) (dNt N fc ns sn od 1)) (dNt N fc ns sn od 7)) (dNt N fc ns sn od 50))
  have K5 := K4.keep f5
  obtain ⟨M6, e6, f6⟩ := dr4_s K5 hW (d := 5) (by omega) (by omega) (j := 1) (n := 998) (by omega) (by decide) (mixL (mixL (mixL (mixL (mixL a (dNt N fc ns sn od 0)) (dNt N fc ns sn od 1)) (dNt N fc ns sn od 7)) (dNt N fc ns sn od 50)) (dDr N fc ns sn od 2))
  refine ⟨M6, ?_, f1.trans (f2.trans (f3.trans (f4.trans (f5.trans f6))))⟩
  have st : ∀ (k j q : Nat) (s : Int64) (S T : Mem) (v : Int64), j < 4 → tabN j = nI q → fX4_digestNight s (nI q) S = some (v, T) → fX4_digest_74 (k + 1) s (nI j) S = fX4_digest_74 k v (nI (j + 1)) T := fun k j q s S T v hj hq h => by
    rw [fX4_digest_74, if_neg (fun z => by rw [pL4] at z; have := (nI_leI (by omega) (by omega)).mp z; omega), pz_gd (by omega) (by omega), nI_clamp (by omega), hq, h, bW_s, nI_1]
  rw [show (0 : Int32) = nI 0 from rfl, show fX4_digest_74 1000 a (nI 0) M = fX4_digest_74 999 (mixL a (dNt N fc ns sn od 0)) (nI 1) M1 from st 999 0 0 _ _ _ _ (by omega) (by decide) (show fX4_digestNight a (nI 0) M = some (mixL a (dNt N fc ns sn od 0), M1) from e1), show fX4_digest_74 999 (mixL a (dNt N fc ns sn od 0)) (nI 1) M1 = fX4_digest_74 998 (mixL (mixL a (dNt N fc ns sn od 0)) (dNt N fc ns sn od 1)) (nI 2) M2 from st 998 1 1 _ _ _ _ (by omega) (by decide) (show fX4_digestNight (mixL a (dNt N fc ns sn od 0)) (nI 1) M1 = some (mixL (mixL a (dNt N fc ns sn od 0)) (dNt N fc ns sn od 1), M2) from e2), show fX4_digest_74 998 (mixL (mixL a (dNt N fc ns sn od 0)) (dNt N fc ns sn od 1)) (nI 2) M2 = fX4_digest_74 997 (mixL (mixL (mixL a (dNt N fc ns sn od 0)) (dNt N fc ns sn od 1)) (dNt N fc ns sn od 7)) (nI 3) M3 from st 997 2 7 _ _ _ _ (by omega) (by decide) (show fX4_digestNight (mixL (mixL a (dNt N fc ns sn od 0)) (dNt N fc ns sn od 1)) (nI 7) M2 = some (mixL (mixL (mixL a (dNt N fc ns sn od 0)) (dNt N fc ns sn od 1)) (dNt N fc ns sn od 7), M3) from e3), show fX4_digest_74 997 (mixL (mixL (mixL a (dNt N fc ns sn od 0)) (dNt N fc ns sn od 1)) (dNt N fc ns sn od 7)) (nI 3) M3 = fX4_digest_74 996 (mixL (mixL (mixL (mixL a (dNt N fc ns sn od 0)) (dNt N fc ns sn od 1)) (dNt N fc ns sn od 7)) (dNt N fc ns sn od 50)) (nI 4) M4 from st 996 3 50 _ _ _ _ (by omega) (by decide) (show fX4_digestNight (mixL (mixL (mixL a (dNt N fc ns sn od 0)) (dNt N fc ns sn od 1)) (dNt N fc ns sn od 7)) (nI 50) M3 = some (mixL (mixL (mixL (mixL a (dNt N fc ns sn od 0)) (dNt N fc ns sn od 1)) (dNt N fc ns sn od 7)) (dNt N fc ns sn od 50), M4) from e4), fX4_digest_74, if_pos (show (4 : Int32) ≤ nI 4 by decide)]
  show fX4_digest_112 1000 (mixL (mixL (mixL (mixL a (dNt N fc ns sn od 0)) (dNt N fc ns sn od 1)) (dNt N fc ns sn od 7)) (dNt N fc ns sn od 50)) (nI 0) M4 = _
  rw [show fX4_digest_112 1000 (mixL (mixL (mixL (mixL a (dNt N fc ns sn od 0)) (dNt N fc ns sn od 1)) (dNt N fc ns sn od 7)) (dNt N fc ns sn od 50)) (nI 0) M4 = _ from e5, show fX4_digest_112 999 _ (nI (0 + 1)) M5 = _ from e6, fX4_digest_112, if_pos (show (2 : Int32) ≤ nI (1 + 1) by decide)]
  simp only [mixL_a]
  unfold dEnd
  simp only [List.append_assoc]
theorem chs4_s {N : Nat} {fc : Nat → Nat → Nat} {ns : Nat} {sn : Nat → Nat} {od : Nat} {M : Mem} (hK : KC N fc ns sn od M) (hW : WF N fc) (ho : od ≤ 16) {sz : Nat} {sd : Nat → Nat → Nat} (hZ : ZC sz sd M) (hR : ZR sz sd) (a : Int64) : ∃ M', fX4_digest_39 1000 a 0 M = some (mixL a (dChs N fc ns sn sz sd N ++ dEnd N fc ns sn od), M') ∧ FrE M M' := by
  have hN := hW.1
  refine loop_up (σ := Mem) (fun k i S => fX4_digest_39 k (mixL a (dChs N fc ns sn sz sd i)) (nI i) S) (fun i S => FrE M S) (fun o => ∃ M', o = some (mixL a (dChs N fc ns sn sz sd N ++ dEnd N fc ns sn od), M') ∧ FrE M M') N (fun k i S hi hI => ?_) (fun k S hI => ?_) 1000 0 M (by omega) (by omega) (.rfl M)
  · left
    obtain ⟨M', e, f⟩ := dCh4_s (hK.E hI) hW (hZ.E hI) hR hi (mixL a (dChs N fc ns sn sz sd i))
    refine ⟨M', hI.trans f, ?_⟩
    (try dsimp only)
    rw [fX4_digest_39, (hK.E hI).1.1.1, if_neg (fun z => by have := (nI_leI (by omega) (by omega)).mp z; omega), e, bW_s, nI_1, mixL_a, dChs]
  · obtain ⟨M', e, f⟩ := end4_s (hK.E hI) hW ho (mixL a (dChs N fc ns sn sz sd N))
    (try dsimp only)
    rw [fX4_digest_39, (hK.E hI).1.1.1, if_pos ((nI_leI (by omega) (by omega)).mpr (Nat.le_refl _)), e, mixL_a]
    exact ⟨M', rfl, hI.trans (.of f)⟩
theorem digest4_s {t : Nat → Nat} {n ns : Nat} {sn : Nat → Nat} {od : Nat} {M : Mem} (hI : IT t n ns sn od M) {sz : Nat} {sd : Nat → Nat → Nat} (hZ : ZC sz sd M) (hR : ZR sz sd) : ∃ M', fX4_digest M = some (mixL 17 (dCnt (chN t n) (fcN t) n ns sz od ++ (faultI t n :: (dChs (chN t n) (fcN t) ns sn sz sd (chN t n) ++ dEnd (chN t n) (fcN t) ns sn od))), M') ∧ FrE M M' := by
  have hW := hI.wf
  have hN := hW.1
  obtain ⟨⟨a1, a2, a3⟩, _, ho⟩ := hI
  obtain ⟨M1, c1, c2⟩ := allRows_s a3 hW
  have h2 : M1 1 2 = faultI t n := by rw [c2.1 1 (by decide) (by decide) (by decide) (by decide) (by decide) (by decide)]; exact a2
  obtain ⟨M', e, f⟩ := chs4_s (a3.keep c2) hW ho (hZ.E (.of c2)) hR (fX4_mix (mixL 17 (dCnt (chN t n) (fcN t) n ns sz od)) (faultI t n))
  refine ⟨M', ?_, (FrE.of c2).trans f⟩
  unfold fX4_digest
  have st : ∀ (k x : Nat) (s : Int64) (S T : Mem) (v : Int32), x < 8 → fX4_count (nI x) S = some (v, T) → fX4_digest_6 (k + 1) s (nI x) S = fX4_digest_6 k (fX4_mix s v) (nI (x + 1)) T := fun k x s S T v hx h => by
    rw [fX4_digest_6, if_neg (fun z => by rw [pL7] at z; have := (nI_ltI (by omega) (by omega)).mp z; omega), h, bW_s, nI_1]
  have q0 : fX4_count (nI 0) M = some (nI (chN t n), M) := by unfold fX4_count; rw [if_pos (by decide), a3.1.1.1]
  have q1 : fX4_count (nI 1) M = some (nI n, M) := by unfold fX4_count; rw [if_neg (by decide), if_pos (by decide), a1.1]
  have q2 : fX4_count (nI 2) M = some (nI ns, M) := by unfold fX4_count; rw [if_neg (by decide), if_neg (by decide), if_pos (by decide), a3.2.1.1]
  have q3 : fX4_count (nI 3) M = some (nI sz, M) := by unfold fX4_count; rw [if_neg (by decide), if_neg (by decide), if_neg (by decide), if_pos (by decide), hZ.1]
  have q4 : fX4_count (nI 4) M = some (nI od, M) := by unfold fX4_count; rw [if_neg (by decide), if_neg (by decide), if_neg (by decide), if_neg (by decide), if_pos (by decide), a3.2.2]
  have q5 : fX4_count (nI 5) M = some (nI (sumN (chN t n) (fun c => fcN t c 2)), M) := by unfold fX4_count; rw [if_neg (by decide), if_neg (by decide), if_neg (by decide), if_neg (by decide), if_neg (by decide), if_pos (by decide), told4_s a3.1.1 hN, bP_s]
  have q6 : fX4_count (nI 6) M = some (nI (cntP (fun c => decide (fcN t c 3 = 4)) (chN t n)), M) := by unfold fX4_count; rw [if_neg (by decide), if_neg (by decide), if_neg (by decide), if_neg (by decide), if_neg (by decide), if_neg (by decide), if_pos (by decide), jump4_s a3.1.1 hW, bP_s]
  have q7 : fX4_count (nI 7) M = some (nI (cn (chN t n) (fun c => fcN t c 0) (fun c => fcN t c 1) (fun _ => true) 0), M1) := by unfold fX4_count; rw [if_neg (by decide), if_neg (by decide), if_neg (by decide), if_neg (by decide), if_neg (by decide), if_neg (by decide), if_neg (by decide), if_pos (by decide), c1, bW_s]
  rw [show (0 : Int32) = nI 0 from rfl, show ∀ s : Int64, fX4_digest_6 1000 s (nI 0) M = _ from fun s => st 999 0 s _ _ _ (by omega) q0, show ∀ s : Int64, fX4_digest_6 999 s (nI 1) M = _ from fun s => st 998 1 s _ _ _ (by omega) q1, show ∀ s : Int64, fX4_digest_6 998 s (nI 2) M = _ from fun s => st 997 2 s _ _ _ (by omega) q2, show ∀ s : Int64, fX4_digest_6 997 s (nI 3) M = _ from fun s => st 996 3 s _ _ _ (by omega) q3, show ∀ s : Int64, fX4_digest_6 996 s (nI 4) M = _ from fun s => st 995 4 s _ _ _ (by omega) q4, show ∀ s : Int64, fX4_digest_6 995 s (nI 5) M = _ from fun s => st 994 5 s _ _ _ (by omega) q5, show ∀ s : Int64, fX4_digest_6 994 s (nI 6) M = _ from fun s => st 993 6 s _ _ _ (by omega) q6, show ∀ s : Int64, fX4_digest_6 993 s (nI 7) M = _ from fun s => st 992 7 s _ _ _ (by omega) q7, fX4_digest_6, if_pos (show (7 : Int32) < nI (7 + 1) by decide)]
  unfold fX4_fault
  rw [h2]
  refine Eq.trans e ?_
  rw [mixL_c, mixL_a]
theorem mix_f (a : Int64) (v : Int32) : (31 : Int64) * a + Int32.toInt64 v = fX4_mix a v := rfl
theorem nd5_s {N : Nat} {fc : Nat → Nat → Nat} {ns : Nat} {sn : Nat → Nat} {od : Nat} {M : Mem} (hK : KM N fc ns sn od M) (hW : WF N fc) (ho : od ≤ 16) {d q : Nat} (hd : d ≤ 9) (hq : q ≤ 99) (a : Int64) : ∃ M', fX5_tellsNow a (nI d) (nI q) M = some (mixL a (dNd N fc ns sn od d q), M') ∧ FrW M M' := by
  obtain ⟨M1, e1, f1⟩ := waysOf_s hK hW hd hq (x := -1) (by decide)
  have K1 := hK.keep f1
  obtain ⟨M2, e2, f2⟩ := waysOf_s K1 hW hd hq (x := 0) (by decide)
  have K2 := K1.keep f2
  obtain ⟨M3, e3, f3⟩ := waitsOf_s K2 hW hd hq
  have K3 := K2.keep f3
  obtain ⟨M4, e4, f4⟩ := byMapOf_s K3 hW hd hq
  have K4 := K3.keep f4
  obtain ⟨M5, e5, f5⟩ := byChangeOf_s K4 hW hd hq
  have K5 := K4.keep f5
  obtain ⟨M6, e6, f6⟩ := throughOf_s K5 hW ho hd hq (show 0 < 2 by omega)
  have K6 := K5.keep f6
  obtain ⟨M7, e7, f7⟩ := throughOf_s K6 hW ho hd hq (show 1 < 2 by omega)
  have K7 := K6.keep f7
  obtain ⟨M8, e8, f8⟩ := sureOf_s K7 hW hd hq (show 0 ≤ 4 by omega)
  have K8 := K7.keep f8
  obtain ⟨M9, e9, f9, r9, s9⟩ := findSafest5_s K8 hW ho hd hq
  have K9 := K8.keep f9
  have t2 := tells5_s hW ho r9 s9 (x := -2) (by decide)
  have t1 := tells5_s hW ho r9 s9 (x := -1) (by decide)
  have t0 := tells5_s hW ho r9 s9 (x := 0) (by decide)
  obtain ⟨MC, eC, fC⟩ := worthOf_s K9 hW hd hq
  refine ⟨MC, ?_, f1.trans (f2.trans (f3.trans (f4.trans (f5.trans (f6.trans (f7.trans (f8.trans (f9.trans fC))))))))⟩
  have s1 : (-2 : Int32) + 1 = -1 := by decide
  have s2 : (-1 : Int32) + 1 = 0 := by decide
  have s3 : (0 : Int32) + 1 = 1 := by decide
  unfold fX5_tellsNow
  rw [e1, bW_s, ltl_s, e2, bW_s, ltl_s, e3, bW_s, ltl_s, e4, bW_s, ltl_s, e5, bW_s, ltl_s, show fX5_throughOf (nI d) (nI q) 0 M5 = _ from e6, bW_s, ltl_s, show fX5_throughOf (nI d) (nI q) 1 M6 = _ from e7, bW_s, ltl_s, show fX5_sureOf (nI d) (nI q) 0 M7 = _ from e8, bW_s, ltl_s, e9, bW_s]
  rw [fX5_tellsNow_151, if_neg (by decide), t2, bP_s, ltl_s, s1, fX5_tellsNow_151, if_neg (by decide), t1, bP_s, ltl_s, s2, fX5_tellsNow_151, if_neg (by decide), t0, bP_s, ltl_s, s3, fX5_tellsNow_151, if_pos (by decide), eC, bW_s]
  rfl
theorem night5_s {N : Nat} {fc : Nat → Nat → Nat} {ns : Nat} {sn : Nat → Nat} {od : Nat} {M : Mem} (hK : KM N fc ns sn od M) (hW : WF N fc) (ho : od ≤ 16) {q : Nat} (hq : q ≤ 99) (kk : Int64 → Int32 → Mem → Option (Int64 × Mem)) (a : Int64) (x : Int32) : ∃ M', fX5_digest_208 kk a x (nI q) M = kk (mixL a (dNt N fc ns sn od q)) (x + 1) M' ∧ FrW M M' := by
  obtain ⟨M1, e1, f1⟩ := draftOf_s hK hW hq
  have K1 := hK.keep f1
  obtain ⟨M2, e2, f2⟩ := nd5_s K1 hW ho (d := 2) (by omega) hq (fX4_mix a (vDraft N fc ns sn q))
  have K2 := K1.keep f2
  obtain ⟨M3, e3, f3⟩ := nd5_s K2 hW ho (d := 5) (by omega) hq (mixL (fX4_mix a (vDraft N fc ns sn q)) (dNd N fc ns sn od 2 q))
  refine ⟨M3, ?_, f1.trans (f2.trans f3)⟩
  unfold fX5_digest_208
  rw [e1, bW_s, ltl_s, mix_f, show fX5_tellsNow _ 2 (nI q) M1 = _ from e2, bW_s, show fX5_tellsNow _ 5 (nI q) M2 = _ from e3, bW_s]
  rw [mixL_a, mixL_c]
  rfl
theorem wr5_s {t : Nat → Nat} {n ns : Nat} {sn : Nat → Nat} {od : Nat} {M : Mem} (hI : IT t n ns sn od M) {d : Nat} (hd1 : 1 ≤ d) (hd : d ≤ 9) : ∃ M', fX5_wreck (nI d) 1 9 M = some (vWr (chN t n) (fcN t) ns sn d, M') ∧ FrQ M M' ∧ KM (chN t n) (fcN t) ns sn od M' := by
  have hW := hI.wf
  obtain ⟨M2, m1, hKM, hF⟩ := rd_s hI
  have e1 : okR (nI d) 1 9 = true := by rw [okR_nI (by omega)]; exact decide_eq_true (by omega)
  unfold fX5_wreck vWr
  rw [m1, bW_s, x5_isDraught, e1, if_pos rfl, isCh_s hKM.1 hW]
  by_cases e : 1 < chN t n
  · obtain ⟨M3, n1, n2⟩ := wreckOf_s hKM hW (d := d) (c := 1) (q := 9) hd e (by omega)
    refine ⟨M3, ?_, hF.trans (.of n2), hKM.keep n2⟩
    rw [show chB (chN t n) 1 = true from decide_eq_true (by rw [show (1 : Int32).toInt = 1 by decide]; omega), if_pos rfl, x5_isNight, if_pos (show okR 9 0 99 = true by decide), show fX5_wreckOf (nI d) 1 9 M2 = _ from n1, bW_s, if_pos e]
  · refine ⟨M2, ?_, hF, hKM⟩
    rw [show chB (chN t n) 1 = false from decide_eq_false (by rw [show (1 : Int32).toInt = 1 by decide]; omega), if_neg Bool.false_ne_true, if_neg e]
theorem dr5_s {t : Nat → Nat} {n ns : Nat} {sn : Nat → Nat} {od : Nat} {M : Mem} (hI : IT t n ns sn od M) (hK : KM (chN t n) (fcN t) ns sn od M) {d k : Nat} (hd1 : 1 ≤ d) (hd : d < 6) (a : Int64) : ∃ M', fX5_digest_250 (k + 1) a (nI d) M = fX5_digest_250 k (mixL a (dDr (chN t n) (fcN t) ns sn od d)) (nI (d + 3)) M' ∧ FrQ M M' ∧ KM (chN t n) (fcN t) ns sn od M' := by
  have hW := hI.wf
  obtain ⟨M1, e1, f1⟩ := savedOf_s hK hW (d := d) (by omega) (show 0 < 2 by omega)
  have K1 := hK.keep f1
  obtain ⟨M2, e2, f2⟩ := savedOf_s K1 hW (d := d) (by omega) (show 1 < 2 by omega)
  have F2 := (FrQ.of f1).trans (FrQ.of f2)
  obtain ⟨M3, e3, f3, K3⟩ := wr5_s (hI.Q F2) hd1 (show d ≤ 9 by omega)
  obtain ⟨M4, e4, f4⟩ := seasonOf_s K3 hW (d := d) (by omega) (show 3 ≤ 99 by omega) (show 20 ≤ 40 by omega) 7
  refine ⟨M4, ?_, (F2.trans f3).trans (.of f4), K3.keep f4⟩
  rw [fX5_digest_250, if_neg (fun z => by rw [pL6] at z; have := (nI_leI (by omega) (by omega)).mp z; omega), show fX5_savedOf (nI d) 0 M = _ from e1, bW_s, ltl_s, show fX5_savedOf (nI d) 1 M1 = _ from e2, bW_s, ltl_s, e3, bW_s, ltl_s, show fX5_seasonOf 7 (nI d) 3 20 M3 = _ from e4, bW_s, ltl_s, show nI d + 3 = nI (d + 3) from nI_add d 3]
  rfl
theorem end5_s {t : Nat → Nat} {n ns : Nat} {sn : Nat → Nat} {od : Nat} {M : Mem} (hI : IT t n ns sn od M) (hK : KM (chN t n) (fcN t) ns sn od M) (a : Int64) : ∃ M', fX5_digest_182 1000 a 0 M = some (mixL a (dEnd (chN t n) (fcN t) ns sn od), M') ∧ FrQ M M' := by
  have hW := hI.wf
  have ho := hI.2.2
  obtain ⟨M1, e1, f1⟩ := night5_s hK hW ho (q := 0) (by omega) (fX5_digest_182 999) a 0
  have K1 := hK.keep f1
  obtain ⟨M2, e2, f2⟩ := night5_s K1 hW ho (q := 1) (by omega) (fX5_digest_182 998) (mixL a (dNt (chN t n) (fcN t) ns sn od 0)) 1
  have K2 := K1.keep f2
  obtain ⟨M3, e3, f3⟩ := night5_s K2 hW ho (q := 7) (by omega) (fX5_digest_182 997) (mixL (mixL a (dNt (chN t n) (fcN t) ns sn od 0)) (dNt (chN t n) (fcN t) ns sn od 1)) 2
  have K3 := K2.keep f3
  obtain ⟨M4, e4, f4⟩ := night5_s K3 hW ho (q := 50) (by omega) (fX5_digest_182 996) (mixL (mixL (mixL a (dNt (chN t n) (fcN t) ns sn od 0)) (dNt (chN t n) (fcN t) ns sn od 1)) (dNt (chN t n) (fcN t) ns sn od 7)) 3
  have K4 := K3.keep f4
  have F4 := (FrQ.of f1).trans ((FrQ.of f2).trans ((FrQ.of f3).trans (FrQ.of f4)))
  obtain ⟨M5, e5, f5, K5⟩ := dr5_s (hI.Q F4) K4 (d := 2) (k := 999) (by omega) (by omega) (mixL (mixL (mixL (mixL a (dNt (chN t n) (fcN t) ns sn od 0)) (dNt (chN t n) (fcN t) ns sn od 1)) (dNt (chN t n) (fcN t) ns sn od 7)) (dNt (chN t n) (fcN t) ns sn od 50))
  obtain ⟨M6, e6, f6, K6⟩ := dr5_s (hI.Q (F4.trans f5)) K5 (d := 5) (k := 998) (by omega) (by omega) (mixL (mixL (mixL (mixL (mixL a (dNt (chN t n) (fcN t) ns sn od 0)) (dNt (chN t n) (fcN t) ns sn od 1)) (dNt (chN t n) (fcN t) ns sn od 7)) (dNt (chN t n) (fcN t) ns sn od 50)) (dDr (chN t n) (fcN t) ns sn od 2))
  refine ⟨M6, ?_, F4.trans (f5.trans f6)⟩
  rw [fX5_digest_182, if_neg (by decide), if_neg (by decide), show fX5_digest_208 (fX5_digest_182 999) a 0 0 M = _ from e1, show (0 : Int32) + 1 = 1 by decide]
  rw [fX5_digest_182, if_neg (by decide), if_neg (by decide), show fX5_digest_208 (fX5_digest_182 998) (mixL a (dNt (chN t n) (fcN t) ns sn od 0)) 1 1 M1 = _ from e2, show (1 : Int32) + 1 = 2 by decide]
  rw [fX5_digest_182, if_neg (by decide), if_pos (by decide), if_pos rfl, show fX5_digest_208 (fX5_digest_182 997) (mixL (mixL a (dNt (chN t n) (fcN t) ns sn od 0)) (dNt (chN t n) (fcN t) ns sn od 1)) 2 7 M2 = _ from e3, show (2 : Int32) + 1 = 3 by decide]
  rw [fX5_digest_182, if_neg (by decide), if_pos (by decide), if_neg (by decide), show fX5_digest_208 (fX5_digest_182 996) (mixL (mixL (mixL a (dNt (chN t n) (fcN t) ns sn od 0)) (dNt (chN t n) (fcN t) ns sn od 1)) (dNt (chN t n) (fcN t) ns sn od 7)) 3 50 M3 = _ from e4, show (3 : Int32) + 1 = 4 by decide]
  rw [fX5_digest_182, if_pos (by decide), show ∀ s : Int64, fX5_digest_250 1000 s 2 M4 = fX5_digest_250 (999 + 1) s (nI 2) M4 from fun _ => rfl, e5, show ∀ s : Int64, fX5_digest_250 999 s (nI (2 + 3)) M5 = fX5_digest_250 (998 + 1) s (nI 5) M5 from fun _ => rfl, e6, fX5_digest_250, if_pos (show (6 : Int32) ≤ nI (5 + 3) by decide)]
  simp only [mixL_a]
  unfold dEnd
  simp only [List.append_assoc]
theorem cnt5_s {t : Nat → Nat} {n ns : Nat} {sn : Nat → Nat} {od : Nat} {M : Mem} (hI : IT t n ns sn od M) {sz : Nat} {sd : Nat → Nat → Nat} (hZ : ZM sz sd M) {x : Nat} (hx : x < 8) : ∃ M', fX5_count (nI x) M = some ((dCnt (chN t n) (fcN t) n ns sz od).getD x 0, M') ∧ FrQ M M' := by
  have hW := hI.wf
  have hN := hW.1
  obtain ⟨M2, m1, hKM, hF⟩ := rd_s hI
  obtain ⟨M3, n1, n2⟩ := allWays_s hKM hW
  rcases (show x = 0 ∨ x = 1 ∨ x = 2 ∨ x = 3 ∨ x = 4 ∨ x = 5 ∨ x = 6 ∨ x = 7 by omega) with rfl | rfl | rfl | rfl | rfl | rfl | rfl | rfl
  · exact ⟨M2, by unfold fX5_count; rw [m1, bW_s, if_pos (by decide), hKM.1.1]; rfl, hF⟩
  · exact ⟨M2, by unfold fX5_count; rw [m1, bW_s, if_neg (by decide), if_pos (by decide), hF.2 6 (by decide) (by decide) (by decide), hI.2.1.1.1]; rfl, hF⟩
  · exact ⟨M2, by unfold fX5_count; rw [m1, bW_s, if_neg (by decide), if_neg (by decide), if_pos (by decide), hKM.2.1.1]; rfl, hF⟩
  · exact ⟨M2, by unfold fX5_count; rw [m1, bW_s, if_neg (by decide), if_neg (by decide), if_neg (by decide), if_pos (by decide), (hF.zm hZ).1]; rfl, hF⟩
  · exact ⟨M2, by unfold fX5_count; rw [m1, bW_s, if_neg (by decide), if_neg (by decide), if_neg (by decide), if_neg (by decide), if_pos (by decide), hKM.2.2]; rfl, hF⟩
  · exact ⟨M2, by unfold fX5_count; rw [m1, bW_s, if_neg (by decide), if_neg (by decide), if_neg (by decide), if_neg (by decide), if_neg (by decide), if_pos (by decide), told5_s hKM.1 hN]; rfl, hF⟩
  · exact ⟨M2, by unfold fX5_count; rw [m1, bW_s, if_neg (by decide), if_neg (by decide), if_neg (by decide), if_neg (by decide), if_neg (by decide), if_neg (by decide), if_pos (by decide), jump5_s hKM.1 hW]; rfl, hF⟩
  · exact ⟨M3, by unfold fX5_count; rw [m1, bW_s, if_neg (by decide), if_neg (by decide), if_neg (by decide), if_neg (by decide), if_neg (by decide), if_neg (by decide), if_neg (by decide), if_pos (by decide), n1, bW_s]; rfl, hF.trans (.of n2)⟩
theorem dCh5_s {N : Nat} {fc : Nat → Nat → Nat} {ns : Nat} {sn : Nat → Nat} {od : Nat} {M : Mem} (hK : KM N fc ns sn od M) (hW : WF N fc) {sz : Nat} {sd : Nat → Nat → Nat} (hZ : ZM sz sd M) (hR : ZR sz sd) {c : Nat} (hc : c < N) (kk : Int64 → Int32 → Mem → Option (Int64 × Mem)) (a : Int64) : ∃ M', fX5_digest_56 kk 1000 a (nI c) 0 M = kk (mixL a (dTold fc c 5 ++ dCh N fc ns sn sz sd c)) (nI (c + 1)) M' ∧ FrQ M M' ∧ KM N fc ns sn od M' := by
  have hN := hW.1
  obtain ⟨M', t1, t2⟩ := tellsNight_s hK.1 hW hZ hR hc (show 3 ≤ 99 by omega)
  have K' : KM N fc ns sn od M' := hK.k3 (t2 32 (by decide) (by decide)) (t2 33 (by decide) (by decide)) (by rw [t2 26 (by decide) (by decide)]) (by rw [t2 26 (by decide) (by decide)]) (by rw [t2 26 (by decide) (by decide)])
  refine ⟨M', ?_, .o78 t2, K'⟩
  refine loop_up (σ := Int64) (fun k i s => fX5_digest_56 kk k s (nI c) (nI i) M) (fun i s => mixL s (dTold fc c (5 - i)) = mixL a (dTold fc c 5)) (fun o => o = kk (mixL a (dTold fc c 5 ++ dCh N fc ns sn sz sd c)) (nI (c + 1)) M') 5 (fun k i s hi hI => ?_) (fun k s hI => ?_) 1000 0 a (by omega) (by omega) rfl
  · left
    refine ⟨fX4_mix s (nI (fc c i)), ?_, ?_⟩
    · rw [show 5 - i = (4 - i) + 1 by omega, dTold, show 4 - (4 - i) = i by omega] at hI
      rw [show 5 - (i + 1) = 4 - i by omega, mixL_c]
      exact hI
    · (try dsimp only)
      rw [fX5_digest_56, if_neg (fun z => by rw [pL5] at z; have := (nI_leI (by omega) (by omega)).mp z; omega), (told_i hK.1 hN hc hi _).1, (told_i hK.1 hN hc hi (none : Option Int32)).2, ltl_s, nI_1]
      rfl
  · (try dsimp only)
    rw [fX5_digest_56, if_pos (show (5 : Int32) ≤ nI 5 by decide), show (7 : Int32) = nI 7 from rfl, deepOf_s hK hW hc (show 7 ≤ 99 by omega), bP_s, ltl_s, mapOf_s hK hW hc (show 7 ≤ 99 by omega), bP_s, ltl_s, lawsOf_s hK.1 hW hZ hR hc, bP_s, ltl_s, lawsOf_s hK.1 hW hZ hR hc, bP_s, ltl_s, show (9 : Int32) = nI 9 from rfl, nextOf_s hK.1 hW hZ hR hc (show 9 ≤ 99 by omega), bP_s, ltl_s, show (3 : Int32) = nI 3 from rfl, t1, bW_s, ltl_s, nI_1, ← mixL_a, ← hI]
    rfl
theorem digest5_s {t : Nat → Nat} {n ns : Nat} {sn : Nat → Nat} {od : Nat} {M : Mem} (hI : IT t n ns sn od M) {sz : Nat} {sd : Nat → Nat → Nat} (hZ : ZM sz sd M) (hR : ZR sz sd) : ∃ M', fX5_digest M = some (mixL 17 (dCnt (chN t n) (fcN t) n ns sz od ++ (faultI t n :: (dChs (chN t n) (fcN t) ns sn sz sd (chN t n) ++ dEnd (chN t n) (fcN t) ns sn od))), M') ∧ FrQ M M' := by
  have hW := hI.wf
  have hN := hW.1
  unfold fX5_digest
  refine loop_up (σ := Mem) (fun k i S => fX5_digest_6 k (mixL 17 ((dCnt (chN t n) (fcN t) n ns sz od).take i)) (nI i) S) (fun i S => FrQ M S) (fun o => ∃ M', o = some (mixL 17 (dCnt (chN t n) (fcN t) n ns sz od ++ (faultI t n :: (dChs (chN t n) (fcN t) ns sn sz sd (chN t n) ++ dEnd (chN t n) (fcN t) ns sn od))), M') ∧ FrQ M M') 8 (fun k i S hi hF => ?_) (fun k S hF => ?_) 1000 0 M (by omega) (by omega) (.rfl M)
  · left
    obtain ⟨M', e, f⟩ := cnt5_s (hI.Q hF) (hF.zm hZ) hi
    refine ⟨M', hF.trans f, ?_⟩
    (try dsimp only)
    rw [fX5_digest_6, if_neg (fun z => by rw [pL8] at z; have := (nI_leI (by omega) (by omega)).mp z; omega), e, bW_s, ltl_s, nI_1, mix_f]
    have hl : (dCnt (chN t n) (fcN t) n ns sz od).length = 8 := rfl
    rw [List.take_succ_eq_append_getElem (by omega), ← mixL_a, List.getD_eq_getElem?_getD, List.getElem?_eq_getElem (by omega), Option.getD_some]
    rfl
  · obtain ⟨M2, m1, hKM, hF2⟩ := rd_s (hI.Q hF)
    (try dsimp only)
    rw [fX5_digest_6, if_pos (show (8 : Int32) ≤ nI 8 by decide), m1, bW_s, ltl_s, mix_f]
    have hF0 := hF.trans hF2
    refine loop_up (σ := Mem) (fun k i S => fX5_digest_45 k (mixL (fX4_mix (mixL 17 ((dCnt (chN t n) (fcN t) n ns sz od).take 8)) (faultI t n)) (dChs (chN t n) (fcN t) ns sn sz sd i)) (nI i) S) (fun i S => FrQ M S ∧ KM (chN t n) (fcN t) ns sn od S) (fun o => ∃ M', o = some (mixL 17 (dCnt (chN t n) (fcN t) n ns sz od ++ (faultI t n :: (dChs (chN t n) (fcN t) ns sn sz sd (chN t n) ++ dEnd (chN t n) (fcN t) ns sn od))), M') ∧ FrQ M M') (chN t n) (fun k i S hi hJ => ?_) (fun k S hJ => ?_) 1000 0 M2 (by omega) (by omega) ⟨hF0, hKM⟩
    · left
      obtain ⟨M', e, f, g⟩ := dCh5_s hJ.2 hW (hJ.1.zm hZ) hR hi (fX5_digest_45 k) (mixL (fX4_mix (mixL 17 ((dCnt (chN t n) (fcN t) n ns sz od).take 8)) (faultI t n)) (dChs (chN t n) (fcN t) ns sn sz sd i))
      refine ⟨M', ⟨hJ.1.trans f, g⟩, ?_⟩
      (try dsimp only)
      rw [fX5_digest_45, hJ.2.1.1, if_neg (fun z => by have := (nI_leI (by omega) (by omega)).mp z; omega), e, mixL_a, dChs]
    · obtain ⟨M', e, f⟩ := end5_s (hI.Q hJ.1) hJ.2 (mixL (fX4_mix (mixL 17 ((dCnt (chN t n) (fcN t) n ns sz od).take 8)) (faultI t n)) (dChs (chN t n) (fcN t) ns sn sz sd (chN t n)))
      (try dsimp only)
      rw [fX5_digest_45, hJ.2.1.1, if_pos ((nI_leI (by omega) (by omega)).mpr (Nat.le_refl _)), e]
      refine ⟨M', ?_, hJ.1.trans f⟩
      rw [mixL_a, mixL_c, mixL_a]
      rfl
theorem digest_b {M : Mem} (h : Inv M) : ∃ v M1 M2, fX4_digest M = some (v, M1) ∧ fX5_digest M1 = some (v, M2) ∧ Inv M2 := by
  have hh := h
  obtain ⟨⟨t, n, ns, sn, od, hI⟩, _, ⟨sz, sd, z1, z2, z3⟩, _⟩ := h
  obtain ⟨M1, e1, f1⟩ := digest4_s hI z1 z3
  obtain ⟨M2, e2, f2⟩ := digest5_s (hI.E f1) (f1.zm z2) z3
  exact ⟨_, M1, M2, e1, e2, (hh.E f1).Q f2⟩
