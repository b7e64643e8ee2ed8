/-! THE DIGEST. -/
def mixL (a : Int64) (l : List Int32) : Int64 := l.foldl fX4_mix a
theorem mixL_c (a : Int64) (x : Int32) (l : List Int32) : mixL (fX4_mix a x) l = mixL a (x :: l) := rfl
theorem mixL_a (a : Int64) (l m : List Int32) : mixL (mixL a l) m = mixL a (l ++ m) := by unfold mixL; rw [List.foldl_append]
def dCh (N : Nat) (fc : Nat → Nat → Nat) (ns : Nat) (sn : Nat → Nat) (sz : Nat) (sd : Nat → Nat → Nat) (c : Nat) : List Int32 := [nI (dpt fc c 7 (stm ns sn 7)), nI (dpt fc c 6 (stm ns sn 6)), vLaws (lwp fc sz sd c) (-1), vLaws (lwp fc sz sd c) 0, vNext (lwp fc sz sd c) (fc c 2) 9, nI (vTells (lwp fc sz sd c) (fc c 2) 3)]
def dTold (fc : Nat → Nat → Nat) (c : Nat) : Nat → List Int32
  | 0 => []
  | k + 1 => nI (fc c (4 - k)) :: dTold fc c k
theorem KC.E {N : Nat} {fc : Nat → Nat → Nat} {ns : Nat} {sn : Nat → Nat} {od : Nat} {M : Mem} {S : Mem} (h : KC N fc ns sn od M) (f : FrE M S) : KC N fc ns sn od S := h.k5 (fun a a1 a2 => f a (by omega) (by omega) (by omega)) (by rw [f 0 (by decide) (by decide) (by decide)])
theorem ZC.E {sz : Nat} {sd : Nat → Nat → Nat} {M S : Mem} (h : ZC sz sd M) (f : FrE M S) : ZC sz sd S := h.keep (f 6 (by decide) (by decide) (by decide)) (f 7 (by decide) (by decide) (by decide)) (f 8 (by decide) (by decide) (by decide)) (f 9 (by decide) (by decide) (by decide))
theorem chan4_s {N : Nat} {fc : Nat → Nat → Nat} {ns : Nat} {sn : Nat → Nat} {od : Nat} {M : Mem} (hK : KC N fc ns sn od M) (hW : WF N fc) {c k : Nat} (hc : c < N) (hk : k < 5) : fX4_channel M (nI c) (nI k) = some (nI (fc c k)) := by
  unfold fX4_channel
  rw [fact_s hK.1.1 hW.1 hc hk, bP_s]
theorem dCh4_s {N : Nat} {fc : Nat → Nat → Nat} {ns : Nat} {sn : Nat → Nat} {od : Nat} {M : Mem} (hK : KC N fc ns sn od M) (hW : WF N fc) {sz : Nat} {sd : Nat → Nat → Nat} (hZ : ZC sz sd M) (hR : ZR sz sd) {c : Nat} (hc : c < N) (a : Int64) : ∃ M', fX4_digestChannel a (nI c) M = some (mixL a (dTold fc c 5 ++ dCh N fc ns sn sz sd c), M') ∧ FrE M M' := by
  have hN := hW.1
  obtain ⟨M', t1, t2⟩ := tells4_s hK hW hZ hR hc (show 3 ≤ 99 by omega)
  unfold fX4_digestChannel
  refine loop_up (σ := Int64) (fun k i s => fX4_digestChannel_6 k (nI c) s (nI i) M) (fun i s => mixL s (dTold fc c (5 - i)) = mixL a (dTold fc c 5)) (fun o => ∃ M', o = some (mixL a (dTold fc c 5 ++ dCh N fc ns sn sz sd c), M') ∧ FrE M M') 5 (fun k i s hi hI => ?_) (fun k s hI => ?_) 1000 0 a (by omega) (by omega) rfl
  · left
    refine ⟨fX4_mix s (nI (fc c i)), ?_, ?_⟩
    · rw [show 5 - i = (4 - i) + 1 by omega, dTold, show 4 - (4 - i) = i by omega] at hI
      rw [show 5 - (i + 1) = 4 - i by omega, mixL_c]
      exact hI
    · (try dsimp only)
      rw [fX4_digestChannel_6, if_neg (fun z => by rw [pL5] at z; have := (nI_leI (by omega) (by omega)).mp z; omega), chan4_s hK hW hc hi, bP_s, nI_1]
  · have hcb : chB N (nI c) = true := decide_eq_true (by rw [pz_ti (by omega)]; omega)
    (try dsimp only)
    rw [fX4_digestChannel_6, if_pos (show (5 : Int32) ≤ nI 5 by decide), show (7 : Int32) = nI 7 from rfl, deep4_s hK hW, hcb, okR_nI (by omega), decide_eq_true (by omega), Bool.true_and, if_pos rfl, bP_s, map4_s hK hW (show 7 ≤ 99 by omega) hc, bP_s, laws4_s hK hW hZ hR hc, if_pos (show okR (-1) (-1) 35 = true by decide), bP_s, ltl_s, laws4_s hK hW hZ hR hc, if_pos (show okR 0 (-1) 35 = true by decide), bP_s, show (9 : Int32) = nI 9 from rfl, next4_s hK hW hZ hR hc (show 9 ≤ 99 by omega), bP_s, show (3 : Int32) = nI 3 from rfl, t1, bW_s, nI_clamp (by omega), nI_clamp (by omega)]
    refine ⟨M', ?_, .o10 t2⟩
    rw [← mixL_a, ← hI]
    rfl
theorem digest_b {M : Mem} (h : Inv M) : ∃ v M1 M2, fX4_digest M = some (v, M1) ∧ fX5_digest M1 = some (v, M2) ∧ Inv M2 := by
  sorry
