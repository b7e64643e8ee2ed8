/-! WHICH NIGHT TELLS MOST. -/
def alh (P : Nat → Bool) (tl q i : Nat) (s : (Nat → Nat) × Nat) : (Nat → Nat) × Nat := if P i = true then (fun x => if x = ldp tl i q then s.1 x + 1 else s.1 x, max s.2 (s.1 (ldp tl i q) + 1)) else s
def alk (P : Nat → Bool) (tl q n : Nat) : (Nat → Nat) × Nat := run (alh P tl q) (fun _ => 0, 0) 0 n
theorem alk_s (P : Nat → Bool) (tl q n : Nat) : alk P tl q (n + 1) = alh P tl q n (alk P tl q n) := run_s _ _ (Nat.zero_le _)
theorem alk_le (P : Nat → Bool) (tl q : Nat) : ∀ n, (∀ x, (alk P tl q n).1 x ≤ n) ∧ (alk P tl q n).2 ≤ n
  | 0 => ⟨fun _ => Nat.le_refl _, Nat.le_refl _⟩
  | n + 1 => by
    obtain ⟨h1, h2⟩ := alk_le P tl q n
    rw [alk_s]
    unfold alh
    by_cases e : P n = true
    · rw [if_pos e]
      refine ⟨fun x => ?_, ?_⟩
      · (try dsimp only)
        have := h1 x
        by_cases q : x = ldp tl n q
        · rw [if_pos q]; omega
        · rw [if_neg q]; omega
      · (try dsimp only)
        have := h1 (ldp tl n q)
        omega
    · rw [if_neg e]; exact ⟨fun x => Nat.le_trans (h1 x) (by omega), by omega⟩
def vAlike (P : Nat → Bool) (tl q : Nat) : Nat := (alk P tl q 36).2
theorem vAlike_le (P : Nat → Bool) (tl q : Nat) : vAlike P tl q ≤ 36 := (alk_le P tl q 36).2
theorem mxnn {a b : Nat} (ha : a < 2 ^ 31) (hb : b < 2 ^ 31) : mx (nI a) (nI b) = nI (max a b) := by
  unfold mx
  by_cases z : a < b
  · rw [if_pos ((nI_ltI ha hb).mpr z), show max a b = b by omega]
  · rw [if_neg (fun y => z ((nI_ltI ha hb).mp y)), show max a b = a by omega]
theorem mostAlike4_s {M : Mem} {m : Nat} {P : Nat → Bool} (hm : MskL m 36 P) {tl q : Nat} (ht : tl ≤ 9) (hq : q ≤ 99) : ∃ M', fX3_mostAlike (lN m) (nI tl) (nI q) M = some (nI (vAlike P tl q), M') ∧ ∀ a, ¬ a = 10 → M' a = M a := by
  unfold fX3_mostAlike
  obtain ⟨g0, e0, hg0⟩ := fill_s (M := M) (r := 10) (v := 0) (by decide)
  rw [e0, bW_s]
  refine loop_up (σ := Nat → Int32) (fun k i g => fX3_mostAlike_14 k (lN m) (nI tl) (nI q) (nI (alk P tl q i).2) (nI i) (upf M 10 g)) (fun i g => ∀ x, x < 10 → g x = nI ((alk P tl q i).1 x)) (fun o => ∃ M', o = some (nI (vAlike P tl q), M') ∧ ∀ a, ¬ a = 10 → M' a = M a) 36 (fun k i g hi hI => ?_) (fun k g hI => ?_) 1000 0 g0 (by omega) (by omega) (fun x hx => hg0 x hx)
  · left
    obtain ⟨a1, a2⟩ := alk_le P tl q i
    have hl := ldp_le (i := i) (q := q) ht
    have a1' := a1 (ldp tl i q)
    rw [alk_s]
    (try dsimp only)
    rw [fX3_mostAlike_14, pL36, if_neg (fun z => by have := (nI_leI (by omega) (by omega)).mp z; omega), among_s hm hi]
    unfold alh
    cases e : P i with
    | true =>
      rw [if_pos rfl, if_pos rfl, depthBy_s ht hi hq, bP_s, it10 (by omega), bP_s, pi10 (by omega), bW_s, upf_up, upf_eq, upf_upf, hI _ (by omega), nI_1, mxnn (by omega) (by omega), nI_1]
      refine ⟨_, fun x hx => ?_, rfl⟩
      (try dsimp only)
      by_cases z : x = ldp tl i q
      · rw [if_pos z, z, upd_at]
      · rw [if_neg z, upd_ne z]; exact hI x hx
    | false =>
      rw [if_neg Bool.false_ne_true, if_neg Bool.false_ne_true, nI_1]
      exact ⟨g, hI, rfl⟩
  · (try dsimp only)
    rw [fX3_mostAlike_14, pL36, if_pos ((nI_leI (by omega) (by omega)).mpr (Nat.le_refl _))]
    exact ⟨_, rfl, fun a ha => upf_id ha⟩
/-- the reference's list of the laws that fit -/
def FB (P : Nat → Bool) (M : Mem) : Prop := ∀ i, i < 36 → M 37 i = b2i (P i)
theorem mostAlike5_s {N : Nat} {fc : Nat → Nat → Nat} {M : Mem} (hC : MF N fc M) (hW : WF N fc) {P : Nat → Bool} (hB : FB P M) {c q : Nat} (hc : c < N) (hq : q ≤ 99) : ∃ M', fX5_mostAlike (nI c) (nI q) M = some (nI (vAlike P (fc c 2) q), M') ∧ ∀ a, ¬ a = 38 → M' a = M a := by
  have hN := hW.1
  have ht := (hW.2 c hc).2.2.1
  unfold fX5_mostAlike
  rw [← upf_self M 38]
  refine loop_up (σ := Nat → Int32) (fun k i g => fX5_mostAlike_2 k (nI c) (nI q) (nI i) (upf M 38 g)) (fun i g => ∀ x, x < i → g x = 0) (fun o => ∃ M', o = some (nI (vAlike P (fc c 2) q), M') ∧ ∀ a, ¬ a = 38 → M' a = (upf M 38 (M 38)) a) 10 (fun k i g hi hI => ?_) (fun k g hI => ?_) 1000 0 (M 38) (by omega) (by omega) (fun x hx => absurd hx (Nat.not_lt_zero _))
  · left
    (try dsimp only)
    rw [fX5_mostAlike_2, pL10, if_neg (fun z => by have := (nI_leI (by omega) (by omega)).mp z; omega), pz_gd (by omega) (by omega), ltl_s, nI_clamp (by omega), upf_up, upf_eq, upf_upf, nI_1]
    refine ⟨_, fun x hx => ?_, rfl⟩
    by_cases z : x = i
    · rw [z, upd_at]
    · rw [upd_ne z]; exact hI x (by omega)
  · (try dsimp only)
    rw [fX5_mostAlike_2, pL10, if_pos ((nI_leI (by omega) (by omega)).mpr (Nat.le_refl _))]
    refine loop_up (σ := Nat → Int32) (fun k i g => fX5_mostAlike_26 k (nI c) (nI q) (nI (alk P (fc c 2) q i).2) (nI i) (upf M 38 g)) (fun i g => ∀ x, x < 10 → g x = nI ((alk P (fc c 2) q i).1 x)) (fun o => ∃ M', o = some (nI (vAlike P (fc c 2) q), M') ∧ ∀ a, ¬ a = 38 → M' a = (upf M 38 (M 38)) a) 36 (fun k i g hi hI => ?_) (fun k g hI => ?_) 1000 0 g (by omega) (by omega) (fun x hx => hI x hx)
    · left
      obtain ⟨a1, a2⟩ := alk_le P (fc c 2) q i
      have hl := ldp_le (i := i) (q := q) ht
      have a1' := a1 (ldp (fc c 2) i q)
      have hS : MF N fc (upf M 38 g) := hC.keep (by rw [upf_id (by decide)]) (upf_id (by decide))
      rw [alk_s]
      (try dsimp only)
      rw [fX5_mostAlike_26, pL36, if_neg (fun z => by have := (nI_leI (by omega) (by omega)).mp z; omega), pz_gd (by omega) (by omega), nI_clamp (by omega), upf_id (show ¬ 37 = 38 by decide), hB i hi]
      unfold alh
      cases e : P i with
      | true =>
        rw [if_neg (show ¬ b2i true = 0 by decide), if_pos rfl, (told_2 hS hN hc _).1, (told_2 hS hN hc (none : Option Int32)).2, deepBy5_s ht hi hq, bP_s, pz_gd (by omega) (by omega), pz_gd (by omega) (by omega), ltl_s, nI_clamp (by omega), upf_up, upf_upf]
        simp only [upf_eq, upd_at]
        rw [hI (ldp (fc c 2) i q) (by omega), nI_1, pz_gd (by omega) (by omega), nI_1]
        refine ⟨upd g (ldp (fc c 2) i q) (nI ((alk P (fc c 2) q i).1 (ldp (fc c 2) i q) + 1)), fun x hx => ?_, ?_⟩
        · (try dsimp only)
          by_cases z : x = ldp (fc c 2) i q
          · rw [if_pos z, z, upd_at]
          · rw [if_neg z, upd_ne z]; exact hI x hx
        · (try dsimp only)
          by_cases z : (alk P (fc c 2) q i).1 (ldp (fc c 2) i q) + 1 ≤ (alk P (fc c 2) q i).2
          · rw [if_pos ((nI_leI (by omega) (by omega)).mpr z), Nat.max_eq_left z]
          · rw [if_neg (fun y => z ((nI_leI (by omega) (by omega)).mp y)), pz_gd (by omega) (by omega), Nat.max_eq_right (by omega)]
      | false =>
        rw [if_pos (show b2i false = 0 by decide), if_neg Bool.false_ne_true, nI_1]
        exact ⟨g, hI, rfl⟩
    · (try dsimp only)
      rw [fX5_mostAlike_26, pL36, if_pos ((nI_leI (by omega) (by omega)).mpr (Nat.le_refl _))]
      exact ⟨_, rfl, fun a ha => by rw [upf_id ha, upf_id ha]⟩
/-- the first of the nights that tell most -/
def tlh (P : Nat → Bool) (tl j : Nat) (s : Nat × Nat) : Nat × Nat := if s.2 ≤ vAlike P tl j then s else (j, vAlike P tl j)
def vTells (P : Nat → Bool) (tl q : Nat) : Nat := (run (tlh P tl) (q, 37) q (min 100 (q + 20))).1
theorem tells4_s {N : Nat} {fc : Nat → Nat → Nat} {ns : Nat} {sn : Nat → Nat} {od : Nat} {M : Mem} (hK : KC N fc ns sn od M) (hW : WF N fc) {sz : Nat} {sd : Nat → Nat → Nat} (hZ : ZC sz sd M) (hR : ZR sz sd) {c q : Nat} (hc : c < N) (hq : q ≤ 99) : ∃ M', fX4_tells (nI c) (nI q) M = some (nI (vTells (lwp fc sz sd c) (fc c 2) q), M') ∧ ∀ a, ¬ a = 10 → M' a = M a := by
  have hN := hW.1
  have ht := (hW.2 c hc).2.2.1
  obtain ⟨m, m1, m2⟩ := fitting_s hW hZ hR hc
  unfold fX4_tells
  rw [if_pos (by unfold fX0_hasChannel; rw [hK.1.1.1, if_neg (nI_pos (by omega)), if_neg (fun z => by have := (nI_leI (by omega) (by omega)).mp z; omega)]), if_pos (night_in hq), fact_2 hK.1.1 hN hc, bP_s, m1, bP_s]
  have h20 : nI q + 20 = nI (q + 20) := by rw [pL20, nI_add]
  refine loop_up (σ := (Nat × Nat) × Mem) (fun k i S => fX4_tells_52 k (nI q) (nI (fc c 2)) (lN m) (nI S.1.1) (nI S.1.2) (nI i) S.2) (fun i S => q ≤ i ∧ S.1 = run (tlh (lwp fc sz sd c) (fc c 2)) (q, 37) q i ∧ S.1.2 ≤ 37 ∧ ∀ a, ¬ a = 10 → S.2 a = M a) (fun o => ∃ M', o = some (nI (vTells (lwp fc sz sd c) (fc c 2) q), M') ∧ ∀ a, ¬ a = 10 → M' a = M a) (min 100 (q + 20)) (fun k i S hi hI => ?_) (fun k S hI => ?_) 1000 q ((q, 37), M) (by omega) (by omega) ⟨Nat.le_refl _, (run_0 _ _ _).symm, Nat.le_refl _, fun _ _ => rfl⟩
  · left
    obtain ⟨hqi, hs, hb, hF⟩ := hI
    obtain ⟨M', f1, f2⟩ := mostAlike4_s (M := S.2) m2 ht (show i ≤ 99 by omega)
    have hv := vAlike_le (lwp fc sz sd c) (fc c 2) i
    refine ⟨(tlh (lwp fc sz sd c) (fc c 2) i S.1, M'), ⟨by omega, by rw [run_s _ _ hqi, hs], ?_, fun a ha => (f2 a ha).trans (hF a ha)⟩, ?_⟩
    · unfold tlh
      by_cases z : S.1.2 ≤ vAlike (lwp fc sz sd c) (fc c 2) i
      · rw [if_pos z]; exact hb
      · rw [if_neg z]; dsimp only; omega
    · (try dsimp only)
      rw [fX4_tells_52, h20, if_neg (fun z => by have := (nI_leI (by omega) (by omega)).mp z; omega), if_neg (fun z => by rw [pL99] at z; have := (nI_ltI (by omega) (by omega)).mp z; omega), f1, bW_s]
      unfold tlh
      by_cases z : S.1.2 ≤ vAlike (lwp fc sz sd c) (fc c 2) i
      · rw [if_pos ((nI_leI (by omega) (by omega)).mpr z), if_pos z, nI_1]
      · rw [if_neg (fun y => z ((nI_leI (by omega) (by omega)).mp y)), if_neg z, nI_1]
  · obtain ⟨hqi, hs, hb, hF⟩ := hI
    (try dsimp only)
    rw [fX4_tells_52, h20, hs]
    refine ⟨S.2, ?_, hF⟩
    unfold vTells
    by_cases e : q + 20 ≤ 100
    · rw [if_pos ((nI_leI (by omega) (by omega)).mpr (by omega))]
    · rw [if_neg (fun z => by have := (nI_leI (by omega) (by omega)).mp z; omega), if_pos (by rw [pL99]; exact (nI_ltI (by omega) (by omega)).mpr (by omega))]
theorem tellsNight_s {N : Nat} {fc : Nat → Nat → Nat} {M : Mem} (hC : MF N fc M) (hW : WF N fc) {sz : Nat} {sd : Nat → Nat → Nat} (hZ : ZM sz sd M) (hR : ZR sz sd) {c q : Nat} (hc : c < N) (hq : q ≤ 99) : ∃ M', fX5_tellsNight (nI c) (nI q) M = some (nI (vTells (lwp fc sz sd c) (fc c 2) q), M') ∧ ∀ a, ¬ a = 37 → ¬ a = 38 → M' a = M a := by
  have hN := hW.1
  have h20 : nI q + 20 = nI (q + 20) := by rw [pL20, nI_add]
  unfold fX5_tellsNight
  rw [← upf_self M 37]
  refine loop_up (σ := Nat → Int32) (fun k i g => fX5_tellsNight_2 k (nI c) (nI q) (nI i) (upf M 37 g)) (fun i g => ∀ x, x < i → g x = b2i (lwp fc sz sd c x)) (fun o => ∃ M', o = some (nI (vTells (lwp fc sz sd c) (fc c 2) q), M') ∧ ∀ a, ¬ a = 37 → ¬ a = 38 → M' a = (upf M 37 (M 37)) a) 36 (fun k i g hi hI => ?_) (fun k g hI => ?_) 1000 0 (M 37) (by omega) (by omega) (fun x hx => absurd hx (Nat.not_lt_zero _))
  · left
    have hS : MF N fc (upf M 37 g) := hC.keep (by rw [upf_id (by decide)]) (upf_id (by decide))
    have hZS : ZM sz sd (upf M 37 g) := ⟨by rw [upf_id (by decide)]; exact hZ.1, fun k hk j hj => by rw [upf_id (by decide)]; exact hZ.2 k hk j hj⟩
    (try dsimp only)
    rw [fX5_tellsNight_2, pL36, if_neg (fun z => by have := (nI_leI (by omega) (by omega)).mp z; omega), fits_s hS hW hZS hR hc hi, bP_s, pz_gd (by omega) (by omega), ltl_s, nI_clamp (by omega), upf_up, upf_eq, upf_upf, nI_1]
    refine ⟨_, fun x hx => ?_, rfl⟩
    by_cases z : x = i
    · rw [z, upd_at]; rfl
    · rw [upd_ne z]; exact hI x (by omega)
  · (try dsimp only)
    rw [fX5_tellsNight_2, pL36, if_pos ((nI_leI (by omega) (by omega)).mpr (Nat.le_refl _))]
    have hS : MF N fc (upf M 37 g) := hC.keep (by rw [upf_id (by decide)]) (upf_id (by decide))
    have hB : FB (lwp fc sz sd c) (upf M 37 g) := fun i hi => by rw [upf_eq]; exact hI i hi
    obtain ⟨M1, f1, f2⟩ := mostAlike5_s hS hW hB hc hq
    rw [f1, bW_s, nI_1]
    have hv0 := vAlike_le (lwp fc sz sd c) (fc c 2) q
    refine loop_up (σ := (Nat × Nat) × Mem) (fun k i S => fX5_tellsNight_41 k (nI c) (nI q) (nI S.1.1) (nI S.1.2) (nI i) S.2) (fun i S => q ≤ i ∧ S.1 = run (tlh (lwp fc sz sd c) (fc c 2)) (q, 37) q i ∧ S.1.2 ≤ 37 ∧ ∀ a, ¬ a = 38 → S.2 a = (upf M 37 g) a) (fun o => ∃ M', o = some (nI (vTells (lwp fc sz sd c) (fc c 2) q), M') ∧ ∀ a, ¬ a = 37 → ¬ a = 38 → M' a = (upf M 37 (M 37)) a) (min 100 (q + 20)) (fun k i S hi hJ => ?_) (fun k S hJ => ?_) 1000 (q + 1) ((q, vAlike (lwp fc sz sd c) (fc c 2) q), M1) (by omega) (by omega) ⟨by omega, ?_, by dsimp only; omega, f2⟩
    · left
      obtain ⟨hqi, hs, hb, hF⟩ := hJ
      have hS2 : MF N fc S.2 := hS.keep (by rw [hF 26 (by decide)]) (hF 32 (by decide))
      have hB2 : FB (lwp fc sz sd c) S.2 := fun i hi => by rw [hF 37 (by decide)]; exact hB i hi
      obtain ⟨M', g1, g2⟩ := mostAlike5_s hS2 hW hB2 hc (show i ≤ 99 by omega)
      have hv := vAlike_le (lwp fc sz sd c) (fc c 2) i
      refine ⟨(tlh (lwp fc sz sd c) (fc c 2) i S.1, M'), ⟨by omega, by rw [run_s _ _ hqi, hs], ?_, fun a ha => (g2 a ha).trans (hF a ha)⟩, ?_⟩
      · unfold tlh
        by_cases z : S.1.2 ≤ vAlike (lwp fc sz sd c) (fc c 2) i
        · rw [if_pos z]; exact hb
        · rw [if_neg z]; dsimp only; omega
      · (try dsimp only)
        rw [fX5_tellsNight_41, h20, if_neg (fun z => by have := (nI_leI (by omega) (by omega)).mp z; omega), if_neg (fun z => by rw [pL100] at z; have := (nI_leI (by omega) (by omega)).mp z; omega), g1, bW_s]
        unfold tlh fX5_tellsNight_79 fX5_lesser
        by_cases z : S.1.2 ≤ vAlike (lwp fc sz sd c) (fc c 2) i
        · rw [if_pos ((nI_leI (by omega) (by omega)).mpr z), if_pos z, if_pos ((nI_leI (by omega) (by omega)).mpr z), nI_1]
        · rw [if_neg (fun y => z ((nI_leI (by omega) (by omega)).mp y)), if_neg z, if_neg (fun y => z ((nI_leI (by omega) (by omega)).mp y)), nI_1]
    · obtain ⟨hqi, hs, hb, hF⟩ := hJ
      (try dsimp only)
      rw [fX5_tellsNight_41, h20, hs]
      refine ⟨S.2, ?_, fun a a1 a2 => by rw [hF a a2, upf_id a1, upf_id a1]⟩
      unfold vTells
      by_cases e : q + 20 ≤ 100
      · rw [if_pos ((nI_leI (by omega) (by omega)).mpr (by omega))]
      · rw [if_neg (fun z => by have := (nI_leI (by omega) (by omega)).mp z; omega), if_pos (by rw [pL100]; exact (nI_leI (by omega) (by omega)).mpr (by omega))]
    · rw [run_s _ _ (Nat.le_refl _), run_0]
      unfold tlh
      rw [if_neg (by dsimp only; omega)]
