/-! LOWEST TERMS, AND THE REFERENCE'S SAFEST ROW. -/
theorem odd_pow : ∀ (n g : Nat), g % 2 = 1 → g ∣ 2 ^ n → g = 1
  | 0, g, _, h => by
    have := Nat.le_of_dvd (by decide) h
    have h0 : ¬ g = 0 := fun z => by subst z; omega
    have : g ≤ 1 := this
    omega
  | n + 1, g, hg, ⟨k, hk⟩ => by
    rw [Nat.pow_succ] at hk
    have h2 : (g * k) % 2 = 0 := by rw [← hk]; omega
    rw [Nat.mul_mod, hg, Nat.one_mul] at h2
    refine odd_pow n g hg ⟨k / 2, ?_⟩
    have : k = 2 * (k / 2) := by omega
    rw [this, ← Nat.mul_assoc, Nat.mul_comm g 2, Nat.mul_assoc, Nat.mul_comm] at hk
    omega
theorem gcd_1 {a b k : Nat} (h : a % 2 = 1 ∨ b % 2 = 1) (hb : b * 2 ^ k = 1048576) : Nat.gcd a b = 1 := by
  have d2 : Nat.gcd a b ∣ b := Nat.gcd_dvd_right a b
  have d1 : Nat.gcd a b ∣ a := Nat.gcd_dvd_left a b
  have d3 : Nat.gcd a b ∣ 2 ^ 20 := Nat.dvd_trans d2 ⟨2 ^ k, by rw [hb]⟩
  refine odd_pow 20 _ ?_ d3
  rcases Nat.mod_two_eq_zero_or_one (Nat.gcd a b) with e | e
  · have e2 : 2 ∣ Nat.gcd a b := Nat.dvd_of_mod_eq_zero e
    have x1 := Nat.mod_eq_zero_of_dvd (Nat.dvd_trans e2 d1)
    have x2 := Nat.mod_eq_zero_of_dvd (Nat.dvd_trans e2 d2)
    omega
  · exact e
def rat20 (a w : Nat) : Int32 := nI (if w = 0 then a / Nat.gcd a 1048576 else 1048576 / Nat.gcd a 1048576)
theorem low20_s {v w : Nat} (hv : v ≤ 1048576) (hw : w < 2) : fX4_inLowestTerms (nI v) 1048576 (nI w) = some (rat20 v w) := by
  unfold fX4_inLowestTerms
  rw [pL1048576]
  refine loop_up (σ := Nat × Nat) (fun k i s => fX4_inLowestTerms_8 k (nI w) (nI s.1) (nI s.2) (nI i)) (fun i s => s.1 * 2 ^ i = v ∧ s.2 * 2 ^ i = 1048576 ∧ s.1 ≤ 1048576 ∧ s.2 ≤ 1048576) (fun o => o = some (rat20 v w)) 32 (fun k i s hi hI => ?_) (fun k s hI => ?_) 1000 0 (v, 1048576) (by omega) (by omega) ⟨by rw [Nat.pow_zero, Nat.mul_one], by rw [Nat.pow_zero, Nat.mul_one], hv, Nat.le_refl _⟩
  · obtain ⟨h1, h2, h3, h4⟩ := hI
    have fin : s.1 % 2 = 1 ∨ s.2 % 2 = 1 → fX4_inLowestTerms_44 (nI w) (nI s.1) (nI s.2) = some (rat20 v w) := by
      intro ho
      have hg := gcd_1 ho h2
      have hp : 0 < 2 ^ i := Nat.pow_pos (by omega)
      have hG : Nat.gcd v 1048576 = 2 ^ i := by
        rw [← h1, ← h2, Nat.gcd_mul_right, hg, Nat.one_mul]
      unfold fX4_inLowestTerms_44 rat20
      rw [hG]
      rcases (show w = 0 ∨ w = 1 by omega) with rfl | rfl
      · rw [if_pos (show nI 0 = 0 from rfl), if_pos rfl, ← h1, Nat.mul_div_cancel _ hp]
      · rw [if_neg (show ¬ nI 1 = 0 by decide), if_neg (show ¬ (1 : Nat) = 0 by decide), ← h2, Nat.mul_div_cancel _ hp]
    (try dsimp only)
    rw [fX4_inLowestTerms_8, if_neg (fun y => by rw [show (32 : Int32) = nI 32 from rfl] at y; have := (nI_leI (by omega) (by omega)).mp y; omega), show (2 : Int32) = nI 2 from rfl, pz_rm (by omega) (by omega) (by omega), pz_rm (by omega) (by omega) (by omega)]
    by_cases a : s.1 % 2 = 0
    · rw [if_pos (by rw [a]; rfl)]
      by_cases b : s.2 % 2 = 0
      · left
        rw [if_pos (by rw [b]; rfl), pk_div (by omega) (by omega) (by omega), pk_div (by omega) (by omega) (by omega), nI_1]
        refine ⟨(s.1 / 2, s.2 / 2), ⟨?_, ?_, by dsimp only; omega, by dsimp only; omega⟩, rfl⟩
        · (try dsimp only)
          rw [Nat.pow_succ, Nat.mul_comm (2 ^ i) 2, ← Nat.mul_assoc, show s.1 / 2 * 2 = s.1 by omega]; exact h1
        · (try dsimp only)
          rw [Nat.pow_succ, Nat.mul_comm (2 ^ i) 2, ← Nat.mul_assoc, show s.2 / 2 * 2 = s.2 by omega]; exact h2
      · right
        rw [if_neg (fun y => b ((nI_z (by omega)).mp y))]
        exact fin (by omega)
    · right
      rw [if_neg (fun y => a ((nI_z (by omega)).mp y))]
      exact fin (by omega)
  · obtain ⟨h1, h2, h3, h4⟩ := hI
    omega
theorem com_s : ∀ (n a b fuel : Nat), b < 2 ^ n → a < 2 ^ 31 → b < 2 ^ 31 → 2 * n + 1 < fuel → fX5_common_4 fuel (nI a) (nI b) = some (nI (Nat.gcd a b))
  | 0, a, b, fuel, h, ha, hb, hf => by
    have : b = 0 := by rw [Nat.pow_zero] at h; omega
    subst this
    obtain ⟨k, rfl⟩ : ∃ k, fuel = k + 1 := ⟨fuel - 1, by omega⟩
    rw [fX5_common_4, if_pos (show nI 0 = 0 from rfl), Nat.gcd_zero_right]
  | n + 1, a, b, fuel, h, ha, hb, hf => by
    obtain ⟨k, rfl⟩ : ∃ k, fuel = k + 1 + 1 := ⟨fuel - 2, by omega⟩
    rw [fX5_common_4]
    by_cases z : b = 0
    · subst z
      rw [if_pos (show nI 0 = 0 from rfl), Nat.gcd_zero_right]
    · have hr : a % b < b := Nat.mod_lt _ (by omega)
      have g1 : Nat.gcd a b = Nat.gcd b (a % b) := by rw [Nat.gcd_comm, Nat.gcd_rec, Nat.gcd_comm]
      rw [if_neg (fun y => z ((nI_z hb).mp y)), pz_gd0 (by omega) hb, pz_rm ha (by omega) hb, g1]
      generalize a % b = r at hr
      rw [fX5_common_4]
      by_cases y : r = 0
      · subst y
        rw [if_pos (show nI 0 = 0 from rfl), Nat.gcd_zero_right]
      · have hq : b % r < r := Nat.mod_lt _ (by omega)
        have hq2 : b % r + r ≤ b := by
          have := Nat.div_add_mod b r
          have h1 : 1 ≤ b / r := Nat.div_pos (by omega) (by omega)
          have h2 : r * 1 ≤ r * (b / r) := Nat.mul_le_mul_left _ h1
          omega
        have g2 : Nat.gcd b r = Nat.gcd r (b % r) := by rw [Nat.gcd_comm, Nat.gcd_rec, Nat.gcd_comm]
        rw [if_neg (fun x => y ((nI_z (by omega)).mp x)), pz_gd0 (by omega) (by omega), pz_rm hb (by omega) (by omega), g2]
        exact com_s n r (b % r) k (by rw [Nat.pow_succ] at h; omega) (by omega) (by omega) (by omega)
theorem com20_s {v : Nat} (hv : v ≤ 1048576) : fX5_common (nI v) 1048576 = some (nI (Nat.gcd v 1048576)) := by
  unfold fX5_common
  rw [pL1048576]
  exact com_s 21 v 1048576 1000 (by decide) (by omega) (by omega) (by omega)
theorem weigh_s {N : Nat} {fc : Nat → Nat → Nat} {ns : Nat} {sn : Nat → Nat} {od : Nat} {M : Mem} (hK : KM N fc ns sn od M) (hW : WF N fc) (ho : od ≤ 16) {c d q : Nat} (hc : c < N) (hd : d ≤ 9) (hq : q ≤ 99) : fX5_weigh M (nI c) (nI d) (nI q) = some (nI (wgt fc od d q c)) := by
  have p1 := dpt_le hW hc q false
  have p2 := dpt_le hW hc q true
  have s16 : (16 : Int32) - nI od = nI (16 - od) := by rw [pL16]; exact pk_sub ho
  unfold fX5_weigh fX5_weigh_22 wgt
  rw [deepIn_s hK.1 hW hc hq, bP_s, deepIn_s hK.1 hW hc hq, bP_s, bP_s, hK.2.2, s16]
  by_cases a : d ≤ dpt fc c q false
  · rw [if_neg (fun y => by have := (nI_ltI (by omega) (by omega)).mp y; omega), if_pos a]
    by_cases b : d ≤ dpt fc c q true
    · rw [if_neg (fun y => by have := (nI_ltI (by omega) (by omega)).mp y; omega), if_pos b, nI_add]
    · rw [if_pos ((nI_ltI (by omega) (by omega)).mpr (by omega)), if_neg b, pL0, nI_add]
  · rw [if_pos ((nI_ltI (by omega) (by omega)).mpr (by omega)), if_neg a]
    by_cases b : d ≤ dpt fc c q true
    · rw [if_neg (fun y => by have := (nI_ltI (by omega) (by omega)).mp y; omega), if_pos b, pL0, nI_add]
    · rw [if_pos ((nI_ltI (by omega) (by omega)).mpr (by omega)), if_neg b, pL0, nI_add]
theorem onBy_s {N : Nat} {fc : Nat → Nat → Nat} {ns : Nat} {sn : Nat → Nat} {od : Nat} {M : Mem} (hK : KM N fc ns sn od M) (hW : WF N fc) (ho : od ≤ 16) {c d q : Nat} (hc : c < N) (hd : d ≤ 9) (hq : q ≤ 99) {B : Nat → Nat} (hB : M 39 (fc c 1) = enc (B (fc c 1))) (hb : B (fc c 1) ≤ 1048577) : fX5_onBy M (nI c) (nI d) (nI q) = some (enc (onN (wgt fc od d q) (fun c => fc c 1) B c)) := by
  have hN := hW.1
  have hw := hW.2 c hc
  unfold fX5_onBy
  rw [(told_1 hK.1 hN hc _).1, (told_1 hK.1 hN hc (none : Option Int32)).2, pz_gd (by omega) (by omega), ltl_s, nI_clamp (by omega), hB]
  by_cases z : B (fc c 1) = 0
  · rw [if_pos ((enc_m1 (by omega)).mpr z), (show onN (wgt fc od d q) (fun c => fc c 1) B c = 0 from onN_z.mpr z)]
    rfl
  · rw [if_neg (fun y => z ((enc_m1 (by omega)).mp y)), weigh_s hK hW ho hc hd hq, bP_s, Int32.mul_comm]
    congr 1
    exact on_s (w := wgt fc od d q) (to := fun c => fc c 1) (β := B) (c := c) hb z
