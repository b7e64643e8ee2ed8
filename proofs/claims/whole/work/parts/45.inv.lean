/-! WHAT THE TWO MEMORIES KEEP TO. -/
def IT (t : Nat → Nat) (n ns : Nat) (sn : Nat → Nat) (od : Nat) (M : Mem) : Prop := (Txt M t n ∧ M 1 2 = faultI t n ∧ KC (chN t n) (fcN t) ns sn od M) ∧ (TxM M t n ∧ SM ns sn M ∧ M 26 12 = nI od) ∧ od ≤ 16
def Inv (M : Mem) : Prop := (∃ t n ns sn od, IT t n ns sn od M) ∧ HS M ∧ ZS M ∧ M 0 7 = M 26 4
theorem IT.keep {t : Nat → Nat} {n ns : Nat} {sn : Nat → Nat} {od : Nat} {M S : Mem} (h : IT t n ns sn od M) (h1 : ∀ a, 1 ≤ a → a ≤ 5 → S a = M a) (h0 : S 0 6 = M 0 6) (h31 : S 31 = M 31) (h33 : S 33 = M 33) (h6 : S 26 6 = M 26 6) (h10 : S 26 10 = M 26 10) (h12 : S 26 12 = M 26 12) : IT t n ns sn od S := by
  obtain ⟨⟨a1, a2, a3⟩, ⟨b1, b2, b3⟩, c⟩ := h
  have e1 := h1 1 (by decide) (by decide)
  have e2 := h1 2 (by decide) (by decide)
  have e3 := h1 3 (by decide) (by decide)
  have e4 := h1 4 (by decide) (by decide)
  have e5 := h1 5 (by decide) (by decide)
  exact ⟨⟨⟨by rw [e1]; exact a1.1, a1.2.1, fun k hk => by rw [e2]; exact a1.2.2 k hk⟩, by rw [e1]; exact a2, a3.1.keep (by rw [e1]) e3 e4, ⟨by rw [e1]; exact a3.2.1.1, a3.2.1.2.1, fun k hk => by rw [e5]; exact a3.2.1.2.2 k hk⟩, h0.trans a3.2.2⟩, ⟨⟨h6.trans b1.1, b1.2.1, fun k hk => by rw [h31]; exact b1.2.2 k hk⟩, ⟨h10.trans b2.1, b2.2.1, fun k hk => by rw [h33]; exact b2.2.2 k hk⟩, h12.trans b3⟩, c⟩
/-- what a question may change: of the class, of the reference -/
def FrE (M S : Mem) : Prop := ∀ a, ¬ (10 ≤ a ∧ a < 15) → ¬ a = 24 → ¬ a = 25 → S a = M a
def FrQ (M S : Mem) : Prop := (∀ a, ¬ a = 26 → ¬ a = 32 → ¬ a = 34 → ¬ a = 35 → ¬ a = 37 → ¬ a = 38 → ¬ a = 39 → S a = M a) ∧ ∀ k, ¬ k = 7 → ¬ k = 8 → ¬ k = 15 → S 26 k = M 26 k
theorem FrE.rfl (M : Mem) : FrE M M := fun _ _ _ _ => Eq.refl _
theorem FrE.of {M S : Mem} (h : FrC M S) : FrE M S := fun a a1 a2 a3 => h.1 a (by omega) (by omega) (by omega) (by omega) a2 a3
theorem FrE.o10 {M S : Mem} (h : ∀ a, ¬ a = 10 → S a = M a) : FrE M S := fun a a1 _ _ => h a (by omega)
theorem FrE.trans {M S T : Mem} (h : FrE M S) (g : FrE S T) : FrE M T := fun a a1 a2 a3 => (g a a1 a2 a3).trans (h a a1 a2 a3)
theorem FrQ.rfl (M : Mem) : FrQ M M := ⟨fun _ _ _ _ _ _ _ _ => Eq.refl _, fun _ _ _ _ => Eq.refl _⟩
theorem FrQ.trans {M S T : Mem} (h : FrQ M S) (g : FrQ S T) : FrQ M T := ⟨fun a a1 a2 a3 a4 a5 a6 a7 => (g.1 a a1 a2 a3 a4 a5 a6 a7).trans (h.1 a a1 a2 a3 a4 a5 a6 a7), fun k h1 h2 h3 => (g.2 k h1 h2 h3).trans (h.2 k h1 h2 h3)⟩
theorem FrQ.of {M S : Mem} (h : FrW M S) : FrQ M S := ⟨fun a a1 _ a3 a4 a5 a6 a7 => h.1 a a1 a3 a4 a5 a6 a7, fun k _ _ h3 => h.2 k h3⟩
theorem FrQ.o78 {M S : Mem} (h : ∀ a, ¬ a = 37 → ¬ a = 38 → S a = M a) : FrQ M S := ⟨fun a _ _ _ _ a5 a6 _ => h a a5 a6, fun k _ _ _ => by rw [h 26 (by decide) (by decide)]⟩
theorem ZS.keep {M S : Mem} (h : ZS M) (h1 : ∀ a, 6 ≤ a → a ≤ 9 → S a = M a) (h26 : S 26 16 = M 26 16) (h36 : S 36 = M 36) : ZS S := by
  obtain ⟨sz, sd, z1, z2, z3⟩ := h
  exact ⟨sz, sd, z1.keep (h1 6 (by decide) (by decide)) (h1 7 (by decide) (by decide)) (h1 8 (by decide) (by decide)) (h1 9 (by decide) (by decide)), z2.keep h26 h36, z3⟩
theorem IT.E {t : Nat → Nat} {n ns : Nat} {sn : Nat → Nat} {od : Nat} {M S : Mem} (h : IT t n ns sn od M) (f : FrE M S) : IT t n ns sn od S := h.keep (fun a a1 a2 => f a (by omega) (by omega) (by omega)) (by rw [f 0 (by decide) (by decide) (by decide)]) (f 31 (by decide) (by decide) (by decide)) (f 33 (by decide) (by decide) (by decide)) (by rw [f 26 (by decide) (by decide) (by decide)]) (by rw [f 26 (by decide) (by decide) (by decide)]) (by rw [f 26 (by decide) (by decide) (by decide)])
theorem IT.Q {t : Nat → Nat} {n ns : Nat} {sn : Nat → Nat} {od : Nat} {M S : Mem} (h : IT t n ns sn od M) (f : FrQ M S) : IT t n ns sn od S := h.keep (fun a a1 a2 => f.1 a (by omega) (by omega) (by omega) (by omega) (by omega) (by omega) (by omega)) (by rw [f.1 0 (by decide) (by decide) (by decide) (by decide) (by decide) (by decide) (by decide)]) (f.1 31 (by decide) (by decide) (by decide) (by decide) (by decide) (by decide) (by decide)) (f.1 33 (by decide) (by decide) (by decide) (by decide) (by decide) (by decide) (by decide)) (f.2 6 (by decide) (by decide) (by decide)) (f.2 10 (by decide) (by decide) (by decide)) (f.2 12 (by decide) (by decide) (by decide))
theorem Inv.E {M S : Mem} (h : Inv M) (f : FrE M S) : Inv S := by
  obtain ⟨⟨t, n, ns, sn, od, h1⟩, h2, h3, h4⟩ := h
  exact ⟨⟨t, n, ns, sn, od, h1.E f⟩, HS_keep h2 (fun a _ _ => f a (by omega) (by omega) (by omega)) (fun a _ _ => f a (by omega) (by omega) (by omega)), h3.keep (fun a _ _ => f a (by omega) (by omega) (by omega)) (by rw [f 26 (by decide) (by decide) (by decide)]) (f 36 (by decide) (by decide) (by decide)), by rw [f 0 (by decide) (by decide) (by decide), f 26 (by decide) (by decide) (by decide)]; exact h4⟩
theorem Inv.Q {M S : Mem} (h : Inv M) (f : FrQ M S) : Inv S := by
  obtain ⟨⟨t, n, ns, sn, od, h1⟩, h2, h3, h4⟩ := h
  have e : ∀ a, a < 24 ∨ (27 ≤ a ∧ a ≤ 29) ∨ a = 36 → S a = M a := fun a ha => f.1 a (by omega) (by omega) (by omega) (by omega) (by omega) (by omega) (by omega)
  exact ⟨⟨t, n, ns, sn, od, h1.Q f⟩, HS_keep h2 (fun a _ _ => e a (by omega)) (fun a _ _ => e a (by omega)), h3.keep (fun a _ _ => e a (by omega)) (f.2 16 (by decide) (by decide) (by decide)) (e 36 (by omega)), by rw [e 0 (by omega), f.2 4 (by decide) (by decide) (by decide)]; exact h4⟩
theorem IT.wf {t : Nat → Nat} {n ns : Nat} {sn : Nat → Nat} {od : Nat} {M : Mem} (h : IT t n ns sn od M) : WF (chN t n) (fcN t) := wf_text h.1.1.2.1
/-- the reference reads its text anew -/
theorem rd_s {t : Nat → Nat} {n ns : Nat} {sn : Nat → Nat} {od : Nat} {M : Mem} (h : IT t n ns sn od M) : ∃ M', fX5_reads M = some (faultI t n, M') ∧ KM (chN t n) (fcN t) ns sn od M' ∧ FrQ M M' := by
  obtain ⟨⟨a1, a2, a3⟩, ⟨b1, b2, b3⟩, c⟩ := h
  obtain ⟨M', m1, m2, m3, m4⟩ := reads_s b1
  have f : FrQ M M' := ⟨fun a x1 x2 _ _ _ _ _ => m2 a x1 x2, fun k x1 x2 _ => m3 k x1 x2⟩
  refine ⟨M', m1, ⟨m4, ⟨(m3 10 (by decide) (by decide)).trans b2.1, b2.2.1, fun k hk => by rw [m2 33 (by decide) (by decide)]; exact b2.2.2 k hk⟩, (m3 12 (by decide) (by decide)).trans b3⟩, f⟩
/-- both sides answer alike -/
def Bth (f g : Mem → Option (Int32 × Mem)) (M : Mem) : Prop := ∃ v M1 M2, f M = some (v, M1) ∧ g M1 = some (v, M2) ∧ Inv M2
/-- a question: the class's answer leaves FrE, the reference reads, then answers or not -/
theorem bth_q {f g : Mem → Option (Int32 × Mem)} {M : Mem} (h : Inv M) (hq : ∀ t n ns sn od, IT t n ns sn od M → ∃ v M1, f M = some (v, M1) ∧ FrE M M1 ∧ (IT t n ns sn od M1 → ∀ M2, fX5_reads M1 = some (faultI t n, M2) → KM (chN t n) (fcN t) ns sn od M2 → FrQ M1 M2 → ∃ M3, g M1 = some (v, M3) ∧ FrQ M2 M3)) : Bth f g M := by
  have h' := h
  obtain ⟨⟨t, n, ns, sn, od, h1⟩, _⟩ := h'
  obtain ⟨v, M1, e1, e2, e3⟩ := hq t n ns sn od h1
  have i1 := h1.E e2
  obtain ⟨M2, m1, m2, m3⟩ := rd_s i1
  obtain ⟨M3, n1, n2⟩ := e3 i1 M2 m1 m2 m3
  exact ⟨v, M1, M3, e1, n1, (h.E e2).Q (m3.trans n2)⟩
