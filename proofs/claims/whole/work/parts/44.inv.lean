/-! the invariant of the law's steps: the class's objects hold what the reference's rows hold -/
def Hx (G : GT) (q : Nat) : Nat → Int32 := fun j => G 25 0 (289 * q + j)
def Inv (t : Nat) (G : GT) : Prop := ∃ hs nx len : Nat, (G 22 0 3 = nI hs ∧ G 12 0 1 = nI hs ∧ hs ≤ 4 ∧ G 12 0 2 = nI nx ∧ nx < 4) ∧ (Sr G 0 (G 23 0) ∧ Wf t (G 23 0)) ∧ (∀ h, h < hs → Sr G (2 + (nx + 4 - hs + h) % 4) (Hx G h) ∧ Wf t (Hx G h)) ∧ ((G 20 0 2 = nI 0 ∧ G 22 0 5 = nI 0) ∨ (G 20 0 2 = nI 1 ∧ G 22 0 5 = nI 1 ∧ Sr G 1 (G 26 0) ∧ Wf t (G 26 0))) ∧ (G 14 0 1 = nI len ∧ G 22 0 7 = nI len ∧ len ≤ 50 ∧ ∀ j, j < 50 → G 15 0 j = G 27 0 j ∧ isC (G 27 0 j) = true)
theorem inv_mono (t : Nat) (G : GT) (h : Inv t G) : Inv (t + 1) G := by
  obtain ⟨hs, nx, len, h1, h2, h3, h4, h5⟩ := h
  refine ⟨hs, nx, len, h1, ⟨h2.1, h2.2.mono⟩, fun q hq => ⟨(h3 q hq).1, (h3 q hq).2.mono⟩, ?_, h5⟩
  rcases h4 with h4 | ⟨a, b, c, d⟩
  · exact Or.inl h4
  · exact Or.inr ⟨a, b, c, d.mono⟩
/-- what the class may change without changing its state: its caches -/
def FrC (G G' : GT) : Prop := ∀ a b, ¬ ((16 ≤ a ∧ a ≤ 19) ∨ a = 21 ∨ ((a = 1 ∨ a = 2) ∧ b = 6)) → G' a b = G a b
/-- what the reference may change without changing its state -/
def FrM (G G' : GT) : Prop := (∀ a b, ¬ ((a = 22 ∨ a = 23 ∨ a = 24 ∨ a = 28) ∧ b = 0) → G' a b = G a b) ∧ (∀ s, s ≠ 8 → G' 22 0 s = G 22 0 s) ∧ E9 (G 23 0) (G' 23 0)
theorem FrC.rf (G : GT) : FrC G G := fun _ _ _ => rfl
theorem FrM.rf (G : GT) : FrM G G := ⟨fun _ _ _ => rfl, fun _ _ => rfl, fun _ _ => rfl⟩
theorem FrC.tr {G H K : GT} (h1 : FrC G H) (h2 : FrC H K) : FrC G K := fun a b h => (h2 a b h).trans (h1 a b h)
theorem inv_C {t : Nat} {G G' : GT} (hI : Inv t G) (h : FrC G G') : Inv t G' := by
  obtain ⟨hs, nx, len, ⟨h1, h2, h3, h4, h5⟩, h6, h7, h8, h9, h10, h11, h12⟩ := hI
  have e : ∀ a, 22 ≤ a → G' a 0 = G a 0 := fun a ha => h a 0 (by omega)
  have eH : ∀ q, Hx G' q = Hx G q := fun q => by unfold Hx; rw [e 25 (by decide)]
  refine ⟨hs, nx, len, ⟨by rw [e 22 (by decide)]; exact h1, by rw [h 12 0 (by omega)]; exact h2, h3, by rw [h 12 0 (by omega)]; exact h4, h5⟩, ⟨?_, by rw [e 23 (by decide)]; exact h6.2⟩, fun q hq => ⟨?_, by rw [eH]; exact (h7 q hq).2⟩, ?_, by rw [h 14 0 (by omega)]; exact h9, by rw [e 22 (by decide)]; exact h10, h11, fun j hj => by rw [h 15 0 (by omega), e 27 (by decide)]; exact h12 j hj⟩
  · rw [e 23 (by decide)]; exact h6.1.of (fun a p q => h a 0 (by omega))
  · rw [eH]
    have hm : (nx + 4 - hs + q) % 4 < 4 := Nat.mod_lt _ (by decide)
    exact (h7 q hq).1.of (fun a p q => h a _ (by omega))
  · rw [h 20 0 (by omega), e 22 (by decide), e 26 (by decide)]
    rcases h8 with h8 | ⟨a, b, c, d⟩
    · exact Or.inl h8
    · exact Or.inr ⟨a, b, c.of (fun a p q => h a 1 (by omega)), d⟩
theorem inv_M {t : Nat} {G G' : GT} (hI : Inv t G) (h : FrM G G') : Inv t G' := by
  obtain ⟨hs, nx, len, ⟨h1, h2, h3, h4, h5⟩, h6, h7, h8, h9, h10, h11, h12⟩ := hI
  obtain ⟨f1, f2, f3⟩ := h
  have eS : ∀ a i, a < 22 → G' a i = G a i := fun a i ha => f1 a i (by omega)
  have eH : ∀ q, Hx G' q = Hx G q := fun q => by unfold Hx; rw [f1 25 0 (by omega)]
  refine ⟨hs, nx, len, ⟨by rw [f2 3 (by decide)]; exact h1, by rw [eS 12 0 (by decide)]; exact h2, h3, by rw [eS 12 0 (by decide)]; exact h4, h5⟩, ⟨f3.sr (h6.1.of (fun a p q => eS a 0 (by omega))), f3.wf h6.2⟩, fun q hq => ⟨by rw [eH]; exact (h7 q hq).1.of (fun a p r => eS a _ (by omega)), by rw [eH]; exact (h7 q hq).2⟩, ?_, by rw [eS 14 0 (by decide)]; exact h9, by rw [f2 7 (by decide)]; exact h10, h11, fun j hj => by rw [eS 15 0 (by decide), f1 27 0 (by omega)]; exact h12 j hj⟩
  rw [eS 20 0 (by decide), f2 5 (by decide), f1 26 0 (by omega)]
  rcases h8 with h8 | ⟨a, b, c, d⟩
  · exact Or.inl h8
  · exact Or.inr ⟨a, b, c.of (fun a p q => eS a 1 (by omega)), d⟩
/-- an act: the class remembers and changes its state 0, then the reference records and changes its row -/
def FrA (G G' : GT) : Prop := ∀ a b, ¬ ((16 ≤ a ∧ a ≤ 19) ∨ a = 21 ∨ ((a = 1 ∨ a = 2) ∧ b = 6) ∨ (1 ≤ a ∧ a ≤ 11 ∧ b = 0)) → G' a b = G a b
def FrB (G G' : GT) : Prop := (∀ a b, ¬ ((a = 22 ∨ a = 23 ∨ a = 24 ∨ a = 28) ∧ b = 0) → G' a b = G a b) ∧ (∀ s, s ≠ 8 → G' 22 0 s = G 22 0 s)
theorem act {t : Nat} {G : GT} (hI : Inv t G) : ∃ Ga, fX0_remember G 0 = some Ga ∧ Sr Ga 0 (G 23 0) ∧ (∀ a, 14 ≤ a → ∀ b, Ga a b = G a b) ∧ (∀ a b, 1 ≤ a → a ≤ 11 → (b = 0 ∨ b = 1 ∨ b = 6) → Ga a b = G a b) ∧ ∀ G1, FrA Ga G1 → ∀ G1', FrM G1 G1' → ∃ Gb, fX8_record G1' = some Gb ∧ (∀ a b, ¬ ((a = 25 ∨ a = 22) ∧ b = 0) → Gb a b = G1' a b) ∧ (∀ k, k ≠ 3 → Gb 22 0 k = G1' 22 0 k) ∧ ∀ G2, FrB Gb G2 → Sr G2 0 (G2 23 0) → Wf (t + 1) (G2 23 0) → Inv (t + 1) G2 := by
  obtain ⟨hs, nx, len, ⟨h1, h2, h3, h4, h5⟩, h6, h7, h8, h9, h10, h11, h12⟩ := hI
  obtain ⟨Ga, r1, r2, r3, r4, r5⟩ := remember_e G h4 h5 h2 h3
  refine ⟨Ga, r1, h6.1.of (fun a p q => r2 a 0 (by omega) (by omega)), fun a ha b => r2 a b (by omega) (by omega), fun a b p q r => r2 a b (by omega) (by omega), ?_⟩
  intro G1 fA G1' fM
  obtain ⟨m1, m2, m3⟩ := fM
  have e22 : G1 22 0 = G 22 0 := (fA 22 0 (by omega)).trans (r2 22 0 (by omega) (by omega))
  have e25 : G1' 25 0 = G 25 0 := (m1 25 0 (by omega)).trans ((fA 25 0 (by omega)).trans (r2 25 0 (by omega) (by omega)))
  have e23 : E9 (G 23 0) (G1' 23 0) := by
    have : G1 23 0 = G 23 0 := (fA 23 0 (by omega)).trans (r2 23 0 (by omega) (by omega))
    rw [← this]; exact m3
  have e26 : G1' 26 0 = G 26 0 := (m1 26 0 (by omega)).trans ((fA 26 0 (by omega)).trans (r2 26 0 (by omega) (by omega)))
  have e27 : G1' 27 0 = G 27 0 := (m1 27 0 (by omega)).trans ((fA 27 0 (by omega)).trans (r2 27 0 (by omega) (by omega)))
  obtain ⟨Gb, b1, b2, b3, b4, b5, b6⟩ := record8 G1' (hs := hs) (by rw [m2 3 (by decide), e22]; exact h1) h3
  refine ⟨Gb, b1, b2, b3, ?_⟩
  intro G2 fB hS hW
  obtain ⟨f1, f2⟩ := fB
  -- the class's cells, seen at the end
  have lo : ∀ a b, a < 22 → ¬ ((16 ≤ a ∧ a ≤ 19) ∨ a = 21 ∨ ((a = 1 ∨ a = 2) ∧ b = 6) ∨ (1 ≤ a ∧ a ≤ 11 ∧ b = 0)) → G2 a b = Ga a b := fun a b ha hn => by
    rw [f1 a b (by omega), b2 a b (by omega), m1 a b (by omega), fA a b hn]
  have hi25 : G2 25 0 = Gb 25 0 := f1 25 0 (by omega)
  have hi26 : G2 26 0 = G 26 0 := by rw [f1 26 0 (by omega), b2 26 0 (by omega), e26]
  have hi27 : G2 27 0 = G 27 0 := by rw [f1 27 0 (by omega), b2 27 0 (by omega), e27]
  have h22 : ∀ k, k ≠ 3 → k ≠ 8 → G2 22 0 k = G 22 0 k := fun k p q => by rw [f2 k q, b3 k p, m2 k q, e22]
  refine ⟨min 4 (hs + 1), (nx + 1) % 4, len, ⟨by rw [f2 3 (by decide)]; exact b4, by rw [lo 12 0 (by decide) (by omega)]; exact r5, by omega, by rw [lo 12 0 (by decide) (by omega)]; exact r4, Nat.mod_lt _ (by decide)⟩, ⟨hS, hW⟩, fun q hq => ?_, ?_, by rw [lo 14 0 (by decide) (by omega), r2 14 0 (by omega) (by omega)]; exact h9, by rw [h22 7 (by decide) (by decide)]; exact h10, h11, fun j hj => by rw [lo 15 0 (by decide) (by omega), r2 15 0 (by omega) (by omega), hi27]; exact h12 j hj⟩
  · -- the history
    have put : ∀ (i : Nat) (x : Nat → Int32), 1 ≤ i → i ≤ 5 → Sr Ga i x → E9 x (Hx G2 q) → Wf t x → Sr G2 i (Hx G2 q) ∧ Wf (t + 1) (Hx G2 q) := by
      intro i x hi1 hi5 s w z
      exact ⟨w.sr (s.of (fun a p r => lo a i (by omega) (by omega))), (w.wf z).mono⟩
    by_cases e : hs = 4
    · subst e
      obtain ⟨c1, c2⟩ := b6 rfl
      by_cases q3 : q = 3
      · subst q3
        have hidx : 2 + ((nx + 1) % 4 + 4 - min 4 (4 + 1) + 3) % 4 = 2 + nx := by omega
        rw [hidx]
        refine put (2 + nx) (G 23 0) (by omega) (by omega) (r3 _ h6.1) (fun j hj => ?_) h6.2
        unfold Hx
        rw [hi25, c2 j hj]
        exact e23 j hj
      · have hm : (nx + 4 - 4 + (q + 1)) % 4 < 4 := Nat.mod_lt _ (by decide)
        have hidx : 2 + ((nx + 1) % 4 + 4 - min 4 (4 + 1) + q) % 4 = 2 + (nx + 4 - 4 + (q + 1)) % 4 := by omega
        rw [hidx]
        obtain ⟨s1, s2⟩ := h7 (q + 1) (by omega)
        refine put _ (Hx G (q + 1)) (by omega) (by omega) (s1.of (fun a p r => r2 a _ (by omega) (by omega))) (fun j hj => ?_) s2
        unfold Hx
        rw [hi25, c1 q (by omega) j hj, e25]
    · obtain ⟨c1, c2⟩ := b5 (by omega)
      by_cases q3 : q = hs
      · subst q3
        have hidx : 2 + ((nx + 1) % 4 + 4 - min 4 (q + 1) + q) % 4 = 2 + nx := by omega
        rw [hidx]
        refine put (2 + nx) (G 23 0) (by omega) (by omega) (r3 _ h6.1) (fun j hj => ?_) h6.2
        unfold Hx
        rw [hi25, c2 j hj]
        exact e23 j hj
      · have hm : (nx + 4 - hs + q) % 4 < 4 := Nat.mod_lt _ (by decide)
        have hidx : 2 + ((nx + 1) % 4 + 4 - min 4 (hs + 1) + q) % 4 = 2 + (nx + 4 - hs + q) % 4 := by omega
        rw [hidx]
        obtain ⟨s1, s2⟩ := h7 q (by omega)
        refine put _ (Hx G q) (by omega) (by omega) (s1.of (fun a p r => r2 a _ (by omega) (by omega))) (fun j hj => ?_) s2
        unfold Hx
        rw [hi25, c1 q (by omega) j hj, e25]
  · rw [lo 20 0 (by decide) (by omega), r2 20 0 (by omega) (by omega), h22 5 (by decide) (by decide), hi26]
    rcases h8 with h8 | ⟨a, b, c, d⟩
    · exact Or.inl h8
    · exact Or.inr ⟨a, b, c.of (fun a p q => (lo a 1 (by omega) (by omega)).trans (r2 a 1 (by omega) (by omega))), d.mono⟩
