/-! undo, keep, restore -/
/-- 13 undo -/
theorem op13 {t : Nat} {G : GT} (hI : Inv t G) : Stq t G (fX7_undo G) (fun G1 => fX8_undo G1) := by
  obtain ⟨hs, nx, len, ⟨h1, h2, h3, h4, h5⟩, h6, h7, h8, h9, h10, h11, h12⟩ := id hI
  unfold fX7_undo fX8_undo
  simp only [lit, st3_e]
  by_cases e : hs = 0
  · subst e
    refine stay hI nN G G ?_ (FrC.rf G) ?_ (FrM.rf G)
    · rw [h2, if_pos rfl, litN5]
    · show (if G 22 0 3 = _ then _ else _) = _
      rw [h1, if_pos rfl, litN5]
  · obtain ⟨G', q1, q2, q3, q4, q5⟩ := takeBack_e G h4 h5 h2 (by omega) h3
    have e22 : G' 22 0 = G 22 0 := q2 22 0 (by omega) (by omega)
    have hne : ¬ nI hs = nI 0 := by rw [eq_nI (by omega) (by decide)]; exact e
    have hm : up3 G' 22 0 3 (nI (hs - 1)) 22 0 3 = nI (hs - 1) := by rw [up3_r, if_pos ⟨rfl, rfl, rfl⟩]
    have hu := undo22 (up3 G' 22 0 3 (nI (hs - 1))) (hs := hs - 1) hm (by omega)
    generalize hy : fl (up3 G' 22 0 3 (nI (hs - 1)) 23 0) (fun j => up3 G' 22 0 3 (nI (hs - 1)) 25 0 (289 * (hs - 1) + j)) 289 = y at hu
    have hE : E9 (Hx G (hs - 1)) y := fun j hj => by
      rw [← hy, fl_in hj, up3_ne (show ¬ (25 = 22 ∧ 0 = 0) by omega), q2 25 0 (by omega) (by omega)]; rfl
    obtain ⟨s1, s2⟩ := h7 (hs - 1) (by omega)
    rw [show 2 + (nx + 4 - hs + (hs - 1)) % 4 = 2 + (nx + 3) % 4 by omega] at s1
    have hS := hE.sr (q3 _ s1)
    have eR : ∀ a b, ¬ ((a = 22 ∨ a = 23) ∧ b = 0) → wc (up3 G' 22 0 3 (nI (hs - 1))) 23 0 y a b = G' a b := fun a b h => by rw [wc_ne (by omega), up3_ne (by omega)]
    have e2 : ∀ s, s ≠ 3 → wc (up3 G' 22 0 3 (nI (hs - 1))) 23 0 y 22 0 s = G 22 0 s := fun s h => by rw [wc_ne (by omega), up3_r, if_neg (by omega), e22]
    refine ⟨nI (hs - 1), G', wc (up3 G' 22 0 3 (nI (hs - 1))) 23 0 y, ?_, ?_, inv_mono _ _ ⟨hs - 1, (nx + 3) % 4, len, ⟨?_, ?_, by omega, ?_, Nat.mod_lt _ (by decide)⟩, ⟨?_, ?_⟩, fun q hq => ?_, ?_, ?_, ?_, h11, fun j hj => ?_⟩⟩
    · rw [h2, if_neg hne, q1, bd_some, q5]
    · show (if G' 22 0 3 = _ then _ else _) = _
      rw [e22, h1, if_neg hne, sub_nI (by omega)]
      exact hu
    · rw [wc_ne (by omega)]; exact hm
    · rw [eR 12 0 (by omega)]; exact q5
    · rw [eR 12 0 (by omega)]; exact q4
    · rw [wc_at]; exact hS.of (fun a p q => eR a 0 (by omega))
    · rw [wc_at]; exact hE.wf s2
    · obtain ⟨a, b⟩ := h7 q (by omega)
      rw [show 2 + ((nx + 3) % 4 + 4 - (hs - 1) + q) % 4 = 2 + (nx + 4 - hs + q) % 4 by omega]
      have eH : Hx (wc (up3 G' 22 0 3 (nI (hs - 1))) 23 0 y) q = Hx G q := by unfold Hx; rw [eR 25 0 (by omega), q2 25 0 (by omega) (by omega)]
      rw [eH]
      have hlt : (nx + 4 - hs + q) % 4 < 4 := Nat.mod_lt _ (by decide)
      exact ⟨a.of (fun c p r => (eR c _ (by omega)).trans (q2 c _ (by omega) (by omega))), b⟩
    · rw [eR 20 0 (by omega), q2 20 0 (by omega) (by omega), e2 5 (by decide), eR 26 0 (by omega), q2 26 0 (by omega) (by omega)]
      rcases h8 with h8 | ⟨a, b, c, d⟩
      · exact Or.inl h8
      · exact Or.inr ⟨a, b, c.of (fun a p q => (eR a 1 (by omega)).trans (q2 a 1 (by omega) (by omega))), d⟩
    · rw [eR 14 0 (by omega), q2 14 0 (by omega) (by omega)]; exact h9
    · rw [e2 7 (by decide)]; exact h10
    · rw [eR 15 0 (by omega), q2 15 0 (by omega) (by omega), eR 27 0 (by omega), q2 27 0 (by omega) (by omega)]; exact h12 j hj
/-- 14 keep -/
theorem op14 {t : Nat} {G : GT} (hI : Inv t G) : Stq t G (fX7_keep G) (fun G1 => fX8_keep G1) := by
  obtain ⟨hs, nx, len, ⟨h1, h2, h3, h4, h5⟩, h6, h7, h8, h9, h10, h11, h12⟩ := id hI
  obtain ⟨G', q1, q2, q3⟩ := copyState G (i := 1) (j := 0) (by decide)
  unfold fX7_keep fX8_keep
  simp only [lit, st3_e]
  have hk := keep2 (up3 G' 20 0 2 (nI 1))
  have e23 : up3 G' 20 0 2 (nI 1) 23 0 = G 23 0 := by rw [up3_ne (by omega), q2 23 0 (by omega)]
  rw [e23] at hk
  generalize hy : fl (up3 G' 20 0 2 (nI 1) 26 0) (G 23 0) 289 = y at hk
  have hE : E9 (G 23 0) y := fun j hj => by rw [← hy, fl_in hj]
  generalize hG2 : up3 (wc (up3 G' 20 0 2 (nI 1)) 26 0 y) 22 0 5 (nI 1) = G2 at hk
  have eR : ∀ a b, ¬ ((a = 26 ∨ a = 22 ∨ a = 20) ∧ b = 0) → ¬ (1 ≤ a ∧ a ≤ 11 ∧ b = 1) → G2 a b = G a b := fun a b p q => by
    rw [← hG2, up3_ne (by omega), wc_ne (by omega), up3_ne (by omega), q2 a b q]
  have e22 : ∀ s, s ≠ 5 → G2 22 0 s = G 22 0 s := fun s p => by
    rw [← hG2, up3_r, if_neg (by omega), wc_ne (by omega), up3_ne (by omega), q2 22 0 (by omega)]
  have e11 : ∀ a, 1 ≤ a → a ≤ 11 → G2 a 1 = G' a 1 := fun a p q => by
    rw [← hG2, up3_ne (by omega), wc_ne (by omega), up3_ne (by omega)]
  have e2 : G2 23 0 = G 23 0 := eR 23 0 (by omega) (by omega)
  refine ⟨nI (cn (kn (G 23 0)) 40), up3 G' 20 0 2 (nI 1), G2, ?_, ?_, inv_mono _ _ ⟨hs, nx, len, ⟨?_, ?_, h3, ?_, h5⟩, ⟨?_, ?_⟩, fun q hq => ?_, Or.inr ⟨?_, ?_, ?_, ?_⟩, ?_, ?_, h11, fun j hj => ?_⟩⟩
  · rw [q1, bd_some, knotCount_e, bd_some, up3_ne (show ¬ (1 = 20 ∧ 0 = 0) by omega), q2 1 0 (by omega), kn_f hI.kv]
  · show fX8_keep_2 FU _ _ = _
    rw [hk, knots8 G2 (by rw [e2]; exact hI.kz), bd_some, e2]
  · rw [e22 3 (by decide)]; exact h1
  · rw [eR 12 0 (by omega) (by omega)]; exact h2
  · rw [eR 12 0 (by omega) (by omega)]; exact h4
  · rw [e2]; exact h6.1.of (fun a p q => eR a 0 (by omega) (by omega))
  · rw [e2]; exact h6.2
  · obtain ⟨a, b⟩ := h7 q hq
    have eH : Hx G2 q = Hx G q := by unfold Hx; rw [eR 25 0 (by omega) (by omega)]
    rw [eH]
    exact ⟨a.of (fun c p r => eR c _ (by omega) (by omega)), b⟩
  · rw [← hG2, up3_ne (by omega), wc_ne (by omega), up3_r, if_pos ⟨rfl, rfl, rfl⟩]
  · rw [← hG2, up3_r, if_pos ⟨rfl, rfl, rfl⟩]
  · have e26 : G2 26 0 = y := by rw [← hG2, up3_ne (by omega), wc_at]
    rw [e26]
    exact hE.sr ((q3 _ h6.1).of (fun a p q => e11 a p q))
  · have e26 : G2 26 0 = y := by rw [← hG2, up3_ne (by omega), wc_at]
    rw [e26]; exact hE.wf h6.2
  · rw [eR 14 0 (by omega) (by omega)]; exact h9
  · rw [e22 7 (by decide)]; exact h10
  · rw [eR 15 0 (by omega) (by omega), eR 27 0 (by omega) (by omega)]; exact h12 j hj
/-- 15 restore -/
theorem op15 {t : Nat} {G : GT} (hI : Inv t G) : Stq t G (fX7_restore G) (fun G1 => fX8_restore G1) := by
  obtain ⟨hs, nx, len, -, -, -, h8, -⟩ := id hI
  unfold fX7_restore fX8_restore
  simp only [lit, st3_e]
  rcases h8 with ⟨a, b⟩ | ⟨a, b, c, d⟩
  · refine stay hI nN G G ?_ (FrC.rf G) ?_ (FrM.rf G)
    · rw [a, if_pos rfl, litN5]
    · show (if G 22 0 5 = _ then _ else _) = _
      rw [b, if_pos rfl, litN5]
  · obtain ⟨Ga, r1, r2, r3, r4, r5⟩ := act2 hI
    obtain ⟨Gc, q1, q2, q3⟩ := copyState Ga (i := 0) (j := 1) (by decide)
    have hA : FrA Ga Gc := fun p q h => q2 p q (by omega)
    obtain ⟨Gb, b1, b2, b26, -, -, b3⟩ := r5 Gc hA _ (FrM.rf Gc)
    have e22 : Gc 22 0 = G 22 0 := by rw [q2 22 0 (by omega), r3 22 (by omega)]
    have hr := restore16 Gb
    rw [b26] at hr
    generalize hy : fl (Gb 23 0) (G 26 0) 289 = y at hr
    have hE : E9 (G 26 0) y := fun j hj => by rw [← hy, fl_in hj]
    have hS : Sr Gc 0 y := hE.sr (q3 _ (c.of (fun a p q => r4 a 1 p q (Or.inr (Or.inl rfl)))))
    have hW : Wf (t + 1) y := hE.wf d.mono
    refine ⟨nI (cn (kn y) 40), Gc, wc Gb 23 0 y, ?_, ?_, b3 y hS hW⟩
    · rw [a, if_neg (by decide), r1, bd_some, q1, bd_some, knotCount_e, bd_some, kn_f (kv_f hS.1)]
    · show (if Gc 22 0 5 = _ then _ else _) = _
      rw [e22, b, if_neg (by decide), b1, bd_some, hr, knots8 _ (by rw [wc_at]; exact hW.1), bd_some, wc_at]
