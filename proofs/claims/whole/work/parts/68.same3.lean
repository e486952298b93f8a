/-! safePull: the class's comparison -/
theorem WL_s (g x : Nat → Int32) (ws j : Nat) : WL g x ws (j + 1) = if rw' g x ws (rs g j) = nN then WL g x ws j else WL g x ws j ++ [rw' g x ws (rs g j)] := rfl
theorem WL_app (g x : Nat → Int32) (ws j : Nat) : ∀ d, ∃ r, WL g x ws (j + d) = WL g x ws j ++ r
  | 0 => ⟨[], (List.append_nil _).symm⟩
  | d + 1 => by
    obtain ⟨r, h⟩ := WL_app g x ws j d
    rw [← Nat.add_assoc, WL_s, h]
    by_cases e : rw' g x ws (rs g (j + d)) = nN
    · exact ⟨r, by rw [if_pos e]⟩
    · exact ⟨r ++ [rw' g x ws (rs g (j + d))], by rw [if_neg e, List.append_assoc]⟩
theorem WL_skip {g x : Nat → Int32} {ws a : Nat} : ∀ d, (∀ i, a ≤ i → i < a + d → rw' g x ws (rs g i) = nN) → WL g x ws (a + d) = WL g x ws a
  | 0, _ => rfl
  | d + 1, h => by
    rw [← Nat.add_assoc, WL_s, if_pos (h (a + d) (by omega) (by omega))]
    exact WL_skip d (fun i p q => h i p (by omega))
theorem nw_spec (x : Nat → Int32) (ws : Nat) : ∀ d a, a ≤ nw x ws d a ∧ nw x ws d a ≤ a + d ∧ (∀ i, a ≤ i → i < nw x ws d a → rw' x x ws (rs x i) = nN) ∧ (nw x ws d a < a + d → ¬ rw' x x ws (rs x (nw x ws d a)) = nN)
  | 0, a => ⟨Nat.le_refl _, Nat.le_refl _, fun i p q => absurd q (Nat.not_lt.mpr p), fun q => absurd q (Nat.lt_irrefl _)⟩
  | d + 1, a => by
    unfold nw
    by_cases e : rw' x x ws (rs x a) = nN
    · rw [if_pos e]
      obtain ⟨h1, h2, h3, h4⟩ := nw_spec x ws d (a + 1)
      refine ⟨by omega, by omega, fun i p q => ?_, fun q => h4 (by omega)⟩
      by_cases c : i = a
      · rw [c]; exact e
      · exact h3 i (by omega) q
    · rw [if_neg e]
      exact ⟨Nat.le_refl _, by omega, fun i p q => absurd q (Nat.not_lt.mpr p), fun _ => e⟩
theorem WL_0 (g x : Nat → Int32) (ws : Nat) : WL g x ws 0 = [] := rfl
theorem bI_f : bI false = nI 0 := rfl
theorem bI_t : bI true = nI 1 := rfl
theorem same_e {G : GT} {z x : Nat → Int32} {ws : Nat} (h1 : RD G 1 z z ws) (h0 : RD G 0 x x ws) : fX3_sameWordsAs G 1 0 = some (bI (decide (WL z z ws (cn (bg z) 40) = WL x x ws (cn (bg x) 40)))) := by
  have hz := runs_le z
  have hx := runs_le x
  unfold fX3_sameWordsAs
  exact lp_fu (fun n a j => fX3_sameWordsAs_4 G 1 0 n (nI a) (nI j)) (cn (bg z) 40) (fun _ _ => some (bI (decide (WL z z ws (cn (bg z) 40) = WL x x ws (cn (bg x) 40))))) (fun a j => a ≤ cn (bg x) 40 ∧ WL z z ws j = WL x x ws a) (by omega)
    (fun n a j hj hP => by
      obtain ⟨ha, hE⟩ := hP
      show (∃ s', (s' ≤ cn (bg x) 40 ∧ WL z z ws (j + 1) = WL x x ws s') ∧ fX3_sameWordsAs_4 G 1 0 (n + 1) (nI a) (nI j) = fX3_sameWordsAs_4 G 1 0 n (nI s') (nI (j + 1)) ∧ _ = _) ∨ fX3_sameWordsAs_4 G 1 0 (n + 1) (nI a) (nI j) = _
      rw [fX3_sameWordsAs_4, h1.1, wordOf3 h1 hj, bd_some, nextWord_e h0 ha, bd_some, bd_some]
      simp only [lit, litN5, nI_add]
      rw [if_neg (show ¬ nI (cn (bg z) 40) ≤ nI j by rw [le_nI (by omega) (by omega)]; omega)]
      by_cases e : rw' z z ws (rs z j) = nN
      · refine Or.inl ⟨a, ⟨ha, ?_⟩, by rw [if_pos e], trivial⟩
        rw [WL_s, if_pos e]
        exact hE
      · rw [if_neg e]
        obtain ⟨n1, n2, n3, n4⟩ := nw_spec x ws (cn (bg x) 40 - a) a
        generalize nw x ws (cn (bg x) 40 - a) a = b at n1 n2 n3 n4
        have hb : WL x x ws b = WL x x ws a := by
          have := WL_skip (g := x) (x := x) (ws := ws) (a := a) (b - a) (fun i p q => n3 i p (by omega))
          rwa [show a + (b - a) = b by omega] at this
        obtain ⟨r1, er1⟩ := WL_app z z ws (j + 1) (cn (bg z) 40 - (j + 1))
        rw [show j + 1 + (cn (bg z) 40 - (j + 1)) = cn (bg z) 40 by omega, WL_s, if_neg e, hE] at er1
        by_cases c : b < cn (bg x) 40
        · have e2 := n4 (by omega)
          rw [wordOf3 h0 c, bd_some]
          by_cases d : rw' z z ws (rs z j) = rw' x x ws (rs x b)
          · refine Or.inl ⟨b + 1, ⟨by omega, ?_⟩, by rw [if_pos d], trivial⟩
            rw [WL_s, if_neg e, WL_s, if_neg e2, hb, hE, d]
          · refine Or.inr ?_
            rw [if_neg d]
            obtain ⟨r2, er2⟩ := WL_app x x ws (b + 1) (cn (bg x) 40 - (b + 1))
            rw [show b + 1 + (cn (bg x) 40 - (b + 1)) = cn (bg x) 40 by omega, WL_s, if_neg e2, hb] at er2
            rw [decide_eq_false (fun q => d (by
              rw [er1, er2, List.append_assoc, List.append_assoc] at q
              have q2 := List.append_cancel_left q
              exact (List.cons.inj q2).1)), bI_f]
        · obtain rfl : b = cn (bg x) 40 := by omega
          refine Or.inr ?_
          rw [wordOf3_off h0 (Nat.le_refl _) (by omega), bd_some, if_neg e, decide_eq_false (fun q => by
            rw [er1, hb, List.append_assoc] at q
            have q2 := congrArg List.length q
            simp at q2), bI_f])
    (fun n a hP => by
      obtain ⟨ha, hE⟩ := hP
      show fX3_sameWordsAs_4 G 1 0 (n + 1) (nI a) (nI (cn (bg z) 40)) = _
      have i1 := isw_le z z ws
      have i2 := isw_le x x ws
      rw [fX3_sameWordsAs_4, h1.1, if_pos (Int32.le_refl _), wordRuns_e h1, bd_some, wordRuns_e h0, bd_some]
      simp only [lit]
      by_cases c : cn (isw z z ws) 40 = cn (isw x x ws) 40
      · rw [if_pos (show nI (cn (isw z z ws) 40) = nI (cn (isw x x ws) 40) by rw [c])]
        obtain ⟨r2, er2⟩ := WL_app x x ws a (cn (bg x) 40 - a)
        rw [show a + (cn (bg x) 40 - a) = cn (bg x) 40 by omega] at er2
        rw [← WL_len z z ws, ← WL_len x x ws, er2, hE, List.length_append] at c
        have hr : r2 = [] := List.eq_nil_of_length_eq_zero (by omega)
        rw [decide_eq_true (show WL z z ws (cn (bg z) 40) = WL x x ws (cn (bg x) 40) by rw [er2, hr, List.append_nil]; exact hE), bI_t]
      · rw [if_neg (show ¬ nI (cn (isw z z ws) 40) = nI (cn (isw x x ws) 40) by rw [eq_nI (by omega) (by omega)]; exact c), decide_eq_false (fun q => c (by rw [← WL_len z z ws, ← WL_len x x ws, q])), bI_f])
    0 0 (Nat.zero_le _) ⟨Nat.zero_le _, by rw [WL_0, WL_0]⟩
/-- the class's loop over the strengths -/
theorem safe7 {t : Nat} {G : GT} (hI : Inv t G) {ws : Nat} (hW : Wd (G 23 0) ws) : ∀ (k n : Nat) (G' : GT), k < n → k < 9 → FrC G G' → RD G' 0 (G 23 0) (G 23 0) ws → ∃ G'', fX7_safePull_8 n G' (nI (k + 1)) = some (nI (bsf (sbs (G 23 0) ws) k), G'') ∧ FrC G G'' := by
  intro k
  induction k with
  | zero =>
    intro n G' hn _ fC hR
    obtain ⟨m, rfl⟩ : ∃ m, n = m + 1 := ⟨n - 1, by omega⟩
    refine ⟨G', ?_, fC⟩
    rw [fX7_safePull_8, if_pos (by decide)]
    rfl
  | succ k ih =>
    intro n G' hn hk fC hR
    obtain ⟨m, rfl⟩ : ∃ m, n = m + 1 := ⟨n - 1, by omega⟩
    have e23 : G' 23 0 = G 23 0 := fC 23 0 (by omega)
    obtain ⟨ws', G5, G8, t1, t2, t3, t4, t5, t6, t7, t8⟩ := tried (inv_C hI fC) (nI (k + 1 + 1))
    rw [e23] at t1 t4 t5 t6 t7
    have hz := hI.kz
    obtain ⟨-, -, -, c4, -⟩ := sl_rel (nI (k + 1 + 1)) 39 0 (G 23 0) (fun j => G 23 0 (40 + j)) (G 23 0) (by decide) hz (fun _ _ => rfl) (fun _ _ => rfl)
    have hws : ws' = ws := by
      rw [← wz_eq t6, ← wz_eq hW]
      unfold wz
      rw [c4 80 (by decide)]
    subst hws
    have hR8 : RD G8 0 (G 23 0) (G 23 0) ws' := hR.of (fun a p q => t8 a 0 (by omega) (by omega))
    have hF8 : FrC G G8 := fC.tr t3
    have hs := same_e t4 hR8
    rw [← sb_dcd] at hs
    rw [fX7_safePull_8, t1, bd2_some, t2, bd_some, hs, bd_some]
    simp only [lit]
    rw [if_neg (show ¬ nI (k + 1 + 1) ≤ nI 1 by rw [le_nI (by omega) (by decide)]; omega), bsf]
    by_cases e : sb (G 23 0) ws' (nI (k + 1 + 1)) 21 = true
    · refine ⟨G8, ?_, hF8⟩
      rw [if_neg (show ¬ bI (sb (G 23 0) ws' (nI (k + 1 + 1)) 21) = nI 0 by rw [bI_0, e]; decide), if_pos (show sbs (G 23 0) ws' (k + 2) = true from e)]
    · obtain ⟨G'', q1, q2⟩ := ih m G8 (by omega) (by omega) hF8 hR8
      refine ⟨G'', ?_, q2⟩
      rw [if_pos (show bI (sb (G 23 0) ws' (nI (k + 1 + 1)) 21) = nI 0 by rw [bI_0]; simpa using e), if_neg (show ¬ sbs (G 23 0) ws' (k + 2) = true from e), dec_nI (by omega)]
      exact q1
/-- 26 safePull -/
theorem op26 {t : Nat} {G : GT} (hI : Inv t G) : Stq t G (fX7_safePull G) (fun G1 => fX8_safePull G1) := by
  obtain ⟨ws, G1, s1, s2, s3, s4, hW⟩ := rr hI
  obtain ⟨G2, q1, q2⟩ := safe7 hI hW 8 FU G1 (by rw [FU_eq]; decide) (by decide) s2 s4
  have e23 : G2 23 0 = G 23 0 := q2 23 0 (by omega)
  obtain ⟨G3, m1, m2⟩ := safePull8 (G := G2) (by rw [e23]; exact hI.kz) (ws := ws) (by rw [e23]; exact hW)
  rw [e23] at m1
  refine stay hI (nI (bsf (sbs (G 23 0) ws) 8)) G2 G3 ?_ q2 m1 m2
  unfold fX7_safePull
  rw [s1, bd_some]
  exact q1
