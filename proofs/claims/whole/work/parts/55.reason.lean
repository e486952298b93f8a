/-! reason, ifPulled -/
theorem wordOf8 (G : GT) (hz : Kz (G 23 0)) {ws j : Nat} (hW : Wd (G 23 0) ws) (hj : j < cn (bg (G 23 0)) 40) : fX8_wordOf G (nI j) = some (rw' (G 23 0) (G 23 0) ws (rs (G 23 0) j)) := by
  have hle := cn_le (bg (G 23 0)) 40
  obtain ⟨r1, -, -⟩ := rs_ok hj
  unfold fX8_wordOf
  rw [firstOf8 G hz (by omega), fo_rs hj, bd_some, wordFrom8 G hz hW (by omega), bd_some]
  rfl
def qz (x : Nat → Int32) (ws l j : Nat) : Bool := decide (¬ rw' x x ws (rs x j) = nN) && !knb x l (rw' x x ws (rs x j)).toNatClampNeg
theorem qz_w {x : Nat → Int32} {ws l j u : Nat} (e : rw' x x ws (rs x j) = nI u) (hu : u < 2 ^ 31) : qz x ws l j = !knb x l u := by
  unfold qz
  rw [e, cl_nI hu, decide_eq_true (show ¬ nI u = nN by rw [nI_nN hu]; exact id), Bool.true_and]
theorem qz_n {x : Nat → Int32} {ws l j : Nat} (e : rw' x x ws (rs x j) = nN) : qz x ws l j = false := by
  unfold qz
  rw [e, decide_eq_false (show ¬ ¬ nN = nN from fun q => q rfl), Bool.false_and]
def FF (q : Nat → Bool) : Nat → Nat → Int32
  | 0, _ => nI 0
  | d + 1, j => if q j = true then nI 100 + nI j else FF q d (j + 1)
theorem nI_m1 (j : Nat) : nI j + -(nI 1) = nI j - nI 1 := (Int32.sub_eq_add_neg _ _).symm
theorem reason28 (G : GT) (hz : Kz (G 23 0)) {ws l : Nat} (hW : Wd (G 23 0) ws) (hl : l < 6) : fX8_reason_28 G (nI l) FU (nI 0) (nI (cn (bg (G 23 0)) 40) - nI 1) = some (FF (qz (G 23 0) ws l) (cn (bg (G 23 0)) 40) 0) := by
  have hle := cn_le (bg (G 23 0)) 40
  have hws := hW.2.1
  have key : ∀ N, N ≤ cn (bg (G 23 0)) 40 → ∀ n, N < n → fX8_reason_28 G (nI l) n (FF (qz (G 23 0) ws l) (cn (bg (G 23 0)) 40 - N) N) (nI N - nI 1) = some (FF (qz (G 23 0) ws l) (cn (bg (G 23 0)) 40) 0) := by
    intro N
    induction N with
    | zero =>
      intro _ n hn
      obtain ⟨m, rfl⟩ : ∃ m, n = m + 1 := ⟨n - 1, by omega⟩
      rw [fX8_reason_28, if_pos (by decide), Nat.sub_zero]
    | succ j ih =>
      intro hj n hn
      obtain ⟨m, rfl⟩ : ∃ m, n = m + 1 := ⟨n - 1, by omega⟩
      have ih := ih (by omega) m (by omega)
      rw [show cn (bg (G 23 0)) 40 - j = (cn (bg (G 23 0)) 40 - (j + 1)) + 1 by omega, FF] at ih
      rw [sub_nI (show 1 ≤ j + 1 by omega), Nat.add_sub_cancel, fX8_reason_28, wordOf8 G hz hW (by omega), bd_some]
      simp only [lit, nI_m1]
      rw [if_neg (show ¬ nI j < nI 0 by rw [lt_nI (by omega) (by decide)]; omega)]
      rcases rw_cases (G 23 0) (G 23 0) hW (rs (G 23 0) j) with ⟨u, hu, e⟩ | e
      · have hq : qz (G 23 0) ws l j = !knb (G 23 0) l u := qz_w e (by omega)
        rw [e, if_neg (show ¬ nI u < nI 0 by rw [lt_nI (by omega) (by decide)]; omega), knows8 G hl (by omega), bd_some]
        rw [hq] at ih
        by_cases k : knb (G 23 0) l u = true
        · rw [if_pos k, if_neg (show ¬ nI 1 = nI 0 by decide)]
          rw [k, if_neg (show ¬ (!true) = true by decide)] at ih
          exact ih
        · rw [if_neg k, if_pos rfl]
          rw [show knb (G 23 0) l u = false by simpa using k, if_pos (show (!false) = true by decide)] at ih
          exact ih
      · have hq : qz (G 23 0) ws l j = false := qz_n e
        rw [e, if_pos (show nN < nI 0 by decide)]
        rw [hq, if_neg (show ¬ false = true by decide)] at ih
        exact ih
  have := key (cn (bg (G 23 0)) 40) (Nat.le_refl _) FU (by rw [FU_eq]; omega)
  rw [Nat.sub_self] at this
  exact this
theorem reason24 (G : GT) {x : Nat → Int32} {ws l : Nat} (hR : RD G 0 x x ws) (hC : Cl G x) (hW : Wd x ws) (hl : l < 6) : fX7_reason_24 G (nI l) FU (nI 0) = some (FF (qz x ws l) (cn (bg x) 40) 0, G) := by
  have hle := cn_le (bg x) 40
  have hws := hW.2.1
  exact lp_fu (fun n (_ : Unit) j => fX7_reason_24 G (nI l) n (nI j)) (cn (bg x) 40) (fun _ j => some (FF (qz x ws l) (cn (bg x) 40 - j) j, G)) (fun _ _ => True) (by omega)
    (fun n c j hj _ => by
      show (∃ s' : Unit, True ∧ fX7_reason_24 G (nI l) (n + 1) (nI j) = fX7_reason_24 G (nI l) n (nI (j + 1)) ∧ some (FF (qz x ws l) (cn (bg x) 40 - j) j, G) = some (FF (qz x ws l) (cn (bg x) 40 - (j + 1)) (j + 1), G)) ∨ fX7_reason_24 G (nI l) (n + 1) (nI j) = some (FF (qz x ws l) (cn (bg x) 40 - j) j, G)
      rw [fX7_reason_24, wordOf3 hR hj, hR.1, show cn (bg x) 40 - j = (cn (bg x) 40 - (j + 1)) + 1 by omega, FF, bd_some]
      simp only [lit, litN5, nI_add]
      rw [if_neg (show ¬ nI (cn (bg x) 40) ≤ nI j by rw [le_nI (by omega) (by omega)]; omega)]
      rcases rw_cases x x hW (rs x j) with ⟨u, hu, e⟩ | e
      · have hq : qz x ws l j = !knb x l u := qz_w e (by omega)
        rw [e, if_neg (show ¬ nI u = nN by rw [nI_nN (by omega)]; exact id), knows_e hC hl (by omega), bd_some, hq]
        by_cases k : knb x l u = true
        · exact Or.inl ⟨(), trivial, by rw [if_pos k, if_neg (show ¬ nI 1 = nI 0 by decide)], by rw [k, if_neg (show ¬ (!true) = true by decide)]⟩
        · exact Or.inr (by rw [if_neg k, if_pos rfl, show knb x l u = false by simpa using k, if_pos (show (!false) = true by decide)])
      · have hq : qz x ws l j = false := qz_n e
        exact Or.inl ⟨(), trivial, by rw [e, if_pos rfl], by rw [hq, if_neg (show ¬ false = true by decide)]⟩)
    (fun n c _ => by
      show fX7_reason_24 G (nI l) (n + 1) (nI (cn (bg x) 40)) = some (FF (qz x ws l) (cn (bg x) 40 - cn (bg x) 40) (cn (bg x) 40), G)
      rw [fX7_reason_24, hR.1, if_pos (Int32.le_refl _), Nat.sub_self]
      rfl)
    0 () (Nat.zero_le _) trivial
/-- 24 reason -/
theorem op24 {t : Nat} {G : GT} (hI : Inv t G) (a : Int32) : Stq t G (fX7_reason G a) (fun G1 => lf1 (fX8_reason G1 a) G1) := by
  refine stay2 hI ?_
  obtain ⟨ws, G1, s1, s2, s3, s4, hW⟩ := rr hI
  have e23 : G1 23 0 = G 23 0 := s3 23 0 (by omega)
  have hz1 : Kz (G1 23 0) := by rw [e23]; exact hI.kz
  have hW1 : Wd (G1 23 0) ws := by rw [e23]; exact hW
  have hL1 : Cl G1 (G 23 0) := hI.sr.cl.of (fun a p q => s3 a 0 (by omega))
  have hle := cn_le (isw (G 23 0) (G 23 0) ws) 40
  unfold fX7_reason fX8_reason
  rw [isL7, isL8, s1]
  simp only [lit, bd_some, litN5]
  by_cases h : nI 0 ≤ a ∧ a ≤ nI 5
  · have c0 : ¬ (if nI 0 ≤ a ∧ a ≤ nI 5 then nI 1 else nI 0) = nI 0 := by rw [if_pos h]; decide
    obtain ⟨l, -, hl, rfl⟩ := of_in h (by decide) (by decide)
    have hl : l < 6 := by omega
    have m1 : fX8_wordRuns G1 = some (nI (cn (isw (G 23 0) (G 23 0) ws) 40)) := by rw [wordRuns8 G1 hz1 hW1, e23]
    by_cases e : cn (isw (G 23 0) (G 23 0) ws) 40 = 0
    · exact ⟨nN, G1, by rw [if_neg c0, wordRuns_e s4, bd_some, e, if_pos rfl], s2, by rw [if_neg c0, m1, bd_some, e, if_pos rfl]⟩
    · have hne : ¬ nI (cn (isw (G 23 0) (G 23 0) ws) 40) = nI 0 := by rw [eq_nI (by omega) (by decide)]; exact e
      have k := reason28 G1 hz1 hW1 hl
      rw [e23] at k
      exact ⟨FF (qz (G 23 0) ws l) (cn (bg (G 23 0)) 40) 0, G1, by rw [if_neg c0, wordRuns_e s4, bd_some, if_neg hne, reason24 G1 s4 hL1 hW hl], s2, by rw [if_neg c0, m1, bd_some, if_neg hne, runs8 G1 hz1, bd_some, e23, k]⟩
  · exact ⟨-(nI 1), G, by rw [if_neg h, if_pos rfl], FrC.rf G, by rw [if_neg h, if_pos rfl]⟩
