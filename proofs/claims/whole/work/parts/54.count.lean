/-! count, run, word, learner -/
theorem allRight_e (G : GT) {x : Nat → Int32} (hC : Cl G x) : fX1_allRight G 0 = some (sm (fun l => x (273 + l)) 6) := by
  unfold fX1_allRight
  exact up_fu (fun n l => fX1_allRight_4 G 0 n (sm (fun l => x (273 + l)) l) (nI l)) 6 _ (by decide)
    (fun n l hl => by
      show fX1_allRight_4 G 0 (n + 1) (sm (fun l => x (273 + l)) l) (nI l) = fX1_allRight_4 G 0 n (sm (fun l => x (273 + l)) l + x (273 + l)) (nI (l + 1))
      rw [fX1_allRight_4]
      simp (disch := omega) only [lit, litN5, le_nI, lt_nI, eq_nI, nI_nN, nN_nI, nN_lt, nN_le, lt_nN, nI_add, mul_nI, sub_nI, dec_nI, cl_nI, inb_nI, bd_some, bd2_some, gd_true, b01, isB_ite, isB_0, isB_1]
      rw [if_neg (by omega), gd_dec _ (by omega), hC.2.2.1 l hl])
    (fun n => by
      show fX1_allRight_4 G 0 (n + 1) _ (nI 6) = _
      rw [fX1_allRight_4, if_pos (by decide)])
theorem allWrong_e (G : GT) {x : Nat → Int32} (hC : Cl G x) : fX1_allWrong G 0 = some (sm (fun l => x (279 + l)) 6) := by
  unfold fX1_allWrong
  exact up_fu (fun n l => fX1_allWrong_4 G 0 n (sm (fun l => x (279 + l)) l) (nI l)) 6 _ (by decide)
    (fun n l hl => by
      show fX1_allWrong_4 G 0 (n + 1) (sm (fun l => x (279 + l)) l) (nI l) = fX1_allWrong_4 G 0 n (sm (fun l => x (279 + l)) l + x (279 + l)) (nI (l + 1))
      rw [fX1_allWrong_4]
      simp (disch := omega) only [lit, litN5, le_nI, lt_nI, eq_nI, nI_nN, nN_nI, nN_lt, nN_le, lt_nN, nI_add, mul_nI, sub_nI, dec_nI, cl_nI, inb_nI, bd_some, bd2_some, gd_true, b01, isB_ite, isB_0, isB_1]
      rw [if_neg (by omega), gd_dec _ (by omega), hC.2.2.2 l hl])
    (fun n => by
      show fX1_allWrong_4 G 0 (n + 1) _ (nI 6) = _
      rw [fX1_allWrong_4, if_pos (by decide)])
theorem answers8 (G : GT) {o : Nat} (ho : o ≤ 283) : fX8_answers G (nI o) = some (sm (fun l => G 23 0 (o + l)) 6) := by
  unfold fX8_answers
  exact up_fu (fun n l => fX8_answers_4 G (nI o) n (sm (fun l => G 23 0 (o + l)) l) (nI l)) 6 _ (by decide)
    (fun n l hl => by
      show fX8_answers_4 G (nI o) (n + 1) (sm (fun l => G 23 0 (o + l)) l) (nI l) = fX8_answers_4 G (nI o) n (sm (fun l => G 23 0 (o + l)) l + G 23 0 (o + l)) (nI (l + 1))
      rw [fX8_answers_4]
      simp (disch := omega) only [lit, litN5, le_nI, lt_nI, eq_nI, nI_nN, nN_nI, nN_lt, nN_le, lt_nN, nI_add, mul_nI, sub_nI, dec_nI, cl_nI, inb_nI, bd_some, bd2_some, gd_true, b01, isB_ite, isB_0, isB_1]
      rw [if_neg (by omega), gd_dec _ (by omega)])
    (fun n => by
      show fX8_answers_4 G (nI o) (n + 1) _ (nI 6) = _
      rw [fX8_answers_4, if_pos (by decide)])
/-- 28 count -/
theorem op28 {t : Nat} {G : GT} (hI : Inv t G) (a : Int32) : Stq t G (fX7_count G a) (fun G1 => lf1 (fX8_count G1 a) G1) := by
  refine stay2 hI ?_
  obtain ⟨ws, G1, s1, s2, s3, s4, hW⟩ := rr hI
  have e23 : G1 23 0 = G 23 0 := s3 23 0 (by omega)
  have hz := hI.kz
  have hz1 : Kz (G1 23 0) := by rw [e23]; exact hz
  have hW1 : Wd (G1 23 0) ws := by rw [e23]; exact hW
  have hC1 : Cw G1 (G 23 0) ws := (hI.sr.cw hW).of (fun a p q => s3 a 0 (by omega))
  have hL := hI.sr.cl
  obtain ⟨-, -, x3, -, -, -, x7, -, -, -, xa, xb, xc⟩ := id hI.sr
  obtain ⟨hs, nx, len, ⟨i1, i2, -⟩, -, -, -, i3, i4, -⟩ := id hI
  unfold fX7_count fX8_count
  simp only [lit]
  by_cases h0 : a = nI 0
  · exact ⟨nI (cn (kn (G 23 0)) 40), G, by rw [if_pos h0, knotCount_e, bd_some, kn_f hI.kv], FrC.rf G, by rw [if_pos h0, knots8 G hz, bd_some]⟩
  by_cases h1 : a = nI 1
  · exact ⟨nI (cn (bg (G 23 0)) 40), G1, by rw [if_neg h0, if_pos h1, s1, bd_some, s4.1], s2, by rw [if_neg h0, if_pos h1, runs8 G1 hz1, bd_some, e23]⟩
  by_cases h2 : a = nI 2
  · exact ⟨nI (cn (isw (G 23 0) (G 23 0) ws) 40), G1, by rw [if_neg h0, if_neg h1, if_pos h2, s1, bd_some, wordRuns_e s4, bd_some], s2, by rw [if_neg h0, if_neg h1, if_pos h2, wordRuns8 G1 hz1 hW1, bd_some, e23]⟩
  by_cases h3 : a = nI 3
  · exact ⟨ans (G 23 0) (G 23 0) ws (om1 (G 23 0)), G1, by rw [if_neg h0, if_neg h1, if_neg h2, if_pos h3, s1, bd_some, rightAnswer_e s4 hC1 hW, bd_some], s2, by rw [if_neg h0, if_neg h1, if_neg h2, if_pos h3, rightAnswer8 G1 hz1 hW1, bd_some, e23]⟩
  by_cases h4 : a = nI 4
  · exact ⟨G 23 0 80, G, by rw [if_neg h0, if_neg h1, if_neg h2, if_neg h3, if_pos h4, x3], FrC.rf G, by rw [if_neg h0, if_neg h1, if_neg h2, if_neg h3, if_pos h4, inb_nI (by decide), gd_dec _ (by decide), cl_nI (by decide)]⟩
  by_cases h5 : a = nI 5
  · exact ⟨G 23 0 286, G, by rw [if_neg h0, if_neg h1, if_neg h2, if_neg h3, if_neg h4, if_pos h5, xa], FrC.rf G, by rw [if_neg h0, if_neg h1, if_neg h2, if_neg h3, if_neg h4, if_pos h5, h5, nI_add, sub_nI (by decide), inb_nI (by decide), gd_dec _ (by decide), cl_nI (by decide)]⟩
  by_cases h6 : a = nI 6
  · exact ⟨G 23 0 287, G, by rw [if_neg h0, if_neg h1, if_neg h2, if_neg h3, if_neg h4, if_neg h5, if_pos h6, xb], FrC.rf G, by rw [if_neg h0, if_neg h1, if_neg h2, if_neg h3, if_neg h4, if_neg h5, if_pos h6, h6, nI_add, sub_nI (by decide), inb_nI (by decide), gd_dec _ (by decide), cl_nI (by decide)]⟩
  by_cases h7 : a = nI 7
  · exact ⟨G 23 0 288, G, by rw [if_neg h0, if_neg h1, if_neg h2, if_neg h3, if_neg h4, if_neg h5, if_neg h6, if_pos h7, xc], FrC.rf G, by rw [if_neg h0, if_neg h1, if_neg h2, if_neg h3, if_neg h4, if_neg h5, if_neg h6, if_pos h7, h7, nI_add, sub_nI (by decide), inb_nI (by decide), gd_dec _ (by decide), cl_nI (by decide)]⟩
  by_cases h8 : a = nI 8
  · exact ⟨sm (fun l => G 23 0 (273 + l)) 6, G, by rw [if_neg h0, if_neg h1, if_neg h2, if_neg h3, if_neg h4, if_neg h5, if_neg h6, if_neg h7, if_pos h8, allRight_e G hL, bd_some], FrC.rf G, by rw [if_neg h0, if_neg h1, if_neg h2, if_neg h3, if_neg h4, if_neg h5, if_neg h6, if_neg h7, if_pos h8, answers8 G (by decide), bd_some]⟩
  by_cases h9 : a = nI 9
  · exact ⟨sm (fun l => G 23 0 (279 + l)) 6, G, by rw [if_neg h0, if_neg h1, if_neg h2, if_neg h3, if_neg h4, if_neg h5, if_neg h6, if_neg h7, if_neg h8, if_pos h9, allWrong_e G hL, bd_some], FrC.rf G, by rw [if_neg h0, if_neg h1, if_neg h2, if_neg h3, if_neg h4, if_neg h5, if_neg h6, if_neg h7, if_neg h8, if_pos h9, answers8 G (by decide), bd_some]⟩
  by_cases h10 : a = nI 10
  · exact ⟨G 23 0 285, G, by rw [if_neg h0, if_neg h1, if_neg h2, if_neg h3, if_neg h4, if_neg h5, if_neg h6, if_neg h7, if_neg h8, if_neg h9, if_pos h10, x7], FrC.rf G, by rw [if_neg h0, if_neg h1, if_neg h2, if_neg h3, if_neg h4, if_neg h5, if_neg h6, if_neg h7, if_neg h8, if_neg h9, if_pos h10, inb_nI (by decide), gd_dec _ (by decide), cl_nI (by decide)]⟩
  by_cases h11 : a = nI 11
  · exact ⟨nI hs, G, by rw [if_neg h0, if_neg h1, if_neg h2, if_neg h3, if_neg h4, if_neg h5, if_neg h6, if_neg h7, if_neg h8, if_neg h9, if_neg h10, if_pos h11, i2], FrC.rf G, by rw [if_neg h0, if_neg h1, if_neg h2, if_neg h3, if_neg h4, if_neg h5, if_neg h6, if_neg h7, if_neg h8, if_neg h9, if_neg h10, if_pos h11, i1]⟩
  by_cases h12 : a = nI 12
  · exact ⟨nI len, G, by rw [if_neg h0, if_neg h1, if_neg h2, if_neg h3, if_neg h4, if_neg h5, if_neg h6, if_neg h7, if_neg h8, if_neg h9, if_neg h10, if_neg h11, if_pos h12, i3], FrC.rf G, by rw [if_neg h0, if_neg h1, if_neg h2, if_neg h3, if_neg h4, if_neg h5, if_neg h6, if_neg h7, if_neg h8, if_neg h9, if_neg h10, if_neg h11, if_pos h12, i4]⟩
  exact ⟨-(nI 2), G, by rw [if_neg h0, if_neg h1, if_neg h2, if_neg h3, if_neg h4, if_neg h5, if_neg h6, if_neg h7, if_neg h8, if_neg h9, if_neg h10, if_neg h11, if_neg h12], FrC.rf G, by rw [if_neg h0, if_neg h1, if_neg h2, if_neg h3, if_neg h4, if_neg h5, if_neg h6, if_neg h7, if_neg h8, if_neg h9, if_neg h10, if_neg h11, if_neg h12]⟩
theorem isRun8 (G : GT) (hz : Kz (G 23 0)) (a : Int32) : fX8_isRun G a = some (if nI 0 ≤ a ∧ a < nI (cn (bg (G 23 0)) 40) then nI 1 else nI 0) := by
  have hle := cn_le (bg (G 23 0)) 40
  unfold fX8_isRun
  rw [runs8 G hz, bd_some, in_e, bd_some]
  simp only [lit]
  rw [gd_t (isB_ite _)]
  congr 1
  have e : (nI 0 ≤ a ∧ a ≤ nI (cn (bg (G 23 0)) 40) - nI 1) = (nI 0 ≤ a ∧ a < nI (cn (bg (G 23 0)) 40)) := by
    apply propext
    rw [Int32.le_iff_toInt_le, Int32.le_iff_toInt_le, Int32.lt_iff_toInt_lt]
    have e1 : (nI (cn (bg (G 23 0)) 40) - nI 1).toInt = ((cn (bg (G 23 0)) 40 : Nat) : Int) - 1 := by
      by_cases z : cn (bg (G 23 0)) 40 = 0
      · rw [z]; rfl
      · rw [sub_nI (by omega), nI_toInt (by omega)]; omega
    rw [e1, nI_toInt (show cn (bg (G 23 0)) 40 < 2 ^ 31 by omega)]
    omega
  simp only [e]
theorem fo_rs {g : Nat → Int32} {j : Nat} (hj : j < cn (bg g) 40) : fo g j 40 = nI (rs g j) := by
  obtain ⟨h1, h2, h3⟩ := rs_ok hj
  have := fo_at (g := g) h2 h1
  rw [h3] at this
  exact this
/-- 17 run -/
theorem op17 {t : Nat} {G : GT} (hI : Inv t G) (a b : Int32) : Stq t G (fX7_run G a b) (fun G1 => lf1 (fX8_run G1 a b) G1) := by
  refine stay2 hI ?_
  obtain ⟨ws, G1, s1, s2, s3, s4, hW⟩ := rr hI
  have e23 : G1 23 0 = G 23 0 := s3 23 0 (by omega)
  have hz1 : Kz (G1 23 0) := by rw [e23]; exact hI.kz
  have hW1 : Wd (G1 23 0) ws := by rw [e23]; exact hW
  have hle := cn_le (bg (G 23 0)) 40
  unfold fX7_run fX8_run
  simp only [lit]
  by_cases h : nI 0 ≤ a ∧ a < nI (cn (bg (G 23 0)) 40)
  · obtain ⟨j, -, hj, rfl⟩ := of_lt h (by decide) (by omega)
    have c0 : ¬ (if nI 0 ≤ nI j ∧ nI j < nI (cn (bg (G 23 0)) 40) then nI 1 else nI 0) = nI 0 := by rw [if_pos h]; decide
    obtain ⟨r1, r2, r3⟩ := rs_ok hj
    have m1 : fX8_isRun G1 (nI j) = some (if nI 0 ≤ nI j ∧ nI j < nI (cn (bg (G 23 0)) 40) then nI 1 else nI 0) := by rw [isRun8 G1 hz1, e23]
    have m2 : fX8_firstOf G1 (nI j) = some (nI (rs (G 23 0) j)) := by rw [firstOf8 G1 hz1 (by omega), e23, fo_rs hj]
    by_cases h0 : b = nI 0
    · exact ⟨nI (rs (G 23 0) j), G1, by rw [s1, bd_some, has3 s4, bd_some, if_neg c0, if_pos h0, firstOf3 s4 hj, bd_some], s2, by rw [m1, bd_some, if_neg c0, if_pos h0, m2, bd_some]⟩
    by_cases h1 : b = nI 1
    · exact ⟨nI (ln (G 23 0) (rs (G 23 0) j)), G1, by rw [s1, bd_some, has3 s4, bd_some, if_neg c0, if_neg h0, if_pos h1, lengthOf3 s4 hj, bd_some], s2, by rw [m1, bd_some, if_neg c0, if_neg h0, if_pos h1, m2, bd_some, lengthFrom8 G1 hz1 (by omega), bd_some, e23]⟩
    by_cases h2 : b = nI 2
    · exact ⟨rw' (G 23 0) (G 23 0) ws (rs (G 23 0) j), G1, by rw [s1, bd_some, has3 s4, bd_some, if_neg c0, if_neg h0, if_neg h1, if_pos h2, wordOf3 s4 hj, bd_some], s2, by
        rw [m1, bd_some, if_neg c0, if_neg h0, if_neg h1, if_pos h2]
        unfold fX8_wordOf
        rw [m2, bd_some, wordFrom8 G1 hz1 hW1 (by omega), bd_some, bd_some, e23]
        rfl⟩
    by_cases h3 : b = nI 3
    · have el : lo (G1 1 0) (G1 2 0) (rs (G 23 0) j) (nI 9) = lo (G 23 0) (fun q => G 23 0 (40 + q)) (rs (G 23 0) j) (nI 9) := by
        rw [s3 1 0 (by omega), s3 2 0 (by omega)]
        exact lo_f hI.kv hI.sr.2.1 _ _
      exact ⟨lo (G 23 0) (fun q => G 23 0 (40 + q)) (rs (G 23 0) j) (nI 9), G1, by rw [s1, bd_some, has3 s4, bd_some, if_neg c0, if_neg h0, if_neg h1, if_neg h2, if_pos h3, firstOf3 s4 hj, bd_some, loosenessFrom_e G1 0 (by omega), bd_some, el], s2, by rw [m1, bd_some, if_neg c0, if_neg h0, if_neg h1, if_neg h2, if_pos h3, m2, bd_some, loosest8 G1 hz1 (by omega), bd_some, e23]⟩
    exact ⟨-(nI 2), G1, by rw [s1, bd_some, has3 s4, bd_some, if_neg c0, if_neg h0, if_neg h1, if_neg h2, if_neg h3], s2, by rw [m1, bd_some, if_neg c0, if_neg h0, if_neg h1, if_neg h2, if_neg h3]⟩
  · exact ⟨-(nI 1), G1, by rw [s1, bd_some, has3 s4, bd_some, if_neg h, if_pos rfl], s2, by rw [isRun8 G1 hz1, bd_some, e23, if_neg h, if_pos rfl]⟩
/-! sets of learners and of words -/
def kb (f : Nat → Bool) : Nat → Int32
  | 0 => nI 0
  | n + 1 => if f n = true then kb f n ||| (nI 1 <<< (nI n &&& nI 31)) else kb f n
theorem or_0 (a : Int32) : a ||| nI 0 = a := Int32.or_zero
theorem whoKnow_e {G : GT} {x : Nat → Int32} (hC : Cl G x) {w : Nat} (hw : w < 16) : fX1_whoKnow G 0 (nI w) = some (kb (fun l => knb x l w) 6) := by
  unfold fX1_whoKnow
  exact up_fu (fun n l => fX1_whoKnow_4 G 0 (nI w) n (kb (fun l => knb x l w) l) (nI l)) 6 _ (by decide)
    (fun n l hl => by
      show fX1_whoKnow_4 G 0 (nI w) (n + 1) (kb (fun l => knb x l w) l) (nI l) = fX1_whoKnow_4 G 0 (nI w) n (kb (fun l => knb x l w) (l + 1)) (nI (l + 1))
      rw [fX1_whoKnow_4, knows_e hC hl hw, kb]
      simp (disch := omega) only [lit, litN5, le_nI, lt_nI, eq_nI, nI_nN, nN_nI, nN_lt, nN_le, lt_nN, nI_add, mul_nI, sub_nI, dec_nI, cl_nI, inb_nI, bd_some, bd2_some, gd_true, b01, isB_ite, isB_0, isB_1]
      rw [if_neg (show ¬ 6 ≤ l by omega)]
      by_cases e : knb x l w = true
      · rw [if_neg (show ¬ ¬ knb x l w = true from fun q => q e), if_pos e]
      · rw [if_pos e, if_neg e])
    (fun n => by
      show fX1_whoKnow_4 G 0 (nI w) (n + 1) _ (nI 6) = _
      rw [fX1_whoKnow_4, if_pos (by decide)])
theorem knowing8 (G : GT) {w : Nat} (hw : w < 16) : fX8_knowing G (nI w) = some (kb (fun l => knb (G 23 0) l w) 6) := by
  unfold fX8_knowing
  exact up_fu (fun n l => fX8_knowing_4 G (nI w) n (kb (fun l => knb (G 23 0) l w) l) (nI l)) 6 _ (by decide)
    (fun n l hl => by
      show fX8_knowing_4 G (nI w) (n + 1) (kb (fun l => knb (G 23 0) l w) l) (nI l) = fX8_knowing_4 G (nI w) n (kb (fun l => knb (G 23 0) l w) (l + 1)) (nI (l + 1))
      rw [fX8_knowing_4, knows8 G hl hw, kb]
      simp (disch := omega) only [lit, litN5, le_nI, lt_nI, eq_nI, nI_nN, nN_nI, nN_lt, nN_le, lt_nN, nI_add, mul_nI, sub_nI, dec_nI, cl_nI, inb_nI, bd_some, bd2_some, gd_true, b01, isB_ite, isB_0, isB_1, or_0]
      rw [if_neg (show ¬ 6 ≤ l by omega)]
      by_cases e : knb (G 23 0) l w = true
      · rw [if_neg (show ¬ ¬ knb (G 23 0) l w = true from fun q => q e), if_pos e]
      · rw [if_pos e, if_neg e])
    (fun n => by
      show fX8_knowing_4 G (nI w) (n + 1) _ (nI 6) = _
      rw [fX8_knowing_4, if_pos (by decide)])
theorem knownBy_e {G : GT} {x : Nat → Int32} (hC : Cl G x) {l ws : Nat} (hl : l < 6) (hws : ws ≤ 16) : fX1_knownBy G 0 (nI l) (nI ws) = some (kb (fun w => knb x l w) ws) := by
  unfold fX1_knownBy
  exact up_fu (fun n w => fX1_knownBy_5 G 0 (nI l) (nI ws) n (kb (fun w => knb x l w) w) (nI w)) ws _ (by omega)
    (fun n w hw => by
      show fX1_knownBy_5 G 0 (nI l) (nI ws) (n + 1) (kb (fun w => knb x l w) w) (nI w) = fX1_knownBy_5 G 0 (nI l) (nI ws) n (kb (fun w => knb x l w) (w + 1)) (nI (w + 1))
      rw [fX1_knownBy_5, knows_e hC hl (by omega), kb]
      simp (disch := omega) only [lit, litN5, le_nI, lt_nI, eq_nI, nI_nN, nN_nI, nN_lt, nN_le, lt_nN, nI_add, mul_nI, sub_nI, dec_nI, cl_nI, inb_nI, bd_some, bd2_some, gd_true, b01, isB_ite, isB_0, isB_1]
      rw [if_neg (show ¬ 16 ≤ w by omega), if_neg (show ¬ ws ≤ w by omega)]
      by_cases e : knb x l w = true
      · rw [if_neg (show ¬ ¬ knb x l w = true from fun q => q e), if_pos e]
      · rw [if_pos e, if_neg e])
    (fun n => by
      show fX1_knownBy_5 G 0 (nI l) (nI ws) (n + 1) _ (nI ws) = _
      rw [fX1_knownBy_5, if_pos (Int32.le_refl (nI ws))]
      by_cases e : (16 : Int32) ≤ nI ws
      · rw [if_pos e]
      · rw [if_neg e])
theorem known8 (G : GT) {l ws : Nat} (h80 : G 23 0 80 = nI ws) (hl : l < 6) (hws : ws ≤ 16) : fX8_known G (nI l) = some (kb (fun w => knb (G 23 0) l w) ws) := by
  unfold fX8_known
  exact up_fu (fun n w => fX8_known_4 G (nI l) n (kb (fun w => knb (G 23 0) l w) w) (nI w)) ws _ (by omega)
    (fun n w hw => by
      show fX8_known_4 G (nI l) (n + 1) (kb (fun w => knb (G 23 0) l w) w) (nI w) = fX8_known_4 G (nI l) n (kb (fun w => knb (G 23 0) l w) (w + 1)) (nI (w + 1))
      rw [fX8_known_4, knows8 G hl (by omega), kb]
      simp (disch := omega) only [lit, litN5, le_nI, lt_nI, eq_nI, nI_nN, nN_nI, nN_lt, nN_le, lt_nN, nI_add, mul_nI, sub_nI, dec_nI, cl_nI, inb_nI, bd_some, bd2_some, gd_true, b01, isB_ite, isB_0, isB_1, or_0, h80]
      rw [gd_dec _ (by decide), if_neg (show ¬ ws ≤ w by omega)]
      by_cases e : knb (G 23 0) l w = true
      · rw [if_neg (show ¬ ¬ knb (G 23 0) l w = true from fun q => q e), if_pos e]
      · rw [if_pos e, if_neg e])
    (fun n => by
      show fX8_known_4 G (nI l) (n + 1) _ (nI ws) = _
      rw [fX8_known_4]
      simp (disch := omega) only [lit, litN5, le_nI, lt_nI, eq_nI, nI_nN, nN_nI, nN_lt, nN_le, lt_nN, nI_add, mul_nI, sub_nI, dec_nI, cl_nI, inb_nI, bd_some, bd2_some, gd_true, b01, isB_ite, isB_0, isB_1, h80]
      rw [gd_dec _ (by decide), if_pos (Nat.le_refl _)])
/-- 22 learner -/
theorem op22 {t : Nat} {G : GT} (hI : Inv t G) (a b : Int32) : Stq t G (fX7_learner G a b) (fun G1 => lf1 (fX8_learner G1 a b) G1) := by
  refine stay2 hI ?_
  obtain ⟨ws, G1, s1, s2, s3, s4, hW⟩ := rr hI
  have e23 : G1 23 0 = G 23 0 := s3 23 0 (by omega)
  have hz1 : Kz (G1 23 0) := by rw [e23]; exact hI.kz
  have hW1 : Wd (G1 23 0) ws := by rw [e23]; exact hW
  have hC1 : Cw G1 (G 23 0) ws := (hI.sr.cw hW).of (fun a p q => s3 a 0 (by omega))
  have hL := hI.sr.cl
  have hL1 : Cl G1 (G 23 0) := hL.of (fun a p q => s3 a 0 (by omega))
  have hSe := hI.wf.2.2.1
  have hws := hW.2.1
  unfold fX7_learner fX8_learner
  rw [isL7, isL8]
  simp only [lit, bd_some]
  by_cases h : nI 0 ≤ a ∧ a ≤ nI 5
  · have c0 : ¬ (if nI 0 ≤ a ∧ a ≤ nI 5 then nI 1 else nI 0) = nI 0 := by rw [if_pos h]; decide
    obtain ⟨l, -, hl, rfl⟩ := of_in h (by decide) (by decide)
    have hl : l < 6 := by omega
    by_cases h0 : b = nI 0
    · exact ⟨kb (fun w => knb (G 23 0) l w) ws, G, by rw [if_neg c0, if_pos h0, (hI.sr.cw hW).1, knownBy_e hL hl hws, bd_some], FrC.rf G, by rw [if_neg c0, if_pos h0, known8 G hW.1 hl hws, bd_some]⟩
    by_cases h1 : b = nI 1
    · exact ⟨ans (G 23 0) (G 23 0) ws (om2 (G 23 0) l), G1, by rw [if_neg c0, if_neg h0, if_pos h1, s1, bd_some, answerOf_e s4 hC1 hL1 hW hSe hl, bd_some], s2, by rw [if_neg c0, if_neg h0, if_pos h1, answerOf8 G1 hz1 hW1 hl, bd_some, e23]⟩
    by_cases h2 : b = nI 2
    · refine ⟨G 23 0 (273 + l), G, ?_, FrC.rf G, ?_⟩
      · rw [if_neg c0, if_neg h0, if_neg h1, if_pos h2]
        unfold fX1_rightOf
        rw [isL7n hl, bd_some, if_neg (by decide), inb_nI (by omega), gd_dec _ (by omega), cl_nI (by omega), bd_some, hL.2.2.1 l hl]
      · rw [if_neg c0, if_neg h0, if_neg h1, if_pos h2, nI_add, inb_nI (by omega), gd_dec _ (by omega), cl_nI (by omega)]
    by_cases h3 : b = nI 3
    · refine ⟨G 23 0 (279 + l), G, ?_, FrC.rf G, ?_⟩
      · rw [if_neg c0, if_neg h0, if_neg h1, if_neg h2, if_pos h3]
        unfold fX1_wrongOf
        rw [isL7n hl, bd_some, if_neg (by decide), inb_nI (by omega), gd_dec _ (by omega), cl_nI (by omega), bd_some, hL.2.2.2 l hl]
      · rw [if_neg c0, if_neg h0, if_neg h1, if_neg h2, if_pos h3, nI_add, inb_nI (by omega), gd_dec _ (by omega), cl_nI (by omega)]
    exact ⟨-(nI 2), G, by rw [if_neg c0, if_neg h0, if_neg h1, if_neg h2, if_neg h3], FrC.rf G, by rw [if_neg c0, if_neg h0, if_neg h1, if_neg h2, if_neg h3]⟩
  · exact ⟨-(nI 1), G, by rw [if_neg h, if_pos rfl], FrC.rf G, by rw [if_neg h, if_pos rfl]⟩
/-- 21 word -/
theorem op21 {t : Nat} {G : GT} (hI : Inv t G) (a b : Int32) : Stq t G (fX7_word G a b) (fun G1 => lf1 (fX8_word G1 a b) G1) := by
  refine stay2 hI ?_
  obtain ⟨ws, G1, s1, s2, s3, s4, hW⟩ := rr hI
  have e23 : G1 23 0 = G 23 0 := s3 23 0 (by omega)
  have hz1 : Kz (G1 23 0) := by rw [e23]; exact hI.kz
  have hW1 : Wd (G1 23 0) ws := by rw [e23]; exact hW
  have hC := hI.sr.cw hW
  have hL := hI.sr.cl
  have hws := hW.2.1
  have w8 : ∀ H : GT, H 23 0 = G 23 0 → fX8_isWord H a = some (if nI 0 ≤ a ∧ a < nI ws then nI 1 else nI 0) := fun H e => isWord8 H (by rw [e]; exact hW.1) hws a
  unfold fX7_word fX8_word
  rw [has6 G hC.1 hws]
  simp only [lit, bd_some, isW, in_e]
  by_cases h : nI 0 ≤ a ∧ a < nI ws
  · have c0 : ¬ (if nI 0 ≤ a ∧ a < nI ws then nI 1 else nI 0) = nI 0 := by rw [if_pos h]; decide
    obtain ⟨w, -, hw, rfl⟩ := of_lt h (by decide) (by omega)
    have hw16 : w < 16 := by omega
    by_cases h0 : b = nI 0
    · exact ⟨nI (pl (G 23 0) w), G, by rw [if_neg c0, if_pos h0, lengthOf6 G hC hws hw, bd_some], FrC.rf G, by rw [w8 G rfl, bd_some, if_neg c0, if_pos h0, lengthOf8 G hw16, bd_some]⟩
    by_cases h1 : b = nI 1
    · exact ⟨G 23 0 (161 + w), G, by rw [if_neg c0, if_neg h0, if_pos h1, ringsOf6 G hC hws hw, bd_some], FrC.rf G, by rw [w8 G rfl, bd_some, if_neg c0, if_neg h0, if_pos h1, nI_add, inb_nI (by omega), gd_dec _ (by omega), cl_nI (by omega)]⟩
    by_cases h2 : b = nI 2
    · exact ⟨nI (cn (isv (G 23 0) (G 23 0) ws (nI w)) 40), G1, by rw [if_neg c0, if_neg h0, if_neg h1, if_pos h2, s1, bd_some, countOf_e s4, bd_some], s2, by rw [w8 G1 e23, bd_some, if_neg c0, if_neg h0, if_neg h1, if_pos h2, runsOf8 G1 hz1 hW1, bd_some, e23]⟩
    by_cases h3 : b = nI 3
    · exact ⟨kb (fun l => knb (G 23 0) l w) 6, G, by rw [if_neg c0, if_neg h0, if_neg h1, if_neg h2, if_pos h3, whoKnow_e hL hw16, bd_some], FrC.rf G, by rw [w8 G rfl, bd_some, if_neg c0, if_neg h0, if_neg h1, if_neg h2, if_pos h3, knowing8 G hw16, bd_some]⟩
    by_cases h4 : nI 4 ≤ b ∧ b ≤ nI 8
    · have c4 : ¬ (if nI 4 ≤ b ∧ b ≤ nI 8 then nI 1 else nI 0) = nI 0 := by rw [if_pos h4]; decide
      obtain ⟨k, k1, k2, rfl⟩ := of_in h4 (by decide) (by decide)
      exact ⟨pt (G 23 0) w (k - 4), G, by rw [if_neg c0, if_neg h0, if_neg h1, if_neg h2, if_neg h3, if_neg c4, sub_nI k1, kindAt6 G hC hws hw (by omega), bd_some], FrC.rf G, by rw [w8 G rfl, bd_some, if_neg c0, if_neg h0, if_neg h1, if_neg h2, if_neg h3, if_neg c4, sub_nI k1, patternAt8 G (by omega), bd_some]⟩
    exact ⟨-(nI 2), G, by rw [if_neg c0, if_neg h0, if_neg h1, if_neg h2, if_neg h3, if_neg h4, if_pos rfl], FrC.rf G, by rw [w8 G rfl, bd_some, if_neg c0, if_neg h0, if_neg h1, if_neg h2, if_neg h3, if_neg h4, if_pos rfl]⟩
  · exact ⟨-(nI 1), G, by rw [if_neg h, if_pos rfl], FrC.rf G, by rw [w8 G rfl, bd_some, if_neg h, if_pos rfl]⟩
