/-! learners -/
def Cl (G : GT) (x : Nat → Int32) : Prop := G 7 0 0 = x 285 ∧ (∀ j, j < 96 → G 8 0 j = x (177 + j)) ∧ (∀ l, l < 6 → G 9 0 l = x (273 + l)) ∧ ∀ l, l < 6 → G 10 0 l = x (279 + l)
theorem Cl.of {G H : GT} {x : Nat → Int32} (h : Cl G x) (e : ∀ a, 7 ≤ a → a ≤ 10 → H a 0 = G a 0) : Cl H x := by
  obtain ⟨h1, h2, h3, h4⟩ := h
  unfold Cl
  rw [e 7 (by omega) (by omega), e 8 (by omega) (by omega), e 9 (by omega) (by omega), e 10 (by omega) (by omega)]
  exact ⟨h1, h2, h3, h4⟩
def Se (x : Nat → Int32) : Prop := ∃ s : Nat, 1 ≤ s ∧ s ≤ 9 ∧ x 285 = nI s
def knb (x : Nat → Int32) (l w : Nat) : Bool := decide (x 285 ≤ x (177 + 16 * l + w))
theorem isL7 (a : Int32) : fX7_isLearner a = some (if nI 0 ≤ a ∧ a ≤ nI 5 then nI 1 else nI 0) := by
  unfold fX7_isLearner
  rw [isW, bd_some, gd_t (isB_ite _)]
  rfl
theorem isL8 (a : Int32) : fX8_isLearner a = some (if nI 0 ≤ a ∧ a ≤ nI 5 then nI 1 else nI 0) := isL7 a
theorem isL7n {l : Nat} (hl : l < 6) : fX7_isLearner (nI l) = some (nI 1) := by
  rw [isL7, if_pos ⟨nI_le (Nat.zero_le _) (by omega), nI_le (by omega) (by decide)⟩]
theorem areThere_e {l w : Nat} (hl : l < 6) (hw : w < 16) : fX1_areThere (nI l) (nI w) = some (nI 1) := by
  unfold fX1_areThere
  rw [isL7n hl]
  simp (disch := omega) only [lit, litN5, le_nI, lt_nI, eq_nI, nI_nN, nN_nI, nN_lt, nN_le, lt_nN, nI_add, mul_nI, sub_nI, dec_nI, cl_nI, inb_nI, bd_some, bd2_some, gd_true, b01, isB_ite, isB_0, isB_1, isW]
  rw [if_neg (by decide), if_neg (by omega)]
theorem areThere_m {l : Nat} (hl : l < 6) : fX1_areThere (nI l) nN = some (nI 0) := by
  unfold fX1_areThere
  rw [isL7n hl, bd_some, if_neg (by decide), isW, bd_some, if_pos (by decide)]
  rfl
theorem timesHeard_e (G : GT) {l w : Nat} (hl : l < 6) (hw : w < 16) : fX1_timesHeard G 0 (nI l) (nI w) = some (G 8 0 (l * 16 + w)) := by
  unfold fX1_timesHeard
  rw [areThere_e hl hw]
  simp (disch := omega) only [lit, litN5, le_nI, lt_nI, eq_nI, nI_nN, nN_nI, nN_lt, nN_le, lt_nN, nI_add, mul_nI, sub_nI, dec_nI, cl_nI, inb_nI, bd_some, bd2_some, gd_true, b01, isB_ite, isB_0, isB_1]
  rw [if_neg (by decide), gd_dec _ (by omega)]
theorem timesHeard_m (G : GT) {l : Nat} (hl : l < 6) : fX1_timesHeard G 0 (nI l) nN = some (nI 0) := by
  unfold fX1_timesHeard
  rw [areThere_m hl]
  rfl
theorem knows_e {G : GT} {x : Nat → Int32} (hC : Cl G x) {l w : Nat} (hl : l < 6) (hw : w < 16) : fX1_knows G 0 (nI l) (nI w) = some (if knb x l w = true then nI 1 else nI 0) := by
  unfold fX1_knows
  rw [timesHeard_e G hl hw, bd_some, hC.1, hC.2.1 _ (by omega), show 177 + (l * 16 + w) = 177 + 16 * l + w by omega]
  unfold knb
  by_cases h : x 285 ≤ x (177 + 16 * l + w)
  · rw [if_neg (by rw [Int32.lt_iff_toInt_lt]; rw [Int32.le_iff_toInt_le] at h; omega), if_pos (decide_eq_true h)]; rfl
  · rw [if_pos (by rw [Int32.lt_iff_toInt_lt]; rw [Int32.le_iff_toInt_le] at h; omega), if_neg (fun q => h (of_decide_eq_true q))]; rfl
theorem knows_m {G : GT} {x : Nat → Int32} (hC : Cl G x) (hs : Se x) {l : Nat} (hl : l < 6) : fX1_knows G 0 (nI l) nN = some (nI 0) := by
  obtain ⟨s, h1, h2, h3⟩ := hs
  unfold fX1_knows
  rw [timesHeard_m G hl, bd_some, hC.1, h3, if_pos (nI_lt (by omega) (by omega))]
  rfl
theorem heardOf8 (G : GT) {l w : Nat} (hl : l < 6) (hw : w < 16) : fX8_heardOf G (nI l) (nI w) = some (G 23 0 (177 + 16 * l + w)) := by
  unfold fX8_heardOf
  simp (disch := omega) only [lit, litN5, le_nI, lt_nI, eq_nI, nI_nN, nN_nI, nN_lt, nN_le, lt_nN, nI_add, mul_nI, sub_nI, dec_nI, cl_nI, inb_nI, bd_some, bd2_some, gd_true, b01, isB_ite, isB_0, isB_1]
  rw [gd_dec _ (by omega)]
theorem knows8 (G : GT) {l w : Nat} (hl : l < 6) (hw : w < 16) : fX8_knows G (nI l) (nI w) = some (if knb (G 23 0) l w = true then nI 1 else nI 0) := by
  unfold fX8_knows
  rw [heardOf8 G hl hw]
  simp (disch := omega) only [lit, litN5, le_nI, lt_nI, eq_nI, nI_nN, nN_nI, nN_lt, nN_le, lt_nN, nI_add, mul_nI, sub_nI, dec_nI, cl_nI, inb_nI, bd_some, bd2_some, gd_true, b01, isB_ite, isB_0, isB_1]
  rw [gd_dec _ (by decide)]
  unfold knb
  by_cases h : G 23 0 285 ≤ G 23 0 (177 + 16 * l + w)
  · rw [if_neg (by rw [Int32.lt_iff_toInt_lt]; rw [Int32.le_iff_toInt_le] at h; omega), if_pos (decide_eq_true h)]
  · rw [if_pos (by rw [Int32.lt_iff_toInt_lt]; rw [Int32.le_iff_toInt_le] at h; omega), if_neg (fun q => h (of_decide_eq_true q))]
/-! answers -/
def om1 (x : Nat → Int32) (w : Nat) : Int32 := x (161 + w)
def om2 (x : Nat → Int32) (l w : Nat) : Int32 := if knb x l w = true then x (161 + w) else nI 0
def ans (g x : Nat → Int32) (ws : Nat) (ω : Nat → Int32) : Int32 := sm (fun w => nI (cn (isv g x ws (nI w)) 40) * ω w) ws
theorem rightAnswer_e {G : GT} {i : Nat} {g x : Nat → Int32} {ws : Nat} (hR : RD G i g x ws) (hC : Cw G x ws) (hW : Wd x ws) : fX7_rightAnswer G i = some (ans g x ws (om1 x)) := by
  have hr := runs_le g
  have hws := hW.2.1
  unfold fX7_rightAnswer ans
  rw [← dc g x hW (om1 x) 40, ← fj_fp g _ _ 40 (Nat.le_refl _)]
  exact up_fu (fun n j => fX7_rightAnswer_4 G i n (fj g (fun a p => a + wt (om1 x) (rw' g x ws p)) (nI 0) j) (nI j)) (cn (bg g) 40) _ (by omega)
    (fun n j hj => by
      show fX7_rightAnswer_4 G i (n + 1) (fj g _ (nI 0) j) (nI j) = fX7_rightAnswer_4 G i n (fj g _ (nI 0) (j + 1)) (nI (j + 1))
      rw [fX7_rightAnswer_4, hR.1, wordOf3 hR hj, fj]
      simp (disch := omega) only [lit, litN5, le_nI, lt_nI, eq_nI, nI_nN, nN_nI, nN_lt, nN_le, lt_nN, nI_add, mul_nI, sub_nI, dec_nI, cl_nI, inb_nI, bd_some, bd2_some, gd_true, b01, isB_ite, isB_0, isB_1]
      rw [if_neg (by omega)]
      rcases rw_cases g x hW (rs g j) with ⟨u, h1, h2⟩ | h2
      · have hne : ¬ nI u = nN := fun q => by rw [nI_nN (by omega)] at q; exact q
        rw [h2, ringsOf6 G hC hws h1, bd_some]
        unfold wt
        rw [if_neg hne, cl_nI (by omega)]
        rfl
      · rw [h2, ringsOf6_m G hC.1 hws, bd_some]
        unfold wt
        rw [if_pos rfl])
    (fun n => by
      show fX7_rightAnswer_4 G i (n + 1) _ (nI (cn (bg g) 40)) = _
      rw [fX7_rightAnswer_4, hR.1, if_pos (Int32.le_refl _)])
theorem answerOf_e {G : GT} {g x : Nat → Int32} {ws : Nat} (hR : RD G 0 g x ws) (hC : Cw G x ws) (hL : Cl G x) (hW : Wd x ws) (hs : Se x) {l : Nat} (hl : l < 6) : fX7_answerOf G (nI l) = some (ans g x ws (om2 x l)) := by
  have hr := runs_le g
  have hws := hW.2.1
  unfold fX7_answerOf ans
  rw [← dc g x hW (om2 x l) 40, ← fj_fp g _ _ 40 (Nat.le_refl _)]
  exact up_fu (fun n j => fX7_answerOf_4 G (nI l) n (fj g (fun a p => a + wt (om2 x l) (rw' g x ws p)) (nI 0) j) (nI j)) (cn (bg g) 40) _ (by omega)
    (fun n j hj => by
      show fX7_answerOf_4 G (nI l) (n + 1) (fj g _ (nI 0) j) (nI j) = fX7_answerOf_4 G (nI l) n (fj g _ (nI 0) (j + 1)) (nI (j + 1))
      rw [fX7_answerOf_4, hR.1, wordOf3 hR hj, fj]
      simp (disch := omega) only [lit, litN5, le_nI, lt_nI, eq_nI, nI_nN, nN_nI, nN_lt, nN_le, lt_nN, nI_add, mul_nI, sub_nI, dec_nI, cl_nI, inb_nI, bd_some, bd2_some, gd_true, b01, isB_ite, isB_0, isB_1]
      rw [if_neg (by omega)]
      rcases rw_cases g x hW (rs g j) with ⟨u, h1, h2⟩ | h2
      · have hne : ¬ nI u = nN := fun q => by rw [nI_nN (by omega)] at q; exact q
        rw [h2, knows_e hL hl (by omega), ringsOf6 G hC hws h1]
        simp only [bd_some, b01]
        unfold wt om2
        rw [if_neg hne, cl_nI (by omega)]
        by_cases k : knb x l u = true
        · rw [if_neg (by simp [k]), if_pos k]
        · rw [if_pos k, if_neg k, ← lit 0, Int32.add_zero]
      · rw [h2, knows_m hL hs hl, bd_some, if_pos rfl]
        unfold wt
        rw [if_pos rfl, ← lit 0, Int32.add_zero])
    (fun n => by
      show fX7_answerOf_4 G (nI l) (n + 1) _ (nI (cn (bg g) 40)) = _
      rw [fX7_answerOf_4, hR.1, if_pos (Int32.le_refl _)])
theorem rightAnswer8 (G : GT) (hz : Kz (G 23 0)) {ws : Nat} (hW : Wd (G 23 0) ws) : fX8_rightAnswer G = some (ans (G 23 0) (G 23 0) ws (om1 (G 23 0))) := by
  have hws := hW.2.1
  unfold fX8_rightAnswer ans
  exact up_fu (fun n w => fX8_rightAnswer_4 G n (sm (fun w => nI (cn (isv (G 23 0) (G 23 0) ws (nI w)) 40) * om1 (G 23 0) w) w) (nI w)) ws _ (by omega)
    (fun n w hw => by
      show fX8_rightAnswer_4 G (n + 1) (sm _ w) (nI w) = fX8_rightAnswer_4 G n (sm _ (w + 1)) (nI (w + 1))
      rw [fX8_rightAnswer_4, runsOf8 G hz hW, sm]
      simp (disch := omega) only [lit, litN5, le_nI, lt_nI, eq_nI, nI_nN, nN_nI, nN_lt, nN_le, lt_nN, nI_add, mul_nI, sub_nI, dec_nI, cl_nI, inb_nI, bd_some, bd2_some, gd_true, b01, isB_ite, isB_0, isB_1, hW.1]
      rw [gd_dec _ (by decide), if_neg (by omega), gd_dec _ (by omega)]
      rfl)
    (fun n => by
      show fX8_rightAnswer_4 G (n + 1) _ (nI ws) = _
      rw [fX8_rightAnswer_4]
      simp (disch := omega) only [lit, litN5, le_nI, lt_nI, eq_nI, nI_nN, nN_nI, nN_lt, nN_le, lt_nN, nI_add, mul_nI, sub_nI, dec_nI, cl_nI, inb_nI, bd_some, bd2_some, gd_true, b01, isB_ite, isB_0, isB_1, hW.1]
      rw [gd_dec _ (by decide), if_pos (Nat.le_refl _)])
theorem answerOf8 (G : GT) (hz : Kz (G 23 0)) {ws : Nat} (hW : Wd (G 23 0) ws) {l : Nat} (hl : l < 6) : fX8_answerOf G (nI l) = some (ans (G 23 0) (G 23 0) ws (om2 (G 23 0) l)) := by
  have hws := hW.2.1
  unfold fX8_answerOf ans
  exact up_fu (fun n w => fX8_answerOf_4 G (nI l) n (sm (fun w => nI (cn (isv (G 23 0) (G 23 0) ws (nI w)) 40) * om2 (G 23 0) l w) w) (nI w)) ws _ (by omega)
    (fun n w hw => by
      show fX8_answerOf_4 G (nI l) (n + 1) (sm _ w) (nI w) = fX8_answerOf_4 G (nI l) n (sm _ (w + 1)) (nI (w + 1))
      rw [fX8_answerOf_4, runsOf8 G hz hW, knows8 G hl (by omega), sm]
      simp (disch := omega) only [lit, litN5, le_nI, lt_nI, eq_nI, nI_nN, nN_nI, nN_lt, nN_le, lt_nN, nI_add, mul_nI, sub_nI, dec_nI, cl_nI, inb_nI, bd_some, bd2_some, gd_true, b01, isB_ite, isB_0, isB_1, hW.1]
      rw [gd_dec _ (by decide), if_neg (by omega)]
      unfold om2
      by_cases k : knb (G 23 0) l w = true
      · rw [if_neg (by simp [k]), gd_dec _ (by omega), if_pos k]
      · rw [if_pos k, if_neg k, ← lit 0, Int32.mul_zero])
    (fun n => by
      show fX8_answerOf_4 G (nI l) (n + 1) _ (nI ws) = _
      rw [fX8_answerOf_4]
      simp (disch := omega) only [lit, litN5, le_nI, lt_nI, eq_nI, nI_nN, nN_nI, nN_lt, nN_le, lt_nN, nI_add, mul_nI, sub_nI, dec_nI, cl_nI, inb_nI, bd_some, bd2_some, gd_true, b01, isB_ite, isB_0, isB_1, hW.1]
      rw [gd_dec _ (by decide), if_pos (Nat.le_refl _)])
