/-! the class's words (state 0): what its rows hold -/
def Cw (G : GT) (x : Nat → Int32) (ws : Nat) : Prop := G 3 0 0 = nI ws ∧ (∀ j, j < 80 → G 6 0 j = x (81 + j)) ∧ (∀ w, w < 16 → G 5 0 w = x (161 + w)) ∧ ∀ w, w < ws → G 4 0 w = nI (pl x w)
theorem has6 (G : GT) {ws : Nat} (h3 : G 3 0 0 = nI ws) (hws : ws ≤ 16) (a : Int32) : fX6_has G 0 a = some (if nI 0 ≤ a ∧ a < nI ws then nI 1 else nI 0) := by
  unfold fX6_has
  rw [h3]
  simp only [lit]
  have e16 : nI ws ≤ nI 16 := nI_le hws (by decide)
  by_cases h1 : a < nI 0
  · rw [if_pos h1, if_neg (fun q => by
      have a1 := Int32.lt_iff_toInt_lt.mp h1
      have a2 := Int32.le_iff_toInt_le.mp q.1
      omega)]
  · rw [if_neg h1]
    by_cases h2 : nI ws ≤ a
    · rw [if_pos h2, if_neg (fun q => by
        have a1 := Int32.le_iff_toInt_le.mp h2
        have a2 := Int32.lt_iff_toInt_lt.mp q.2
        omega)]
    · rw [if_neg h2]
      have a1 := Int32.le_iff_toInt_le.mp e16
      have a2 : ¬ (nI ws).toInt ≤ a.toInt := fun q => h2 (Int32.le_iff_toInt_le.mpr q)
      have a3 : ¬ a.toInt < (nI 0).toInt := fun q => h1 (Int32.lt_iff_toInt_lt.mpr q)
      rw [if_neg (fun q => by
        have := Int32.le_iff_toInt_le.mp q
        omega), if_pos ⟨Int32.le_iff_toInt_le.mpr (by omega), Int32.lt_iff_toInt_lt.mpr (by omega)⟩]
theorem has6n (G : GT) {ws : Nat} (h3 : G 3 0 0 = nI ws) (hws : ws ≤ 16) {w : Nat} (hw : w < 2 ^ 31) : fX6_has G 0 (nI w) = some (if w < ws then nI 1 else nI 0) := by
  rw [has6 G h3 hws]
  simp (disch := omega) only [lt_nI, le_nI, Nat.zero_le, true_and]
theorem lengthOf6 (G : GT) {x : Nat → Int32} {ws w : Nat} (hC : Cw G x ws) (hws : ws ≤ 16) (hw : w < ws) : fX6_lengthOf G 0 (nI w) = some (nI (pl x w)) := by
  obtain ⟨h3, -, -, h4⟩ := hC
  unfold fX6_lengthOf
  rw [has6n G h3 hws (by omega), if_pos hw]
  simp (disch := omega) only [lit, litN5, le_nI, lt_nI, eq_nI, nI_nN, nN_nI, nN_lt, nN_le, lt_nN, nI_add, mul_nI, sub_nI, dec_nI, cl_nI, inb_nI, bd_some, bd2_some, gd_true, b01, isB_ite, isB_0, isB_1, h4 w hw]
  rw [if_neg (by decide), gd_dec _ (by omega)]
theorem ringsOf6 (G : GT) {x : Nat → Int32} {ws w : Nat} (hC : Cw G x ws) (hws : ws ≤ 16) (hw : w < ws) : fX6_ringsOf G 0 (nI w) = some (x (161 + w)) := by
  obtain ⟨h3, -, h5, -⟩ := hC
  unfold fX6_ringsOf
  rw [has6n G h3 hws (by omega), if_pos hw]
  simp (disch := omega) only [lit, litN5, le_nI, lt_nI, eq_nI, nI_nN, nN_nI, nN_lt, nN_le, lt_nN, nI_add, mul_nI, sub_nI, dec_nI, cl_nI, inb_nI, bd_some, bd2_some, gd_true, b01, isB_ite, isB_0, isB_1, h5 w (show w < 16 by omega)]
  rw [if_neg (by decide), gd_dec _ (by omega)]
theorem ringsOf6_m (G : GT) {ws : Nat} (h3 : G 3 0 0 = nI ws) (hws : ws ≤ 16) : fX6_ringsOf G 0 nN = some (nI 0) := by
  unfold fX6_ringsOf
  rw [has6 G h3 hws, if_neg (fun q => absurd q.1 (by decide))]
  rfl
theorem kindAt6 (G : GT) {x : Nat → Int32} {ws w k : Nat} (hC : Cw G x ws) (hws : ws ≤ 16) (hw : w < ws) (hk : k < 5) : fX6_kindAt G 0 (nI w) (nI k) = some (pt x w k) := by
  obtain ⟨h3, h6, -, -⟩ := hC
  unfold fX6_kindAt
  rw [has6n G h3 hws (by omega), if_pos hw]
  simp (disch := omega) only [lit, litN5, le_nI, lt_nI, eq_nI, nI_nN, nN_nI, nN_lt, nN_le, lt_nN, nI_add, mul_nI, sub_nI, dec_nI, cl_nI, inb_nI, bd_some, bd2_some, gd_true, b01, isB_ite, isB_0, isB_1, isW]
  rw [if_neg (by decide), if_neg (by omega)]
  unfold fX6_kindAt_22
  simp (disch := omega) only [lit, litN5, le_nI, lt_nI, eq_nI, nI_nN, nN_nI, nN_lt, nN_le, lt_nN, nI_add, mul_nI, sub_nI, dec_nI, cl_nI, inb_nI, bd_some, bd2_some, gd_true, b01, isB_ite, isB_0, isB_1]
  rw [if_neg (by decide), gd_dec _ (by omega), h6 _ (by omega)]
  unfold pt
  congr 2
  omega
theorem standsAt6 (G : GT) {x : Nat → Int32} {ws w p r : Nat} (hC : Cw G x ws) (hws : ws ≤ 16) (hw : w < ws) (hp : p ≤ 80) : fX6_standsAt G 0 (nI w) r (nI p) = some (if atb (G 1 r) x w p (pl x w) = true then nI 1 else nI 0) := by
  have hl := pl_le x w
  unfold fX6_standsAt
  rw [lengthOf6 G hC hws hw, bd_some]
  exact lp_fu (fun n (_ : Unit) k => fX6_standsAt_10 G 0 r (nI w) (nI p) (nI (pl x w)) n (nI k)) (pl x w) (fun _ _ => some (if atb (G 1 r) x w p (pl x w) = true then nI 1 else nI 0)) (fun _ k => atb (G 1 r) x w p k = true) (by omega)
    (fun n c k hk hc => by
      show (∃ s' : Unit, atb (G 1 r) x w p (k + 1) = true ∧ fX6_standsAt_10 G 0 r (nI w) (nI p) (nI (pl x w)) (n + 1) (nI k) = fX6_standsAt_10 G 0 r (nI w) (nI p) (nI (pl x w)) n (nI (k + 1)) ∧ _ = _) ∨ fX6_standsAt_10 G 0 r (nI w) (nI p) (nI (pl x w)) (n + 1) (nI k) = _
      rw [fX6_standsAt_10, kindAt6 G hC hws hw (by omega)]
      simp (disch := omega) only [lit, litN5, le_nI, lt_nI, eq_nI, nI_nN, nN_nI, nN_lt, nN_le, lt_nN, nI_add, mul_nI, sub_nI, dec_nI, cl_nI, inb_nI, bd_some, bd2_some, gd_true, b01, isB_ite, isB_0, isB_1]
      rw [kindAt_e G r (by omega), if_neg (by omega)]
      simp only [bd_some]
      by_cases e : pt x w k = kv (G 1 r) (p + k)
      · exact Or.inl ⟨(), by simp [atb, hc, e], by rw [if_pos e], trivial⟩
      · refine Or.inr ?_
        rw [if_neg e, if_neg (fun q => e (atb_iff.mp q k hk))])
    (fun n c hc => by
      show fX6_standsAt_10 G 0 r (nI w) (nI p) (nI (pl x w)) (n + 1) (nI (pl x w)) = _
      rw [fX6_standsAt_10, if_pos (Int32.le_refl _), if_pos hc]
      rfl)
    0 () (Nat.zero_le _) rfl
theorem find6 (G : GT) {x : Nat → Int32} {ws p r len : Nat} (hC : Cw G x ws) (hws : ws ≤ 16) (hp : p ≤ 40) (hlen : len < 2 ^ 31) : fX6_find G 0 r (nI p) (nI len) = some (wi (G 1 r) x ws len p) := by
  have h3 := hC.1
  unfold fX6_find wi
  exact lp_fu (fun n (_ : Unit) w => fX6_find_3 G 0 r (nI p) (nI len) n (nI w)) ws (fun _ w => some (wfF (G 1 r) x len p (ws - w) w)) (fun _ _ => True) (by omega)
    (fun n c w hw _ => by
      have hl := pl_le x w
      show (∃ s' : Unit, True ∧ fX6_find_3 G 0 r (nI p) (nI len) (n + 1) (nI w) = fX6_find_3 G 0 r (nI p) (nI len) n (nI (w + 1)) ∧ some (wfF (G 1 r) x len p (ws - w) w) = some (wfF (G 1 r) x len p (ws - (w + 1)) (w + 1))) ∨ fX6_find_3 G 0 r (nI p) (nI len) (n + 1) (nI w) = some (wfF (G 1 r) x len p (ws - w) w)
      rw [fX6_find_3, lengthOf6 G hC hws hw, standsAt6 G hC hws hw (by omega), show ws - w = (ws - (w + 1)) + 1 by omega, wfF]
      simp (disch := omega) only [lit, litN5, le_nI, lt_nI, eq_nI, nI_nN, nN_nI, nN_lt, nN_le, lt_nN, nI_add, mul_nI, sub_nI, dec_nI, cl_nI, inb_nI, bd_some, bd2_some, gd_true, b01, isB_ite, isB_0, isB_1, h3]
      rw [if_neg (by omega)]
      by_cases h1 : pl x w = len
      · rw [if_pos h1]
        by_cases h2 : atb (G 1 r) x w p (pl x w) = true
        · exact Or.inr (by rw [if_neg (by simp [h2]), if_pos (mt_iff.mpr ⟨h1, h2⟩)])
        · exact Or.inl ⟨(), trivial, by rw [if_pos h2], by rw [if_neg (fun q => h2 (mt_iff.mp q).2)]⟩
      · exact Or.inl ⟨(), trivial, by rw [if_neg h1], by rw [if_neg (fun q => h1 (mt_iff.mp q).1)]⟩)
    (fun n c _ => by
      show fX6_find_3 G 0 r (nI p) (nI len) (n + 1) (nI ws) = some (wfF (G 1 r) x len p (ws - ws) ws)
      rw [fX6_find_3, h3, if_pos (Int32.le_refl _), Nat.sub_self]
      rfl)
    0 () (Nat.zero_le _) trivial
