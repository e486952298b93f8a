/-! acts that change single numbers -/
def Rel (k j s : Nat) : Prop := (k = 1 ∧ s = j ∧ j < 40) ∨ (k = 2 ∧ s = 40 + j ∧ j < 40) ∨ (k = 5 ∧ s = 161 + j ∧ j < 16) ∨ (k = 7 ∧ j = 0 ∧ s = 285) ∨ (k = 8 ∧ s = 177 + j ∧ j < 96) ∨ (k = 9 ∧ s = 273 + j ∧ j < 6) ∨ (k = 10 ∧ s = 279 + j ∧ j < 6) ∨ (k = 11 ∧ 3 ≤ j ∧ j ≤ 5 ∧ s = 283 + j)
theorem up_eq {G : GT} {x : Nat → Int32} {k j s a b n : Nat} {v : Int32} (h : (a = k ∧ 0 = 0 ∧ b = j) ↔ n = s) (e : G a 0 b = x n) : up3 G k 0 j v a 0 b = upd x s v n := by
  rw [up3_r]
  unfold upd
  by_cases c : n = s
  · rw [if_pos c, if_pos (h.mpr c)]
  · rw [if_neg c, if_neg (fun q => c (h.mp q)), e]
theorem pl_upd {x : Nat → Int32} {s : Nat} {v : Int32} (hs : s < 80 ∨ 161 ≤ s) {w : Nat} (hw : w < 16) : pl (upd x s v) w = pl x w := pl_cong (fun k hk => by unfold pt; exact upd_ne (by omega))
theorem sr_up {G : GT} {x : Nat → Int32} {k j s : Nat} (h : Sr G 0 x) (hr : Rel k j s) (v : Int32) : Sr (up3 G k 0 j v) 0 (upd x s v) := by
  obtain ⟨h1, h2, h3, h6, h5, h4, h7, h8, h9, h10, ha, hb, hc⟩ := h
  unfold Rel at hr
  have hs : s < 80 ∨ 161 ≤ s := by omega
  have e80 : upd x s v 80 = x 80 := upd_ne (by omega)
  refine ⟨fun p hp => up_eq (by omega) (h1 p hp), fun p hp => up_eq (by omega) (h2 p hp), up_eq (by omega) h3, fun q hq => up_eq (by omega) (h6 q hq), fun w hw => up_eq (by omega) (h5 w hw), fun w hw hw2 => ?_, up_eq (by omega) h7, fun q hq => up_eq (by omega) (h8 q hq), fun l hl => up_eq (by omega) (h9 l hl), fun l hl => up_eq (by omega) (h10 l hl), up_eq (by omega) ha, up_eq (by omega) hb, up_eq (by omega) hc⟩
  rw [pl_upd hs hw2, up3_r, if_neg (by omega)]
  refine h4 w ?_ hw2
  unfold wz at hw ⊢
  rw [e80] at hw
  exact hw
theorem Wd_cong {x y : Nat → Int32} {ws : Nat} (e : ∀ j, 80 ≤ j → j < 161 → y j = x j) (h : Wd x ws) : Wd y ws := by
  obtain ⟨h1, h2, h3, h4, h5⟩ := h
  have ep : ∀ w k, w < 16 → k < 5 → pt y w k = pt x w k := fun w k hw hk => e _ (by omega) (by omega)
  have el : ∀ w, w < 16 → pl y w = pl x w := fun w hw => pl_cong (fun k hk => ep w k hw hk)
  refine ⟨by rw [e 80 (by decide) (by decide)]; exact h1, h2, fun w hw => by rw [el w (by omega)]; exact h3 w hw, fun w k hw hk hk5 => ?_, fun v w hv hw q => h5 v w hv hw (fun k hk => ?_)⟩
  · rw [ep w k (by omega) hk5]
    exact h4 w k hw (by rw [← el w (by omega)]; exact hk) hk5
  · rw [← ep v k (by omega) hk, ← ep w k (by omega) hk]; exact q k hk
theorem wf_upd {t : Nat} {x : Nat → Int32} {s : Nat} {v : Int32} (h : Wf t x) (hs : s < 80 ∨ 161 ≤ s) (h1 : s < 40 → nI 0 ≤ v) (h2 : s = 285 → ∃ n : Nat, 1 ≤ n ∧ n ≤ 9 ∧ v = nI n) (h3 : 177 ≤ s → s < 273 → ∃ n : Nat, n ≤ 40 * t ∧ v = nI n) : Wf t (upd x s v) := by
  obtain ⟨hz, ⟨ws, hW⟩, ⟨n, n1, n2, n3⟩, hh⟩ := h
  refine ⟨fun p hp => ?_, ⟨ws, Wd_cong (fun j a b => upd_ne (by clear h1 h2 h3 hh; omega)) hW⟩, ?_, fun j hj => ?_⟩
  · by_cases e : p = s
    · subst e; rw [upd_at]; exact h1 hp
    · rw [upd_ne e]; exact hz p hp
  · by_cases e : 285 = s
    · subst e
      obtain ⟨m, a, b, c⟩ := h2 rfl
      exact ⟨m, a, b, by rw [upd_at]; exact c⟩
    · exact ⟨n, n1, n2, by rw [upd_ne e]; exact n3⟩
  · by_cases e : 177 + j = s
    · obtain ⟨m, a, b⟩ := h3 (by omega) (by omega)
      exact ⟨m, a, by rw [e, upd_at]; exact b⟩
    · obtain ⟨m, a, b⟩ := hh j hj
      exact ⟨m, a, by rw [upd_ne e]; exact b⟩
/-- an act, packed: the class's new state is y, the reference's row is y -/
theorem act2 {t : Nat} {G : GT} (hI : Inv t G) : ∃ Ga, fX0_remember G 0 = some Ga ∧ Sr Ga 0 (G 23 0) ∧ (∀ a, 14 ≤ a → ∀ b, Ga a b = G a b) ∧ (∀ a b, 1 ≤ a → a ≤ 11 → (b = 0 ∨ b = 1 ∨ b = 6) → Ga a b = G a b) ∧ ∀ G1, FrA Ga G1 → ∀ G1', FrM G1 G1' → ∃ Gb, fX8_record G1' = some Gb ∧ Gb 23 0 = G1' 23 0 ∧ Gb 26 0 = G 26 0 ∧ Gb 27 0 = G 27 0 ∧ Gb 22 0 7 = G 22 0 7 ∧ ∀ y, Sr G1 0 y → Wf (t + 1) y → Inv (t + 1) (wc Gb 23 0 y) := by
  obtain ⟨Ga, r1, r2, r3, r4, r5⟩ := act hI
  refine ⟨Ga, r1, r2, r3, r4, fun G1 fA G1' fM => ?_⟩
  obtain ⟨Gb, b1, b2, b3, b4⟩ := r5 G1 fA G1' fM
  obtain ⟨m1, m2, m3⟩ := id fM
  refine ⟨Gb, b1, b2 23 0 (by omega), ?_, ?_, ?_, fun y hS hW => b4 _ ⟨fun a b h => wc_ne (by omega), fun s _ => by rw [wc_ne (by omega)]⟩ ?_ (by rw [wc_at]; exact hW)⟩
  · rw [b2 26 0 (by omega), m1 26 0 (by omega), fA 26 0 (by omega), r3 26 (by omega)]
  · rw [b2 27 0 (by omega), m1 27 0 (by omega), fA 27 0 (by omega), r3 27 (by omega)]
  · rw [b3 7 (by decide), m2 7 (by decide), fA 22 0 (by omega), r3 22 (by omega)]
  · rw [wc_at]
    exact hS.of (fun a p q => by rw [wc_ne (by omega), b2 a 0 (by omega), m1 a 0 (by omega)])
theorem FrA.up {Ga : GT} {k j : Nat} {v : Int32} (h1 : 1 ≤ k) (h2 : k ≤ 11) : FrA Ga (up3 Ga k 0 j v) := fun a b h => up3_ne (by omega)
theorem FrA.tr {G H K : GT} (h1 : FrA G H) (h2 : FrA H K) : FrA G K := fun a b h => (h2 a b h).trans (h1 a b h)
/-- 9 set -/
theorem op9 {t : Nat} {G : GT} (hI : Inv t G) (a : Int32) : Stq t G (fX7_set G a) (fun G1 => fX8_set G1 a) := by
  have e7 : G 7 0 0 = G 23 0 285 := hI.sr.cl.1
  unfold fX7_set fX8_set
  simp (disch := omega) only [isW, in_e, lit, litN5, le_nI, lt_nI, eq_nI, nI_nN, nN_nI, nN_lt, nN_le, lt_nN, nI_add, mul_nI, sub_nI, dec_nI, cl_nI, inb_nI, bd_some, bd2_some, gd_true, b01, isB_ite, isB_0, isB_1, st3_e]
  by_cases h : nI 1 ≤ a ∧ a ≤ nI 9
  · have hn : ¬ ¬ (nI 1 ≤ a ∧ a ≤ nI 9) := fun q => q h
    by_cases e : G 23 0 285 = a
    · refine stay hI nN G G ?_ (FrC.rf G) ?_ (FrM.rf G)
      · rw [if_neg hn, e7, if_pos e]
      · show (if ¬ _ then _ else _) = _
        rw [if_neg hn, gd_dec _ (by decide), if_pos e]
    · obtain ⟨Ga, r1, r2, r3, r4, r5⟩ := act2 hI
      obtain ⟨Gb, b1, b2, -, -, -, b3⟩ := r5 (up3 Ga 7 0 0 a) (FrA.up (by decide) (by decide)) _ (FrM.rf _)
      have e1 : up3 Ga 7 0 0 a 23 0 = G 23 0 := by rw [up3_ne (by omega), r3 23 (by omega)]
      obtain ⟨p, p1, p2, rfl⟩ := of_in h (by decide) (by decide)
      refine ⟨G 23 0 285, up3 Ga 7 0 0 (nI p), wc Gb 23 0 (upd (G 23 0) 285 (nI p)), ?_, ?_, b3 _ (sr_up r2 (by unfold Rel; omega) _) (wf_upd hI.wf.mono (by omega) (by omega) (fun _ => ⟨p, p1, p2, rfl⟩) (by omega))⟩
      · rw [if_neg hn, e7, if_neg e, r1, bd_some]
      · show (if ¬ _ then _ else _) = _
        rw [if_neg hn, gd_dec _ (by decide), e1, if_neg e, b1, bd_some, gd_dec _ (by decide), up_wc0, b2, e1]
  · refine stay hI (-(nI 2)) G G ?_ (FrC.rf G) ?_ (FrM.rf G)
    · rw [if_pos h]
    · show (if ¬ _ then _ else _) = _
      rw [if_pos h]
theorem isWord8 (G : GT) {ws : Nat} (h : G 23 0 80 = nI ws) (hws : ws ≤ 16) (a : Int32) : fX8_isWord G a = some (if nI 0 ≤ a ∧ a < nI ws then nI 1 else nI 0) := by
  unfold fX8_isWord
  simp (disch := omega) only [lit, cl_nI, inb_nI, in_e, bd_some, h]
  rw [gd_dec _ (by decide), gd_t (isB_ite _)]
  congr 1
  have e : (nI 0 ≤ a ∧ a ≤ nI ws - nI 1) = (nI 0 ≤ a ∧ a < nI ws) := by
    apply propext
    rw [Int32.le_iff_toInt_le, Int32.le_iff_toInt_le, Int32.lt_iff_toInt_lt]
    have e1 : (nI ws - nI 1).toInt = (ws : Int) - 1 := by
      by_cases z : ws = 0
      · subst z; rfl
      · rw [sub_nI (by omega), nI_toInt (by omega)]; omega
    rw [e1, nI_toInt (show ws < 2 ^ 31 by omega)]
    omega
  simp only [e]
/-- 5 setRings -/
theorem op5 {t : Nat} {G : GT} (hI : Inv t G) (a b : Int32) : Stq t G (fX7_setRings G a b) (fun G1 => fX8_setRings G1 a b) := by
  obtain ⟨hz, ⟨ws, hW⟩, -⟩ := hI.wf
  have hC := hI.sr.cw hW
  have hws := hW.2.1
  unfold fX7_setRings fX8_setRings
  simp only [isW, in_e, bd_some, st3_e, has6 G hC.1 hws]
  simp only [lit, b01]
  by_cases hw : nI 0 ≤ a ∧ a < nI ws
  · have hwn : ¬ ¬ (nI 0 ≤ a ∧ a < nI ws) := fun q => q hw
    by_cases h : nI 1 ≤ b ∧ b ≤ nI 9
    · have hn : ¬ ¬ (nI 1 ≤ b ∧ b ≤ nI 9) := fun q => q h
      obtain ⟨w, -, w2, rfl⟩ := of_lt hw (by decide) (by omega)
      by_cases e : G 23 0 (161 + w) = b
      · refine stay hI nN G G ?_ (FrC.rf G) ?_ (FrM.rf G)
        · rw [if_neg hwn, if_neg hn, ringsOf6 G hC hws w2, bd_some, if_pos e, litN5]
        · show bd (fX8_isWord G _) _ = _
          rw [isWord8 G hW.1 hws, bd_some]
          simp (disch := omega) only [lit, litN5, le_nI, lt_nI, eq_nI, nI_nN, nN_nI, nN_lt, nN_le, lt_nN, nI_add, mul_nI, sub_nI, dec_nI, cl_nI, inb_nI, bd_some, bd2_some, gd_true, b01, isB_ite, isB_0, isB_1]
          rw [if_neg (show ¬ ¬ (0 ≤ w ∧ w < ws) by omega), if_neg hn, gd_dec _ (by omega), if_pos e]
      · obtain ⟨Ga, r1, r2, r3, r4, r5⟩ := act2 hI
        obtain ⟨Gb, b1, b2, -, -, -, b3⟩ := r5 (up3 Ga 5 0 w b) (FrA.up (by decide) (by decide)) _ (FrM.rf _)
        have e1 : up3 Ga 5 0 w b 23 0 = G 23 0 := by rw [up3_ne (by omega), r3 23 (by omega)]
        refine ⟨G 23 0 (161 + w), up3 Ga 5 0 w b, wc Gb 23 0 (upd (G 23 0) (161 + w) b), ?_, ?_, b3 _ (sr_up r2 (by unfold Rel; omega) _) (wf_upd hI.wf.mono (by omega) (by omega) (by omega) (by omega))⟩
        · rw [if_neg hwn, if_neg hn, ringsOf6 G hC hws w2, bd_some, if_neg e, r1, bd_some]
          unfold fX6_changeRings
          rw [has6n Ga (by rw [r4 3 0 (by decide) (by decide) (Or.inl rfl)]; exact hC.1) hws (by omega), if_pos w2]
          simp (disch := omega) only [lit, litN5, le_nI, lt_nI, eq_nI, nI_nN, nN_nI, nN_lt, nN_le, lt_nN, nI_add, mul_nI, sub_nI, dec_nI, cl_nI, inb_nI, bd_some, bd2_some, gd_true, b01, isB_ite, isB_0, isB_1, st3_e]
          rw [if_neg (by decide), gd_dec _ (by omega), bd_some]
        · show bd (fX8_isWord (up3 Ga 5 0 w b) _) _ = _
          rw [isWord8 (up3 Ga 5 0 w b) (by rw [e1]; exact hW.1) hws, bd_some]
          simp (disch := omega) only [lit, litN5, le_nI, lt_nI, eq_nI, nI_nN, nN_nI, nN_lt, nN_le, lt_nN, nI_add, mul_nI, sub_nI, dec_nI, cl_nI, inb_nI, bd_some, bd2_some, gd_true, b01, isB_ite, isB_0, isB_1]
          rw [if_neg (show ¬ ¬ (0 ≤ w ∧ w < ws) by omega), if_neg hn, gd_dec _ (by omega), e1, if_neg e, b1, bd_some, gd_dec _ (by omega), up_wc0, b2, e1]
    · refine stay hI (-(nI 2)) G G ?_ (FrC.rf G) ?_ (FrM.rf G)
      · rw [if_neg hwn, if_pos h]
      · show bd (fX8_isWord G _) _ = _
        rw [isWord8 G hW.1 hws, bd_some]
        simp only [b01]
        rw [if_neg hwn, if_pos h]
  · refine stay hI (-(nI 1)) G G ?_ (FrC.rf G) ?_ (FrM.rf G)
    · rw [if_pos hw]
    · show bd (fX8_isWord G _) _ = _
      rw [isWord8 G hW.1 hws, bd_some]
      simp only [b01]
      rw [if_pos hw]
/-- 7 forget, 8 tell: what both begin with -/
theorem hear_e (G : GT) {l w : Nat} (hl : l < 6) (hw : w < 16) (d : Int32) : fX1_hear G 0 (nI l) (nI w) d = some (up3 G 8 0 (l * 16 + w) (G 8 0 (l * 16 + w) + d)) := by
  unfold fX1_hear
  rw [areThere_e hl hw]
  simp (disch := omega) only [lit, litN5, le_nI, lt_nI, eq_nI, nI_nN, nN_nI, nN_lt, nN_le, lt_nN, nI_add, mul_nI, sub_nI, dec_nI, cl_nI, inb_nI, bd_some, bd2_some, gd_true, b01, isB_ite, isB_0, isB_1, st3_e]
  rw [if_neg (by decide), gd_dec _ (by omega), gd_dec _ (by omega)]
theorem add_neg (a : Int32) : a + -a = nI 0 := by
  have := Int32.add_right_neg a
  rw [this]; rfl
theorem op7 {t : Nat} {G : GT} (hI : Inv t G) (a b : Int32) : Stq t G (fX7_forget G a b) (fun G1 => fX8_forget G1 a b) := by
  obtain ⟨hz, ⟨ws, hW⟩, -, hh⟩ := hI.wf
  have hC := hI.sr.cw hW
  have hL := hI.sr.cl
  have hws := hW.2.1
  unfold fX7_forget fX8_forget
  simp only [isL7, isL8, bd_some, st3_e, has6 G hC.1 hws]
  simp only [lit, b01]
  by_cases hl : nI 0 ≤ a ∧ a ≤ nI 5
  · have hln : ¬ ¬ (nI 0 ≤ a ∧ a ≤ nI 5) := fun q => q hl
    obtain ⟨l, -, l2, rfl⟩ := of_in hl (by decide) (by decide)
    by_cases hw : nI 0 ≤ b ∧ b < nI ws
    · have hwn : ¬ ¬ (nI 0 ≤ b ∧ b < nI ws) := fun q => q hw
      obtain ⟨w, -, w2, rfl⟩ := of_lt hw (by decide) (by omega)
      have e8 : G 8 0 (l * 16 + w) = G 23 0 (177 + 16 * l + w) := by rw [hL.2.1 _ (by omega)]; congr 1; omega
      by_cases e : G 23 0 (177 + 16 * l + w) = nI 0
      · refine stay hI nN G G ?_ (FrC.rf G) ?_ (FrM.rf G)
        · rw [if_neg hln, if_neg hwn, timesHeard_e G (by omega) (by omega), bd_some, e8, if_pos e, litN5]
        · show (if ¬ _ then _ else _) = _
          rw [if_neg hln, isWord8 G hW.1 hws, heardOf8 G (by omega) (by omega), bd_some, bd_some]
          simp only [b01]
          rw [if_neg hwn, if_pos e, litN5]
      · obtain ⟨Ga, r1, r2, r3, r4, r5⟩ := act2 hI
        have ea : Ga 8 0 (l * 16 + w) = G 23 0 (177 + 16 * l + w) := by rw [r4 8 0 (by decide) (by decide) (Or.inl rfl)]; exact e8
        obtain ⟨Gb, b1, b2, -, -, -, b3⟩ := r5 (up3 Ga 8 0 (l * 16 + w) (nI 0)) (FrA.up (by decide) (by decide)) _ (FrM.rf _)
        have e1 : up3 Ga 8 0 (l * 16 + w) (nI 0) 23 0 = G 23 0 := by rw [up3_ne (by omega), r3 23 (by omega)]
        refine ⟨G 23 0 (177 + 16 * l + w), up3 Ga 8 0 (l * 16 + w) (nI 0), wc Gb 23 0 (upd (G 23 0) (177 + 16 * l + w) (nI 0)), ?_, ?_, b3 _ (sr_up r2 (by unfold Rel; omega) _) (wf_upd hI.wf.mono (by omega) (by omega) (by omega) (fun _ _ => ⟨0, Nat.zero_le _, rfl⟩))⟩
        · rw [if_neg hln, if_neg hwn, timesHeard_e G (by omega) (by omega), bd_some, e8, if_neg e, r1, bd_some, hear_e Ga (by omega) (by omega), bd_some, ea, add_neg]
        · show (if ¬ _ then _ else _) = _
          rw [if_neg hln, isWord8 _ (by rw [e1]; exact hW.1) hws, heardOf8 _ (by omega) (by omega), bd_some, bd_some]
          simp only [b01]
          rw [if_neg hwn, e1, if_neg e, b1, bd_some]
          simp (disch := omega) only [lit, litN5, le_nI, lt_nI, eq_nI, nI_nN, nN_nI, nN_lt, nN_le, lt_nN, nI_add, mul_nI, sub_nI, dec_nI, cl_nI, inb_nI, bd_some, bd2_some, gd_true, b01, isB_ite, isB_0, isB_1]
          rw [gd_dec _ (by omega), up_wc0, b2, e1]
    · refine stay hI (-(nI 1)) G G ?_ (FrC.rf G) ?_ (FrM.rf G)
      · rw [if_neg hln, if_pos hw]
      · show (if ¬ _ then _ else _) = _
        rw [if_neg hln, isWord8 G hW.1 hws, bd_some]
        simp only [b01]
        rw [if_pos hw]
  · refine stay hI (-(nI 1)) G G ?_ (FrC.rf G) ?_ (FrM.rf G)
    · rw [if_pos hl]
    · show (if ¬ _ then _ else _) = _
      rw [if_pos hl]
/-- 8 tell -/
theorem op8 {t : Nat} {G : GT} (hI : Inv t G) (a b : Int32) : Stq t G (fX7_tell G a b) (fun G1 => fX8_tell G1 a b) := by
  obtain ⟨hz, ⟨ws, hW⟩, -, hh⟩ := hI.wf
  have hC := hI.sr.cw hW
  have hL := hI.sr.cl
  have hws := hW.2.1
  unfold fX7_tell fX8_tell
  simp only [isL7, isL8, bd_some, st3_e, has6 G hC.1 hws]
  simp only [lit, b01]
  by_cases hl : nI 0 ≤ a ∧ a ≤ nI 5
  · have hln : ¬ ¬ (nI 0 ≤ a ∧ a ≤ nI 5) := fun q => q hl
    obtain ⟨l, -, l2, rfl⟩ := of_in hl (by decide) (by decide)
    by_cases hw : nI 0 ≤ b ∧ b < nI ws
    · have hwn : ¬ ¬ (nI 0 ≤ b ∧ b < nI ws) := fun q => q hw
      obtain ⟨w, -, w2, rfl⟩ := of_lt hw (by decide) (by omega)
      have e8 : G 8 0 (l * 16 + w) = G 23 0 (177 + 16 * l + w) := by rw [hL.2.1 _ (by omega)]; congr 1; omega
      by_cases e : G 23 0 (177 + 16 * l + w) < nI 999
      · obtain ⟨Ga, r1, r2, r3, r4, r5⟩ := act2 hI
        have ea : Ga 8 0 (l * 16 + w) = G 23 0 (177 + 16 * l + w) := by rw [r4 8 0 (by decide) (by decide) (Or.inl rfl)]; exact e8
        obtain ⟨n, hn, en⟩ := hh (16 * l + w) (by omega)
        have en : G 23 0 (177 + 16 * l + w) = nI n := by rw [← en]; congr 1; omega
        obtain ⟨Gb, b1, b2, -, -, -, b3⟩ := r5 (up3 Ga 8 0 (l * 16 + w) (nI (n + 1))) (FrA.up (by decide) (by decide)) _ (FrM.rf _)
        have e1 : up3 Ga 8 0 (l * 16 + w) (nI (n + 1)) 23 0 = G 23 0 := by rw [up3_ne (by omega), r3 23 (by omega)]
        refine ⟨nI (n + 1), up3 Ga 8 0 (l * 16 + w) (nI (n + 1)), wc Gb 23 0 (upd (G 23 0) (177 + 16 * l + w) (nI (n + 1))), ?_, ?_, b3 _ (sr_up r2 (by unfold Rel; omega) _) (wf_upd hI.wf.mono (by omega) (by omega) (by omega) (fun _ _ => ⟨n + 1, by omega, rfl⟩))⟩
        · rw [if_neg hln, if_neg hwn, timesHeard_e G (by omega) (by omega), bd_some, e8, if_pos e, r1, bd_some, hear_e Ga (by omega) (by omega), bd_some, ea, en, nI_add, timesHeard_e _ (by omega) (by omega), bd_some, up3_r, if_pos ⟨rfl, rfl, rfl⟩]
        · show (if ¬ _ then _ else _) = _
          rw [if_neg hln, isWord8 _ (by rw [e1]; exact hW.1) hws, heardOf8 _ (by omega) (by omega), bd_some, bd_some]
          simp only [b01]
          rw [if_neg hwn, e1, if_pos e, b1, bd_some]
          simp (disch := omega) only [lit, litN5, le_nI, lt_nI, eq_nI, nI_nN, nN_nI, nN_lt, nN_le, lt_nN, nI_add, mul_nI, sub_nI, dec_nI, cl_nI, inb_nI, bd_some, bd2_some, gd_true, b01, isB_ite, isB_0, isB_1]
          rw [gd_dec _ (by omega), gd_dec _ (by omega), up_wc0, b2, e1, en, nI_add, heardOf8 _ (by omega) (by omega), bd_some, wc_at, upd_at]
      · refine stay hI (-(nI 3)) G G ?_ (FrC.rf G) ?_ (FrM.rf G)
        · rw [if_neg hln, if_neg hwn, timesHeard_e G (by omega) (by omega), bd_some, e8, if_neg e]
        · show (if ¬ _ then _ else _) = _
          rw [if_neg hln, isWord8 G hW.1 hws, heardOf8 G (by omega) (by omega), bd_some, bd_some]
          simp only [b01]
          rw [if_neg hwn, if_neg e]
    · refine stay hI (-(nI 1)) G G ?_ (FrC.rf G) ?_ (FrM.rf G)
      · rw [if_neg hln, if_pos hw]
      · show (if ¬ _ then _ else _) = _
        rw [if_neg hln, isWord8 G hW.1 hws, bd_some]
        simp only [b01]
        rw [if_pos hw]
  · refine stay hI (-(nI 1)) G G ?_ (FrC.rf G) ?_ (FrM.rf G)
    · rw [if_pos hl]
    · show (if ¬ _ then _ else _) = _
      rw [if_pos hl]
/-- 23 heard -/
theorem op23 {t : Nat} {G : GT} (hI : Inv t G) (a b : Int32) : Stq t G (lf1 (fX7_heard G a b) G) (fun G1 => lf1 (fX8_heard G1 a b) G1) := by
  obtain ⟨hz, ⟨ws, hW⟩, -, hh⟩ := hI.wf
  have hC := hI.sr.cw hW
  have hL := hI.sr.cl
  have hws := hW.2.1
  refine stay1 hI ?_
  unfold fX7_heard fX8_heard
  simp only [isL7, isL8, bd_some, has6 G hC.1 hws, isWord8 G hW.1 hws]
  simp only [lit, b01]
  by_cases hl : nI 0 ≤ a ∧ a ≤ nI 5
  · have hln : ¬ ¬ (nI 0 ≤ a ∧ a ≤ nI 5) := fun q => q hl
    obtain ⟨l, -, l2, rfl⟩ := of_in hl (by decide) (by decide)
    by_cases hw : nI 0 ≤ b ∧ b < nI ws
    · have hwn : ¬ ¬ (nI 0 ≤ b ∧ b < nI ws) := fun q => q hw
      obtain ⟨w, -, w2, rfl⟩ := of_lt hw (by decide) (by omega)
      have e8 : G 8 0 (l * 16 + w) = G 23 0 (177 + 16 * l + w) := by rw [hL.2.1 _ (by omega)]; congr 1; omega
      refine ⟨G 23 0 (177 + 16 * l + w), ?_, ?_⟩
      · rw [if_neg hln, if_neg hwn, timesHeard_e G (by omega) (by omega), bd_some, e8]
      · rw [if_neg hln, if_neg hwn, heardOf8 G (by omega) (by omega), bd_some]
    · exact ⟨_, by rw [if_neg hln, if_pos hw], by rw [if_neg hln, if_pos hw]⟩
  · exact ⟨_, by rw [if_pos hl], by rw [if_pos hl]⟩
