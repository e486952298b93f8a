/-! tie, untie, layRope, undo, keep, restore -/
theorem put_up (G : GT) {p : Nat} (hp : p < 40) (k t : Int32) : fX2_put G 0 (nI p) k t = some (up3 (up3 G 1 0 p k) 2 0 p t) := by
  rw [put_e G 0 hp, up_wc0 (up3 G 1 0 p k), up_wc0 G 1 0 p k, wc_ne (show ¬ (2 = 1 ∧ 0 = 0) by omega)]
theorem sr_put {G : GT} {x : Nat → Int32} (h : Sr G 0 x) {p : Nat} (hp : p < 40) (k t : Int32) : Sr (up3 (up3 G 1 0 p k) 2 0 p t) 0 (upd (upd x p k) (40 + p) t) := sr_up (sr_up h (by unfold Rel; omega) k) (by unfold Rel; omega) t
/-- the runs read, for any state -/
theorem rs_read {G : GT} {y : Nat → Int32} {ws : Nat} (hS : Sr G 0 y) (hW : Wd y ws) : ∃ G1, fX7_readRuns G = some G1 ∧ (∀ a b, ¬ (16 ≤ a ∧ a ≤ 19 ∧ b = 0) → G1 a b = G a b) ∧ RD G1 0 y y ws := by
  refine ⟨_, ?_, ?_, RD_f (kv_f hS.1) (RD_of G 0 (G 1 0) y ws)⟩
  · unfold fX7_readRuns
    rw [read_e G 0 0 (hS.cw hW) hW.2.1]
    rfl
  · intro a b h
    exact RH_ne h
/-- 1 untie -/
theorem op1 {t : Nat} {G : GT} (hI : Inv t G) (a : Int32) : Stq t G (fX7_untie G a) (fun G1 => fX8_untie G1 a) := by
  unfold fX7_untie fX8_untie
  simp only [isW, isPlace8, bd_some, lit, b01, st3_e]
  by_cases h : nI 0 ≤ a ∧ a ≤ nI 39
  · have hn : ¬ ¬ (nI 0 ≤ a ∧ a ≤ nI 39) := fun q => q h
    obtain ⟨p, -, hp, rfl⟩ := of_in h (by decide) (by decide)
    have hp : p < 40 := by omega
    by_cases e : G 23 0 p = nI 0
    · refine stay hI nN G G ?_ (FrC.rf G) ?_ (FrM.rf G)
      · rw [if_neg hn, kindAt_e G 0 (by omega), bd_some, kv_in hp, hI.r1 p hp, if_pos e, litN5]
      · show (if ¬ _ then _ else _) = _
        rw [if_neg hn]
        simp (disch := omega) only [lit, litN5, le_nI, lt_nI, eq_nI, nI_nN, nN_nI, nN_lt, nN_le, lt_nN, nI_add, mul_nI, sub_nI, dec_nI, cl_nI, inb_nI, bd_some, bd2_some, gd_true, b01, isB_ite, isB_0, isB_1, Nat.zero_add]
        rw [gd_dec _ (by omega), if_pos e]
    · obtain ⟨Ga, r1, r2, r3, r4, r5⟩ := act2 hI
      have hF : FrA Ga (up3 (up3 Ga 1 0 p (nI 0)) 2 0 p (nI 0)) := FrA.tr (FrA.up (by decide) (by decide)) (FrA.up (by decide) (by decide))
      obtain ⟨Gb, b1, b2, -, -, -, b3⟩ := r5 _ hF _ (FrM.rf _)
      have e1 : up3 (up3 Ga 1 0 p (nI 0)) 2 0 p (nI 0) 23 0 = G 23 0 := by rw [up3_ne (by omega), up3_ne (by omega), r3 23 (by omega)]
      refine ⟨G 23 0 p, up3 (up3 Ga 1 0 p (nI 0)) 2 0 p (nI 0), wc Gb 23 0 (upd (upd (G 23 0) p (nI 0)) (40 + p) (nI 0)), ?_, ?_, b3 _ (sr_put r2 hp _ _) (wf_upd (wf_upd hI.wf.mono (by omega) (fun _ => Int32.le_refl _) (by omega) (by omega)) (by omega) (by omega) (by omega) (by omega))⟩
      · rw [if_neg hn, kindAt_e G 0 (by omega), bd_some, kv_in hp, hI.r1 p hp, if_neg e, r1, bd_some, put_up Ga hp, bd_some]
      · show (if ¬ _ then _ else _) = _
        rw [if_neg hn]
        simp (disch := omega) only [lit, litN5, le_nI, lt_nI, eq_nI, nI_nN, nN_nI, nN_lt, nN_le, lt_nN, nI_add, mul_nI, sub_nI, dec_nI, cl_nI, inb_nI, bd_some, bd2_some, gd_true, b01, isB_ite, isB_0, isB_1, Nat.zero_add]
        rw [gd_dec _ (by omega), e1, if_neg e, b1, bd_some, gd_dec _ (by omega), gd_dec _ (by omega), up_wc0 Gb, up_wc, b2, e1]
  · refine stay hI (-(nI 1)) G G ?_ (FrC.rf G) ?_ (FrM.rf G)
    · rw [if_pos h]
    · show (if ¬ _ then _ else _) = _
      rw [if_pos h]
/-- 0 tie -/
theorem op0 {t : Nat} {G : GT} (hI : Inv t G) (a b c : Int32) : Stq t G (fX7_tie G a b c) (fun G1 => fX8_tie G1 a b c) := by
  unfold fX7_tie fX8_tie fX7_tie_67 fX8_tie_59
  simp only [isW, in_e, isPlace8, bd_some, lit, b01, st3_e]
  by_cases h : nI 0 ≤ a ∧ a ≤ nI 39
  · have hn : ¬ ¬ (nI 0 ≤ a ∧ a ≤ nI 39) := fun q => q h
    by_cases hb : nI 1 ≤ b ∧ b ≤ nI 5
    · have hbn : ¬ ¬ (nI 1 ≤ b ∧ b ≤ nI 5) := fun q => q hb
      by_cases hc : nI 1 ≤ c ∧ c ≤ nI 9
      · have hcn : ¬ ¬ (nI 1 ≤ c ∧ c ≤ nI 9) := fun q => q hc
        obtain ⟨p, -, hp, rfl⟩ := of_in h (by decide) (by decide)
        have hp : p < 40 := by omega
        by_cases e : G 23 0 p = b ∧ G 23 0 (40 + p) = c
        · refine stay hI nN G G ?_ (FrC.rf G) ?_ (FrM.rf G)
          · rw [if_neg hn, if_neg hbn, if_neg hcn, kindAt_e G 0 (by omega), bd_some, kv_in hp, hI.r1 p hp, if_pos e.1, tightAt_e G 0 (by omega), bd_some, kv_in hp, hI.sr.2.1 p hp, if_pos e.2, litN5]
          · show (if ¬ _ then _ else _) = _
            rw [if_neg hn, if_neg hbn, if_neg hcn]
            simp (disch := omega) only [lit, litN5, le_nI, lt_nI, eq_nI, nI_nN, nN_nI, nN_lt, nN_le, lt_nN, nI_add, mul_nI, sub_nI, dec_nI, cl_nI, inb_nI, bd_some, bd2_some, gd_true, b01, isB_ite, isB_0, isB_1, Nat.zero_add]
            rw [gd_dec _ (by omega), if_pos e.1, gd_dec _ (by omega), if_pos e.2]
        · obtain ⟨Ga, r1, r2, r3, r4, r5⟩ := act2 hI
          have hS := sr_put r2 hp b c
          have hb0 : nI 0 ≤ b := Int32.le_trans (by decide) hb.1
          have hWf : Wf (t + 1) (upd (upd (G 23 0) p b) (40 + p) c) := wf_upd (wf_upd hI.wf.mono (by omega) (fun _ => hb0) (by omega) (by omega)) (by omega) (by omega) (by omega) (by omega)
          obtain ⟨hz, ⟨ws, hW⟩, -⟩ := id hWf
          obtain ⟨G1, s1, s2, s3⟩ := rs_read hS hW
          have hF : FrA Ga G1 := FrA.tr (FrA.tr (FrA.up (by decide) (by decide)) (FrA.up (by decide) (by decide))) (fun a b q => s2 a b (by omega))
          obtain ⟨Gb, b1, b2, -, -, -, b3⟩ := r5 _ hF _ (FrM.rf _)
          have e1 : G1 23 0 = G 23 0 := by rw [s2 23 0 (by omega), up3_ne (by omega), up3_ne (by omega), r3 23 (by omega)]
          refine ⟨nI (cn (bg (upd (upd (G 23 0) p b) (40 + p) c)) 40), G1, wc Gb 23 0 (upd (upd (G 23 0) p b) (40 + p) c), ?_, ?_, b3 _ (hS.of (fun a q r => s2 a 0 (by omega))) hWf⟩
          · have : (if G 23 0 p = b then bd (fX2_tightAt G 0 (nI p)) (fun r13 => if r13 = c then some (-nI 5, G) else bd (fX0_remember G 0) (fun G2 => bd (fX2_put G2 0 (nI p) b c) (fun G5 => bd (fX7_readRuns G5) (fun G8 => some ((G8 16 0 0), G8))))) else bd (fX0_remember G 0) (fun G2 => bd (fX2_put G2 0 (nI p) b c) (fun G5 => bd (fX7_readRuns G5) (fun G8 => some ((G8 16 0 0), G8))))) = some (nI (cn (bg (upd (upd (G 23 0) p b) (40 + p) c)) 40), G1) := by
              have k : bd (fX0_remember G 0) (fun G2 => bd (fX2_put G2 0 (nI p) b c) (fun G5 => bd (fX7_readRuns G5) (fun G8 => some ((G8 16 0 0), G8)))) = some (nI (cn (bg (upd (upd (G 23 0) p b) (40 + p) c)) 40), G1) := by
                rw [r1, bd_some, put_up Ga hp, bd_some, s1, bd_some, s3.1]
              by_cases e2 : G 23 0 p = b
              · rw [if_pos e2, tightAt_e G 0 (by omega), bd_some, kv_in hp, hI.sr.2.1 p hp, if_neg (fun q => e ⟨e2, q⟩), k]
              · rw [if_neg e2, k]
            rw [if_neg hn, if_neg hbn, if_neg hcn, kindAt_e G 0 (by omega), bd_some, kv_in hp, hI.r1 p hp]
            exact this
          · show (if ¬ _ then _ else _) = _
            rw [if_neg hn, if_neg hbn, if_neg hcn]
            simp (disch := omega) only [lit, litN5, le_nI, lt_nI, eq_nI, nI_nN, nN_nI, nN_lt, nN_le, lt_nN, nI_add, mul_nI, sub_nI, dec_nI, cl_nI, inb_nI, bd_some, bd2_some, gd_true, b01, isB_ite, isB_0, isB_1, Nat.zero_add]
            have k : bd (fX8_record G1) (fun G2 => gd (decide (p < 289)) (gd (decide (40 + p < 289)) (bd (fX8_runs (up3 (up3 G2 23 0 p b) 23 0 (40 + p) c)) (fun r8 => some (r8, up3 (up3 G2 23 0 p b) 23 0 (40 + p) c))))) = some (nI (cn (bg (upd (upd (G 23 0) p b) (40 + p) c)) 40), wc Gb 23 0 (upd (upd (G 23 0) p b) (40 + p) c)) := by
              rw [b1, bd_some, gd_dec _ (by omega), gd_dec _ (by omega), up_wc0 Gb, up_wc, b2, e1, runs8 _ (by rw [wc_at]; exact hz), bd_some, wc_at]
            rw [gd_dec _ (by omega), gd_dec _ (by omega), e1]
            by_cases e2 : G 23 0 p = b
            · rw [if_pos e2, if_neg (fun q => e ⟨e2, q⟩)]; exact k
            · rw [if_neg e2]; exact k
      · refine stay hI (-(nI 2)) G G ?_ (FrC.rf G) ?_ (FrM.rf G)
        · rw [if_neg hn, if_neg hbn, if_pos hc]
        · show (if ¬ _ then _ else _) = _
          rw [if_neg hn, if_neg hbn, if_pos hc]
    · refine stay hI (-(nI 2)) G G ?_ (FrC.rf G) ?_ (FrM.rf G)
      · rw [if_neg hn, if_pos hb]
      · show (if ¬ _ then _ else _) = _
        rw [if_neg hn, if_pos hb]
  · refine stay hI (-(nI 1)) G G ?_ (FrC.rf G) ?_ (FrM.rf G)
    · rw [if_pos h]
    · show (if ¬ _ then _ else _) = _
      rw [if_pos h]
