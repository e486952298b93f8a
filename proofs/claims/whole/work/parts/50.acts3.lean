/-! layRope, pull, undo, keep, restore -/
theorem sr_rope {G : GT} {z y g t : Nat → Int32} (h : Sr G 0 z) (e : ∀ j, 80 ≤ j → y j = z j) (hg : ∀ p, p < 40 → g p = y p) (ht : ∀ p, p < 40 → t p = y (40 + p)) : Sr (wr G 0 g t) 0 y := by
  obtain ⟨h1, h2, h3, h6, h5, h4, h7, h8, h9, h10, ha, hb, hc⟩ := h
  have w : ∀ a, a ≠ 1 → a ≠ 2 → wr G 0 g t a 0 = G a 0 := fun a p q => wr_ne (by omega)
  have hz : wz y = wz z := by unfold wz; rw [e 80 (by decide)]
  refine ⟨fun p hp => by rw [wr_1]; exact hg p hp, fun p hp => by rw [wr_2]; exact ht p hp, ?_, fun j hj => ?_, fun j hj => ?_, fun j hj hj2 => ?_, ?_, fun j hj => ?_, fun j hj => ?_, fun j hj => ?_, ?_, ?_, ?_⟩
  · rw [w 3 (by decide) (by decide), e 80 (by decide)]; exact h3
  · rw [w 6 (by decide) (by decide), e _ (by omega)]; exact h6 j hj
  · rw [w 5 (by decide) (by decide), e _ (by omega)]; exact h5 j hj
  · rw [w 4 (by decide) (by decide), h4 j (by rw [← hz]; exact hj) hj2]
    congr 1
    exact pl_cong (fun k hk => (e _ (by omega)).symm)
  · rw [w 7 (by decide) (by decide), e _ (by omega)]; exact h7
  · rw [w 8 (by decide) (by decide), e _ (by omega)]; exact h8 j hj
  · rw [w 9 (by decide) (by decide), e _ (by omega)]; exact h9 j hj
  · rw [w 10 (by decide) (by decide), e _ (by omega)]; exact h10 j hj
  · rw [w 11 (by decide) (by decide), e _ (by omega)]; exact ha
  · rw [w 11 (by decide) (by decide), e _ (by omega)]; exact hb
  · rw [w 11 (by decide) (by decide), e _ (by omega)]; exact hc
theorem wf_rope {t : Nat} {z y : Nat → Int32} (h : Wf t z) (hk : Kz y) (e : ∀ j, 80 ≤ j → y j = z j) : Wf t y := by
  obtain ⟨-, ⟨ws, hW⟩, ⟨n, n1, n2, n3⟩, hh⟩ := h
  refine ⟨hk, ⟨ws, Wd_cong (fun j a _ => e j a) hW⟩, ⟨n, n1, n2, by rw [e 285 (by decide)]; exact n3⟩, fun j hj => ?_⟩
  obtain ⟨m, a, b⟩ := hh j hj
  exact ⟨m, a, by rw [e _ (by omega)]; exact b⟩
theorem FrA.wr {Ga : GT} {g t : Nat → Int32} : FrA Ga (wr Ga 0 g t) := fun a b h => wr_ne (by omega)
/-- 3 layRope -/
theorem op3 {t : Nat} {G : GT} (hI : Inv t G) : Stq t G (fX7_layRope G) (fun G1 => fX8_layRope G1) := by
  obtain ⟨len, hT, h7⟩ := hI.tx
  have hlen := hT.2.1
  have ha : (nI 1 = nI 0) = (true = false) := by simp (disch := omega) [eq_nI]
  have hF := faultIndex_e G hT ha
  unfold fX7_layRope fX8_layRope
  simp only [lit]
  rw [hF, bd_some]
  rcases FI_cases true (G 27 0) len with ⟨q, q2, q3⟩ | q
  · have hok := ok_rope q3
    obtain ⟨Ga, r1, r2, r3, r4, r5⟩ := act2 hI
    have hTa : Tx Ga (G 27 0) len := by
      unfold Tx
      rw [r3 14 (by decide), r3 15 (by decide)]
      exact hT
    have hL := layOn_e Ga 0 hTa hok
    generalize hg : fl (Ga 1 0) (fun _ => nI 0) 40 = g at hL
    generalize ht : fl (Ga 2 0) (fun _ => nI 0) 40 = u at hL
    obtain ⟨g1, g2⟩ := lay_agree (z := G 23 0) (g := g) (t := u) hok (fun p hp => by rw [← hg]; exact fl_in hp) (fun p hp => by rw [← ht]; exact fl_in hp) len (Nat.le_refl _)
    generalize hG1 : wr Ga 0 (LK g (G 27 0) len) (LT u (G 27 0) len) = G1 at hL
    have e1 : ∀ a b, ¬ ((a = 1 ∨ a = 2) ∧ b = 0) → G1 a b = Ga a b := fun a b h => by rw [← hG1]; exact wr_ne h
    have hA : FrA Ga G1 := fun a b h => e1 a b (by omega)
    have e23 : G1 23 0 = G 23 0 := by rw [e1 23 0 (by omega), r3 23 (by omega)]
    have e27 : G1 27 0 = G 27 0 := by rw [e1 27 0 (by omega), r3 27 (by omega)]
    have e22 : G1 22 0 = G 22 0 := by rw [e1 22 0 (by omega), r3 22 (by omega)]
    have h8 := ff_e G1 (by rw [e22]; exact h7) hlen ha
    rw [e27] at h8
    obtain ⟨Gb, b1, b2, -, b27, b22, b3⟩ := r5 G1 hA _ (frm8 G1 (fk true (G 27 0) len 0))
    have b2 : Gb 23 0 = G 23 0 := by rw [b2, up3_ne (by omega)]; exact e23
    have hS : Sr G1 0 (MR (cz (G 23 0) 40) (G 27 0) len) := by
      rw [← hG1]
      exact sr_rope r2 g2 (fun p hp => (g1 p hp).1.symm) (fun p hp => (g1 p hp).2.1.symm)
    have hK : Kz (MR (cz (G 23 0) 40) (G 27 0) len) := fun p hp => by rw [(g1 p hp).1]; exact (g1 p hp).2.2.2
    refine ⟨nI (cn (kn (MR (cz (G 23 0) 40) (G 27 0) len)) 40), G1, wc Gb 23 0 (MR (cz (G 23 0) 40) (G 27 0) len), ?_, ?_, b3 _ hS (wf_rope hI.wf.mono hK g2)⟩
    · rw [q, litN5, if_pos rfl, r1, bd_some, hL, bd_some, knotCount_e, bd_some, kn_f (kv_f hS.1)]
    · show bd2 (fX8_findFault G1 (nI 1)) _ = _
      rw [h8, bd2_some, q, if_pos (by decide), b1, bd_some, lay21, b2]
      rw [lay56 Gb (by rw [b22]; exact h7) hlen (fun j _ => by rw [b27]) hok, knots8 _ (by rw [wc_at]; exact hK), bd_some, wc_at]
  · have hnn : nI 0 ≤ FI true (G 27 0) len := by
      rcases q with ⟨j, q1, q2, -⟩ | ⟨q1, q2, -⟩
      · rw [q2]; exact nI_le (Nat.zero_le _) (by omega)
      · rw [q2]; exact Int32.le_refl _
    have hne : ¬ FI true (G 27 0) len = nN := fun q => by rw [q] at hnn; exact absurd hnn (by decide)
    have h8 := ff_e G h7 hlen ha
    refine stay hI (-(nI 100) - FI true (G 27 0) len) G (up3 G 22 0 8 (fk true (G 27 0) len 0)) ?_ (FrC.rf G) ?_ (frm8 _ _)
    · rw [litN5, if_neg hne]
    · show bd2 (fX8_findFault G (nI 1)) _ = _
      rw [h8, bd2_some, if_neg (by
        rw [Int32.lt_iff_toInt_lt]
        have := Int32.le_iff_toInt_le.mp hnn
        omega)]
/-- a pull tried on the rope aside -/
theorem tryPull_e {G : GT} {z : Nat → Int32} (h1 : ∀ p, p < 40 → G 1 0 p = z p) (h2 : ∀ p, p < 40 → G 2 0 p = z (40 + p)) (hz : Kz z) (s : Int32) : ∃ G5, fX7_tryPull G s = some (nI (slx s 39 0 z).1, G5) ∧ (∀ a b, ¬ ((a = 1 ∨ a = 2) ∧ b = 6) → G5 a b = G a b) ∧ (∀ p, p < 40 → G5 1 6 p = (slx s 39 0 z).2 p) ∧ ∀ p, p < 40 → G5 2 6 p = (slx s 39 0 z).2 (40 + p) := by
  unfold fX7_tryPull
  rw [copyRope_e G (show 6 ≠ 0 by decide), bd_some, slip_e, bd2_some, wr_1, wr_2]
  obtain ⟨a, b, c, -, -⟩ := sl_rel s 39 0 (fl (G 1 6) (G 1 0) 40) (fl (G 2 6) (G 2 0) 40) z (by decide) hz (fun p hp => by rw [fl_in hp]; exact h1 p hp) (fun p hp => by rw [fl_in hp]; exact h2 p hp)
  refine ⟨_, by rw [a], fun p q h => ?_, fun p hp => ?_, fun p hp => ?_⟩
  · rw [wr_ne h, wr_ne h]
  · rw [wr_1]; exact b p hp
  · rw [wr_2]; exact c p hp
theorem slx_le (s : Int32) : ∀ i c x, (slx s i c x).1 ≤ c + i
  | 0, c, x => Nat.le_refl _
  | n + 1, c, x => by
    unfold slx
    split
    · have := slx_le s n (c + 1) (upd (upd (upd (upd x (n + 1) (x n)) (40 + n + 1) (x (40 + n))) n (nI 0)) (40 + n) (nI 0)); omega
    · have := slx_le s n c x; omega
/-- the reference's slips of a pull that is only asked -/
theorem slipsOf8 (G : GT) (hz : Kz (G 23 0)) (s : Int32) : ∃ G', fX8_slipsOf G s = some (nI (slx s 39 0 (G 23 0)).1, G') ∧ FrM G G' := by
  unfold fX8_slipsOf
  rw [putAside8, bd_some, doPull8 _ s (by rw [wc_ne (by omega)]; exact hz), bd2_some, putBack8, bd_some]
  refine ⟨_, by rw [wc_ne (show ¬ (23 = 24 ∧ 0 = 0) by omega)], fun a b h => ?_, fun k hk => ?_, fun j hj => ?_⟩
  · rw [wc_ne (by omega), wc_ne (by omega), wc_ne (by omega)]
  · rw [wc_ne (by omega), wc_ne (by omega), wc_ne (by omega)]
  · rw [wc_at, fl_in hj, wc_ne (by omega), wc_at, fl_in hj]
/-- 2 pull -/
theorem op2 {t : Nat} {G : GT} (hI : Inv t G) (s : Int32) : Stq t G (fX7_pull G s) (fun G1 => fX8_pull G1 s) := by
  unfold fX7_pull fX8_pull
  simp only [isW, in_e, bd_some, lit, b01, st3_e]
  by_cases h : nI 1 ≤ s ∧ s ≤ nI 9
  · have hn : ¬ ¬ (nI 1 ≤ s ∧ s ≤ nI 9) := fun q => q h
    obtain ⟨G5, t1, t2, t3, t4⟩ := tryPull_e hI.r1 hI.sr.2.1 hI.kz s
    have fC : FrC G G5 := fun a b q => t2 a b (by omega)
    have hI5 := inv_C hI fC
    have e5 : G5 23 0 = G 23 0 := t2 23 0 (by omega)
    have hle := slx_le s 39 0 (G 23 0)
    by_cases e : (slx s 39 0 (G 23 0)).1 = 0
    · obtain ⟨G6, m1, m2⟩ := slipsOf8 G5 (by rw [e5]; exact hI.kz) s
      refine stay hI nN G5 G6 ?_ fC ?_ m2
      · rw [if_neg hn, t1, bd2_some, e, if_pos rfl, litN5]
      · show (if ¬ _ then _ else _) = _
        rw [if_neg hn, m1, bd2_some, e5, e, if_pos rfl, litN5]
    · have hne : ¬ nI (slx s 39 0 (G 23 0)).1 = nI 0 := by rw [eq_nI (by omega) (by decide)]; exact e
      obtain ⟨Ga, r1, r2, r3, r4, r5⟩ := act2 hI5
      rw [e5] at r2
      have hcp := copyRope_e Ga (show 0 ≠ 6 by decide)
      generalize hG1 : wr Ga 0 (fl (Ga 1 0) (Ga 1 6) 40) (fl (Ga 2 0) (Ga 2 6) 40) = Gc at hcp
      -- the class's heap at the end
      have hA1 : FrA Ga Gc := by rw [← hG1]; exact FrA.wr
      generalize hGd : up3 (up3 Gc 11 0 3 (Gc 11 0 3 + nI 1)) 11 0 4 (up3 Gc 11 0 3 (Gc 11 0 3 + nI 1) 11 0 4 + nI (slx s 39 0 (G 23 0)).1) = Gd
      have hA : FrA Ga Gd := by rw [← hGd]; exact FrA.tr hA1 (FrA.tr (FrA.up (by decide) (by decide)) (FrA.up (by decide) (by decide)))
      have ed : ∀ a, 22 ≤ a → Gd a 0 = G a 0 := fun a q => by rw [hA a 0 (by omega), r3 a (by omega), t2 a 0 (by omega)]
      obtain ⟨Ge, m1, m2⟩ := slipsOf8 Gd (by rw [ed 23 (by decide)]; exact hI.kz) s
      have m1 : fX8_slipsOf Gd s = some (nI (slx s 39 0 (G 23 0)).1, Ge) := by rw [m1, ed 23 (by decide)]
      obtain ⟨Gb, b1, b2, -, -, -, b3⟩ := r5 Gd hA Ge m2
      have hE : E9 (G 23 0) (Gb 23 0) := by rw [b2, ← ed 23 (by decide)]; exact m2.2.2
      generalize hz' : Gb 23 0 = z' at hE
      have hzz : Kz z' := fun p hp => by rw [← hE p (by omega)]; exact hI.kz p hp
      obtain ⟨a1, a2, a3, a4, a5⟩ := sl_rel s 39 0 (G 1 0) (G 2 0) z' (by decide) hzz (fun p hp => by rw [hI.r1 p hp]; exact hE p (by omega)) (fun p hp => by rw [hI.sr.2.1 p hp]; exact hE _ (by omega))
      obtain ⟨c1, c2, c3, c4, c5⟩ := sl_rel s 39 0 (G 1 0) (G 2 0) (G 23 0) (by decide) hI.kz hI.r1 hI.sr.2.1
      have ecnt : (slx s 39 0 z').1 = (slx s 39 0 (G 23 0)).1 := by rw [← a1, ← c1]
      have hSc : Sr Gc 0 (slx s 39 0 z').2 := by
        rw [← hG1]
        refine sr_rope (hE.sr r2) a4 (fun p hp => ?_) (fun p hp => ?_)
        · rw [fl_in hp, r4 1 6 (by decide) (by decide) (Or.inr (Or.inr rfl)), t3 p hp, ← c2 p hp, a2 p hp]
        · rw [fl_in hp, r4 2 6 (by decide) (by decide) (Or.inr (Or.inr rfl)), t4 p hp, ← c3 p hp, a3 p hp]
      have hW := wf_rope (hE.wf hI.wf.mono) a5 a4
      generalize hY : (slx s 39 0 z').2 = Y at hSc hW
      obtain ⟨-, -, -, -, -, -, -, -, -, -, ha, hb, -⟩ := id hSc
      have hSd : Sr Gd 0 (upd (upd Y 286 (Y 286 + nI 1)) 287 (Y 287 + nI (slx s 39 0 (G 23 0)).1)) := by
        rw [← hGd, up3_r Gc 11 0 3 11 0 4, if_neg (by omega), ha, hb]
        exact sr_up (sr_up hSc (by unfold Rel; omega) _) (by unfold Rel; omega) _
      refine ⟨nI (slx s 39 0 (G 23 0)).1, Gd, _, ?_, ?_, b3 _ hSd (wf_upd (wf_upd hW (by omega) (by omega) (by omega) (by omega)) (by omega) (by omega) (by omega) (by omega))⟩
      · rw [if_neg hn, t1, bd2_some, if_neg hne, r1, bd_some, hcp, bd_some, hGd]
      · show (if ¬ _ then _ else _) = _
        rw [if_neg hn, m1, bd2_some, if_neg hne, b1, bd_some, doPull8 Gb s (by rw [hz']; exact hzz), bd2_some, hz', ecnt, hY]
        simp (disch := omega) only [cl_nI, inb_nI]
        rw [gd_dec _ (by decide), gd_dec _ (by decide), gd_dec _ (by decide), gd_dec _ (by decide), wc_at, up_wc, wc_at, up_wc, upd_ne (show 287 ≠ 286 by decide)]
  · refine stay hI (-(nI 2)) G G ?_ (FrC.rf G) ?_ (FrM.rf G)
    · rw [if_pos h]
    · show (if ¬ _ then _ else _) = _
      rw [if_pos h]
