/-! ifPulled -/
theorem wfF_x {g x y : Nat → Int32} {len p : Nat} (e : ∀ j, 80 ≤ j → j < 161 → x j = y j) : ∀ d w, w + d ≤ 16 → wfF g x len p d w = wfF g y len p d w
  | 0, _, _ => rfl
  | d + 1, w, h => by
    have ep : ∀ k, k < 5 → pt x w k = pt y w k := fun k hk => e _ (by omega) (by omega)
    have el : pl x w = pl y w := pl_cong ep
    have hle := pl_le y w
    have ea : ∀ n, n ≤ 5 → atb g x w p n = atb g y w p n := by
      intro n
      induction n with
      | zero => intro _; rfl
      | succ n ih => intro hn; unfold atb; rw [ih (by omega), ep n (by omega)]
    unfold wfF mt
    rw [el, ea _ (by omega), wfF_x e d (w + 1) (by omega)]
theorem rw_x {g x y : Nat → Int32} {ws : Nat} (e : ∀ j, 80 ≤ j → j < 161 → x j = y j) (hws : ws ≤ 16) : rw' g x ws = rw' g y ws := by
  funext p
  unfold rw' wi
  exact wfF_x e ws 0 (by omega)
theorem RD_x {H : GT} {i : Nat} {g x y : Nat → Int32} {ws : Nat} (e : ∀ j, 80 ≤ j → j < 161 → x j = y j) (hws : ws ≤ 16) (h : RD H i g x ws) : RD H i g y ws := by
  unfold RD at h ⊢
  rw [← rw_x e hws]
  exact h
theorem Cw_x {H : GT} {x y : Nat → Int32} {ws : Nat} (e : ∀ j, 80 ≤ j → j < 177 → x j = y j) (hws : ws ≤ 16) (h : Cw H x ws) : Cw H y ws := by
  obtain ⟨h1, h2, h3, h4⟩ := h
  refine ⟨h1, fun j hj => by rw [← e _ (by omega) (by omega)]; exact h2 j hj, fun w hw => by rw [← e _ (by omega) (by omega)]; exact h3 w hw, fun w hw => ?_⟩
  rw [h4 w hw]
  congr 1
  exact pl_cong (fun k hk => e _ (by omega) (by omega))
/-- the reference's pull that is only asked -/
theorem aside8 (G : GT) (hz : Kz (G 23 0)) (s : Int32) : ∃ Gp G11 G', fX8_putAside G = some Gp ∧ fX8_doPull Gp s = some (nI (slx s 39 0 (G 23 0)).1, G11) ∧ G11 23 0 = (slx s 39 0 (G 23 0)).2 ∧ fX8_putBack G11 = some G' ∧ FrM G G' := by
  refine ⟨_, _, _, putAside8 G, by rw [doPull8 _ s (by rw [wc_ne (by omega)]; exact hz), wc_ne (show ¬ (23 = 24 ∧ 0 = 0) by omega)], by rw [wc_at], putBack8 _, fun a b h => ?_, fun k hk => ?_, fun j hj => ?_⟩
  · rw [wc_ne (by omega), wc_ne (by omega), wc_ne (by omega)]
  · rw [wc_ne (by omega), wc_ne (by omega), wc_ne (by omega)]
  · rw [wc_at, fl_in hj, wc_ne (by omega), wc_at, fl_in hj]
/-- the class's rope tried, its runs read -/
theorem tried {t : Nat} {G : GT} (hI : Inv t G) (s : Int32) : ∃ ws G5 G8, fX7_tryPull G s = some (nI (slx s 39 0 (G 23 0)).1, G5) ∧ fX3_read G5 1 6 0 = some G8 ∧ FrC G G8 ∧ RD G8 1 (slx s 39 0 (G 23 0)).2 (slx s 39 0 (G 23 0)).2 ws ∧ Cw G8 (slx s 39 0 (G 23 0)).2 ws ∧ Wd (slx s 39 0 (G 23 0)).2 ws ∧ Kz (slx s 39 0 (G 23 0)).2 ∧ (∀ a b, ¬ (16 ≤ a ∧ a ≤ 19 ∧ b = 1) → ¬ ((a = 1 ∨ a = 2) ∧ b = 6) → G8 a b = G a b) := by
  obtain ⟨hz, ⟨ws, hW⟩, -⟩ := hI.wf
  have hws := hW.2.1
  have hC := hI.sr.cw hW
  obtain ⟨G5, t1, t2, t3, t4⟩ := tryPull_e hI.r1 hI.sr.2.1 hz s
  obtain ⟨-, -, -, c4, c5⟩ := sl_rel s 39 0 (G 1 0) (G 2 0) (G 23 0) (by decide) hz hI.r1 hI.sr.2.1
  have hC5 : Cw G5 (G 23 0) ws := hC.of (fun a p q => t2 a 0 (by omega))
  have hR := RD_f (kv_f t3) (RD_of G5 1 (G5 1 6) (G 23 0) ws)
  have e80 : ∀ j, 80 ≤ j → j < 161 → G 23 0 j = (slx s 39 0 (G 23 0)).2 j := fun j a _ => (c4 j a).symm
  have e77 : ∀ j, 80 ≤ j → j < 177 → G 23 0 j = (slx s 39 0 (G 23 0)).2 j := fun j a _ => (c4 j a).symm
  have fr : ∀ a b, ¬ (16 ≤ a ∧ a ≤ 19 ∧ b = 1) → ¬ ((a = 1 ∨ a = 2) ∧ b = 6) → RH G5 1 (G5 1 6) (G 23 0) ws (cn (bg (G5 1 6)) 40) a b = G a b := fun a b p q => by rw [RH_ne p, t2 a b q]
  exact ⟨ws, G5, _, t1, read_e G5 1 6 hC5 hws, fun a b h => fr a b (by omega) (by omega), RD_x e80 hws hR, Cw_x e77 hws (hC.of (fun a p q => fr a 0 (by omega) (by omega))), Wd_cong (fun j a b => c4 j a) hW, c5, fr⟩
/-- 25 ifPulled -/
theorem op25 {t : Nat} {G : GT} (hI : Inv t G) (s b : Int32) : Stq t G (fX7_ifPulled G s b) (fun G1 => fX8_ifPulled G1 s b) := by
  unfold fX7_ifPulled fX8_ifPulled
  simp only [isW, in_e, bd_some, lit]
  by_cases h : nI 1 ≤ s ∧ s ≤ nI 9
  · have c0 : ¬ (if nI 1 ≤ s ∧ s ≤ nI 9 then nI 1 else nI 0) = nI 0 := by rw [if_pos h]; decide
    obtain ⟨ws, G5, G8, t1, t2, fC, hR, hC, hW, hK, fr⟩ := tried hI s
    have e23 : G8 23 0 = G 23 0 := fr 23 0 (by omega) (by omega)
    by_cases hb : nI 0 ≤ b ∧ b ≤ nI 3
    · have cb : ¬ (if nI 0 ≤ b ∧ b ≤ nI 3 then nI 1 else nI 0) = nI 0 := by rw [if_pos hb]; decide
      obtain ⟨Gp, G11, G', p1, p2, p3, p4, p5⟩ := aside8 G8 (by rw [e23]; exact hI.kz) s
      rw [e23] at p2 p3
      have hK1 : Kz (G11 23 0) := by rw [p3]; exact hK
      have hW1 : Wd (G11 23 0) ws := by rw [p3]; exact hW
      by_cases h0 : b = nI 0
      · refine stay hI (nI (slx s 39 0 (G 23 0)).1) G8 G' ?_ fC ?_ p5
        · rw [if_neg c0, t1, bd2_some, t2, bd_some, if_pos h0]
        · show (if _ then _ else _) = _
          rw [if_neg c0, if_neg cb, p1, bd_some, p2, bd2_some, if_pos h0, p4, bd_some]
      by_cases h1 : b = nI 1
      · refine stay hI (nI (cn (bg (slx s 39 0 (G 23 0)).2) 40)) G8 G' ?_ fC ?_ p5
        · rw [if_neg c0, t1, bd2_some, t2, bd_some, if_neg h0, if_pos h1, hR.1]
        · show (if _ then _ else _) = _
          rw [if_neg c0, if_neg cb, p1, bd_some, p2, bd2_some, if_neg h0, if_pos h1, runs8 G11 hK1, bd_some, p4, bd_some, p3]
      by_cases h2 : b = nI 2
      · refine stay hI (nI (cn (isw (slx s 39 0 (G 23 0)).2 (slx s 39 0 (G 23 0)).2 ws) 40)) G8 G' ?_ fC ?_ p5
        · rw [if_neg c0, t1, bd2_some, t2, bd_some, if_neg h0, if_neg h1, if_pos h2, wordRuns_e hR, bd_some]
        · show (if _ then _ else _) = _
          rw [if_neg c0, if_neg cb, p1, bd_some, p2, bd2_some, if_neg h0, if_neg h1, if_pos h2, wordRuns8 G11 hK1 hW1, bd_some, p4, bd_some, p3]
      have h3 : b = nI 3 := by
        obtain ⟨k, -, k2, rfl⟩ := of_in hb (by decide) (by decide)
        rw [eq_nI (by omega) (by decide)] at h0 h1 h2
        have : k = 3 := by omega
        rw [this]
      refine stay hI (ans (slx s 39 0 (G 23 0)).2 (slx s 39 0 (G 23 0)).2 ws (om1 (slx s 39 0 (G 23 0)).2)) G8 G' ?_ fC ?_ p5
      · rw [if_neg c0, t1, bd2_some, t2, bd_some, if_neg h0, if_neg h1, if_neg h2, if_pos h3, rightAnswer_e hR hC hW, bd_some]
      · show (if _ then _ else _) = _
        rw [if_neg c0, if_neg cb, p1, bd_some, p2, bd2_some, if_neg h0, if_neg h1, if_neg h2, rightAnswer8 G11 hK1 hW1, bd_some, p4, bd_some, p3]
    · have cb : (if nI 0 ≤ b ∧ b ≤ nI 3 then nI 1 else nI 0) = nI 0 := by rw [if_neg hb]
      have hk : ∀ k, k ≤ 3 → ¬ b = nI k := fun k hk e => hb (by rw [e]; exact ⟨nI_le (Nat.zero_le _) (by omega), nI_le hk (by decide)⟩)
      refine stay hI (-(nI 2)) G8 G8 ?_ fC ?_ (FrM.rf G8)
      · rw [if_neg c0, t1, bd2_some, t2, bd_some, if_neg (hk 0 (by decide)), if_neg (hk 1 (by decide)), if_neg (hk 2 (by decide)), if_neg (hk 3 (by decide))]
      · show (if _ then _ else _) = _
        rw [if_neg c0, if_pos cb]
  · have c0 : (if nI 1 ≤ s ∧ s ≤ nI 9 then nI 1 else nI 0) = nI 0 := by rw [if_neg h]
    refine stay hI (-(nI 2)) G G ?_ (FrC.rf G) ?_ (FrM.rf G)
    · rw [if_pos c0]
    · show (if _ then _ else _) = _
      rw [if_pos c0]
