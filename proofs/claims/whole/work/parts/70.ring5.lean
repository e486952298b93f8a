/-! ring: the class's loop -/
/-- rows of learners replaced -/
theorem sr_lrn {G H : GT} {y y' : Nat → Int32} (h : Sr G 0 y) (e : ∀ a, 1 ≤ a → a ≤ 11 → ¬ (8 ≤ a ∧ a ≤ 10) → H a 0 = G a 0) (ey : ∀ j, j < 289 → (j < 177 ∨ 285 ≤ j) → y' j = y j) (h8 : ∀ j, j < 96 → H 8 0 j = y' (177 + j)) (h9 : ∀ l, l < 6 → H 9 0 l = y' (273 + l)) (h10 : ∀ l, l < 6 → H 10 0 l = y' (279 + l)) : Sr H 0 y' := by
  obtain ⟨s1, s2, s3, s6, s5, s4, s7, -, -, -, sa, sb, sc⟩ := h
  have hz : wz y' = wz y := by unfold wz; rw [ey 80 (by decide) (by omega)]
  refine ⟨fun p hp => ?_, fun p hp => ?_, ?_, fun q hq => ?_, fun w hw => ?_, fun w hw hw2 => ?_, ?_, h8, h9, h10, ?_, ?_, ?_⟩
  · rw [e 1 (by decide) (by decide) (by omega), ey p (by omega) (by omega)]; exact s1 p hp
  · rw [e 2 (by decide) (by decide) (by omega), ey (40 + p) (by omega) (by omega)]; exact s2 p hp
  · rw [e 3 (by decide) (by decide) (by omega), ey 80 (by omega) (by omega)]; exact s3
  · rw [e 6 (by decide) (by decide) (by omega), ey (81 + q) (by omega) (by omega)]; exact s6 q hq
  · rw [e 5 (by decide) (by decide) (by omega), ey (161 + w) (by omega) (by omega)]; exact s5 w hw
  · rw [e 4 (by decide) (by decide) (by omega), s4 w (by rw [← hz]; exact hw) hw2]
    exact congrArg nI (pl_cong (fun k hk => (ey (81 + 5 * w + k) (by omega) (by omega)).symm))
  · rw [e 7 (by decide) (by decide) (by omega), ey 285 (by omega) (by omega)]; exact s7
  · rw [e 11 (by decide) (by decide) (by omega), ey 286 (by omega) (by omega)]; exact sa
  · rw [e 11 (by decide) (by decide) (by omega), ey 287 (by omega) (by omega)]; exact sb
  · rw [e 11 (by decide) (by decide) (by omega), ey 288 (by omega) (by omega)]; exact sc
theorem bIf : bI false = nI 0 := rfl
theorem bIt : bI true = nI 1 := rfl
/-- one learner: his account and what he hears -/
theorem lrn7 {G : GT} {z y : Nat → Int32} {ws l : Nat} (hR : RD G 0 z z ws) (hW : Wd z ws) (hS : Sr G 0 y) (hl : l < 6) : ∃ G1 G2, fX1_account G 0 (nI l) (bI (rgt z ws l)) = some G1 ∧ fX7_hearRope G1 (nI l) = some G2 ∧ (∀ a b, ¬ (8 ≤ a ∧ a ≤ 10 ∧ b = 0) → G2 a b = G a b) ∧ Sr G2 0 (rst z ws l y) := by
  have hws := hW.2.1
  obtain ⟨-, -, -, -, -, -, -, s8, s9, s10, -⟩ := id hS
  have key : ∀ G1 : GT, (∀ a b, ¬ (9 ≤ a ∧ a ≤ 10 ∧ b = 0) → G1 a b = G a b) → (∀ q, q < 6 → G1 9 0 q = rst z ws l y (273 + q)) → (∀ q, q < 6 → G1 10 0 q = rst z ws l y (279 + q)) → ∃ G2, fX7_hearRope G1 (nI l) = some G2 ∧ (∀ a b, ¬ (8 ≤ a ∧ a ≤ 10 ∧ b = 0) → G2 a b = G a b) ∧ Sr G2 0 (rst z ws l y) := by
    intro G1 f1 f9 f10
    have hR1 : RD G1 0 z z ws := hR.of (fun a p q => f1 a 0 (by omega))
    refine ⟨_, hearRope_e G1 hR1 hW hl, fun a b h => ?_, ?_⟩
    · rw [wc_ne (by omega), f1 a b (by omega)]
    · refine sr_lrn hS (fun a p q r => by rw [wc_ne (by omega), f1 a 0 (by omega)]) (fun j hj h => rst_out (by omega) (by omega) (by omega)) (fun j hj => ?_) (fun q hq => by rw [wc_ne (by omega)]; exact f9 q hq) (fun q hq => by rw [wc_ne (by omega)]; exact f10 q hq)
      rw [wc_at]
      by_cases c : l * 16 ≤ j ∧ j < l * 16 + ws
      · obtain ⟨w, rfl⟩ : ∃ w, j = l * 16 + w := ⟨j - l * 16, by omega⟩
        rw [hr_all hW (by omega), show 177 + (l * 16 + w) = 177 + 16 * l + w by omega, rst_h hl hws (by omega), f1 8 0 (by omega), s8 _ hj, show 177 + (l * 16 + w) = 177 + 16 * l + w by omega]
      · rw [hr_off hW (by omega), rst_out (by omega) (by omega) (by omega), f1 8 0 (by omega), s8 _ hj]
  by_cases e : rgt z ws l = true
  · have a1 := account_e G hl true
    rw [if_pos rfl] at a1
    obtain ⟨G2, k1, k2, k3⟩ := key (up3 G 9 0 l (G 9 0 l + nI 1)) (fun a b h => up3_ne (by omega)) (fun q hq => by
      rw [up3_at]
      by_cases c : q = l
      · subst c
        rw [upd_at, rst_r hl hws, e, if_pos rfl, s9 q hq]
      · rw [upd_ne c, rst_out (by omega) (by omega) (by omega), s9 q hq]) (fun q hq => by
      rw [up3_ne (by omega)]
      by_cases c : q = l
      · subst c
        rw [rst_w hl hws, e, if_pos rfl, s10 q hq]
        exact (Int32.add_zero _).symm
      · rw [rst_out (by omega) (by omega) (by omega), s10 q hq])
    exact ⟨_, G2, by rw [e]; exact a1, k1, k2, k3⟩
  · have e' : rgt z ws l = false := by simpa using e
    have a1 := account_e G hl false
    rw [if_neg (by decide)] at a1
    obtain ⟨G2, k1, k2, k3⟩ := key (up3 G 10 0 l (G 10 0 l + nI 1)) (fun a b h => up3_ne (by omega)) (fun q hq => by
      rw [up3_ne (by omega)]
      by_cases c : q = l
      · subst c
        rw [rst_r hl hws, e', if_neg (by decide), s9 q hq]
        exact (Int32.add_zero _).symm
      · rw [rst_out (by omega) (by omega) (by omega), s9 q hq]) (fun q hq => by
      rw [up3_at]
      by_cases c : q = l
      · subst c
        rw [upd_at, rst_w hl hws, e', if_neg (by decide), s10 q hq]
      · rw [upd_ne c, rst_out (by omega) (by omega) (by omega), s10 q hq])
    exact ⟨_, G2, by rw [e']; exact a1, k1, k2, k3⟩
theorem ring55 {G : GT} {z y0 : Nat → Int32} {ws : Nat} (hR : RD G 0 z z ws) (hW : Wd z ws) (hs : Se z) (ey : ∀ j, j ≠ 288 → y0 j = z j) : ∀ (d l n : Nat) (H : GT), l + d = 6 → d < n → (∀ a b, ¬ (8 ≤ a ∧ a ≤ 10 ∧ b = 0) → H a b = G a b) → Sr H 0 (rsq z ws y0 l) → ∃ H', fX7_ring_55 (ans z z ws (om1 z)) n H (nI (cn (rgt z ws) l)) (nI l) = some (nI (cn (rgt z ws) 6), H') ∧ (∀ a b, ¬ (8 ≤ a ∧ a ≤ 10 ∧ b = 0) → H' a b = G a b) ∧ Sr H' 0 (rsq z ws y0 6) := by
  have hws := hW.2.1
  intro d
  induction d with
  | zero =>
    intro l n H h1 h2 h3 h4
    obtain ⟨m, rfl⟩ : ∃ m, n = m + 1 := ⟨n - 1, by omega⟩
    obtain rfl : l = 6 := by omega
    exact ⟨H, by rw [fX7_ring_55, if_pos (by decide)], h3, h4⟩
  | succ d ih =>
    intro l n H h1 h2 h3 h4
    obtain ⟨m, rfl⟩ : ∃ m, n = m + 1 := ⟨n - 1, by omega⟩
    have hl : l < 6 := by omega
    have hy : ∀ j, j < 177 ∨ (177 + 16 * l ≤ j ∧ j < 273) ∨ j = 285 → rsq z ws y0 l j = z j := fun j hj => by
      rw [rsq_out hws l (by omega) (by omega)]
      exact ey j (by omega)
    have hWy : Wd (rsq z ws y0 l) ws := Wd_cong (fun j _ b => hy j (by omega)) hW
    have hsy : Se (rsq z ws y0 l) := by
      obtain ⟨s, b1, b2, b3⟩ := hs
      exact ⟨s, b1, b2, by rw [hy 285 (by omega)]; exact b3⟩
    have hRH : RD H 0 z z ws := hR.of (fun a p q => h3 a 0 (by omega))
    have hRy : RD H 0 z (rsq z ws y0 l) ws := RD_x (fun j _ b => (hy j (by omega)).symm) hws hRH
    have a1 := answerOf_e hRy (h4.cw hWy) h4.cl hWy hsy hl
    have a2 : ans z (rsq z ws y0 l) ws (om2 (rsq z ws y0 l) l) = ans z z ws (om2 z l) := ans_x rfl (fun j _ b => hy j (by omega)) hws (om2_x (fun j hj => hy j (by omega)) (fun w hw => hy _ (by omega)) (hy 285 (by omega)) hws)
    rw [a2] at a1
    obtain ⟨H1, H2, k1, k2, k3, k4⟩ := lrn7 hRH hW h4 hl
    obtain ⟨H', q1, q2, q3⟩ := ih (l + 1) m H2 (by omega) (by omega) (fun a b h => by rw [k3 a b h, h3 a b h]) k4
    refine ⟨H', ?_, q2, q3⟩
    rw [fX7_ring_55, a1, bd_some]
    unfold fX7_ring_75 fX7_ring_85
    simp only [lit, nI_add]
    rw [if_neg (show ¬ nI 6 ≤ nI l by rw [le_nI (by decide) (by omega)]; omega)]
    by_cases e : ans z z ws (om2 z l) = ans z z ws (om1 z)
    · have hr : rgt z ws l = true := decide_eq_true e
      rw [hr, bIt] at k1
      rw [if_pos e, if_neg (by decide), k1, bd_some, k2, bd_some]
      rw [cn_t hr] at q1
      exact q1
    · have hr : rgt z ws l = false := decide_eq_false e
      rw [hr, bIf] at k1
      rw [if_neg e, if_pos trivial, k1, bd_some, k2, bd_some]
      rw [cn_f hr] at q1
      exact q1
/-- 6 ring -/
theorem op6 {t : Nat} {G : GT} (hI : Inv t G) : Stq t G (fX7_ring G) (fun G1 => fX8_ring G1) := by
  obtain ⟨ws, G2, s1, s2, s3, s4, hW⟩ := rr hI
  have e23 : G2 23 0 = G 23 0 := s3 23 0 (by omega)
  have hws := hW.2.1
  have hi := isw_le (G 23 0) (G 23 0) ws
  obtain ⟨hz, -, hs, hh⟩ := hI.wf
  unfold fX7_ring
  rw [s1, bd_some, wordRuns_e s4, bd_some]
  simp only [lit, litN5]
  by_cases c : cn (isw (G 23 0) (G 23 0) ws) 40 = 0
  · refine stay hI nN G2 G2 ?_ s2 ?_ (FrM.rf _)
    · rw [if_pos (show nI (cn (isw (G 23 0) (G 23 0) ws) 40) = nI 0 by rw [c])]
    · show fX8_ring G2 = _
      unfold fX8_ring
      rw [wordRuns8 G2 (by rw [e23]; exact hz) (by rw [e23]; exact hW), bd_some, e23]
      simp only [lit, litN5]
      rw [if_pos (show nI (cn (isw (G 23 0) (G 23 0) ws) 40) = nI 0 by rw [c])]
  · have hc : ¬ nI (cn (isw (G 23 0) (G 23 0) ws) 40) = nI 0 := by rw [eq_nI (by omega) (by decide)]; exact c
    rw [if_neg hc]
    obtain ⟨Ga, r1, r2, r3, r4, r5⟩ := act2 (inv_C hI s2)
    rw [e23] at r2
    have ea : Ga 11 0 5 = G 23 0 288 := by
      obtain ⟨-, -, -, -, -, -, -, -, -, -, -, -, x⟩ := id r2
      exact x
    have hS : Sr (up3 Ga 11 0 5 (G 23 0 288 + nI 1)) 0 (rsq (G 23 0) ws (upd (G 23 0) 288 (G 23 0 288 + nI 1)) 0) := sr_up r2 (by unfold Rel; omega) _
    have hR : RD (up3 Ga 11 0 5 (G 23 0 288 + nI 1)) 0 (G 23 0) (G 23 0) ws := s4.of (fun a p q => by rw [up3_ne (by omega), r3 a (by omega)])
    have hC : Cw (up3 Ga 11 0 5 (G 23 0 288 + nI 1)) (G 23 0) ws := (r2.cw hW).of (fun a p q => up3_ne (by omega))
    obtain ⟨H', q1, q2, q3⟩ := ring55 hR hW hs (fun j hj => upd_ne hj) 6 0 FU _ (by decide) (by rw [FU_eq]; decide) (fun _ _ _ => rfl) hS
    rw [rsq_288 hws 6 (by decide)] at q3
    have hF : FrA Ga H' := fun a b h => by rw [q2 a b (by omega), up3_ne (by omega)]
    have eH : H' 23 0 = G 23 0 := by rw [q2 23 0 (by omega), up3_ne (by omega), r3 23 (by omega)]; exact e23
    obtain ⟨Gb, b1, b2, -, -, -, b3⟩ := r5 H' hF H' (FrM.rf _)
    rw [eH] at b2
    refine ⟨nI (cn (rgt (G 23 0) ws) 6), H', wc Gb 23 0 (upd (rsq (G 23 0) ws (G 23 0) 6) 288 (G 23 0 288 + nI 1)), ?_, ?_, b3 _ q3 ?_⟩
    · rw [r1, bd_some, st3_e, ea, rightAnswer_e hR hC hW, bd_some]
      exact q1
    · show fX8_ring H' = _
      unfold fX8_ring
      rw [wordRuns8 H' (by rw [eH]; exact hz) (by rw [eH]; exact hW), bd_some, eH]
      simp only [lit]
      rw [if_neg hc, b1, bd_some]
      have k := ring18 Gb hz hW 6 0 FU (by decide) (by rw [FU_eq]; decide)
      have e0 : wc Gb 23 0 (rsq (G 23 0) ws (G 23 0) 0) = Gb := by
        show wc Gb 23 0 (G 23 0) = Gb
        rw [← b2, wc_self]
      rw [e0] at k
      exact k
    · refine wf_upd ⟨fun p hp => ?_, ⟨ws, Wd_cong (fun j _ b => rsq_out hws 6 (by decide) (by omega)) hW⟩, ?_, fun j hj => ?_⟩ (by omega) (by omega) (by omega) (by omega)
      · rw [rsq_out hws 6 (by decide) (by omega)]; exact hz p hp
      · obtain ⟨s, p1, p2, p3⟩ := hs
        exact ⟨s, p1, p2, by rw [rsq_out hws 6 (by decide) (by omega)]; exact p3⟩
      · obtain ⟨n, n1, n2⟩ := hh j hj
        obtain ⟨m, m1, m2⟩ := rsq_ear (z := G 23 0) (y := G 23 0) hws hj 6 (by decide)
        exact ⟨n + m, by omega, by rw [m2, n2, nI_add]⟩
