/-! teach: both sides -/
theorem PT_g {x g : Nat → Int32} {len : Nat} {k : Nat} (hg : ∀ p, p < len → g p = x p - nI 48) (hk : k < len) (h5 : len ≤ 5) : kv g k = PT x len k := by
  unfold PT
  rw [kv_in (by omega), hg k hk, if_pos hk]
theorem add41 (G : GT) {x : Nat → Int32} {len ws : Nat} (hg : ∀ p, p < len → G 1 6 p = x p - nI 48) (h5 : len ≤ 5) (hws : ws < 16) (h3 : G 3 0 0 = nI ws) : fX6_add_41 0 6 (nI len) (nI ws) FU G (nI 0) = some (nI ws, up3 (wc G 6 0 (bl (G 6 0) (PT x len) (5 * ws) 5)) 3 0 0 (nI (ws + 1))) := by
  have key := up_fu (fun n k => fX6_add_41 0 6 (nI len) (nI ws) n (wc G 6 0 (bl (G 6 0) (PT x len) (5 * ws) k)) (nI k)) 5 (some (nI ws, up3 (wc G 6 0 (bl (G 6 0) (PT x len) (5 * ws) 5)) 3 0 0 (nI (ws + 1)))) (by decide)
    (fun n k hk => by
      show fX6_add_41 0 6 (nI len) (nI ws) (n + 1) _ (nI k) = fX6_add_41 0 6 (nI len) (nI ws) n _ (nI (k + 1))
      rw [fX6_add_41, kindAt_e _ 6 (by omega), wc_ne (show ¬ (1 = 6 ∧ 6 = 0) by omega)]
      simp (disch := omega) only [lit, litN5, le_nI, lt_nI, eq_nI, nI_nN, nN_nI, nN_lt, nN_le, lt_nN, nI_add, mul_nI, sub_nI, dec_nI, cl_nI, inb_nI, bd_some, bd2_some, gd_true, b01, isB_ite, isB_0, isB_1, st3_e, up_wc]
      rw [if_neg (by omega), gd_dec _ (by omega), gd_dec _ (by omega), show ws * 5 + k = 5 * ws + k by omega]
      have e := bl_s (G 6 0) (PT x len) (5 * ws) k
      by_cases q : len ≤ k
      · rw [if_pos q, ← e]
        congr 3
        unfold PT
        rw [if_neg (by omega)]
      · rw [if_neg q, ← e, PT_g hg (by omega) h5])
    (fun n => by
      show fX6_add_41 0 6 (nI len) (nI ws) (n + 1) _ (nI 5) = _
      rw [fX6_add_41, if_pos (by decide), st3_e, wc_ne (show ¬ (3 = 6 ∧ 0 = 0) by omega), h3]
      simp only [lit, nI_add])
  rw [bl_0, wc_self] at key
  exact key
theorem add_e (G : GT) {x : Nat → Int32} {len ws : Nat} (hg : ∀ p, p < len → G 1 6 p = x p - nI 48) (h5 : len ≤ 5) (hws : ws < 16) (h3 : G 3 0 0 = nI ws) (a : Int32) : ∃ G', fX6_add G 0 6 (nI len) a = some (nI ws, G') ∧ (∀ p q, ¬ (3 ≤ p ∧ p ≤ 6 ∧ q = 0) → G' p q = G p q) ∧ G' 3 0 0 = nI (ws + 1) ∧ G' 4 0 = upd (G 4 0) ws (nI len) ∧ G' 5 0 = upd (G 5 0) ws a ∧ G' 6 0 = bl (G 6 0) (PT x len) (5 * ws) 5 := by
  unfold fX6_add
  rw [h3, isW]
  simp (disch := omega) only [lit, litN5, le_nI, lt_nI, eq_nI, nI_nN, nN_nI, nN_lt, nN_le, lt_nN, nI_add, mul_nI, sub_nI, dec_nI, cl_nI, inb_nI, bd_some, bd2_some, gd_true, b01, isB_ite, isB_0, isB_1, st3_e]
  rw [if_neg (by omega), gd_dec _ (by omega), gd_dec _ (by omega)]
  rw [add41 (up3 (up3 G 4 0 ws (nI len)) 5 0 ws a) (x := x) (fun p hp => by rw [up3_ne (by omega), up3_ne (by omega)]; exact hg p hp) h5 hws (by rw [up3_ne (by omega), up3_ne (by omega)]; exact h3)]
  have e6 : up3 (up3 G 4 0 ws (nI len)) 5 0 ws a 6 0 = G 6 0 := by rw [up3_ne (by omega), up3_ne (by omega)]
  refine ⟨_, rfl, fun p q h => ?_, ?_, ?_, ?_, ?_⟩
  · rw [up3_ne (by omega), wc_ne (by omega), up3_ne (by omega), up3_ne (by omega)]
  · rw [up3_r, if_pos ⟨rfl, rfl, rfl⟩]
  · rw [up3_ne (by omega), wc_ne (by omega), up3_ne (by omega), up3_at]
  · rw [up3_ne (by omega), wc_ne (by omega), up3_at, up3_ne (by omega)]
  · rw [up3_ne (by omega), wc_at, e6]
theorem teach68 (G : GT) {x : Nat → Int32} {len ws : Nat} (h5 : len ≤ 5) (hws : ws < 16) (h7 : G 22 0 7 = nI len) (hx : G 27 0 = x) (h80 : G 23 0 80 = nI ws) (a : Int32) : fX8_teach_68 a (nI ws) FU G (nI 0) = some (nI ws, wc G 23 0 (TZ (G 23 0) x len ws a)) := by
  have key := up_fu (fun n k => fX8_teach_68 a (nI ws) n (wc G 23 0 (bl (G 23 0) (PT x len) (81 + 5 * ws) k)) (nI k)) 5 (some (nI ws, wc G 23 0 (TZ (G 23 0) x len ws a))) (by decide)
    (fun n k hk => by
      show fX8_teach_68 a (nI ws) (n + 1) _ (nI k) = fX8_teach_68 a (nI ws) n _ (nI (k + 1))
      rw [fX8_teach_68, wc_ne (show ¬ (22 = 23 ∧ 0 = 0) by omega), wc_ne (show ¬ (27 = 23 ∧ 0 = 0) by omega), h7, hx]
      simp (disch := omega) only [lit, le_nI, nI_add, mul_nI, cl_nI, inb_nI, st3_e, up_wc]
      rw [if_neg (by omega), gd_dec _ (by omega), gd_dec _ (by omega), gd_dec _ (by omega)]
      have e := bl_s (G 23 0) (PT x len) (81 + 5 * ws) k
      by_cases q : len ≤ k
      · rw [if_pos q, ← e]
        congr 3
        unfold PT
        rw [if_neg (by omega)]
      · rw [if_neg q, ← e]
        congr 3
        unfold PT
        rw [if_pos (by omega)])
    (fun n => by
      show fX8_teach_68 a (nI ws) (n + 1) _ (nI 5) = _
      rw [fX8_teach_68, if_pos (by decide)]
      simp (disch := omega) only [lit, nI_add, cl_nI, inb_nI, st3_e, up_wc, wc_at]
      rw [gd_dec _ (by omega), gd_dec _ (by omega), gd_dec _ (by omega), upd_ne (show 80 ≠ 161 + ws by omega), bl_out (by omega), h80, nI_add]
      rfl)
  rw [bl_0, wc_self] at key
  exact key
/-- 4 teach -/
theorem op4 {t : Nat} {G : GT} (hI : Inv t G) (a : Int32) : Stq t G (fX7_teach G a) (fun G1 => fX8_teach G1 a) := by
  obtain ⟨len, hT, h7⟩ := hI.tx
  obtain ⟨hz, ⟨ws, hW⟩, hSe, hh⟩ := hI.wf
  have hws := hW.2.1
  have hlen := hT.2.1
  have ha : (nI 0 = nI 0) = (false = false) := by simp
  have hF := faultIndex_e G hT ha
  unfold fX7_teach fX8_teach
  simp only [isW, in_e, bd_some, lit, b01]
  by_cases h : nI 1 ≤ a ∧ a ≤ nI 9
  · have hn : ¬ ¬ (nI 1 ≤ a ∧ a ≤ nI 9) := fun q => q h
    rcases FI_cases false (G 27 0) len with ⟨q, q2, q3⟩ | q
    · obtain ⟨hk, h5⟩ := pat_of q3
      have hL := layOn_e G 6 hT (ok_pat hk h5)
      generalize fl (G 1 6) (fun _ => nI 0) 40 = g at hL
      generalize fl (G 2 6) (fun _ => nI 0) 40 = u at hL
      have hrow : ∀ p, p < len → LK g (G 27 0) len p = G 27 0 p - nI 48 := fun p hp => by rw [(LK_pat hk len (Nat.le_refl _)).2 p, if_pos hp]
      have htau := taught_iff (g := g) hk h5 hW
      have h16 : wr G 6 (LK g (G 27 0) len) (LT u (G 27 0) len) 1 6 = LK g (G 27 0) len := wr_1 _ _ _ _
      generalize LK g (G 27 0) len = gg at hL hrow htau h16
      have e8 : ∀ p r, ¬ ((p = 1 ∨ p = 2) ∧ r = 6) → wr G 6 gg (LT u (G 27 0) len) p r = G p r := fun p r h => wr_ne h
      generalize wr G 6 gg (LT u (G 27 0) len) = G8 at hL e8 h16
      have fC : FrC G G8 := fun p r h => e8 p r (by omega)
      have hI8 := inv_C hI fC
      have e23 : G8 23 0 = G 23 0 := e8 23 0 (by omega)
      have e27 : G8 27 0 = G 27 0 := e8 27 0 (by omega)
      have e22 : G8 22 0 = G 22 0 := e8 22 0 (by omega)
      have hC8 : Cw G8 (G 23 0) ws := (hI.sr.cw hW).of (fun p r s => e8 p 0 (by omega))
      have hfind := find6 G8 hC8 hws (p := 0) (r := 6) (len := len) (by decide) (by omega)
      rw [h16] at hfind
      have h14 : G8 14 0 1 = nI len := by rw [e8 14 0 (by omega)]; exact hT.1
      have hff : ∀ H : GT, H 22 0 = G 22 0 → H 27 0 = G 27 0 → fX8_findFault H (nI 0) = some (nN, up3 H 22 0 8 (fk false (G 27 0) len 0)) := fun H p r => by
        have := ff_e H (by rw [p]; exact h7) hlen ha
        rw [r, q] at this
        exact this
      have hit : ∀ (H : GT) (v : Int32), H 22 0 = G 22 0 → H 27 0 = G 27 0 → H 23 0 = G 23 0 → fX8_isTaught (up3 H 22 0 8 v) = some (bI (tk (G 23 0) (G 27 0) len ws)) := fun H v p r s => by
        have k := isTaught8 (up3 H 22 0 8 v) (len := len) (ws := ws) (by rw [up3_r, if_neg (by omega), p]; exact h7) hlen (by rw [up3_ne (by omega), s]; exact hW.1) hws
        rw [up3_ne (show ¬ (23 = 22 ∧ 0 = 0) by omega), up3_ne (show ¬ (27 = 22 ∧ 0 = 0) by omega), r, s] at k
        exact k
      have e80 : ∀ (H : GT) (v : Int32), H 23 0 = G 23 0 → up3 H 22 0 8 v 23 0 80 = nI ws := fun H v s => by rw [up3_ne (by omega), s]; exact hW.1
      have h3 : G8 3 0 0 = nI ws := hC8.1
      by_cases htk : tk (G 23 0) (G 27 0) len ws = false
      · have hwi : wi gg (G 23 0) ws len 0 = nN := by rw [htau]; exact htk
        by_cases hfull : ws = 16
        · refine stay hI (-(nI 3)) G8 (up3 G8 22 0 8 (fk false (G 27 0) len 0)) ?_ fC ?_ (frm8 _ _)
          · rw [if_neg hn, hF, bd_some, q, litN5, if_pos rfl, hL, bd_some, h14, hfind, bd_some, hwi, if_pos rfl, h3, hfull, if_neg (by decide)]
          · show (if ¬ _ then _ else _) = _
            rw [if_neg hn, hff G8 e22 e27, bd2_some, if_pos (by decide), hit G8 _ e22 e27 e23, bd_some, htk, if_pos (by decide)]
            simp (disch := omega) only [cl_nI, inb_nI]
            rw [gd_dec _ (by decide), e80 G8 _ e23, hfull, if_pos rfl]
        · have hws' : ws < 16 := by omega
          obtain ⟨Ga, r1, r2, r3, r4, r5⟩ := act2 hI8
          rw [e23] at r2
          have a14 : Ga 14 0 1 = nI len := by rw [r3 14 (by decide)]; exact h14
          have a16 : Ga 1 6 = gg := by rw [r4 1 6 (by decide) (by decide) (Or.inr (Or.inr rfl))]; exact h16
          have a3 : Ga 3 0 0 = nI ws := by rw [r4 3 0 (by decide) (by decide) (Or.inl rfl)]; exact h3
          obtain ⟨G', s1, s2, s3, s4, s5, s6⟩ := add_e Ga (x := G 27 0) (len := len) (by rw [a16]; exact hrow) h5 hws' a3 a
          have hA : FrA Ga G' := fun p r h => s2 p r (by omega)
          have hi : ∀ p, 22 ≤ p → G' p 0 = G p 0 := fun p h => by rw [s2 p 0 (by omega), r3 p (by omega), e8 p 0 (by omega)]
          obtain ⟨Gb, b1, b2, -, b27, b22, b3⟩ := r5 G' hA _ (frm8 G' (fk false (G 27 0) len 0))
          have b23 : Gb 23 0 = G 23 0 := by rw [b2, up3_ne (by omega), hi 23 (by decide)]
          obtain ⟨w1, w2, w3⟩ := TZ_wd (a := a) hk q2 h5 hW hws' htk
          have yo : ∀ j, (j < 80 ∨ 177 ≤ j) → TZ (G 23 0) (G 27 0) len ws a j = G 23 0 j := fun j hj => by
            unfold TZ
            rw [upd_ne (by omega), upd_ne (by omega), bl_out (by omega)]
          have hy80 : TZ (G 23 0) (G 27 0) len ws a 80 = nI (ws + 1) := by unfold TZ; rw [upd_at]
          have hS : Sr G' 0 (TZ (G 23 0) (G 27 0) len ws a) := by
            obtain ⟨o1, o2, o3, o6, o5, o4, o7, o8, o9, o10, oa, ob, oc⟩ := r2
            have cp : ∀ p, ¬ (3 ≤ p ∧ p ≤ 6) → G' p 0 = Ga p 0 := fun p h => s2 p 0 (by omega)
            refine ⟨fun p hp => ?_, fun p hp => ?_, ?_, fun j hj => ?_, fun w hw => ?_, fun w hw hw2 => ?_, ?_, fun j hj => ?_, fun l hl => ?_, fun l hl => ?_, ?_, ?_, ?_⟩
            · rw [cp 1 (by omega), yo p (by omega)]; exact o1 p hp
            · rw [cp 2 (by omega), yo _ (by omega)]; exact o2 p hp
            · rw [s3, hy80]
            · rw [s6]
              unfold TZ
              rw [upd_ne (by omega), upd_ne (by omega)]
              unfold bl
              by_cases c : 5 * ws ≤ j ∧ j < 5 * ws + 5
              · rw [if_pos c, if_pos (by omega), show 81 + j - (81 + 5 * ws) = j - 5 * ws by omega]
              · rw [if_neg c, if_neg (by omega)]; exact o6 j hj
            · rw [s5]
              unfold TZ
              rw [upd_ne (show 161 + w ≠ 80 by omega)]
              unfold upd
              by_cases c : w = ws
              · rw [if_pos c, if_pos (by omega)]
              · rw [if_neg c, if_neg (by omega), bl_out (by omega)]; exact o5 w hw
            · rw [wz_eq w1] at hw
              rw [s4]
              by_cases c : w = ws
              · rw [c, upd_at, w2]
              · rw [upd_ne c, w3 w (by omega)]
                exact o4 w (by rw [wz_eq hW]; omega) hw2
            · rw [cp 7 (by omega), yo _ (by omega)]; exact o7
            · rw [cp 8 (by omega), yo _ (by omega)]; exact o8 j hj
            · rw [cp 9 (by omega), yo _ (by omega)]; exact o9 l hl
            · rw [cp 10 (by omega), yo _ (by omega)]; exact o10 l hl
            · rw [cp 11 (by omega), yo _ (by omega)]; exact oa
            · rw [cp 11 (by omega), yo _ (by omega)]; exact ob
            · rw [cp 11 (by omega), yo _ (by omega)]; exact oc
          have hWf : Wf (t + 1) (TZ (G 23 0) (G 27 0) len ws a) := by
            obtain ⟨n, n1, n2, n3⟩ := hSe
            refine ⟨fun p hp => by rw [yo p (by omega)]; exact hz p hp, ⟨ws + 1, w1⟩, ⟨n, n1, n2, by rw [yo _ (by omega)]; exact n3⟩, fun j hj => ?_⟩
            obtain ⟨m, m1, m2⟩ := hh j hj
            exact ⟨m, by omega, by rw [yo _ (by omega)]; exact m2⟩
          refine ⟨nI ws, G', wc Gb 23 0 (TZ (G 23 0) (G 27 0) len ws a), ?_, ?_, b3 _ hS hWf⟩
          · rw [if_neg hn, hF, bd_some, q, litN5, if_pos rfl, hL, bd_some, h14, hfind, bd_some, hwi, if_pos rfl, h3, if_pos (by rw [lt_nI (by omega) (by decide)]; exact hws'), r1, bd_some, a14, s1, bd2_some]
          · show (if ¬ _ then _ else _) = _
            rw [if_neg hn, hff G' (hi 22 (by decide)) (hi 27 (by decide)), bd2_some, if_pos (by decide), hit G' _ (hi 22 (by decide)) (hi 27 (by decide)) (hi 23 (by decide)), bd_some, htk, if_pos (by decide)]
            simp (disch := omega) only [cl_nI, inb_nI]
            rw [gd_dec _ (by decide), e80 G' _ (hi 23 (by decide)), if_neg (by rw [eq_nI (by omega) (by decide)]; exact hfull), b1, bd_some, gd_dec _ (by decide), b23, hW.1]
            have k := teach68 Gb h5 hws' (by rw [b22, e22]; exact h7) (by rw [b27, e27]) (by rw [b23]; exact hW.1) a
            rw [b23] at k
            exact k
      · have hwi : ¬ wi gg (G 23 0) ws len 0 = nN := by rw [htau]; exact htk
        refine stay hI (-(nI 4)) G8 (up3 G8 22 0 8 (fk false (G 27 0) len 0)) ?_ fC ?_ (frm8 _ _)
        · rw [if_neg hn, hF, bd_some, q, litN5, if_pos rfl, hL, bd_some, h14, hfind, bd_some, if_neg hwi]
        · show (if ¬ _ then _ else _) = _
          rw [if_neg hn, hff G8 e22 e27, bd2_some, if_pos (by decide), hit G8 _ e22 e27 e23, bd_some, if_neg (by rw [bI_0]; exact htk)]
    · have hnn : nI 0 ≤ FI false (G 27 0) len := by
        rcases q with ⟨j, q1, q2, -⟩ | ⟨q1, q2, -⟩
        · rw [q2]; exact nI_le (Nat.zero_le _) (by omega)
        · rw [q2]; exact Int32.le_refl _
      have hne : ¬ FI false (G 27 0) len = nN := fun q => by rw [q] at hnn; exact absurd hnn (by decide)
      have h8 := ff_e G h7 hlen ha
      refine stay hI (-(nI 100) - FI false (G 27 0) len) G (up3 G 22 0 8 (fk false (G 27 0) len 0)) ?_ (FrC.rf G) ?_ (frm8 _ _)
      · rw [if_neg hn, hF, bd_some, litN5, if_neg hne]
      · show (if ¬ _ then _ else _) = _
        rw [if_neg hn, h8, bd2_some, if_neg (by
          rw [Int32.lt_iff_toInt_lt]
          have := Int32.le_iff_toInt_le.mp hnn
          omega)]
  · refine stay hI (-(nI 2)) G G ?_ (FrC.rf G) ?_ (FrM.rf G)
    · rw [if_pos h]
    · show (if ¬ _ then _ else _) = _
      rw [if_pos h]
