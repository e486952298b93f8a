/-! the class's history -/
theorem cpW_ne {G : GT} {i j a b : Nat} (h : ¬ (3 ≤ a ∧ a ≤ 6 ∧ b = i)) : cpW G i j a b = G a b := by
  unfold cpW; rw [wc_ne (by omega), wc_ne (by omega), wc_ne (by omega), wc_ne (by omega)]
theorem cpW_3 (G : GT) (i j : Nat) : cpW G i j 3 i = upd (G 3 i) 0 (G 3 j 0) := by
  unfold cpW; rw [wc_ne (by omega), wc_ne (by omega), wc_ne (by omega), wc_at]
theorem cpW_4 (G : GT) (i j : Nat) : cpW G i j 4 i = fl (G 4 i) (G 4 j) 16 := by
  unfold cpW; rw [wc_ne (by omega), wc_ne (by omega), wc_at]
theorem cpW_5 (G : GT) (i j : Nat) : cpW G i j 5 i = fl (G 5 i) (G 5 j) 16 := by
  unfold cpW; rw [wc_ne (by omega), wc_at]
theorem cpW_6 (G : GT) (i j : Nat) : cpW G i j 6 i = fl (G 6 i) (G 6 j) 80 := by
  unfold cpW; rw [wc_at]
theorem cpL_ne {G : GT} {i j a b : Nat} (h : ¬ (7 ≤ a ∧ a ≤ 10 ∧ b = i)) : cpL G i j a b = G a b := by
  unfold cpL; rw [wc_ne (by omega), wc_ne (by omega), wc_ne (by omega), wc_ne (by omega)]
theorem cpL_7 (G : GT) (i j : Nat) : cpL G i j 7 i = upd (G 7 i) 0 (G 7 j 0) := by
  unfold cpL; rw [wc_ne (by omega), wc_ne (by omega), wc_ne (by omega), wc_at]
theorem cpL_8 (G : GT) (i j : Nat) : cpL G i j 8 i = fl (G 8 i) (G 8 j) 96 := by
  unfold cpL; rw [wc_ne (by omega), wc_ne (by omega), wc_at]
theorem cpL_9 (G : GT) (i j : Nat) : cpL G i j 9 i = fl (G 9 i) (G 9 j) 6 := by
  unfold cpL; rw [wc_ne (by omega), wc_at]
theorem cpL_10 (G : GT) (i j : Nat) : cpL G i j 10 i = fl (G 10 i) (G 10 j) 6 := by
  unfold cpL; rw [wc_at]
theorem copyState (G : GT) {i j : Nat} (hij : i ≠ j) : ∃ G', fX4_copyFrom G i j = some G' ∧ (∀ a b, ¬ (1 ≤ a ∧ a ≤ 11 ∧ b = i) → G' a b = G a b) ∧ ∀ x, Sr G j x → Sr G' i x := by
  unfold fX4_copyFrom
  rw [copyRope_e G hij, bd_some, copyWords_e _ hij, bd_some, copyLearners_e _ hij, bd_some]
  simp only [st3_e]
  generalize h1 : wr G i (fl (G 1 i) (G 1 j) 40) (fl (G 2 i) (G 2 j) 40) = G1
  generalize h2 : cpW G1 i j = G2
  generalize h3 : cpL G2 i j = G3
  have n1 : ∀ a b, ¬ ((a = 1 ∨ a = 2) ∧ b = i) → G1 a b = G a b := fun a b h => by rw [← h1]; exact wr_ne h
  have n2 : ∀ a b, ¬ (3 ≤ a ∧ a ≤ 6 ∧ b = i) → G2 a b = G1 a b := fun a b h => by rw [← h2]; exact cpW_ne h
  have n3 : ∀ a b, ¬ (7 ≤ a ∧ a ≤ 10 ∧ b = i) → G3 a b = G2 a b := fun a b h => by rw [← h3]; exact cpL_ne h
  refine ⟨_, rfl, fun a b h => ?_, fun x hS => ?_⟩
  · rw [up3_ne (by omega), up3_ne (by omega), up3_ne (by omega), n3 _ _ (by omega), n2 _ _ (by omega), n1 _ _ (by omega)]
  · obtain ⟨s1, s2, s3, s6, s5, s4, s7, s8, s9, s10, sa, sb, sc⟩ := hS
    have u : ∀ a b, ¬ (a = 11 ∧ b = i) → ∀ y1 y2 y3, up3 (up3 (up3 G3 11 i 3 y1) 11 i 4 y2) 11 i 5 y3 a b = G3 a b := fun a b h y1 y2 y3 => by rw [up3_ne h, up3_ne h, up3_ne h]
    have j11 : G3 11 j = G 11 j := by rw [n3 _ _ (by omega), n2 _ _ (by omega), n1 _ _ (by omega)]
    refine ⟨fun p hp => ?_, fun p hp => ?_, ?_, fun q hq => ?_, fun w hw => ?_, fun w hw hw2 => ?_, ?_, fun q hq => ?_, fun l hl => ?_, fun l hl => ?_, ?_, ?_, ?_⟩
    · rw [u _ _ (by omega), n3 _ _ (by omega), n2 _ _ (by omega), ← h1, wr_1, fl_in hp]; exact s1 p hp
    · rw [u _ _ (by omega), n3 _ _ (by omega), n2 _ _ (by omega), ← h1, wr_2, fl_in hp]; exact s2 p hp
    · rw [u _ _ (by omega), n3 _ _ (by omega), ← h2, cpW_3, upd_at, n1 _ _ (by omega)]; exact s3
    · rw [u _ _ (by omega), n3 _ _ (by omega), ← h2, cpW_6, fl_in hq, n1 _ _ (by omega)]; exact s6 q hq
    · rw [u _ _ (by omega), n3 _ _ (by omega), ← h2, cpW_5, fl_in hw, n1 _ _ (by omega)]; exact s5 w hw
    · rw [u _ _ (by omega), n3 _ _ (by omega), ← h2, cpW_4, fl_in hw2, n1 _ _ (by omega)]; exact s4 w hw hw2
    · rw [u _ _ (by omega), ← h3, cpL_7, upd_at, n2 _ _ (by omega), n1 _ _ (by omega)]; exact s7
    · rw [u _ _ (by omega), ← h3, cpL_8, fl_in hq, n2 _ _ (by omega), n1 _ _ (by omega)]; exact s8 q hq
    · rw [u _ _ (by omega), ← h3, cpL_9, fl_in hl, n2 _ _ (by omega), n1 _ _ (by omega)]; exact s9 l hl
    · rw [u _ _ (by omega), ← h3, cpL_10, fl_in hl, n2 _ _ (by omega), n1 _ _ (by omega)]; exact s10 l hl
    · rw [up3_at, upd_ne (by decide), up3_at, upd_ne (by decide), up3_at, upd_at, j11]; exact sa
    · rw [up3_at, upd_ne (by decide), up3_at, upd_at, up3_ne (by omega), j11]; exact sb
    · rw [up3_at, upd_at, up3_ne (by omega), up3_ne (by omega), j11]; exact sc
theorem imin_nI {a b : Nat} (ha : a < 2 ^ 31) (hb : b < 2 ^ 31) : imin (nI a) (nI b) = nI (min a b) := by
  unfold imin
  by_cases h : b < a
  · rw [if_pos (nI_lt h ha), Nat.min_eq_right (by omega)]
  · rw [if_neg (nI_nlt (by omega) hb), Nat.min_eq_left (by omega)]
theorem imax_nI {a b : Nat} (ha : a < 2 ^ 31) (hb : b < 2 ^ 31) : imax (nI a) (nI b) = nI (max a b) := by
  unfold imax
  by_cases h : a < b
  · rw [if_pos (nI_lt h hb), Nat.max_eq_right (by omega)]
  · rw [if_neg (nI_nlt (by omega) ha), Nat.max_eq_left (by omega)]
theorem remember_e (G : GT) {nx hs : Nat} (hn : G 12 0 2 = nI nx) (hn4 : nx < 4) (hh : G 12 0 1 = nI hs) (hh4 : hs ≤ 4) : ∃ G', fX0_remember G 0 = some G' ∧ (∀ a b, ¬ (1 ≤ a ∧ a ≤ 11 ∧ b = 2 + nx) → ¬ (a = 12 ∧ b = 0) → G' a b = G a b) ∧ (∀ x, Sr G 0 x → Sr G' (2 + nx) x) ∧ G' 12 0 2 = nI ((nx + 1) % 4) ∧ G' 12 0 1 = nI (min 4 (hs + 1)) := by
  obtain ⟨H, h1, h2, h3⟩ := copyState G (i := 2 + nx) (j := 0) (by omega)
  have e12 : H 12 0 = G 12 0 := h2 12 0 (by omega)
  unfold fX0_remember fX0_remember_57
  rw [hn]
  simp (disch := omega) only [lit, litN5, le_nI, lt_nI, eq_nI, nI_nN, nN_nI, nN_lt, nN_le, lt_nN, nI_add, mul_nI, sub_nI, dec_nI, cl_nI, inb_nI, bd_some, bd2_some, gd_true, b01, isB_ite, isB_0, isB_1, isW]
  rw [if_neg (by omega), gd_dec _ hn4, gd_dec _ hn4, h1]
  simp (disch := omega) only [lit, litN5, le_nI, lt_nI, eq_nI, nI_nN, nN_nI, nN_lt, nN_le, lt_nN, nI_add, mul_nI, sub_nI, dec_nI, cl_nI, inb_nI, bd_some, bd2_some, gd_true, b01, isB_ite, isB_0, isB_1, st3_e, e12, hn]
  have fin : ∀ y : Nat, up3 (up3 H 12 0 2 (nI y)) 12 0 1 (imin (nI 4) (up3 H 12 0 2 (nI y) 12 0 1 + nI 1)) = up3 (up3 H 12 0 2 (nI y)) 12 0 1 (nI (min 4 (hs + 1))) := by
    intro y
    rw [up3_at, upd_ne (by decide), e12, hh, nI_add, imin_nI (by decide) (by omega)]
  have key : ∀ y : Nat, y = (nx + 1) % 4 → ∃ G', some (up3 (up3 H 12 0 2 (nI y)) 12 0 1 (imin (nI 4) (up3 H 12 0 2 (nI y) 12 0 1 + nI 1))) = some G' ∧ (∀ a b, ¬ (1 ≤ a ∧ a ≤ 11 ∧ b = 2 + nx) → ¬ (a = 12 ∧ b = 0) → G' a b = G a b) ∧ (∀ x, Sr G 0 x → Sr G' (2 + nx) x) ∧ G' 12 0 2 = nI ((nx + 1) % 4) ∧ G' 12 0 1 = nI (min 4 (hs + 1)) := by
    intro y hy
    rw [fin]
    refine ⟨_, rfl, fun a b p q => ?_, fun x hS => ?_, ?_, ?_⟩
    · rw [up3_ne q, up3_ne q, h2 a b p]
    · exact (h3 x hS).of (fun a p q => by rw [up3_ne (by omega), up3_ne (by omega)])
    · rw [up3_at, upd_ne (by decide), up3_at, upd_at, hy]
    · rw [up3_at, upd_at]
  by_cases e : nx = 3
  · rw [if_pos e]; exact key 0 (by omega)
  · rw [if_neg e]; exact key (nx + 1) (by omega)
theorem takeBack_e (G : GT) {nx hs : Nat} (hn : G 12 0 2 = nI nx) (hn4 : nx < 4) (hh : G 12 0 1 = nI hs) (hh0 : 0 < hs) (hh4 : hs ≤ 4) : ∃ G', fX0_takeBack G 0 = some G' ∧ (∀ a b, ¬ (1 ≤ a ∧ a ≤ 11 ∧ b = 0) → ¬ (a = 12 ∧ b = 0) → G' a b = G a b) ∧ (∀ x, Sr G (2 + (nx + 3) % 4) x → Sr G' 0 x) ∧ G' 12 0 2 = nI ((nx + 3) % 4) ∧ G' 12 0 1 = nI (hs - 1) := by
  obtain ⟨H, h1, h2, h3⟩ := copyState G (i := 0) (j := 2 + (nx + 3) % 4) (by omega)
  have e12 : H 12 0 = G 12 0 := h2 12 0 (by omega)
  have hm : (nx + 3) % 4 < 4 := Nat.mod_lt _ (by decide)
  have key : fX0_takeBack G 0 = fX0_takeBack_17 G 0 (nI ((nx + 3) % 4)) := by
    unfold fX0_takeBack
    rw [hn]
    simp (disch := omega) only [lit, litN5, le_nI, lt_nI, eq_nI, nI_nN, nN_nI, nN_lt, nN_le, lt_nN, nI_add, mul_nI, sub_nI, dec_nI, cl_nI, inb_nI, bd_some, bd2_some, gd_true, b01, isB_ite, isB_0, isB_1]
    by_cases e : nx = 0
    · subst e; rw [if_pos rfl]
    · rw [if_neg e, show nx - 1 = (nx + 3) % 4 by omega]
  rw [key]
  unfold fX0_takeBack_17
  rw [hh]
  simp (disch := omega) only [lit, litN5, le_nI, lt_nI, eq_nI, nI_nN, nN_nI, nN_lt, nN_le, lt_nN, nI_add, mul_nI, sub_nI, dec_nI, cl_nI, inb_nI, bd_some, bd2_some, gd_true, b01, isB_ite, isB_0, isB_1, isW]
  rw [if_neg (by omega), if_neg (by omega), gd_dec _ hm, gd_dec _ hm, h1]
  simp (disch := omega) only [lit, litN5, le_nI, lt_nI, eq_nI, nI_nN, nN_nI, nN_lt, nN_le, lt_nN, nI_add, mul_nI, sub_nI, dec_nI, cl_nI, inb_nI, bd_some, bd2_some, gd_true, b01, isB_ite, isB_0, isB_1, st3_e]
  refine ⟨_, rfl, fun a b p q => ?_, fun x hS => ?_, ?_, ?_⟩
  · rw [up3_ne q, up3_ne q, h2 a b p]
  · exact (h3 x hS).of (fun a p q => by rw [up3_ne (by omega), up3_ne (by omega)])
  · rw [up3_at, upd_ne (by decide), up3_at, upd_at]
  · rw [up3_at, upd_at, up3_at, upd_ne (by decide), e12, hh, sub_nI (by omega)]
