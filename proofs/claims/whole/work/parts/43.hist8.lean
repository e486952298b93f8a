/-! the reference's history -/
def bl (f z : Nat → Int32) (o m : Nat) : Nat → Int32 := fun j => if o ≤ j ∧ j < o + m then z (j - o) else f j
theorem bl_0 (f z : Nat → Int32) (o : Nat) : bl f z o 0 = f := by
  funext j; unfold bl; rw [if_neg (by omega)]
theorem bl_s (f z : Nat → Int32) (o m : Nat) : upd (bl f z o m) (o + m) (z m) = bl f z o (m + 1) := by
  funext j
  unfold upd bl
  by_cases h : j = o + m
  · subst h; rw [if_pos rfl, if_pos (by omega), Nat.add_sub_cancel_left]
  · rw [if_neg h]
    by_cases h2 : o ≤ j ∧ j < o + m
    · rw [if_pos h2, if_pos (by omega)]
    · rw [if_neg h2, if_neg (by omega)]
theorem bl_in {f z : Nat → Int32} {o m j : Nat} (h : j < m) : bl f z o m (o + j) = z j := by
  unfold bl; rw [if_pos (by omega), Nat.add_sub_cancel_left]
theorem bl_out {f z : Nat → Int32} {o m j : Nat} (h : j < o ∨ o + m ≤ j) : bl f z o m j = f j := by
  unfold bl; rw [if_neg (by omega)]
theorem record51 (G : GT) {hs : Nat} (h : G 22 0 3 = nI hs) (hh : hs < 4) : fX8_record_51 FU G (nI 0) = some (up3 (wc G 25 0 (bl (G 25 0) (G 23 0) (289 * hs) 289)) 22 0 3 (nI (hs + 1))) := by
  have key := up_fu (fun n j => fX8_record_51 n (wc G 25 0 (bl (G 25 0) (G 23 0) (289 * hs) j)) (nI j)) 289 (some (up3 (wc G 25 0 (bl (G 25 0) (G 23 0) (289 * hs) 289)) 22 0 3 (nI (hs + 1)))) (by decide)
    (fun n j hj => by
      show fX8_record_51 (n + 1) _ (nI j) = fX8_record_51 n _ (nI (j + 1))
      rw [fX8_record_51, wc_ne (a := 22) (b := 0) (by omega), wc_ne (a := 23) (b := 0) (by omega), h]
      simp (disch := omega) only [lit, litN5, le_nI, lt_nI, eq_nI, nI_nN, nN_nI, nN_lt, nN_le, lt_nN, nI_add, mul_nI, sub_nI, dec_nI, cl_nI, inb_nI, bd_some, bd2_some, gd_true, b01, isB_ite, isB_0, isB_1, st3_e]
      rw [if_neg (by omega), gd_dec _ (by omega), gd_dec _ (by omega), up_wc, bl_s])
    (fun n => by
      show fX8_record_51 (n + 1) _ (nI 289) = _
      rw [fX8_record_51, if_pos (by decide), st3_e, wc_ne (a := 22) (b := 0) (by omega), h, lit, nI_add])
  rw [bl_0, wc_self] at key
  exact key
theorem record10 (G : GT) : fX8_record_10 FU G (nI 0) = fX8_record_51 FU (up3 (wc G 25 0 (fl (G 25 0) (fun j => G 25 0 (289 + j)) 867)) 22 0 3 (G 22 0 3 - nI 1)) (nI 0) := by
  have key := up_fu (fun n j => fX8_record_10 n (wc G 25 0 (fl (G 25 0) (fun j => G 25 0 (289 + j)) j)) (nI j)) 867 (fX8_record_51 FU (up3 (wc G 25 0 (fl (G 25 0) (fun j => G 25 0 (289 + j)) 867)) 22 0 3 (G 22 0 3 - nI 1)) (nI 0)) (by decide)
    (fun n j hj => by
      show fX8_record_10 (n + 1) _ (nI j) = fX8_record_10 n _ (nI (j + 1))
      rw [fX8_record_10]
      simp (disch := omega) only [lit, litN5, le_nI, lt_nI, eq_nI, nI_nN, nN_nI, nN_lt, nN_le, lt_nN, nI_add, mul_nI, sub_nI, dec_nI, cl_nI, inb_nI, bd_some, bd2_some, gd_true, b01, isB_ite, isB_0, isB_1, st3_e]
      rw [if_neg (by omega), gd_dec _ (by omega), gd_dec _ (by omega), up_wc, wc_at, fl_out (show j ≤ 289 + j by omega)]
      have := fl_s (G 25 0) (fun j => G 25 0 (289 + j)) j
      rw [← this])
    (fun n => by
      show fX8_record_10 (n + 1) _ (nI 867) = _
      rw [fX8_record_10, if_pos (by decide), st3_e, wc_ne (a := 22) (b := 0) (by omega)]
      rfl)
  rw [fl_0, wc_self] at key
  exact key
theorem record8 (G : GT) {hs : Nat} (h : G 22 0 3 = nI hs) (hh : hs ≤ 4) : ∃ G', fX8_record G = some G' ∧ (∀ a b, ¬ ((a = 25 ∨ a = 22) ∧ b = 0) → G' a b = G a b) ∧ (∀ k, k ≠ 3 → G' 22 0 k = G 22 0 k) ∧ G' 22 0 3 = nI (min 4 (hs + 1)) ∧ (hs < 4 → (∀ q, q < hs → ∀ j, j < 289 → G' 25 0 (289 * q + j) = G 25 0 (289 * q + j)) ∧ ∀ j, j < 289 → G' 25 0 (289 * hs + j) = G 23 0 j) ∧ (hs = 4 → (∀ q, q < 3 → ∀ j, j < 289 → G' 25 0 (289 * q + j) = G 25 0 (289 * (q + 1) + j)) ∧ ∀ j, j < 289 → G' 25 0 (289 * 3 + j) = G 23 0 j) := by
  unfold fX8_record
  by_cases e : hs = 4
  · subst e
    rw [h, lit, if_pos rfl]
    show ∃ G', fX8_record_10 FU G (nI 0) = some G' ∧ _
    rw [record10, h, sub_nI (by decide), record51 (hs := 3) _ (by rw [up3_at, upd_at]) (by decide)]
    refine ⟨_, rfl, fun a b p => ?_, fun k hk => ?_, ?_, fun q => absurd q (by decide), fun _ => ⟨fun q hq j hj => ?_, fun j hj => ?_⟩⟩
    · rw [up3_ne (by omega), wc_ne (by omega), up3_ne (by omega), wc_ne (by omega)]
    · rw [up3_at, upd_ne hk, wc_ne (by omega), up3_at, upd_ne hk, wc_ne (by omega)]
    · rw [up3_at, upd_at]; rfl
    · rw [up3_ne (by omega), wc_at, bl_out (by omega), up3_ne (by omega), wc_at, fl_in (by omega)]
      congr 1; omega
    · rw [up3_ne (by omega), wc_at, bl_in hj, up3_ne (by omega), wc_ne (by omega)]
  · have hlt : hs < 4 := by omega
    rw [if_neg (by rw [h, lit, eq_nI (by omega) (by decide)]; exact e)]
    show ∃ G', fX8_record_51 FU G (nI 0) = some G' ∧ _
    rw [record51 G h hlt]
    refine ⟨_, rfl, fun a b p => ?_, fun k hk => ?_, ?_, fun _ => ⟨fun q hq j hj => ?_, fun j hj => ?_⟩, fun q => absurd q e⟩
    · rw [up3_ne (by omega), wc_ne (by omega)]
    · rw [up3_at, upd_ne hk, wc_ne (by omega)]
    · rw [up3_at, upd_at, Nat.min_eq_right (by omega)]
    · rw [up3_ne (by omega), wc_at, bl_out (by omega)]
    · rw [up3_ne (by omega), wc_at, bl_in hj]
theorem undo22 (G : GT) {hs : Nat} (h : G 22 0 3 = nI hs) (hh : hs < 4) : fX8_undo_22 FU G (nI 0) = some (nI hs, wc G 23 0 (fl (G 23 0) (fun j => G 25 0 (289 * hs + j)) 289)) := by
  have key := up_fu (fun n j => fX8_undo_22 n (wc G 23 0 (fl (G 23 0) (fun j => G 25 0 (289 * hs + j)) j)) (nI j)) 289 (some (nI hs, wc G 23 0 (fl (G 23 0) (fun j => G 25 0 (289 * hs + j)) 289))) (by decide)
    (fun n j hj => by
      show fX8_undo_22 (n + 1) _ (nI j) = fX8_undo_22 n _ (nI (j + 1))
      rw [fX8_undo_22, wc_ne (a := 22) (b := 0) (by omega), wc_ne (a := 25) (b := 0) (by omega), h]
      simp (disch := omega) only [lit, litN5, le_nI, lt_nI, eq_nI, nI_nN, nN_nI, nN_lt, nN_le, lt_nN, nI_add, mul_nI, sub_nI, dec_nI, cl_nI, inb_nI, bd_some, bd2_some, gd_true, b01, isB_ite, isB_0, isB_1, st3_e]
      rw [if_neg (by omega), gd_dec _ (by omega), gd_dec _ (by omega), up_wc]
      have := fl_s (G 23 0) (fun j => G 25 0 (289 * hs + j)) j
      rw [← this])
    (fun n => by
      show fX8_undo_22 (n + 1) _ (nI 289) = _
      rw [fX8_undo_22, if_pos (by decide), wc_ne (a := 22) (b := 0) (by omega), h])
  rw [fl_0, wc_self] at key
  exact key
theorem keep2 (G : GT) : fX8_keep_2 FU G (nI 0) = bd (fX8_knots (up3 (wc G 26 0 (fl (G 26 0) (G 23 0) 289)) 22 0 5 (nI 1))) (fun r2 => some (r2, up3 (wc G 26 0 (fl (G 26 0) (G 23 0) 289)) 22 0 5 (nI 1))) := by
  have key := up_fu (fun n j => fX8_keep_2 n (wc G 26 0 (fl (G 26 0) (G 23 0) j)) (nI j)) 289 (bd (fX8_knots (up3 (wc G 26 0 (fl (G 26 0) (G 23 0) 289)) 22 0 5 (nI 1))) (fun r2 => some (r2, up3 (wc G 26 0 (fl (G 26 0) (G 23 0) 289)) 22 0 5 (nI 1)))) (by decide)
    (fun n j hj => by
      show fX8_keep_2 (n + 1) _ (nI j) = fX8_keep_2 n _ (nI (j + 1))
      rw [fX8_keep_2, wc_ne (a := 23) (b := 0) (by omega)]
      simp (disch := omega) only [lit, litN5, le_nI, lt_nI, eq_nI, nI_nN, nN_nI, nN_lt, nN_le, lt_nN, nI_add, mul_nI, sub_nI, dec_nI, cl_nI, inb_nI, bd_some, bd2_some, gd_true, b01, isB_ite, isB_0, isB_1, st3_e]
      rw [if_neg (by omega), gd_dec _ (by omega), gd_dec _ (by omega), up_wc, fl_s])
    (fun n => by
      show fX8_keep_2 (n + 1) _ (nI 289) = _
      rw [fX8_keep_2, if_pos (by decide), st3_e]
      rfl)
  rw [fl_0, wc_self] at key
  exact key
theorem restore16 (G : GT) : fX8_restore_16 FU G (nI 0) = bd (fX8_knots (wc G 23 0 (fl (G 23 0) (G 26 0) 289))) (fun r1 => some (r1, wc G 23 0 (fl (G 23 0) (G 26 0) 289))) := by
  have key := up_fu (fun n j => fX8_restore_16 n (wc G 23 0 (fl (G 23 0) (G 26 0) j)) (nI j)) 289 (bd (fX8_knots (wc G 23 0 (fl (G 23 0) (G 26 0) 289))) (fun r1 => some (r1, wc G 23 0 (fl (G 23 0) (G 26 0) 289)))) (by decide)
    (fun n j hj => by
      show fX8_restore_16 (n + 1) _ (nI j) = fX8_restore_16 n _ (nI (j + 1))
      rw [fX8_restore_16, wc_ne (a := 26) (b := 0) (by omega)]
      simp (disch := omega) only [lit, litN5, le_nI, lt_nI, eq_nI, nI_nN, nN_nI, nN_lt, nN_le, lt_nN, nI_add, mul_nI, sub_nI, dec_nI, cl_nI, inb_nI, bd_some, bd2_some, gd_true, b01, isB_ite, isB_0, isB_1, st3_e]
      rw [if_neg (by omega), gd_dec _ (by omega), gd_dec _ (by omega), up_wc, fl_s])
    (fun n => by
      show fX8_restore_16 (n + 1) _ (nI 289) = _
      rw [fX8_restore_16, if_pos (by decide)])
  rw [fl_0, wc_self] at key
  exact key
theorem putAside8 (G : GT) : fX8_putAside G = some (wc G 24 0 (fl (G 24 0) (G 23 0) 289)) := by
  have key := up_fu (fun n j => fX8_putAside_2 n (wc G 24 0 (fl (G 24 0) (G 23 0) j)) (nI j)) 289 (some (wc G 24 0 (fl (G 24 0) (G 23 0) 289))) (by decide)
    (fun n j hj => by
      show fX8_putAside_2 (n + 1) _ (nI j) = fX8_putAside_2 n _ (nI (j + 1))
      rw [fX8_putAside_2, wc_ne (a := 23) (b := 0) (by omega)]
      simp (disch := omega) only [lit, litN5, le_nI, lt_nI, eq_nI, nI_nN, nN_nI, nN_lt, nN_le, lt_nN, nI_add, mul_nI, sub_nI, dec_nI, cl_nI, inb_nI, bd_some, bd2_some, gd_true, b01, isB_ite, isB_0, isB_1, st3_e]
      rw [if_neg (by omega), gd_dec _ (by omega), gd_dec _ (by omega), up_wc, fl_s])
    (fun n => by
      show fX8_putAside_2 (n + 1) _ (nI 289) = _
      rw [fX8_putAside_2, if_pos (by decide)])
  rw [fl_0, wc_self] at key
  exact key
theorem putBack8 (G : GT) : fX8_putBack G = some (wc G 23 0 (fl (G 23 0) (G 24 0) 289)) := by
  have key := up_fu (fun n j => fX8_putBack_2 n (wc G 23 0 (fl (G 23 0) (G 24 0) j)) (nI j)) 289 (some (wc G 23 0 (fl (G 23 0) (G 24 0) 289))) (by decide)
    (fun n j hj => by
      show fX8_putBack_2 (n + 1) _ (nI j) = fX8_putBack_2 n _ (nI (j + 1))
      rw [fX8_putBack_2, wc_ne (a := 24) (b := 0) (by omega)]
      simp (disch := omega) only [lit, litN5, le_nI, lt_nI, eq_nI, nI_nN, nN_nI, nN_lt, nN_le, lt_nN, nI_add, mul_nI, sub_nI, dec_nI, cl_nI, inb_nI, bd_some, bd2_some, gd_true, b01, isB_ite, isB_0, isB_1, st3_e]
      rw [if_neg (by omega), gd_dec _ (by omega), gd_dec _ (by omega), up_wc, fl_s])
    (fun n => by
      show fX8_putBack_2 (n + 1) _ (nI 289) = _
      rw [fX8_putBack_2, if_pos (by decide)])
  rw [fl_0, wc_self] at key
  exact key
