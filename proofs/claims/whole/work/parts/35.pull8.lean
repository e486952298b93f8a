/-! the reference's pull -/
theorem nI_le_refl0 : nI 0 ≤ nI 0 := Int32.le_refl _
def slx (s : Int32) : Nat → Nat → (Nat → Int32) → Nat × (Nat → Int32)
  | 0, c, x => (c, x)
  | n + 1, c, x => if slk s x (fun j => x (40 + j)) n = true then slx s n (c + 1) (upd (upd (upd (upd x (n + 1) (x n)) (40 + n + 1) (x (40 + n))) n (nI 0)) (40 + n) (nI 0)) else slx s n c x
theorem sl4 {x : Nat → Int32} {n : Nat} (hn : n < 39) (j : Nat) : upd (upd (upd (upd x (n + 1) (x n)) (40 + n + 1) (x (40 + n))) n (nI 0)) (40 + n) (nI 0) j = if j = n ∨ j = 40 + n then nI 0 else if j = n + 1 then x n else if j = 40 + n + 1 then x (40 + n) else x j := by
  unfold upd
  (repeat' split) <;> first | rfl | (exfalso; omega)
theorem sl4_kz {x : Nat → Int32} {n : Nat} (hn : n < 39) (hz : Kz x) : Kz (upd (upd (upd (upd x (n + 1) (x n)) (40 + n + 1) (x (40 + n))) n (nI 0)) (40 + n) (nI 0)) := by
  intro p hp
  rw [sl4 hn]
  by_cases h1 : p = n ∨ p = 40 + n
  · rw [if_pos h1]; exact nI_le_refl0
  · rw [if_neg h1]
    by_cases h2 : p = n + 1
    · rw [if_pos h2]; exact hz n (by omega)
    · rw [if_neg h2, if_neg (by omega)]; exact hz p hp
theorem doPull_l (G : GT) (s : Int32) : ∀ (i n c : Nat) (x : Nat → Int32), i < n → i < 40 → Kz x → fX8_doPull_5 s n (wc G 23 0 x) (nI c) (nI i + -(nI 1)) = some (nI (slx s i c x).1, wc G 23 0 (slx s i c x).2) := by
  intro i
  induction i with
  | zero =>
    intro n c x hn hi hz
    obtain ⟨m, rfl⟩ : ∃ m, n = m + 1 := ⟨n - 1, by omega⟩
    rw [fX8_doPull_5, if_pos (by decide)]
    rfl
  | succ i ih =>
    intro n c x hn hi hz
    obtain ⟨m, rfl⟩ : ∃ m, n = m + 1 := ⟨n - 1, by omega⟩
    have e : nI (i + 1) + -(nI 1) = nI i := by rw [dec_nI (by omega)]; rfl
    have hz' : Kz (wc G 23 0 x 23 0) := by rw [wc_at]; exact hz
    rw [e, fX8_doPull_5, isKnot8 _ hz' (by omega), wc_at]
    simp only [lit, nI_add]
    rw [isKnot8 _ hz' (by omega), wc_at]
    simp (disch := omega) only [lit, litN5, le_nI, lt_nI, eq_nI, nI_nN, nN_nI, nN_lt, nN_le, lt_nN, nI_add, mul_nI, sub_nI, cl_nI, inb_nI, bd_some, bd2_some, gd_true, b01, isB_ite, isB_0, isB_1, Nat.zero_add, st3_e]
    unfold slx slk
    rw [if_neg (by omega)]
    by_cases h1 : kn x i = true
    · rw [if_neg (by simp [h1]), gd_dec _ (by omega)]
      by_cases h2 : s ≤ x (40 + i)
      · rw [if_pos h2, if_neg (by simp [h2])]
        exact ih m c x (by omega) (by omega) hz
      · rw [if_neg h2]
        by_cases h3 : kn x (i + 1) = true
        · rw [if_neg (by simp [h3]), if_neg (by simp [h3])]
          exact ih m c x (by omega) (by omega) hz
        · have h3' : kn x (i + 1) = false := by simpa using h3
          rw [if_pos (by simp [h3']), if_pos (by simp [h1, h2, h3']), gd_dec _ (by omega), gd_dec _ (by omega), gd_dec _ (by omega), gd_dec _ (by omega), gd_dec _ (by omega), gd_dec _ (by omega)]
          rw [up_wc, up_wc, up_wc, up_wc, wc_at, upd_ne (by omega)]
          exact ih m (c + 1) _ (by omega) (by omega) (sl4_kz (by omega) hz)
    · have h1' : kn x i = false := by simpa using h1
      rw [if_pos (by simp [h1']), if_neg (by simp [h1'])]
      exact ih m c x (by omega) (by omega) hz
theorem doPull8 (G : GT) (s : Int32) (hz : Kz (G 23 0)) : fX8_doPull G s = some (nI (slx s 39 0 (G 23 0)).1, wc G 23 0 (slx s 39 0 (G 23 0)).2) := by
  unfold fX8_doPull
  have h := doPull_l G s 39 FU 0 (G 23 0) (by rw [FU_eq]; decide) (by decide) hz
  rw [wc_self, show nI 39 + -(nI 1) = 38 by decide] at h
  exact h
theorem kn_cong {g h : Nat → Int32} (e : ∀ p, p < 40 → g p = h p) : ∀ p, kn g p = kn h p := by
  intro p
  unfold kn kv
  by_cases hp : p < 40
  · rw [if_pos hp, if_pos hp, e p hp]
  · rw [if_neg hp, if_neg hp]
/-- both pulls do the same -/
theorem sl_rel (s : Int32) : ∀ (i c : Nat) (g t x : Nat → Int32), i < 40 → Kz x → (∀ p, p < 40 → g p = x p) → (∀ p, p < 40 → t p = x (40 + p)) → (slp s i c g t).1 = (slx s i c x).1 ∧ (∀ p, p < 40 → (slp s i c g t).2.1 p = (slx s i c x).2 p) ∧ (∀ p, p < 40 → (slp s i c g t).2.2 p = (slx s i c x).2 (40 + p)) ∧ (∀ j, 80 ≤ j → (slx s i c x).2 j = x j) ∧ Kz (slx s i c x).2 := by
  intro i
  induction i with
  | zero => intro c g t x _ hz h1 h2; exact ⟨rfl, h1, h2, fun _ _ => rfl, hz⟩
  | succ n ih =>
    intro c g t x hi hz h1 h2
    have e : slk s g t n = slk s x (fun j => x (40 + j)) n := by
      unfold slk
      rw [kn_cong h1, kn_cong h1, h2 n (by omega)]
    unfold slp slx
    rw [e]
    by_cases hs : slk s x (fun j => x (40 + j)) n = true
    · rw [if_pos hs, if_pos hs]
      obtain ⟨a, b, d, f, k⟩ := ih (c + 1) (upd (upd g (n + 1) (g n)) n (nI 0)) (upd (upd t (n + 1) (t n)) n (nI 0)) _ (by omega) (sl4_kz (show n < 39 by omega) hz) (fun p hp => by
        rw [sl4 (by omega)]
        unfold upd
        (repeat' split) <;> first | rfl | (exfalso; omega) | exact h1 _ (by omega)) (fun p hp => by
        rw [sl4 (by omega)]
        unfold upd
        (repeat' split) <;> first | rfl | (exfalso; omega) | exact h2 _ (by omega))
      exact ⟨a, b, d, fun j hj => by rw [f j hj, sl4 (by omega), if_neg (by omega), if_neg (by omega), if_neg (by omega)], k⟩
    · rw [if_neg hs, if_neg hs]
      exact ih c g t x (by omega) hz h1 h2
