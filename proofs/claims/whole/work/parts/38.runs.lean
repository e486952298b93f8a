/-! the class's runs -/
theorem bg_half (g : Nat → Int32) : ∀ p, 2 * cn (bg g) p ≤ p + 1 ∧ (∀ q, p = q + 1 → kn g q = false → 2 * cn (bg g) p ≤ p)
  | 0 => ⟨by simp [cn], fun q h => by omega⟩
  | p + 1 => by
    obtain ⟨h1, h2⟩ := bg_half g p
    by_cases e : bg g p = true
    · rw [cn_t e]
      have hk : kn g p = true := by unfold bg at e; rw [Bool.and_eq_true] at e; exact e.1
      have h3 : 2 * cn (bg g) p ≤ p := by
        cases p with
        | zero => simp [cn]
        | succ q =>
          refine h2 q rfl ?_
          unfold bg at e
          simp at e
          exact e.2
      exact ⟨by omega, fun q hq hf => by
        obtain rfl : p = q := by omega
        rw [hk] at hf
        cases hf⟩
    · have e' : bg g p = false := by simpa using e
      rw [cn_f e']
      exact ⟨by omega, fun _ _ _ => by omega⟩
theorem runs_le (g : Nat → Int32) : cn (bg g) 40 ≤ 20 := by
  have := (bg_half g 40).1
  omega
theorem runs_full {g : Nat → Int32} {p : Nat} (hp : p < 40) (h : 20 ≤ cn (bg g) p) : cn (bg g) 40 = cn (bg g) p := by
  have h1 := (bg_half g p).1
  obtain rfl : p = 39 := by omega
  have h2 : bg g 39 = false := by
    cases e : bg g 39 with
    | false => rfl
    | true =>
      have h3 := (bg_half g 40).1
      rw [cn_t e] at h3
      omega
  exact cn_f h2
/-- the place of the run of number j -/
def rs (g : Nat → Int32) (j : Nat) : Nat := sp (bg g) j 40
theorem rs_at {g : Nat → Int32} {p : Nat} (hp : p < 40) (h : bg g p = true) : rs g (cn (bg g) p) = p := sp_at h hp
theorem rs_ok {g : Nat → Int32} {j : Nat} (h : j < cn (bg g) 40) : rs g j < 40 ∧ bg g (rs g j) = true ∧ cn (bg g) (rs g j) = j := by
  obtain ⟨p, h1, h2, h3⟩ := cn_ex h
  have := rs_at h1 h2
  rw [h3] at this
  rw [this]
  exact ⟨h1, h2, h3⟩
def rw' (g x : Nat → Int32) (ws p : Nat) : Int32 := wi g x ws (ln g p) p
/-- the heap with c runs read -/
def RH (G : GT) (i : Nat) (g x : Nat → Int32) (ws c : Nat) : GT := wc (wc (wc (wc G 16 i (upd (G 16 i) 0 (nI c))) 17 i (fl (G 17 i) (fun j => nI (rs g j)) c)) 18 i (fl (G 18 i) (fun j => nI (ln g (rs g j))) c)) 19 i (fl (G 19 i) (fun j => rw' g x ws (rs g j)) c)
theorem RH_ne {G : GT} {i : Nat} {g x : Nat → Int32} {ws c a b : Nat} (h : ¬ (16 ≤ a ∧ a ≤ 19 ∧ b = i)) : RH G i g x ws c a b = G a b := by
  unfold RH; rw [wc_ne (by omega), wc_ne (by omega), wc_ne (by omega), wc_ne (by omega)]
theorem RH_16 (G : GT) (i : Nat) (g x : Nat → Int32) (ws c : Nat) : RH G i g x ws c 16 i = upd (G 16 i) 0 (nI c) := by
  unfold RH; rw [wc_ne (by omega), wc_ne (by omega), wc_ne (by omega), wc_at]
theorem RH_17 (G : GT) (i : Nat) (g x : Nat → Int32) (ws c : Nat) : RH G i g x ws c 17 i = fl (G 17 i) (fun j => nI (rs g j)) c := by
  unfold RH; rw [wc_ne (by omega), wc_ne (by omega), wc_at]
theorem RH_18 (G : GT) (i : Nat) (g x : Nat → Int32) (ws c : Nat) : RH G i g x ws c 18 i = fl (G 18 i) (fun j => nI (ln g (rs g j))) c := by
  unfold RH; rw [wc_ne (by omega), wc_at]
theorem RH_19 (G : GT) (i : Nat) (g x : Nat → Int32) (ws c : Nat) : RH G i g x ws c 19 i = fl (G 19 i) (fun j => rw' g x ws (rs g j)) c := by
  unfold RH; rw [wc_at]
theorem RH_step (G : GT) (i : Nat) (g x : Nat → Int32) (ws c p : Nat) (hp : rs g c = p) : up3 (up3 (up3 (up3 (RH G i g x ws c) 17 i c (nI p)) 18 i c (nI (ln g p))) 19 i c (rw' g x ws p)) 16 i 0 (nI (c + 1)) = RH G i g x ws (c + 1) := by
  subst hp
  have e1 := fl_s (G 17 i) (fun j => nI (rs g j)) c
  have e2 := fl_s (G 18 i) (fun j => nI (ln g (rs g j))) c
  have e3 := fl_s (G 19 i) (fun j => rw' g x ws (rs g j)) c
  funext a b
  by_cases hb : b = i
  · subst hb
    by_cases h16 : a = 16
    · subst h16
      rw [up3_at, up3_ne (by omega), up3_ne (by omega), up3_ne (by omega), RH_16, RH_16]
      funext j; unfold upd; split <;> rfl
    · rw [up3_ne (by omega)]
      by_cases h19 : a = 19
      · subst h19; rw [up3_at, up3_ne (by omega), up3_ne (by omega), RH_19, RH_19]; exact e3
      · rw [up3_ne (by omega)]
        by_cases h18 : a = 18
        · subst h18; rw [up3_at, up3_ne (by omega), RH_18, RH_18]; exact e2
        · rw [up3_ne (by omega)]
          by_cases h17 : a = 17
          · subst h17; rw [up3_at, RH_17, RH_17]; exact e1
          · rw [up3_ne (by omega), RH_ne (by omega), RH_ne (by omega)]
  · rw [up3_ne (by omega), up3_ne (by omega), up3_ne (by omega), up3_ne (by omega), RH_ne (by omega), RH_ne (by omega)]
theorem Cw.of {G H : GT} {x : Nat → Int32} {ws : Nat} (h : Cw G x ws) (e : ∀ a, 3 ≤ a → a ≤ 6 → H a 0 = G a 0) : Cw H x ws := by
  obtain ⟨h1, h2, h3, h4⟩ := h
  unfold Cw
  rw [e 3 (by omega) (by omega), e 4 (by omega) (by omega), e 5 (by omega) (by omega), e 6 (by omega) (by omega)]
  exact ⟨h1, h2, h3, h4⟩
theorem read_e (G : GT) (i r : Nat) {x : Nat → Int32} {ws : Nat} (hC : Cw G x ws) (hws : ws ≤ 16) : fX3_read G i r 0 = some (RH G i (G 1 r) x ws (cn (bg (G 1 r)) 40)) := by
  unfold fX3_read
  rw [st3_e]
  have key := lp_fu (fun n (_ : Unit) p => fX3_read_7 i r 0 n (RH G i (G 1 r) x ws (cn (bg (G 1 r)) p)) (nI p)) 40 (fun _ _ => some (RH G i (G 1 r) x ws (cn (bg (G 1 r)) 40))) (fun _ _ => True) (by decide)
    (fun n c p hp _ => by
      have hc := cn_le (bg (G 1 r)) p
      have hC2 : Cw (RH G i (G 1 r) x ws (cn (bg (G 1 r)) p)) x ws := hC.of (fun a h1 h2 => RH_ne (by omega))
      have h1r : RH G i (G 1 r) x ws (cn (bg (G 1 r)) p) 1 r = G 1 r := RH_ne (by omega)
      show (∃ s' : Unit, True ∧ fX3_read_7 i r 0 (n + 1) (RH G i (G 1 r) x ws (cn (bg (G 1 r)) p)) (nI p) = fX3_read_7 i r 0 n (RH G i (G 1 r) x ws (cn (bg (G 1 r)) (p + 1))) (nI (p + 1)) ∧ _ = _) ∨ fX3_read_7 i r 0 (n + 1) (RH G i (G 1 r) x ws (cn (bg (G 1 r)) p)) (nI p) = _
      rw [fX3_read_7, startsRun_e _ _ (by omega), RH_16, upd_at]
      simp (disch := omega) only [lit, litN5, le_nI, lt_nI, eq_nI, nI_nN, nN_nI, nN_lt, nN_le, lt_nN, nI_add, mul_nI, sub_nI, dec_nI, cl_nI, inb_nI, bd_some, bd2_some, gd_true, b01, isB_ite, isB_0, isB_1, h1r, st3_e]
      rw [if_neg (by omega)]
      by_cases hf : 20 ≤ cn (bg (G 1 r)) p
      · refine Or.inr ?_
        rw [if_pos hf, runs_full hp hf]
      · rw [if_neg hf]
        refine Or.inl ⟨(), trivial, ?_, trivial⟩
        by_cases hb : bg (G 1 r) p = true
        · rw [if_neg (by simp [hb]), gd_dec _ (by omega), cn_t hb]
          rw [lengthFrom_e _ _ (by omega)]
          simp only [up3_ne (show ¬ (1 = 17 ∧ r = i) by omega), up3_ne (show ¬ (16 = 17 ∧ i = i) by omega), up3_ne (show ¬ (16 = 18 ∧ i = i) by omega), up3_ne (show ¬ (16 = 19 ∧ i = i) by omega), h1r, RH_16, upd_at, bd_some, up3_at]
          simp (disch := omega) only [lit, litN5, le_nI, lt_nI, eq_nI, nI_nN, nN_nI, nN_lt, nN_le, lt_nN, nI_add, mul_nI, sub_nI, dec_nI, cl_nI, inb_nI, bd_some, bd2_some, gd_true, b01, isB_ite, isB_0, isB_1]
          rw [gd_dec _ (by omega), gd_dec _ (by omega)]
          have hl := ln_le (G 1 r) p
          rw [find6 _ ((hC2.of (fun a h1 h2 => by rw [up3_ne (by omega), up3_ne (by omega)])) : Cw _ x ws) hws (by omega) (by omega)]
          simp only [bd_some, up3_ne (show ¬ (1 = 18 ∧ r = i) by omega), up3_ne (show ¬ (1 = 17 ∧ r = i) by omega), h1r]
          rw [gd_dec _ (by omega)]
          exact congrArg (fun H => fX3_read_7 i r 0 n H (nI (p + 1))) (RH_step G i (G 1 r) x ws _ p (rs_at hp hb))
        · have hb' : bg (G 1 r) p = false := by simpa using hb
          rw [if_pos (by simp [hb']), cn_f hb'])
    (fun n c _ => by
      show fX3_read_7 i r 0 (n + 1) _ (nI 40) = _
      rw [fX3_read_7, if_pos (by decide)])
    0 () (by decide) trivial
  have e0 : RH G i (G 1 r) x ws (cn (bg (G 1 r)) 0) = up3 G 16 i 0 (nI 0) := by
    unfold RH
    show wc (wc (wc (wc G 16 i (upd (G 16 i) 0 (nI 0))) 17 i (fl (G 17 i) _ 0)) 18 i (fl (G 18 i) _ 0)) 19 i (fl (G 19 i) _ 0) = _
    rw [fl_0, fl_0, fl_0, ← up_wc0]
    funext a b
    by_cases h : a = 19 ∧ b = i
    · obtain ⟨rfl, rfl⟩ := h; rw [wc_at, up3_ne (by omega)]
    · rw [wc_ne h]
      by_cases h : a = 18 ∧ b = i
      · obtain ⟨rfl, rfl⟩ := h; rw [wc_at, up3_ne (by omega)]
      · rw [wc_ne h]
        by_cases h : a = 17 ∧ b = i
        · obtain ⟨rfl, rfl⟩ := h; rw [wc_at, up3_ne (by omega)]
        · rw [wc_ne h]
  rw [e0] at key
  exact key
