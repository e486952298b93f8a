/-! put, clear, copy, slip -/
theorem put_e (G : GT) (r : Nat) {p : Nat} (hp : p < 40) (k t : Int32) : fX2_put G r (nI p) k t = some (wc (wc G 1 r (upd (G 1 r) p k)) 2 r (upd (G 2 r) p t)) := by
  unfold fX2_put
  simp (disch := omega) only [lit, litN5, le_nI, lt_nI, eq_nI, nI_nN, nN_nI, nN_lt, nN_le, lt_nN, nI_add, mul_nI, sub_nI, dec_nI, cl_nI, inb_nI, bd_some, bd2_some, gd_true, b01, isB_ite, isB_0, isB_1, isW]
  rw [if_neg (by omega), gd_dec _ hp, st3_e, gd_dec _ hp, st3_e, up_wc0, up_wc0, wc_ne (by omega)]
theorem put_off (G : GT) (r : Nat) {a k t : Int32} (h : ¬ (nI 0 ≤ a ∧ a ≤ nI 39)) : fX2_put G r a k t = some G := by
  unfold fX2_put
  rw [isW, bd_some]
  simp only [lit]
  rw [if_pos (by rw [if_neg h])]
/-- the first m slots put to z, the others as in f -/
def fl (f z : Nat → Int32) (m : Nat) : Nat → Int32 := fun j => if j < m then z j else f j
theorem fl_0 (f z : Nat → Int32) : fl f z 0 = f := by funext j; simp [fl]
theorem fl_s (f z : Nat → Int32) (m : Nat) : upd (fl f z m) m (z m) = fl f z (m + 1) := by
  funext j
  unfold upd fl
  by_cases h : j = m
  · subst h; rw [if_pos rfl, if_pos (by omega)]
  · rw [if_neg h]
    by_cases h2 : j < m
    · rw [if_pos h2, if_pos (by omega)]
    · rw [if_neg h2, if_neg (by omega)]
theorem fl_in {f z : Nat → Int32} {m j : Nat} (h : j < m) : fl f z m j = z j := by simp [fl, h]
theorem fl_out {f z : Nat → Int32} {m j : Nat} (h : m ≤ j) : fl f z m j = f j := by simp [fl, Nat.not_lt.mpr h]
/-- a rope's rows replaced -/
def wr (G : GT) (r : Nat) (g t : Nat → Int32) : GT := wc (wc G 1 r g) 2 r t
theorem wr_1 (G : GT) (r : Nat) (g t : Nat → Int32) : wr G r g t 1 r = g := by unfold wr; rw [wc_ne (by omega), wc_at]
theorem wr_2 (G : GT) (r : Nat) (g t : Nat → Int32) : wr G r g t 2 r = t := by unfold wr; rw [wc_at]
theorem wr_ne {G : GT} {r a b : Nat} {g t : Nat → Int32} (h : ¬ ((a = 1 ∨ a = 2) ∧ b = r)) : wr G r g t a b = G a b := by
  unfold wr; rw [wc_ne (by omega), wc_ne (by omega)]
theorem wr_wr (G : GT) (r : Nat) (g t g' t' : Nat → Int32) : wr (wr G r g t) r g' t' = wr G r g' t' := by
  unfold wr
  rw [wc_comm (k := 2) (i := r) (a := 1) (b := r) (by omega), wc_wc, wc_wc]
theorem wr_self (G : GT) (r : Nat) : wr G r (G 1 r) (G 2 r) = G := by
  unfold wr; rw [wc_self, wc_self]
theorem put_r (G : GT) (r : Nat) {p : Nat} (hp : p < 40) (k t : Int32) (g h : Nat → Int32) : fX2_put (wr G r g h) r (nI p) k t = some (wr G r (upd g p k) (upd h p t)) := by
  rw [put_e _ _ hp, wr_1, wr_2]
  exact congrArg some (wr_wr G r g h _ _)
theorem clear_e (G : GT) (r : Nat) : fX2_clear G r = some (wr G r (fl (G 1 r) (fun _ => nI 0) 40) (fl (G 2 r) (fun _ => nI 0) 40)) := by
  unfold fX2_clear
  have key := up_fu (fun n i => fX2_clear_2 r n (wr G r (fl (G 1 r) (fun _ => nI 0) i) (fl (G 2 r) (fun _ => nI 0) i)) (nI i)) 40 (some (wr G r (fl (G 1 r) (fun _ => nI 0) 40) (fl (G 2 r) (fun _ => nI 0) 40))) (by decide)
    (fun n i hi => by
      show fX2_clear_2 r (n + 1) _ (nI i) = fX2_clear_2 r n _ (nI (i + 1))
      rw [fX2_clear_2]
      simp only [lit]
      rw [put_r G r hi]
      simp (disch := omega) only [lit, litN5, le_nI, lt_nI, eq_nI, nI_nN, nN_nI, nN_lt, nN_le, lt_nN, nI_add, mul_nI, sub_nI, dec_nI, cl_nI, inb_nI, bd_some, bd2_some, gd_true, b01, isB_ite, isB_0, isB_1]
      rw [if_neg (by omega)]
      have e1 := fl_s (G 1 r) (fun _ => nI 0) i
      have e2 := fl_s (G 2 r) (fun _ => nI 0) i
      rw [e1, e2])
    (fun n => by
      show fX2_clear_2 r (n + 1) _ (nI 40) = _
      rw [fX2_clear_2, if_pos (by decide)])
  rw [fl_0, fl_0, wr_self] at key
  exact key
theorem copyRope_e (G : GT) {r q : Nat} (hrq : r ≠ q) : fX2_copyFrom G r q = some (wr G r (fl (G 1 r) (G 1 q) 40) (fl (G 2 r) (G 2 q) 40)) := by
  unfold fX2_copyFrom
  have key := up_fu (fun n i => fX2_copyFrom_2 r q n (wr G r (fl (G 1 r) (G 1 q) i) (fl (G 2 r) (G 2 q) i)) (nI i)) 40 (some (wr G r (fl (G 1 r) (G 1 q) 40) (fl (G 2 r) (G 2 q) 40))) (by decide)
    (fun n i hi => by
      show fX2_copyFrom_2 r q (n + 1) _ (nI i) = fX2_copyFrom_2 r q n _ (nI (i + 1))
      rw [fX2_copyFrom_2]
      simp (disch := omega) only [lit, litN5, le_nI, lt_nI, eq_nI, nI_nN, nN_nI, nN_lt, nN_le, lt_nN, nI_add, mul_nI, sub_nI, dec_nI, cl_nI, inb_nI, bd_some, bd2_some, gd_true, b01, isB_ite, isB_0, isB_1, st3_e]
      rw [if_neg (by omega), gd_dec _ hi, gd_dec _ hi, gd_dec _ hi, gd_dec _ hi]
      have e1 := fl_s (G 1 r) (G 1 q) i
      have e2 := fl_s (G 2 r) (G 2 q) i
      rw [← e1, ← e2, up_wc0, up_wc0, wr_1, wc_ne (a := 2) (b := r) (by omega), wr_2, wc_ne (a := 2) (b := q) (by omega), wr_ne (a := 1) (b := q) (by omega), wr_ne (a := 2) (b := q) (by omega)]
      exact congrArg (fun H => fX2_copyFrom_2 r q n H (nI (i + 1))) (wr_wr G r _ _ _ _))
    (fun n => by
      show fX2_copyFrom_2 r q (n + 1) _ (nI 40) = _
      rw [fX2_copyFrom_2, if_pos (by decide)])
  rw [fl_0, fl_0, wr_self] at key
  exact key
/-- one knot's slip -/
def slk (s : Int32) (g t : Nat → Int32) (p : Nat) : Bool := kn g p && (decide (¬ s ≤ t p) && !kn g (p + 1))
/-- places below n, the lowest first: how many slip, and the rope behind it -/
def slp (s : Int32) : Nat → Nat → (Nat → Int32) → (Nat → Int32) → Nat × (Nat → Int32) × (Nat → Int32)
  | 0, c, g, t => (c, g, t)
  | n + 1, c, g, t => if slk s g t n = true then slp s n (c + 1) (upd (upd g (n + 1) (g n)) n (nI 0)) (upd (upd t (n + 1) (t n)) n (nI 0)) else slp s n c g t
theorem slip_l (G : GT) (r : Nat) (s : Int32) : ∀ (i n c : Nat) (g t : Nat → Int32), i < n → i < 40 → fX2_slip_5 r s n (wr G r g t) (nI c) (nI i + -(nI 1)) = some (nI (slp s i c g t).1, wr G r (slp s i c g t).2.1 (slp s i c g t).2.2) := by
  intro i
  induction i with
  | zero =>
    intro n c g t hn hi
    obtain ⟨m, rfl⟩ : ∃ m, n = m + 1 := ⟨n - 1, by omega⟩
    rw [fX2_slip_5, if_pos (by decide)]
    rfl
  | succ i ih =>
    intro n c g t hn hi
    obtain ⟨m, rfl⟩ : ∃ m, n = m + 1 := ⟨n - 1, by omega⟩
    have e : nI (i + 1) + -(nI 1) = nI i := by rw [dec_nI (by omega)]; rfl
    rw [e, fX2_slip_5, kindAt_e _ _ (by omega), tightAt_e _ _ (by omega), wr_1, wr_2]
    unfold fX2_slip_30 fX2_slip_31
    simp (disch := omega) only [lit, litN5, le_nI, lt_nI, eq_nI, nI_nN, nN_nI, nN_lt, nN_le, lt_nN, nI_add, mul_nI, sub_nI, cl_nI, inb_nI, bd_some, bd2_some, gd_true, b01, isB_ite, isB_0, isB_1]
    rw [kindAt_e _ _ (by omega), kindAt_e _ _ (by omega), tightAt_e _ _ (by omega), wr_1, wr_2]
    simp (disch := omega) only [lit, litN5, le_nI, lt_nI, eq_nI, nI_nN, nN_nI, nN_lt, nN_le, lt_nN, nI_add, mul_nI, sub_nI, cl_nI, inb_nI, bd_some, bd2_some, gd_true, b01, isB_ite, isB_0, isB_1, kv0]
    unfold slp slk
    rw [if_neg (by omega)]
    by_cases h1 : kn g i = true
    · rw [if_neg (by simp [h1]), kv_in (g := t) (by omega)]
      by_cases h2 : s ≤ t i
      · rw [if_pos h2, if_pos trivial, if_neg (by simp [h2])]
        exact ih m c g t (by omega) (by omega)
      · rw [if_neg h2, if_neg (by decide)]
        by_cases h3 : kn g (i + 1) = true
        · rw [if_neg (by simp [h3]), if_neg (by simp [h3])]
          exact ih m c g t (by omega) (by omega)
        · have h3' : kn g (i + 1) = false := by simpa using h3
          rw [if_pos h3', if_pos (by simp [h1, h2, h3']), put_r _ _ (by omega)]
          simp only [bd_some]
          rw [put_r _ _ (by omega)]
          simp only [bd_some]
          rw [kv_in (by omega)]
          exact ih m (c + 1) _ _ (by omega) (by omega)
    · have h1' : kn g i = false := by simpa using h1
      rw [if_pos h1', if_pos trivial, if_neg (by simp [h1'])]
      exact ih m c g t (by omega) (by omega)
theorem slip_e (G : GT) (r : Nat) (s : Int32) : fX2_slip G r s = some (nI (slp s 39 0 (G 1 r) (G 2 r)).1, wr G r (slp s 39 0 (G 1 r) (G 2 r)).2.1 (slp s 39 0 (G 1 r) (G 2 r)).2.2) := by
  unfold fX2_slip
  have h := slip_l G r s 39 FU 0 (G 1 r) (G 2 r) (by rw [FU_eq]; decide) (by decide)
  rw [wr_self, show nI 39 + -(nI 1) = 38 by decide] at h
  exact h
