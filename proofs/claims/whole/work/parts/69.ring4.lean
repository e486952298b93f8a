/-! ring: a learner's part of the reference's row -/
theorem upd_comm {f : Nat → Int32} {i j : Nat} {a b : Int32} (h : i ≠ j) : upd (upd f i a) j b = upd (upd f j b) i a := by
  funext k
  unfold upd
  by_cases c : k = i
  · subst c
    rw [if_pos rfl, if_neg h, if_pos rfl]
  · simp only [if_neg c]
theorem isv_f {g z x y : Nat → Int32} {ws : Nat} (e : kv g = kv z) (ex : ∀ j, 80 ≤ j → j < 161 → x j = y j) (hws : ws ≤ 16) (v : Int32) : isv g x ws v = isv z y ws v := by
  funext p
  unfold isv
  rw [bg_f e, rw_f e, rw_x ex hws]
def rgt (z : Nat → Int32) (ws l : Nat) : Bool := decide (ans z z ws (om2 z l) = ans z z ws (om1 z))
/-- what learner l's account and ears become -/
def rst (z : Nat → Int32) (ws l : Nat) (y : Nat → Int32) : Nat → Int32 := rh z ws l (upd (upd y (273 + l) (y (273 + l) + nI (if rgt z ws l = true then 1 else 0))) (279 + l) (y (279 + l) + nI (if rgt z ws l = true then 0 else 1))) ws
def rsq (z : Nat → Int32) (ws : Nat) (y : Nat → Int32) : Nat → Nat → Int32
  | 0 => y
  | l + 1 => rst z ws l (rsq z ws y l)
theorem rst_out {z y : Nat → Int32} {ws l j : Nat} (h : j < 177 + 16 * l ∨ 177 + 16 * l + ws ≤ j) (h1 : j ≠ 273 + l) (h2 : j ≠ 279 + l) : rst z ws l y j = y j := by
  unfold rst
  rw [rh_ne h, upd_ne h2, upd_ne h1]
theorem rst_h {z y : Nat → Int32} {ws l w : Nat} (hl : l < 6) (hws : ws ≤ 16) (h : w < ws) : rst z ws l y (177 + 16 * l + w) = y (177 + 16 * l + w) + nI (cn (isv z z ws (nI w)) 40) := by
  unfold rst
  rw [rh_at h, upd_ne (by omega), upd_ne (by omega)]
theorem rst_r {z y : Nat → Int32} {ws l : Nat} (hl : l < 6) (hws : ws ≤ 16) : rst z ws l y (273 + l) = y (273 + l) + nI (if rgt z ws l = true then 1 else 0) := by
  unfold rst
  rw [rh_ne (by omega), upd_ne (by omega), upd_at]
theorem rst_w {z y : Nat → Int32} {ws l : Nat} (hl : l < 6) (hws : ws ≤ 16) : rst z ws l y (279 + l) = y (279 + l) + nI (if rgt z ws l = true then 0 else 1) := by
  unfold rst
  rw [rh_ne (by omega), upd_at]
theorem rsq_out {z y : Nat → Int32} {ws j : Nat} (hws : ws ≤ 16) : ∀ l, l ≤ 6 → (j < 177 ∨ (177 + 16 * l ≤ j ∧ j < 273) ∨ 285 ≤ j) → rsq z ws y l j = y j
  | 0, _, _ => rfl
  | l + 1, hl, h => by
    unfold rsq
    rw [rst_out (by omega) (by omega) (by omega)]
    exact rsq_out hws l (by omega) (by omega)
theorem rsq_ear {z y : Nat → Int32} {ws j : Nat} (hws : ws ≤ 16) (hj : j < 96) : ∀ l, l ≤ 6 → ∃ c, c ≤ 40 ∧ rsq z ws y l (177 + j) = y (177 + j) + nI c
  | 0, _ => ⟨0, by decide, (Int32.add_zero _).symm⟩
  | l + 1, hl => by
    unfold rsq
    by_cases e : 16 * l ≤ j ∧ j < 16 * l + ws
    · obtain ⟨w, rfl⟩ : ∃ w, j = 16 * l + w := ⟨j - 16 * l, by omega⟩
      refine ⟨cn (isv z z ws (nI w)) 40, cn_le _ 40, ?_⟩
      rw [show 177 + (16 * l + w) = 177 + 16 * l + w by omega, rst_h (by omega) hws (by omega), rsq_out hws l (by omega) (by omega)]
    · rw [rst_out (by omega) (by omega) (by omega)]
      exact rsq_ear hws hj l (by omega)
theorem rh_288 {z y : Nat → Int32} {ws l : Nat} {v : Int32} (hl : l < 6) : ∀ n, n ≤ 16 → rh z ws l (upd y 288 v) n = upd (rh z ws l y n) 288 v
  | 0, _ => rfl
  | n + 1, hn => by
    unfold rh
    rw [rh_288 hl n (by omega), upd_ne (show 177 + 16 * l + n ≠ 288 by omega), upd_comm (show 288 ≠ 177 + 16 * l + n by omega)]
theorem rst_288 {z y : Nat → Int32} {ws l : Nat} {v : Int32} (hl : l < 6) (hws : ws ≤ 16) : rst z ws l (upd y 288 v) = upd (rst z ws l y) 288 v := by
  unfold rst
  rw [upd_ne (show 273 + l ≠ 288 by omega), upd_ne (show 279 + l ≠ 288 by omega), upd_comm (show 288 ≠ 273 + l by omega), upd_comm (show 288 ≠ 279 + l by omega), rh_288 hl ws hws]
theorem rsq_288 {z y : Nat → Int32} {ws : Nat} {v : Int32} (hws : ws ≤ 16) : ∀ l, l ≤ 6 → rsq z ws (upd y 288 v) l = upd (rsq z ws y l) 288 v
  | 0, _ => rfl
  | l + 1, hl => by
    unfold rsq
    rw [rsq_288 hws l (by omega), rst_288 (by omega) hws]
/-- the answers don't see what the others heard -/
theorem ans_x {g z y : Nat → Int32} {ws : Nat} {ω ω' : Nat → Int32} (eg : kv g = kv z) (ey : ∀ j, 80 ≤ j → j < 161 → y j = z j) (hws : ws ≤ 16) (eo : ∀ w, w < ws → ω w = ω' w) : ans g y ws ω = ans z z ws ω' := by
  unfold ans
  refine sm_cong (fun w hw => ?_)
  rw [isv_f eg ey hws, eo w hw]
theorem om1_x {z y : Nat → Int32} {ws : Nat} (ey : ∀ j, j < 177 → y j = z j) (hws : ws ≤ 16) : ∀ w, w < ws → om1 y w = om1 z w := fun w hw => ey _ (by omega)
theorem om2_x {z y : Nat → Int32} {ws l : Nat} (ey : ∀ j, j < 177 → y j = z j) (eh : ∀ w, w < 16 → y (177 + 16 * l + w) = z (177 + 16 * l + w)) (e5 : y 285 = z 285) (hws : ws ≤ 16) : ∀ w, w < ws → om2 y l w = om2 z l w := fun w hw => by
  unfold om2 knb
  rw [ey (161 + w) (by omega), eh w (by omega), e5]
theorem ring101 (G : GT) {z y : Nat → Int32} {ws l : Nat} (hz : Kz z) (hW : Wd z ws) (hl : l < 6) (ey : ∀ j, j < 177 → y j = z j) (a1 : Int32) (k : GT → Int32 → Int32 → Option (Int32 × GT)) : fX8_ring_101 a1 (nI l) k FU (wc G 23 0 y) (nI 0) = k (wc G 23 0 (rh z ws l y ws)) a1 (nI (l + 1)) := by
  have hws := hW.2.1
  exact up_fu (fun n w => fX8_ring_101 a1 (nI l) k n (wc G 23 0 (rh z ws l y w)) (nI w)) ws _ (by omega)
    (fun n w hw => by
      show fX8_ring_101 a1 (nI l) k (n + 1) (wc G 23 0 (rh z ws l y w)) (nI w) = fX8_ring_101 a1 (nI l) k n (wc G 23 0 (rh z ws l y (w + 1))) (nI (w + 1))
      have hY : ∀ j, j < 177 → rh z ws l y w j = z j := fun j hj => by rw [rh_ne (by omega)]; exact ey j hj
      have hH : wc G 23 0 (rh z ws l y w) 23 0 = rh z ws l y w := wc_at _ _ _ _
      have hz1 : Kz (wc G 23 0 (rh z ws l y w) 23 0) := fun p hp => by rw [hH, hY p (by omega)]; exact hz p hp
      have hW1 : Wd (wc G 23 0 (rh z ws l y w) 23 0) ws := by rw [hH]; exact Wd_cong (fun j _ b => hY j (by omega)) hW
      have hi : isv (rh z ws l y w) (rh z ws l y w) ws (nI w) = isv z z ws (nI w) := isv_f (kv_f (fun p hp => hY p (by omega))) (fun j _ b => hY j (by omega)) hws (nI w)
      rw [fX8_ring_101, runsOf8 _ hz1 hW1, bd_some, hH, hi]
      simp (disch := omega) only [lit, litN5, le_nI, lt_nI, eq_nI, nI_nN, nN_nI, nN_lt, nN_le, lt_nN, nI_add, mul_nI, sub_nI, dec_nI, cl_nI, inb_nI, bd_some, bd2_some, gd_true, b01, isB_ite, isB_0, isB_1, st3_e]
      rw [gd_dec _ (by decide), hY 80 (by decide), hW.1, if_neg (show ¬ nI ws ≤ nI w by rw [le_nI (by omega) (by omega)]; omega), gd_dec _ (by omega), gd_dec _ (by omega), up_wc]
      rfl)
    (fun n => by
      show fX8_ring_101 a1 (nI l) k (n + 1) (wc G 23 0 (rh z ws l y ws)) (nI ws) = _
      have hY : ∀ j, j < 177 → rh z ws l y ws j = z j := fun j hj => by rw [rh_ne (by omega)]; exact ey j hj
      have hH : wc G 23 0 (rh z ws l y ws) 23 0 = rh z ws l y ws := wc_at _ _ _ _
      rw [fX8_ring_101, hH]
      simp (disch := omega) only [lit, litN5, le_nI, lt_nI, eq_nI, nI_nN, nN_nI, nN_lt, nN_le, lt_nN, nI_add, mul_nI, sub_nI, dec_nI, cl_nI, inb_nI, bd_some, bd2_some, gd_true, b01, isB_ite, isB_0, isB_1]
      rw [gd_dec _ (by decide), hY 80 (by decide), hW.1, if_pos (Int32.le_refl _)])
theorem ring18_s (G : GT) {z y : Nat → Int32} {ws l : Nat} (hz : Kz z) (hW : Wd z ws) (hl : l < 6) (ey : ∀ j, j < 177 → y j = z j) (eh : ∀ w, w < 16 → y (177 + 16 * l + w) = z (177 + 16 * l + w)) (e5 : y 285 = z 285) (c n : Nat) : fX8_ring_18 (n + 1) (wc G 23 0 y) (nI c) (nI l) = fX8_ring_18 n (wc G 23 0 (rst z ws l y)) (nI (c + if rgt z ws l = true then 1 else 0)) (nI (l + 1)) := by
  have hws := hW.2.1
  have hH : wc G 23 0 y 23 0 = y := wc_at _ _ _ _
  have hz1 : Kz (wc G 23 0 y 23 0) := fun p hp => by rw [hH, ey p (by omega)]; exact hz p hp
  have hW1 : Wd (wc G 23 0 y 23 0) ws := by rw [hH]; exact Wd_cong (fun j _ b => ey j (by omega)) hW
  have a1 : ans y y ws (om2 y l) = ans z z ws (om2 z l) := ans_x (kv_f (fun p hp => ey p (by omega))) (fun j _ b => ey j (by omega)) hws (om2_x ey eh e5 hws)
  have a2 : ans y y ws (om1 y) = ans z z ws (om1 z) := ans_x (kv_f (fun p hp => ey p (by omega))) (fun j _ b => ey j (by omega)) hws (om1_x ey hws)
  rw [fX8_ring_18, answerOf8 _ hz1 hW1 hl, rightAnswer8 _ hz1 hW1, bd_some, bd_some, hH, a1, a2]
  unfold fX8_ring_41 fX8_ring_52 fX8_ring_74
  have g1 : decide (273 + l < 289) = true := decide_eq_true (by omega)
  have g2 : decide (279 + l < 289) = true := decide_eq_true (by omega)
  simp (disch := omega) only [lit, litN5, le_nI, lt_nI, eq_nI, nI_nN, nN_nI, nN_lt, nN_le, lt_nN, nI_add, mul_nI, sub_nI, dec_nI, cl_nI, inb_nI, bd_some, bd2_some, gd_true, b01, isB_ite, isB_0, isB_1, st3_e, hH, g1, g2]
  rw [if_neg (show ¬ 6 ≤ l by omega)]
  unfold rst
  by_cases e : ans z z ws (om2 z l) = ans z z ws (om1 z)
  · have hr : rgt z ws l = true := decide_eq_true e
    rw [if_pos e, if_neg (by decide), if_neg (by decide), if_neg (by decide), up_wc, wc_at, up_wc, upd_ne (show 279 + l ≠ 273 + l by omega), ring101 G hz hW hl (fun j hj => by rw [upd_ne (by omega), upd_ne (by omega)]; exact ey j hj), hr]
    rfl
  · have hr : rgt z ws l = false := decide_eq_false e
    rw [if_neg e, if_pos trivial, if_pos trivial, if_pos trivial, up_wc, wc_at, up_wc, upd_ne (show 279 + l ≠ 273 + l by omega), ring101 G hz hW hl (fun j hj => by rw [upd_ne (by omega), upd_ne (by omega)]; exact ey j hj), hr]
    rfl
theorem cn_ite (f : Nat → Bool) (n : Nat) : cn f n + (if f n = true then 1 else 0) = cn f (n + 1) := rfl
theorem ring18 (G : GT) {z : Nat → Int32} {ws : Nat} (hz : Kz z) (hW : Wd z ws) : ∀ (d l n : Nat), l + d = 6 → d < n → fX8_ring_18 n (wc G 23 0 (rsq z ws z l)) (nI (cn (rgt z ws) l)) (nI l) = some (nI (cn (rgt z ws) 6), wc G 23 0 (upd (rsq z ws z 6) 288 (z 288 + nI 1))) := by
  have hws := hW.2.1
  intro d
  induction d with
  | zero =>
    intro l n h1 h2
    obtain ⟨m, rfl⟩ : ∃ m, n = m + 1 := ⟨n - 1, by omega⟩
    obtain rfl : l = 6 := by omega
    have hH : wc G 23 0 (rsq z ws z 6) 23 0 = rsq z ws z 6 := wc_at _ _ _ _
    rw [fX8_ring_18, if_pos (by decide)]
    simp (disch := omega) only [lit, litN5, le_nI, lt_nI, eq_nI, nI_nN, nN_nI, nN_lt, nN_le, lt_nN, nI_add, mul_nI, sub_nI, dec_nI, cl_nI, inb_nI, bd_some, bd2_some, gd_true, b01, isB_ite, isB_0, isB_1, st3_e, hH]
    rw [gd_dec _ (by decide), gd_dec _ (by decide), up_wc, rsq_out hws 6 (by decide) (by omega)]
  | succ d ih =>
    intro l n h1 h2
    obtain ⟨m, rfl⟩ : ∃ m, n = m + 1 := ⟨n - 1, by omega⟩
    rw [ring18_s G hz hW (by omega) (fun j hj => rsq_out hws l (by omega) (by omega)) (fun w hw => rsq_out hws l (by omega) (by omega)) (rsq_out hws l (by omega) (by omega)), cn_ite]
    exact ih (l + 1) m (by omega) (by omega)
