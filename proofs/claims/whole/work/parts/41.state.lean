/-! states: what the class's rows and the reference's row hold of one state x (289 numbers) -/
def wz (x : Nat → Int32) : Nat := (x 80).toNatClampNeg
def Sr (G : GT) (i : Nat) (x : Nat → Int32) : Prop := (∀ p, p < 40 → G 1 i p = x p) ∧ (∀ p, p < 40 → G 2 i p = x (40 + p)) ∧ G 3 i 0 = x 80 ∧ (∀ j, j < 80 → G 6 i j = x (81 + j)) ∧ (∀ w, w < 16 → G 5 i w = x (161 + w)) ∧ (∀ w, w < wz x → w < 16 → G 4 i w = nI (pl x w)) ∧ G 7 i 0 = x 285 ∧ (∀ j, j < 96 → G 8 i j = x (177 + j)) ∧ (∀ l, l < 6 → G 9 i l = x (273 + l)) ∧ (∀ l, l < 6 → G 10 i l = x (279 + l)) ∧ G 11 i 3 = x 286 ∧ G 11 i 4 = x 287 ∧ G 11 i 5 = x 288
def Wf (t : Nat) (x : Nat → Int32) : Prop := Kz x ∧ (∃ ws, Wd x ws) ∧ Se x ∧ ∀ j, j < 96 → ∃ n : Nat, n ≤ 40 * t ∧ x (177 + j) = nI n
theorem wz_eq {x : Nat → Int32} {ws : Nat} (h : Wd x ws) : wz x = ws := by
  have := h.2.1
  unfold wz; rw [h.1, cl_nI (by omega)]
theorem Sr.cw {G : GT} {x : Nat → Int32} {ws : Nat} (h : Sr G 0 x) (hW : Wd x ws) : Cw G x ws := by
  obtain ⟨-, -, h3, h6, h5, h4, -⟩ := h
  have := hW.2.1
  exact ⟨h3.trans hW.1, h6, h5, fun w hw => h4 w (by rw [wz_eq hW]; exact hw) (by omega)⟩
theorem Sr.cl {G : GT} {x : Nat → Int32} (h : Sr G 0 x) : Cl G x := by
  obtain ⟨-, -, -, -, -, -, h7, h8, h9, h10, -⟩ := h
  exact ⟨h7, h8, h9, h10⟩
theorem Sr.of {G H : GT} {i : Nat} {x : Nat → Int32} (h : Sr G i x) (e : ∀ a, 1 ≤ a → a ≤ 11 → H a i = G a i) : Sr H i x := by
  unfold Sr
  rw [e 1 (by omega) (by omega), e 2 (by omega) (by omega), e 3 (by omega) (by omega), e 4 (by omega) (by omega), e 5 (by omega) (by omega), e 6 (by omega) (by omega), e 7 (by omega) (by omega), e 8 (by omega) (by omega), e 9 (by omega) (by omega), e 10 (by omega) (by omega), e 11 (by omega) (by omega)]
  exact h
theorem plF_cong {x y : Nat → Int32} {w : Nat} (e : ∀ k, k < 5 → pt x w k = pt y w k) : ∀ n k, n + k ≤ 5 → plF x w n k = plF y w n k
  | 0, _, _ => rfl
  | n + 1, k, h => by
    unfold plF
    rw [e k (by omega), plF_cong e n (k + 1) (by omega)]
theorem pl_cong {x y : Nat → Int32} {w : Nat} (e : ∀ k, k < 5 → pt x w k = pt y w k) : pl x w = pl y w := plF_cong e 5 0 (by omega)
def E9 (x y : Nat → Int32) : Prop := ∀ j, j < 289 → x j = y j
theorem E9.pt {x y : Nat → Int32} (h : E9 x y) {w k : Nat} (hw : w < 16) (hk : k < 5) : pt x w k = pt y w k := h _ (by omega)
theorem E9.pl {x y : Nat → Int32} (h : E9 x y) {w : Nat} (hw : w < 16) : pl x w = pl y w := pl_cong (fun k hk => h.pt hw hk)
theorem E9.sy {x y : Nat → Int32} (h : E9 x y) : E9 y x := fun j hj => (h j hj).symm
theorem E9.wd {x y : Nat → Int32} (h : E9 x y) {ws : Nat} (hW : Wd x ws) : Wd y ws := by
  obtain ⟨h1, h2, h3, h4, h5⟩ := hW
  refine ⟨by rw [← h 80 (by decide)]; exact h1, h2, fun w hw => by rw [← h.pl (by omega)]; exact h3 w hw, fun w k hw hk hk5 => ?_, fun v w hv hw e => h5 v w hv hw (fun k hk => ?_)⟩
  · rw [← h.pt (by omega) hk5]
    exact h4 w k hw (by rw [h.pl (by omega)]; exact hk) hk5
  · rw [h.pt (by omega) hk, h.pt (by omega) hk]; exact e k hk
theorem E9.wf {x y : Nat → Int32} (h : E9 x y) {t : Nat} (hW : Wf t x) : Wf t y := by
  obtain ⟨h1, ⟨ws, h2⟩, ⟨s, h3, h4, h5⟩, h6⟩ := hW
  exact ⟨fun p hp => by rw [← h p (by omega)]; exact h1 p hp, ⟨ws, h.wd h2⟩, ⟨s, h3, h4, by rw [← h 285 (by decide)]; exact h5⟩, fun j hj => by
    obtain ⟨n, a, b⟩ := h6 j hj
    exact ⟨n, a, by rw [← h _ (by omega)]; exact b⟩⟩
theorem E9.sr {x y : Nat → Int32} (h : E9 x y) {G : GT} {i : Nat} (hS : Sr G i x) : Sr G i y := by
  obtain ⟨h1, h2, h3, h6, h5, h4, h7, h8, h9, h10, ha, hb, hc⟩ := hS
  have hz : wz y = wz x := by unfold wz; rw [h 80 (by decide)]
  exact ⟨fun p hp => (h1 p hp).trans (h _ (by omega)), fun p hp => (h2 p hp).trans (h _ (by omega)), h3.trans (h _ (by decide)), fun j hj => (h6 j hj).trans (h _ (by omega)), fun w hw => (h5 w hw).trans (h _ (by omega)), fun w hw hw2 => (h4 w (by rw [← hz]; exact hw) hw2).trans (by rw [h.pl hw2]), h7.trans (h _ (by decide)), fun j hj => (h8 j hj).trans (h _ (by omega)), fun l hl => (h9 l hl).trans (h _ (by omega)), fun l hl => (h10 l hl).trans (h _ (by omega)), ha.trans (h _ (by decide)), hb.trans (h _ (by decide)), hc.trans (h _ (by decide))⟩
theorem Wf.mono {t : Nat} {x : Nat → Int32} (h : Wf t x) : Wf (t + 1) x := ⟨h.1, h.2.1, h.2.2.1, fun j hj => by
  obtain ⟨n, a, b⟩ := h.2.2.2 j hj
  exact ⟨n, by omega, b⟩⟩
/-! copying a state -/
def cpW (G : GT) (i j : Nat) : GT := wc (wc (wc (wc G 3 i (upd (G 3 i) 0 (G 3 j 0))) 4 i (fl (G 4 i) (G 4 j) 16)) 5 i (fl (G 5 i) (G 5 j) 16)) 6 i (fl (G 6 i) (G 6 j) 80)
def cpL (G : GT) (i j : Nat) : GT := wc (wc (wc (wc G 7 i (upd (G 7 i) 0 (G 7 j 0))) 8 i (fl (G 8 i) (G 8 j) 96)) 9 i (fl (G 9 i) (G 9 j) 6)) 10 i (fl (G 10 i) (G 10 j) 6)
theorem w2 (G : GT) (k l i : Nat) (hkl : k ≠ l) (f h : Nat → Int32) (c : Nat) (a b : Int32) : up3 (up3 (wc (wc G k i f) l i h) k i c a) l i c b = wc (wc G k i (upd f c a)) l i (upd h c b) := by
  rw [wc_comm (k := k) (i := i) (a := l) (b := i) (by omega), up_wc, wc_comm (k := l) (i := i) (a := k) (b := i) (by omega), up_wc]
theorem copyWords_e (G : GT) {i j : Nat} (hij : i ≠ j) : fX6_copyFrom G i j = some (cpW G i j) := by
  unfold fX6_copyFrom
  rw [st3_e, up_wc0]
  generalize hG1 : wc G 3 i (upd (G 3 i) 0 (G 3 j 0)) = G1
  have e4 : G1 4 i = G 4 i := by rw [← hG1, wc_ne (by omega)]
  have e4j : G1 4 j = G 4 j := by rw [← hG1, wc_ne (by omega)]
  have e5 : G1 5 i = G 5 i := by rw [← hG1, wc_ne (by omega)]
  have e5j : G1 5 j = G 5 j := by rw [← hG1, wc_ne (by omega)]
  have e6 : G1 6 i = G 6 i := by rw [← hG1, wc_ne (by omega)]
  have e6j : G1 6 j = G 6 j := by rw [← hG1, wc_ne (by omega)]
  have k1 := up_fu (fun n w => fX6_copyFrom_10 i j n (wc (wc G1 4 i (fl (G1 4 i) (G1 4 j) w)) 5 i (fl (G1 5 i) (G1 5 j) w)) (nI w)) 16 (fX6_copyFrom_48 i j FU (wc (wc G1 4 i (fl (G1 4 i) (G1 4 j) 16)) 5 i (fl (G1 5 i) (G1 5 j) 16)) (nI 0)) (by decide)
    (fun n w hw => by
      show fX6_copyFrom_10 i j (n + 1) _ (nI w) = fX6_copyFrom_10 i j n _ (nI (w + 1))
      rw [fX6_copyFrom_10]
      simp (disch := omega) only [lit, litN5, le_nI, lt_nI, eq_nI, nI_nN, nN_nI, nN_lt, nN_le, lt_nN, nI_add, mul_nI, sub_nI, dec_nI, cl_nI, inb_nI, bd_some, bd2_some, gd_true, b01, isB_ite, isB_0, isB_1, st3_e]
      rw [if_neg (by omega), gd_dec _ hw, gd_dec _ hw, gd_dec _ hw, gd_dec _ hw]
      rw [← fl_s (G1 4 i) (G1 4 j) w, ← fl_s (G1 5 i) (G1 5 j) w, ← w2 G1 4 5 i (by decide)]
      congr 1
      rw [wc_ne (a := 4) (b := j) (by omega), wc_ne (a := 4) (b := j) (by omega), up3_ne (a := 5) (b := j) (by omega), wc_ne (a := 5) (b := j) (by omega), wc_ne (a := 5) (b := j) (by omega)])
    (fun n => by
      show fX6_copyFrom_10 i j (n + 1) _ (nI 16) = _
      rw [fX6_copyFrom_10, if_pos (by decide)]
      rfl)
  rw [fl_0, fl_0, wc_self, wc_self] at k1
  refine k1.trans ?_
  generalize hG2 : wc (wc G1 4 i (fl (G1 4 i) (G1 4 j) 16)) 5 i (fl (G1 5 i) (G1 5 j) 16) = G2
  have g6 : G2 6 i = G 6 i := by rw [← hG2, wc_ne (by omega), wc_ne (by omega), e6]
  have g6j : G2 6 j = G 6 j := by rw [← hG2, wc_ne (by omega), wc_ne (by omega), e6j]
  have k2 := up_fu (fun n w => fX6_copyFrom_48 i j n (wc G2 6 i (fl (G2 6 i) (G2 6 j) w)) (nI w)) 80 (some (wc G2 6 i (fl (G2 6 i) (G2 6 j) 80))) (by decide)
    (fun n w hw => by
      show fX6_copyFrom_48 i j (n + 1) _ (nI w) = fX6_copyFrom_48 i j n _ (nI (w + 1))
      rw [fX6_copyFrom_48]
      simp (disch := omega) only [lit, litN5, le_nI, lt_nI, eq_nI, nI_nN, nN_nI, nN_lt, nN_le, lt_nN, nI_add, mul_nI, sub_nI, dec_nI, cl_nI, inb_nI, bd_some, bd2_some, gd_true, b01, isB_ite, isB_0, isB_1, st3_e]
      rw [if_neg (by omega), gd_dec _ hw, gd_dec _ hw, ← fl_s (G2 6 i) (G2 6 j) w, up_wc, wc_ne (a := 6) (b := j) (by omega)])
    (fun n => by
      show fX6_copyFrom_48 i j (n + 1) _ (nI 80) = _
      rw [fX6_copyFrom_48, if_pos (by decide)])
  rw [fl_0, wc_self] at k2
  refine k2.trans ?_
  rw [g6, g6j, ← hG2, e4, e4j, e5, e5j, ← hG1]
  rfl
theorem copyLearners_e (G : GT) {i j : Nat} (hij : i ≠ j) : fX1_copyFrom G i j = some (cpL G i j) := by
  unfold fX1_copyFrom
  rw [st3_e, up_wc0]
  generalize hG1 : wc G 7 i (upd (G 7 i) 0 (G 7 j 0)) = G1
  have e8 : G1 8 i = G 8 i := by rw [← hG1, wc_ne (by omega)]
  have e8j : G1 8 j = G 8 j := by rw [← hG1, wc_ne (by omega)]
  have e9 : G1 9 i = G 9 i := by rw [← hG1, wc_ne (by omega)]
  have e9j : G1 9 j = G 9 j := by rw [← hG1, wc_ne (by omega)]
  have e10 : G1 10 i = G 10 i := by rw [← hG1, wc_ne (by omega)]
  have e10j : G1 10 j = G 10 j := by rw [← hG1, wc_ne (by omega)]
  have k1 := up_fu (fun n w => fX1_copyFrom_10 i j n (wc G1 8 i (fl (G1 8 i) (G1 8 j) w)) (nI w)) 96 (fX1_copyFrom_36 i j FU (wc G1 8 i (fl (G1 8 i) (G1 8 j) 96)) (nI 0)) (by decide)
    (fun n w hw => by
      show fX1_copyFrom_10 i j (n + 1) _ (nI w) = fX1_copyFrom_10 i j n _ (nI (w + 1))
      rw [fX1_copyFrom_10]
      simp (disch := omega) only [lit, litN5, le_nI, lt_nI, eq_nI, nI_nN, nN_nI, nN_lt, nN_le, lt_nN, nI_add, mul_nI, sub_nI, dec_nI, cl_nI, inb_nI, bd_some, bd2_some, gd_true, b01, isB_ite, isB_0, isB_1, st3_e]
      rw [if_neg (by omega), gd_dec _ hw, gd_dec _ hw, ← fl_s (G1 8 i) (G1 8 j) w, up_wc, wc_ne (a := 8) (b := j) (by omega)])
    (fun n => by
      show fX1_copyFrom_10 i j (n + 1) _ (nI 96) = _
      rw [fX1_copyFrom_10, if_pos (by decide)]
      rfl)
  rw [fl_0, wc_self] at k1
  refine k1.trans ?_
  generalize hG2 : wc G1 8 i (fl (G1 8 i) (G1 8 j) 96) = G2
  have g9 : G2 9 i = G 9 i := by rw [← hG2, wc_ne (by omega), e9]
  have g9j : G2 9 j = G 9 j := by rw [← hG2, wc_ne (by omega), e9j]
  have g10 : G2 10 i = G 10 i := by rw [← hG2, wc_ne (by omega), e10]
  have g10j : G2 10 j = G 10 j := by rw [← hG2, wc_ne (by omega), e10j]
  have k2 := up_fu (fun n w => fX1_copyFrom_36 i j n (wc (wc G2 9 i (fl (G2 9 i) (G2 9 j) w)) 10 i (fl (G2 10 i) (G2 10 j) w)) (nI w)) 6 (some (wc (wc G2 9 i (fl (G2 9 i) (G2 9 j) 6)) 10 i (fl (G2 10 i) (G2 10 j) 6))) (by decide)
    (fun n w hw => by
      show fX1_copyFrom_36 i j (n + 1) _ (nI w) = fX1_copyFrom_36 i j n _ (nI (w + 1))
      rw [fX1_copyFrom_36]
      simp (disch := omega) only [lit, litN5, le_nI, lt_nI, eq_nI, nI_nN, nN_nI, nN_lt, nN_le, lt_nN, nI_add, mul_nI, sub_nI, dec_nI, cl_nI, inb_nI, bd_some, bd2_some, gd_true, b01, isB_ite, isB_0, isB_1, st3_e]
      rw [if_neg (by omega), gd_dec _ hw, gd_dec _ hw, gd_dec _ hw, gd_dec _ hw]
      rw [← fl_s (G2 9 i) (G2 9 j) w, ← fl_s (G2 10 i) (G2 10 j) w, ← w2 G2 9 10 i (by decide)]
      congr 1
      rw [wc_ne (a := 9) (b := j) (by omega), wc_ne (a := 9) (b := j) (by omega), up3_ne (a := 10) (b := j) (by omega), wc_ne (a := 10) (b := j) (by omega), wc_ne (a := 10) (b := j) (by omega)])
    (fun n => by
      show fX1_copyFrom_36 i j (n + 1) _ (nI 6) = _
      rw [fX1_copyFrom_36, if_pos (by decide)])
  rw [fl_0, fl_0, wc_self, wc_self] at k2
  refine k2.trans ?_
  rw [g9, g9j, g10, g10j, ← hG2, e8, e8j, ← hG1]
  rfl
