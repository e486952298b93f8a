/-! ropes: their loops -/
def lnF (g : Nat → Int32) : Nat → Nat → Nat
  | 0, _ => 0
  | n + 1, p => if kn g p = true then lnF g n (p + 1) + 1 else 0
/-- how many knots there are from p on, one behind the other -/
def ln (g : Nat → Int32) (p : Nat) : Nat := lnF g (40 - p) p
theorem ln_s {g : Nat → Int32} {p : Nat} (h : kn g p = true) : ln g p = ln g (p + 1) + 1 := by
  have hp := kn_lt h
  unfold ln
  rw [show 40 - p = (40 - (p + 1)) + 1 by omega]
  simp only [lnF, h, if_true]
theorem ln_0 {g : Nat → Int32} {p : Nat} (h : kn g p = false) : ln g p = 0 := by
  unfold ln
  cases hd : 40 - p with
  | zero => rfl
  | succ d => simp [lnF, h]
theorem lnF_le (g : Nat → Int32) : ∀ n p, lnF g n p ≤ n
  | 0, _ => Nat.le_refl 0
  | n + 1, p => by
    have := lnF_le g n (p + 1)
    unfold lnF
    split <;> omega
theorem ln_le (g : Nat → Int32) (p : Nat) : ln g p ≤ 40 - p := lnF_le g _ _
theorem lengthFrom_e (G : GT) (r : Nat) {p : Nat} (hp : p ≤ 40) : fX2_lengthFrom G r (nI p) = some (nI (ln (G 1 r) p)) := by
  unfold fX2_lengthFrom
  have key := lp_fu (fun n c i => fX2_lengthFrom_4 G r n (nI c) (nI i)) 40 (fun c i => some (nI (c + ln (G 1 r) i))) (fun c i => c ≤ i) (by decide)
    (fun n c i hi hc => by
      show (∃ s', s' ≤ i + 1 ∧ fX2_lengthFrom_4 G r (n + 1) (nI c) (nI i) = fX2_lengthFrom_4 G r n (nI s') (nI (i + 1)) ∧ some (nI (c + ln (G 1 r) i)) = some (nI (s' + ln (G 1 r) (i + 1)))) ∨ fX2_lengthFrom_4 G r (n + 1) (nI c) (nI i) = some (nI (c + ln (G 1 r) i))
      rw [fX2_lengthFrom_4, kindAt_e G r (by omega)]
      simp (disch := omega) only [lit, litN5, le_nI, lt_nI, eq_nI, nI_nN, nN_nI, nN_lt, nN_le, lt_nN, nI_add, mul_nI, sub_nI, dec_nI, cl_nI, inb_nI, bd_some, bd2_some, gd_true, b01, isB_ite, isB_0, isB_1, kv0]
      rw [if_neg (by omega)]
      by_cases h : kn (G 1 r) i = true
      · refine Or.inl ⟨c + 1, by omega, by rw [if_neg (by simp [h])], by rw [ln_s h]; congr 2; omega⟩
      · have h' : kn (G 1 r) i = false := by simpa using h
        exact Or.inr (by rw [if_pos h', ln_0 h']; rfl))
    (fun n c hc => by
      show fX2_lengthFrom_4 G r (n + 1) (nI c) (nI 40) = some (nI (c + ln (G 1 r) 40))
      rw [fX2_lengthFrom_4, if_pos (by decide)]
      rfl)
    p 0 hp (Nat.zero_le _)
  rw [Nat.zero_add] at key
  exact key
theorem lengthFrom8 (G : GT) (hz : Kz (G 23 0)) {p : Nat} (hp : p ≤ 40) : fX8_lengthFrom G (nI p) = some (nI (ln (G 23 0) p)) := by
  unfold fX8_lengthFrom
  have key := lp_fu (fun n (_ : Unit) i => fX8_lengthFrom_2 G (nI p) n (nI (i - p))) 40 (fun _ i => some (nI (i - p + ln (G 23 0) i))) (fun _ i => p ≤ i) (by decide)
    (fun n c i hi hc => by
      show (∃ s' : Unit, p ≤ i + 1 ∧ fX8_lengthFrom_2 G (nI p) (n + 1) (nI (i - p)) = fX8_lengthFrom_2 G (nI p) n (nI (i + 1 - p)) ∧ some (nI (i - p + ln (G 23 0) i)) = some (nI (i + 1 - p + ln (G 23 0) (i + 1)))) ∨ fX8_lengthFrom_2 G (nI p) (n + 1) (nI (i - p)) = some (nI (i - p + ln (G 23 0) i))
      rw [fX8_lengthFrom_2]
      simp (disch := omega) only [lit, litN5, le_nI, lt_nI, eq_nI, nI_nN, nN_nI, nN_lt, nN_le, lt_nN, nI_add, mul_nI, sub_nI, dec_nI, cl_nI, inb_nI, bd_some, bd2_some, gd_true, b01, isB_ite, isB_0, isB_1]
      rw [show p + (i - p) = i by omega, isKnot8 G hz (by omega)]
      simp (disch := omega) only [lit, litN5, le_nI, lt_nI, eq_nI, nI_nN, nN_nI, nN_lt, nN_le, lt_nN, nI_add, mul_nI, sub_nI, dec_nI, cl_nI, inb_nI, bd_some, bd2_some, gd_true, b01, isB_ite, isB_0, isB_1]
      by_cases h : kn (G 23 0) i = true
      · refine Or.inl ⟨(), by omega, by rw [if_neg (by simp [h])]; rw [show i - p + 1 = i + 1 - p by omega], by rw [ln_s h]; congr 2; omega⟩
      · have h' : kn (G 23 0) i = false := by simpa using h
        exact Or.inr (by rw [if_pos (by simp [h']), ln_0 h']; rfl))
    (fun n c hc => by
      show fX8_lengthFrom_2 G (nI p) (n + 1) (nI (40 - p)) = some (nI (40 - p + ln (G 23 0) 40))
      rw [fX8_lengthFrom_2]
      simp (disch := omega) only [lit, litN5, le_nI, lt_nI, eq_nI, nI_nN, nN_nI, nN_lt, nN_le, lt_nN, nI_add, mul_nI, sub_nI, dec_nI, cl_nI, inb_nI, bd_some, bd2_some, gd_true, b01, isB_ite, isB_0, isB_1]
      rw [show p + (40 - p) = 40 by omega, isKnot8 G hz (by omega), kn_off (Nat.le_refl 40)]
      simp only [lit, litN5, le_nI, lt_nI, eq_nI, nI_nN, nN_nI, nN_lt, nN_le, lt_nN, nI_add, mul_nI, sub_nI, dec_nI, cl_nI, inb_nI, bd_some, bd2_some, gd_true, b01, isB_ite, isB_0, isB_1]
      rfl)
    p () hp (Nat.le_refl _)
  rw [Nat.sub_self, Nat.zero_add] at key
  exact key
/-- counting loops -/
theorem knotCount_e (G : GT) (r : Nat) : fX2_knotCount G r = some (nI (cn (kn (G 1 r)) 40)) := by
  unfold fX2_knotCount
  exact up_fu (fun n i => fX2_knotCount_4 G r n (nI (cn (kn (G 1 r)) i)) (nI i)) 40 _ (by decide)
    (fun n i hi => by
      have hc := cn_le (kn (G 1 r)) i
      show fX2_knotCount_4 G r (n + 1) (nI (cn (kn (G 1 r)) i)) (nI i) = fX2_knotCount_4 G r n (nI (cn (kn (G 1 r)) (i + 1))) (nI (i + 1))
      rw [fX2_knotCount_4, kindAt_e G r (by omega)]
      simp (disch := omega) only [lit, litN5, le_nI, lt_nI, eq_nI, nI_nN, nN_nI, nN_lt, nN_le, lt_nN, nI_add, mul_nI, sub_nI, dec_nI, cl_nI, inb_nI, bd_some, bd2_some, gd_true, b01, isB_ite, isB_0, isB_1, kv0]
      rw [if_neg (by omega)]
      by_cases h : kn (G 1 r) i = true
      · rw [if_neg (by simp [h]), cn_t h]
      · have h' : kn (G 1 r) i = false := by simpa using h
        rw [if_pos h', cn_f h'])
    (fun n => by
      show fX2_knotCount_4 G r (n + 1) _ (nI 40) = _
      rw [fX2_knotCount_4, if_pos (by decide)])
theorem knots8 (G : GT) (hz : Kz (G 23 0)) : fX8_knots G = some (nI (cn (kn (G 23 0)) 40)) := by
  unfold fX8_knots
  exact up_fu (fun n i => fX8_knots_4 G n (nI (cn (kn (G 23 0)) i)) (nI i)) 40 _ (by decide)
    (fun n i hi => by
      have hc := cn_le (kn (G 23 0)) i
      show fX8_knots_4 G (n + 1) (nI (cn (kn (G 23 0)) i)) (nI i) = fX8_knots_4 G n (nI (cn (kn (G 23 0)) (i + 1))) (nI (i + 1))
      rw [fX8_knots_4]
      simp (disch := omega) only [lit, litN5, le_nI, lt_nI, eq_nI, nI_nN, nN_nI, nN_lt, nN_le, lt_nN, nI_add, mul_nI, sub_nI, dec_nI, cl_nI, inb_nI, bd_some, bd2_some, gd_true, b01, isB_ite, isB_0, isB_1, Nat.zero_add, Nat.add_zero, hz.le hi]
      rw [if_neg (by omega), gd_dec _ (by omega)]
      by_cases h : kn (G 23 0) i = true
      · rw [if_neg (by simp [h]), cn_t h]
      · have h' : kn (G 23 0) i = false := by simpa using h
        rw [if_pos h', cn_f h'])
    (fun n => by
      show fX8_knots_4 G (n + 1) _ (nI 40) = _
      rw [fX8_knots_4, if_pos (by decide)])
theorem runs8 (G : GT) (hz : Kz (G 23 0)) : fX8_runs G = some (nI (cn (bg (G 23 0)) 40)) := by
  unfold fX8_runs
  exact up_fu (fun n i => fX8_runs_4 G n (nI (cn (bg (G 23 0)) i)) (nI i)) 40 _ (by decide)
    (fun n i hi => by
      have hc := cn_le (bg (G 23 0)) i
      show fX8_runs_4 G (n + 1) (nI (cn (bg (G 23 0)) i)) (nI i) = fX8_runs_4 G n (nI (cn (bg (G 23 0)) (i + 1))) (nI (i + 1))
      rw [fX8_runs_4, begins8 G hz (by omega)]
      simp (disch := omega) only [lit, litN5, le_nI, lt_nI, eq_nI, nI_nN, nN_nI, nN_lt, nN_le, lt_nN, nI_add, mul_nI, sub_nI, dec_nI, cl_nI, inb_nI, bd_some, bd2_some, gd_true, b01, isB_ite, isB_0, isB_1, Nat.add_zero]
      rw [if_neg (by omega)]
      by_cases h : bg (G 23 0) i = true
      · rw [if_neg (by simp [h]), cn_t h]
      · have h' : bg (G 23 0) i = false := by simpa using h
        rw [if_pos (by simp [h']), cn_f h'])
    (fun n => by
      show fX8_runs_4 G (n + 1) _ (nI 40) = _
      rw [fX8_runs_4, if_pos (by decide)])
