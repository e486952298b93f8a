/-! firstOf, runAt, looseness -/
/-- the place of the run of number j among the first n places; -5 if there is none -/
def fo (g : Nat → Int32) (j : Nat) : Nat → Int32
  | 0 => nN
  | n + 1 => if bg g n = true ∧ cn (bg g) n = j then nI n else fo g j n
theorem fo_at {g : Nat → Int32} {p : Nat} (h : bg g p = true) : ∀ {n : Nat}, p < n → fo g (cn (bg g) p) n = nI p
  | 0, hp => absurd hp (Nat.not_lt_zero _)
  | n + 1, hp => by
    unfold fo
    by_cases e : bg g n = true ∧ cn (bg g) n = cn (bg g) p
    · rw [if_pos e, cn_inj e.1 h e.2]
    · rw [if_neg e]
      have : p ≠ n := fun q => e ⟨q ▸ h, by rw [q]⟩
      exact fo_at h (by omega)
theorem firstOf8 (G : GT) (hz : Kz (G 23 0)) {j : Nat} (hj : j < 1000) : fX8_firstOf G (nI j) = some (fo (G 23 0) j 40) := by
  unfold fX8_firstOf
  exact up_fu (fun n i => fX8_firstOf_8 G (nI j) n (nI (cn (bg (G 23 0)) i)) (fo (G 23 0) j i) (nI i)) 40 _ (by decide)
    (fun n i hi => by
      have hc := cn_le (bg (G 23 0)) i
      show fX8_firstOf_8 G (nI j) (n + 1) (nI (cn (bg (G 23 0)) i)) (fo (G 23 0) j i) (nI i) = fX8_firstOf_8 G (nI j) n (nI (cn (bg (G 23 0)) (i + 1))) (fo (G 23 0) j (i + 1)) (nI (i + 1))
      rw [fX8_firstOf_8, begins8 G hz (by omega)]
      simp (disch := omega) only [lit, litN5, le_nI, lt_nI, eq_nI, nI_nN, nN_nI, nN_lt, nN_le, lt_nN, nI_add, mul_nI, sub_nI, dec_nI, cl_nI, inb_nI, bd_some, bd2_some, gd_true, b01, isB_ite, isB_0, isB_1]
      rw [if_neg (by omega)]
      by_cases h : bg (G 23 0) i = true
      · rw [if_neg (by simp [h]), cn_t h]
        by_cases e : cn (bg (G 23 0)) i = j
        · rw [if_pos e]; unfold fo; rw [if_pos ⟨h, e⟩]
        · rw [if_neg e]; simp only [fo, if_neg (fun q : bg (G 23 0) i = true ∧ cn (bg (G 23 0)) i = j => e q.2)]
      · have h' : bg (G 23 0) i = false := by simpa using h
        rw [if_pos (by simp [h']), cn_f h']
        simp only [fo, if_neg (fun q : bg (G 23 0) i = true ∧ cn (bg (G 23 0)) i = j => h q.1)])
    (fun n => by
      show fX8_firstOf_8 G (nI j) (n + 1) _ _ (nI 40) = _
      rw [fX8_firstOf_8, if_pos (by decide)])
theorem bg_pos {g : Nat → Int32} {p : Nat} (h : kn g p = true) : 1 ≤ cn (bg g) (p + 1) := by
  induction p with
  | zero => rw [cn_t (by simp [bg, h])]; omega
  | succ p ih =>
    by_cases h2 : kn g p = true
    · have := cn_mono (bg g) (show p + 1 ≤ p + 1 + 1 by omega)
      have := ih h2
      omega
    · rw [cn_t (by simp [bg, h, h2])]; omega
theorem runAt_e (G : GT) (r : Nat) {p : Nat} (hp : p < 40) : fX2_runAt G r (nI p) = some (if kn (G 1 r) p = true then nI (cn (bg (G 1 r)) (p + 1) - 1) else nN) := by
  unfold fX2_runAt
  rw [kindAt_e G r (by omega)]
  simp (disch := omega) only [lit, litN5, le_nI, lt_nI, eq_nI, nI_nN, nN_nI, nN_lt, nN_le, lt_nN, nI_add, mul_nI, sub_nI, dec_nI, cl_nI, inb_nI, bd_some, bd2_some, gd_true, b01, isB_ite, isB_0, isB_1, kv0]
  by_cases h : kn (G 1 r) p = true
  · rw [if_neg (by simp [h]), if_pos h, show -(nI 1) = nI 0 + -(nI 1) by decide]
    refine up_fu (fun n i => fX2_runAt_15 G r (nI p) n (nI (cn (bg (G 1 r)) i) + -(nI 1)) (nI i)) (p + 1) _ (by omega) (fun n i hi => ?_) (fun n => ?_)
    · have hc := cn_le (bg (G 1 r)) i
      show fX2_runAt_15 G r (nI p) (n + 1) (nI (cn (bg (G 1 r)) i) + -(nI 1)) (nI i) = fX2_runAt_15 G r (nI p) n (nI (cn (bg (G 1 r)) (i + 1)) + -(nI 1)) (nI (i + 1))
      rw [fX2_runAt_15, startsRun_e G r (by omega)]
      simp (disch := omega) only [lit, litN5, le_nI, lt_nI, eq_nI, nI_nN, nN_nI, nI_add, mul_nI, cl_nI, inb_nI, bd_some, bd2_some, gd_true, b01]
      rw [if_neg (by omega), if_neg (by omega)]
      by_cases h2 : bg (G 1 r) i = true
      · rw [if_neg (by simp [h2]), cn_t h2, Int32.add_assoc, Int32.add_comm (-(nI 1)), ← Int32.add_assoc, nI_add]
      · have h2' : bg (G 1 r) i = false := by simpa using h2
        rw [if_pos (by simp [h2']), cn_f h2']
    · show fX2_runAt_15 G r (nI p) (n + 1) (nI (cn (bg (G 1 r)) (p + 1)) + -(nI 1)) (nI (p + 1)) = _
      have h1 := bg_pos h
      rw [fX2_runAt_15]
      simp (disch := omega) only [lit, litN5, le_nI, lt_nI, eq_nI, nI_nN, nN_nI, nI_add, mul_nI, cl_nI, inb_nI, bd_some, bd2_some, gd_true, b01]
      rw [if_pos (show p < p + 1 by omega), dec_nI (by omega)]
      split <;> rfl
  · have h' : kn (G 1 r) p = false := by simpa using h
    rw [if_pos h', if_neg h]
theorem runAt8 (G : GT) (hz : Kz (G 23 0)) {p : Nat} (hp : p < 40) : fX8_runAt G (nI p) = some (if kn (G 23 0) p = true then nI (cn (bg (G 23 0)) (p + 1) - 1) else nN) := by
  unfold fX8_runAt
  refine up_fu (fun n i => fX8_runAt_4 G (nI p) n (nI (cn (bg (G 23 0)) i)) (nI i)) (p + 1) _ (by omega) (fun n i hi => ?_) (fun n => ?_)
  · have hc := cn_le (bg (G 23 0)) i
    show fX8_runAt_4 G (nI p) (n + 1) (nI (cn (bg (G 23 0)) i)) (nI i) = fX8_runAt_4 G (nI p) n (nI (cn (bg (G 23 0)) (i + 1))) (nI (i + 1))
    rw [fX8_runAt_4, begins8 G hz (by omega)]
    simp (disch := omega) only [lit, litN5, le_nI, lt_nI, eq_nI, nI_nN, nN_nI, nN_lt, nN_le, lt_nN, nI_add, mul_nI, sub_nI, dec_nI, cl_nI, inb_nI, bd_some, bd2_some, gd_true, b01, isB_ite, isB_0, isB_1, Nat.add_zero]
    rw [if_neg (by omega)]
    by_cases h2 : bg (G 23 0) i = true
    · rw [if_neg (by simp [h2]), cn_t h2]
    · have h2' : bg (G 23 0) i = false := by simpa using h2
      rw [if_pos (by simp [h2']), cn_f h2']
  · show fX8_runAt_4 G (nI p) (n + 1) (nI (cn (bg (G 23 0)) (p + 1))) (nI (p + 1)) = _
    rw [fX8_runAt_4, isKnot8 G hz (by omega)]
    simp (disch := omega) only [lit, litN5, le_nI, lt_nI, eq_nI, nI_nN, nN_nI, nN_lt, nN_le, lt_nN, nI_add, mul_nI, sub_nI, dec_nI, cl_nI, inb_nI, bd_some, bd2_some, gd_true, b01, isB_ite, isB_0, isB_1]
    rw [if_pos (show p < p + 1 by omega)]
    by_cases h : kn (G 23 0) p = true
    · have h1 := bg_pos h
      rw [if_neg (by simp [h]), if_pos h, sub_nI (by omega)]
    · rw [if_pos h, if_neg h]
/-- the least tightness of the knots from p on -/
def loF (g t : Nat → Int32) : Nat → Nat → Int32 → Int32
  | 0, _, a => a
  | n + 1, p, a => if kn g p = true then loF g t n (p + 1) (imin a (t p)) else a
def lo (g t : Nat → Int32) (p : Nat) (a : Int32) : Int32 := loF g t (40 - p) p a
theorem lo_s {g t : Nat → Int32} {p : Nat} {a : Int32} (h : kn g p = true) : lo g t p a = lo g t (p + 1) (imin a (t p)) := by
  have hp := kn_lt h
  unfold lo
  rw [show 40 - p = (40 - (p + 1)) + 1 by omega]
  simp only [loF, h, if_true]
theorem lo_0 {g t : Nat → Int32} {p : Nat} {a : Int32} (h : kn g p = false) : lo g t p a = a := by
  unfold lo
  cases hd : 40 - p with
  | zero => rfl
  | succ d => simp [loF, h]
theorem loosenessFrom_e (G : GT) (r : Nat) {p : Nat} (hp : p ≤ 40) : fX2_loosenessFrom G r (nI p) = some (lo (G 1 r) (G 2 r) p (nI 9)) := by
  unfold fX2_loosenessFrom
  exact lp_fu (fun n a i => fX2_loosenessFrom_5 G r n a (nI i)) 40 (fun a i => some (lo (G 1 r) (G 2 r) i a)) (fun _ _ => True) (by decide)
    (fun n a i hi _ => by
      show (∃ s', True ∧ fX2_loosenessFrom_5 G r (n + 1) a (nI i) = fX2_loosenessFrom_5 G r n s' (nI (i + 1)) ∧ some (lo (G 1 r) (G 2 r) i a) = some (lo (G 1 r) (G 2 r) (i + 1) s')) ∨ fX2_loosenessFrom_5 G r (n + 1) a (nI i) = some (lo (G 1 r) (G 2 r) i a)
      rw [fX2_loosenessFrom_5, kindAt_e G r (by omega), tightAt_e G r (by omega), kv_in hi, kv_in hi]
      simp (disch := omega) only [lit, litN5, le_nI, lt_nI, eq_nI, nI_nN, nN_nI, nN_lt, nN_le, lt_nN, nI_add, mul_nI, sub_nI, dec_nI, cl_nI, inb_nI, bd_some, bd2_some, gd_true, b01, isB_ite, isB_0, isB_1]
      rw [if_neg (by omega), ← kv_in (g := G 1 r) hi]
      simp only [kv0]
      by_cases h : kn (G 1 r) i = true
      · exact Or.inl ⟨imin a (G 2 r i), trivial, by rw [if_neg (by simp [h])], by rw [lo_s h]⟩
      · have h' : kn (G 1 r) i = false := by simpa using h
        exact Or.inr (by rw [if_pos h', lo_0 h']))
    (fun n a _ => by
      show fX2_loosenessFrom_5 G r (n + 1) a (nI 40) = some (lo (G 1 r) (G 2 r) 40 a)
      rw [fX2_loosenessFrom_5, if_pos (by decide), lo_0 (kn_off (Nat.le_refl 40))])
    p (nI 9) hp trivial
theorem loosest8 (G : GT) (hz : Kz (G 23 0)) {p : Nat} (hp : p ≤ 40) : fX8_loosest G (nI p) = some (lo (G 23 0) (fun j => G 23 0 (40 + j)) p (nI 9)) := by
  unfold fX8_loosest
  exact lp_fu (fun n a i => fX8_loosest_5 G n a (nI i)) 40 (fun a i => some (lo (G 23 0) (fun j => G 23 0 (40 + j)) i a)) (fun _ _ => True) (by decide)
    (fun n a i hi _ => by
      show (∃ s', True ∧ fX8_loosest_5 G (n + 1) a (nI i) = fX8_loosest_5 G n s' (nI (i + 1)) ∧ some (lo (G 23 0) (fun j => G 23 0 (40 + j)) i a) = some (lo (G 23 0) (fun j => G 23 0 (40 + j)) (i + 1) s')) ∨ fX8_loosest_5 G (n + 1) a (nI i) = some (lo (G 23 0) (fun j => G 23 0 (40 + j)) i a)
      rw [fX8_loosest_5, isKnot8 G hz (by omega)]
      simp (disch := omega) only [lit, litN5, le_nI, lt_nI, eq_nI, nI_nN, nN_nI, nN_lt, nN_le, lt_nN, nI_add, mul_nI, sub_nI, dec_nI, cl_nI, inb_nI, bd_some, bd2_some, gd_true, b01, isB_ite, isB_0, isB_1]
      by_cases h : kn (G 23 0) i = true
      · refine Or.inl ⟨imin a (G 23 0 (40 + i)), trivial, ?_, by rw [lo_s h]⟩
        rw [if_neg (by simp [h]), gd_dec _ (by omega)]
        unfold imin
        by_cases e : a ≤ G 23 0 (40 + i)
        · rw [if_pos e, if_neg (by rw [Int32.lt_iff_toInt_lt]; rw [Int32.le_iff_toInt_le] at e; omega)]
        · rw [if_neg e, if_pos (by rw [Int32.lt_iff_toInt_lt]; rw [Int32.le_iff_toInt_le] at e; omega), gd_dec _ (by omega)]
      · have h' : kn (G 23 0) i = false := by simpa using h
        exact Or.inr (by rw [if_pos (by simp [h']), lo_0 h']))
    (fun n a _ => by
      show fX8_loosest_5 G (n + 1) a (nI 40) = some (lo (G 23 0) (fun j => G 23 0 (40 + j)) 40 a)
      rw [fX8_loosest_5, isKnot8 G hz (by decide), kn_off (Nat.le_refl 40), lo_0 (kn_off (Nat.le_refl 40))]
      simp only [lit, litN5, le_nI, lt_nI, eq_nI, nI_nN, nN_nI, nN_lt, nN_le, lt_nN, nI_add, mul_nI, sub_nI, dec_nI, cl_nI, inb_nI, bd_some, bd2_some, gd_true, b01, isB_ite, isB_0, isB_1]
      rfl)
    p (nI 9) hp trivial
