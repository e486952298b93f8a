/-! runs that were read, and sums over them -/
def RD (H : GT) (i : Nat) (g x : Nat → Int32) (ws : Nat) : Prop := H 16 i 0 = nI (cn (bg g) 40) ∧ ∀ j, j < cn (bg g) 40 → H 17 i j = nI (rs g j) ∧ H 18 i j = nI (ln g (rs g j)) ∧ H 19 i j = rw' g x ws (rs g j)
theorem RD_of (G : GT) (i : Nat) (g x : Nat → Int32) (ws : Nat) : RD (RH G i g x ws (cn (bg g) 40)) i g x ws := by
  refine ⟨by rw [RH_16, upd_at], fun j hj => ⟨by rw [RH_17, fl_in hj], by rw [RH_18, fl_in hj], by rw [RH_19, fl_in hj]⟩⟩
theorem RD.of {G H : GT} {i : Nat} {g x : Nat → Int32} {ws : Nat} (h : RD G i g x ws) (e : ∀ a, 16 ≤ a → a ≤ 19 → H a i = G a i) : RD H i g x ws := by
  unfold RD
  rw [e 16 (by omega) (by omega), e 17 (by omega) (by omega), e 18 (by omega) (by omega), e 19 (by omega) (by omega)]
  exact h
theorem has3 {G : GT} {i : Nat} {g x : Nat → Int32} {ws : Nat} (h : RD G i g x ws) (a : Int32) : fX3_has G i a = some (if nI 0 ≤ a ∧ a < nI (cn (bg g) 40) then nI 1 else nI 0) := by
  have hr := runs_le g
  unfold fX3_has
  rw [h.1]
  simp only [lit]
  have e20 : nI (cn (bg g) 40) ≤ nI 20 := nI_le hr (by decide)
  by_cases h1 : a < nI 0
  · rw [if_pos h1, if_neg (fun q => by
      have a1 := Int32.lt_iff_toInt_lt.mp h1
      have a2 := Int32.le_iff_toInt_le.mp q.1
      omega)]
  · rw [if_neg h1]
    by_cases h2 : nI (cn (bg g) 40) ≤ a
    · rw [if_pos h2, if_neg (fun q => by
        have a1 := Int32.le_iff_toInt_le.mp h2
        have a2 := Int32.lt_iff_toInt_lt.mp q.2
        omega)]
    · rw [if_neg h2]
      have a1 := Int32.le_iff_toInt_le.mp e20
      have a2 : ¬ (nI (cn (bg g) 40)).toInt ≤ a.toInt := fun q => h2 (Int32.le_iff_toInt_le.mpr q)
      have a3 : ¬ a.toInt < (nI 0).toInt := fun q => h1 (Int32.lt_iff_toInt_lt.mpr q)
      rw [if_neg (fun q => by
        have := Int32.le_iff_toInt_le.mp q
        omega), if_pos ⟨Int32.le_iff_toInt_le.mpr (by omega), Int32.lt_iff_toInt_lt.mpr (by omega)⟩]
theorem has3n {G : GT} {i : Nat} {g x : Nat → Int32} {ws : Nat} (h : RD G i g x ws) {j : Nat} (hj : j < 2 ^ 31) : fX3_has G i (nI j) = some (if j < cn (bg g) 40 then nI 1 else nI 0) := by
  have hr := runs_le g
  rw [has3 h]
  simp (disch := omega) only [lt_nI, le_nI, Nat.zero_le, true_and]
theorem firstOf3 {G : GT} {i : Nat} {g x : Nat → Int32} {ws j : Nat} (h : RD G i g x ws) (hj : j < cn (bg g) 40) : fX3_firstOf G i (nI j) = some (nI (rs g j)) := by
  have hr := runs_le g
  unfold fX3_firstOf
  rw [has3n h (by omega), if_pos hj]
  simp (disch := omega) only [lit, litN5, le_nI, lt_nI, eq_nI, nI_nN, nN_nI, nN_lt, nN_le, lt_nN, nI_add, mul_nI, sub_nI, dec_nI, cl_nI, inb_nI, bd_some, bd2_some, gd_true, b01, isB_ite, isB_0, isB_1, (h.2 j hj).1]
  rw [if_neg (by decide), gd_dec _ (by omega)]
theorem lengthOf3 {G : GT} {i : Nat} {g x : Nat → Int32} {ws j : Nat} (h : RD G i g x ws) (hj : j < cn (bg g) 40) : fX3_lengthOf G i (nI j) = some (nI (ln g (rs g j))) := by
  have hr := runs_le g
  unfold fX3_lengthOf
  rw [has3n h (by omega), if_pos hj]
  simp (disch := omega) only [lit, litN5, le_nI, lt_nI, eq_nI, nI_nN, nN_nI, nN_lt, nN_le, lt_nN, nI_add, mul_nI, sub_nI, dec_nI, cl_nI, inb_nI, bd_some, bd2_some, gd_true, b01, isB_ite, isB_0, isB_1, (h.2 j hj).2.1]
  rw [if_neg (by decide), gd_dec _ (by omega)]
theorem wordOf3 {G : GT} {i : Nat} {g x : Nat → Int32} {ws j : Nat} (h : RD G i g x ws) (hj : j < cn (bg g) 40) : fX3_wordOf G i (nI j) = some (rw' g x ws (rs g j)) := by
  have hr := runs_le g
  unfold fX3_wordOf
  rw [has3n h (by omega), if_pos hj]
  simp (disch := omega) only [lit, litN5, le_nI, lt_nI, eq_nI, nI_nN, nN_nI, nN_lt, nN_le, lt_nN, nI_add, mul_nI, sub_nI, dec_nI, cl_nI, inb_nI, bd_some, bd2_some, gd_true, b01, isB_ite, isB_0, isB_1, (h.2 j hj).2.2]
  rw [if_neg (by decide), gd_dec _ (by omega)]
theorem wordOf3_off {G : GT} {i : Nat} {g x : Nat → Int32} {ws j : Nat} (h : RD G i g x ws) (hj : cn (bg g) 40 ≤ j) (hj2 : j < 2 ^ 31) : fX3_wordOf G i (nI j) = some nN := by
  unfold fX3_wordOf
  rw [has3n h hj2, if_neg (by omega)]
  rfl
/-! folds over the runs, by place and by number -/
def fp {σ : Type} (g : Nat → Int32) (h : σ → Nat → σ) (s : σ) : Nat → σ
  | 0 => s
  | n + 1 => if bg g n = true then h (fp g h s n) n else fp g h s n
def fj {σ : Type} (g : Nat → Int32) (h : σ → Nat → σ) (s : σ) : Nat → σ
  | 0 => s
  | j + 1 => h (fj g h s j) (rs g j)
theorem fj_fp {σ : Type} (g : Nat → Int32) (h : σ → Nat → σ) (s : σ) : ∀ n, n ≤ 40 → fj g h s (cn (bg g) n) = fp g h s n
  | 0, _ => rfl
  | n + 1, hn => by
    have ih := fj_fp g h s n (by omega)
    by_cases e : bg g n = true
    · rw [cn_t e, fj, ih, rs_at (by omega) e, fp, if_pos e]
    · rw [cn_f (by simpa using e), ih, fp, if_neg e]
/-- a place where a run begins that is a word; one that is the word v -/
def isw (g x : Nat → Int32) (ws p : Nat) : Bool := bg g p && decide (¬ rw' g x ws p = nN)
def isv (g x : Nat → Int32) (ws : Nat) (v : Int32) (p : Nat) : Bool := bg g p && decide (rw' g x ws p = v)
theorem rw_cases (g x : Nat → Int32) {ws : Nat} (h : Wd x ws) (p : Nat) : (∃ u, u < ws ∧ rw' g x ws p = nI u) ∨ rw' g x ws p = nN := by
  rcases wi_cases g x (len := ln g p) (p := p) h with ⟨u, h1, -, h3⟩ | ⟨-, h2⟩
  · exact Or.inl ⟨u, h1, h3⟩
  · exact Or.inr h2
theorem cn_fp (g : Nat → Int32) (f : Nat → Bool) (q : Nat → Bool) (e : ∀ p, f p = (bg g p && q p)) : ∀ n, fp g (fun c p => c + if q p = true then 1 else 0) 0 n = cn f n
  | 0 => rfl
  | n + 1 => by
    have ih := cn_fp g f q e n
    unfold fp cn
    rw [ih, e n]
    cases bg g n <;> cases q n <;> simp
theorem wordRuns_e {G : GT} {i : Nat} {g x : Nat → Int32} {ws : Nat} (h : RD G i g x ws) : fX3_wordRuns G i = some (nI (cn (isw g x ws) 40)) := by
  have hr := runs_le g
  unfold fX3_wordRuns
  have e : ∀ j, fj g (fun c p => c + if decide (¬ rw' g x ws p = nN) = true then 1 else 0) 0 j ≤ j := by
    intro j
    induction j with
    | zero => exact Nat.le_refl 0
    | succ j ih =>
      unfold fj
      split <;> omega
  have key := up_fu (fun n j => fX3_wordRuns_4 G i n (nI (fj g (fun c p => c + if decide (¬ rw' g x ws p = nN) = true then 1 else 0) 0 j)) (nI j)) (cn (bg g) 40) (some (nI (fj g (fun c p => c + if decide (¬ rw' g x ws p = nN) = true then 1 else 0) 0 (cn (bg g) 40)))) (by omega)
    (fun n j hj => by
      have ej := e j
      show fX3_wordRuns_4 G i (n + 1) (nI (fj g _ 0 j)) (nI j) = fX3_wordRuns_4 G i n (nI (fj g _ 0 (j + 1))) (nI (j + 1))
      rw [fX3_wordRuns_4, h.1, wordOf3 h hj, fj]
      simp (disch := omega) only [lit, litN5, le_nI, lt_nI, eq_nI, nI_nN, nN_nI, nN_lt, nN_le, lt_nN, nI_add, mul_nI, sub_nI, dec_nI, cl_nI, inb_nI, bd_some, bd2_some, gd_true, b01, isB_ite, isB_0, isB_1]
      rw [if_neg (by omega)]
      by_cases w : rw' g x ws (rs g j) = nN
      · rw [if_pos w, if_neg (by simp [w])]; rfl
      · rw [if_neg w, if_pos (by simp [w])])
    (fun n => by
      show fX3_wordRuns_4 G i (n + 1) _ (nI (cn (bg g) 40)) = _
      rw [fX3_wordRuns_4, h.1, if_pos (Int32.le_refl _)])
  rw [fj_fp g _ _ 40 (Nat.le_refl _), cn_fp g (isw g x ws) (fun p => decide (¬ rw' g x ws p = nN)) (fun _ => rfl)] at key
  exact key
theorem countOf_e {G : GT} {i : Nat} {g x : Nat → Int32} {ws : Nat} (h : RD G i g x ws) (v : Int32) : fX3_countOf G i v = some (nI (cn (isv g x ws v) 40)) := by
  have hr := runs_le g
  unfold fX3_countOf
  have e : ∀ j, fj g (fun c p => c + if decide (rw' g x ws p = v) = true then 1 else 0) 0 j ≤ j := by
    intro j
    induction j with
    | zero => exact Nat.le_refl 0
    | succ j ih =>
      unfold fj
      split <;> omega
  have key := up_fu (fun n j => fX3_countOf_4 G i v n (nI (fj g (fun c p => c + if decide (rw' g x ws p = v) = true then 1 else 0) 0 j)) (nI j)) (cn (bg g) 40) (some (nI (fj g (fun c p => c + if decide (rw' g x ws p = v) = true then 1 else 0) 0 (cn (bg g) 40)))) (by omega)
    (fun n j hj => by
      have ej := e j
      show fX3_countOf_4 G i v (n + 1) (nI (fj g _ 0 j)) (nI j) = fX3_countOf_4 G i v n (nI (fj g _ 0 (j + 1))) (nI (j + 1))
      rw [fX3_countOf_4, h.1, wordOf3 h hj, fj]
      simp (disch := omega) only [lit, litN5, le_nI, lt_nI, eq_nI, nI_nN, nN_nI, nN_lt, nN_le, lt_nN, nI_add, mul_nI, sub_nI, dec_nI, cl_nI, inb_nI, bd_some, bd2_some, gd_true, b01, isB_ite, isB_0, isB_1]
      rw [if_neg (by omega)]
      by_cases w : rw' g x ws (rs g j) = v
      · rw [if_pos w, if_pos (by simp [w])]
      · rw [if_neg w, if_neg (by simp [w])]; rfl)
    (fun n => by
      show fX3_countOf_4 G i v (n + 1) _ (nI (cn (bg g) 40)) = _
      rw [fX3_countOf_4, h.1, if_pos (Int32.le_refl _)])
  rw [fj_fp g _ _ 40 (Nat.le_refl _), cn_fp g (isv g x ws v) (fun p => decide (rw' g x ws p = v)) (fun _ => rfl)] at key
  exact key
/-! the reference's counts -/
theorem wf8 (G : GT) (hz : Kz (G 23 0)) {ws p : Nat} (hW : Wd (G 23 0) ws) (hp : p ≤ 40) : fX8_wordFrom G (nI p) = some (rw' (G 23 0) (G 23 0) ws p) := wordFrom8 G hz hW hp
theorem lt0_rw (g x : Nat → Int32) {ws : Nat} (h : Wd x ws) (p : Nat) : (rw' g x ws p < nI 0) = (rw' g x ws p = nN) := by
  have hws := h.2.1
  rcases rw_cases g x h p with ⟨u, h1, h2⟩ | h2
  · rw [h2, lt_nI (by omega) (by decide), nI_nN (by omega)]
    exact propext ⟨fun q => absurd q (Nat.not_lt_zero _), fun q => q.elim⟩
  · rw [h2]
    exact propext ⟨fun _ => rfl, fun _ => by decide⟩
theorem wordRuns8 (G : GT) (hz : Kz (G 23 0)) {ws : Nat} (hW : Wd (G 23 0) ws) : fX8_wordRuns G = some (nI (cn (isw (G 23 0) (G 23 0) ws) 40)) := by
  unfold fX8_wordRuns
  exact up_fu (fun n i => fX8_wordRuns_4 G n (nI (cn (isw (G 23 0) (G 23 0) ws) i)) (nI i)) 40 _ (by decide)
    (fun n i hi => by
      have hc := cn_le (isw (G 23 0) (G 23 0) ws) i
      show fX8_wordRuns_4 G (n + 1) (nI (cn (isw (G 23 0) (G 23 0) ws) i)) (nI i) = fX8_wordRuns_4 G n (nI (cn (isw (G 23 0) (G 23 0) ws) (i + 1))) (nI (i + 1))
      rw [fX8_wordRuns_4, begins8 G hz (by omega), wf8 G hz hW (by omega)]
      simp (disch := omega) only [lit, litN5, le_nI, lt_nI, eq_nI, nI_nN, nN_nI, nN_lt, nN_le, lt_nN, nI_add, mul_nI, sub_nI, dec_nI, cl_nI, inb_nI, bd_some, bd2_some, gd_true, b01, isB_ite, isB_0, isB_1, Nat.add_zero, lt0_rw _ _ hW]
      rw [if_neg (by omega)]
      by_cases h : bg (G 23 0) i = true
      · rw [if_neg (by simp [h])]
        by_cases w : rw' (G 23 0) (G 23 0) ws i = nN
        · rw [if_pos w, cn_f (by simp [isw, w])]
        · rw [if_neg w, cn_t (by simp [isw, w, h])]
      · rw [if_pos h, cn_f (by simp [isw, h])])
    (fun n => by
      show fX8_wordRuns_4 G (n + 1) _ (nI 40) = _
      rw [fX8_wordRuns_4, if_pos (by decide)])
theorem runsOf8 (G : GT) (hz : Kz (G 23 0)) {ws : Nat} (hW : Wd (G 23 0) ws) (v : Int32) : fX8_runsOf G v = some (nI (cn (isv (G 23 0) (G 23 0) ws v) 40)) := by
  unfold fX8_runsOf
  exact up_fu (fun n i => fX8_runsOf_4 G v n (nI (cn (isv (G 23 0) (G 23 0) ws v) i)) (nI i)) 40 _ (by decide)
    (fun n i hi => by
      have hc := cn_le (isv (G 23 0) (G 23 0) ws v) i
      show fX8_runsOf_4 G v (n + 1) (nI (cn (isv (G 23 0) (G 23 0) ws v) i)) (nI i) = fX8_runsOf_4 G v n (nI (cn (isv (G 23 0) (G 23 0) ws v) (i + 1))) (nI (i + 1))
      rw [fX8_runsOf_4, begins8 G hz (by omega), wf8 G hz hW (by omega)]
      simp (disch := omega) only [lit, litN5, le_nI, lt_nI, eq_nI, nI_nN, nN_nI, nN_lt, nN_le, lt_nN, nI_add, mul_nI, sub_nI, dec_nI, cl_nI, inb_nI, bd_some, bd2_some, gd_true, b01, isB_ite, isB_0, isB_1, Nat.add_zero]
      rw [if_neg (by omega)]
      by_cases h : bg (G 23 0) i = true
      · rw [if_neg (by simp [h])]
        by_cases w : rw' (G 23 0) (G 23 0) ws i = v
        · rw [if_pos w, cn_t (by simp [isv, w, h])]
        · rw [if_neg w, cn_f (by simp [isv, w])]
      · rw [if_pos h, cn_f (by simp [isv, h])])
    (fun n => by
      show fX8_runsOf_4 G v (n + 1) _ (nI 40) = _
      rw [fX8_runsOf_4, if_pos (by decide)])
/-! weights: the sum over the runs is the sum over the words -/
def sm (f : Nat → Int32) : Nat → Int32
  | 0 => nI 0
  | n + 1 => sm f n + f n
theorem sm_cong {f h : Nat → Int32} : ∀ {n : Nat}, (∀ v, v < n → f v = h v) → sm f n = sm h n
  | 0, _ => rfl
  | n + 1, e => by unfold sm; rw [sm_cong (fun v hv => e v (by omega)), e n (by omega)]
theorem sm_upd {f h : Nat → Int32} {u : Nat} {d : Int32} : ∀ {n : Nat}, u < n → (∀ v, v < n → v ≠ u → h v = f v) → h u = f u + d → sm h n = sm f n + d
  | 0, hu, _, _ => absurd hu (Nat.not_lt_zero _)
  | n + 1, hu, e, hd => by
    unfold sm
    by_cases q : u = n
    · subst q
      rw [sm_cong (h := f) (fun v hv => e v (by omega) (by omega)), hd, Int32.add_assoc]
    · rw [sm_upd (n := n) (by omega) (fun v hv => e v (by omega)) hd, e n (by omega) (fun z => q z.symm), Int32.add_assoc, Int32.add_comm d, ← Int32.add_assoc]
def wt (ω : Nat → Int32) (v : Int32) : Int32 := if v = nN then nI 0 else ω v.toNatClampNeg
theorem dc (g x : Nat → Int32) {ws : Nat} (h : Wd x ws) (ω : Nat → Int32) : ∀ n, fp g (fun a p => a + wt ω (rw' g x ws p)) (nI 0) n = sm (fun w => nI (cn (isv g x ws (nI w)) n) * ω w) ws
  | 0 => by
    show nI 0 = _
    have : ∀ k, sm (fun w => nI (cn (isv g x ws (nI w)) 0) * ω w) k = nI 0 := by
      intro k
      induction k with
      | zero => rfl
      | succ k ih =>
        unfold sm
        rw [ih]
        show nI 0 + nI 0 * ω k = nI 0
        rw [← lit 0, Int32.zero_mul, Int32.zero_add]
    exact (this ws).symm
  | n + 1 => by
    have ih := dc g x h ω n
    have hws := h.2.1
    unfold fp
    by_cases e : bg g n = true
    · rw [if_pos e, ih]
      rcases rw_cases g x h n with ⟨u, h1, h2⟩ | h2
      · refine (sm_upd (u := u) h1 (fun v hv hne => ?_) ?_).symm
        · rw [cn_f (by simp [isv, h2, eq_nI (show u < 2 ^ 31 by omega) (show v < 2 ^ 31 by omega), Ne.symm hne])]
        · rw [cn_t (by simp [isv, e, h2]), ← nI_add, Int32.add_mul]
          congr 1
          unfold wt
          have hne : ¬ nI u = nN := fun q => by rw [nI_nN (by omega)] at q; exact q
          rw [h2, if_neg hne, cl_nI (by omega)]
          show nI 1 * ω u = ω u
          rw [← lit 1, Int32.one_mul]
      · have e0 : wt ω (rw' g x ws n) = nI 0 := by unfold wt; rw [h2, if_pos rfl]
        rw [e0, ← lit 0, Int32.add_zero]
        refine sm_cong (fun v hv => ?_)
        rw [cn_f (by simp [isv, h2, nN_nI (show v < 2 ^ 31 by omega)])]
    · rw [if_neg e, ih]
      refine sm_cong (fun v hv => ?_)
      rw [cn_f (by simp [isv, e])]
