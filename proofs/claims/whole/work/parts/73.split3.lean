/-! splits: the reference -/
theorem frm28 (G : GT) (y : Nat → Int32) : FrM G (wc G 28 0 y) := ⟨fun a b h => wc_ne (by omega), fun s _ => by rw [wc_ne (by omega)], fun j _ => by rw [wc_ne (by omega)]⟩
theorem sp40 (G : GT) (hz : Kz (G 23 0)) {ws p i : Nat} {f : Nat → Nat} {y : Nat → Int32} (hW : Wd (G 23 0) ws) (hp : p < 40) (hi : i < ln (G 23 0) p) (hf : fwdR (G 23 0) ws p (ln (G 23 0) p) f) (hy : ∀ j, i < j → j ≤ ln (G 23 0) p → y j = nI (min 9999 (f j))) (k : GT → Int32 → Option (Int32 × GT)) : fX8_splitsOf_40 (nI p) (nI i) k FU (wc G 28 0 (upd y i (nI 0))) (nI 0) = k (wc G 28 0 (upd y i (nI (min 9999 (f i))))) (nI i + -(nI 1)) := by
  have hws := hW.2.1
  have hn := ln_le (G 23 0) p
  exact up_fu (fun m w => fX8_splitsOf_40 (nI p) (nI i) k m (wc G 28 0 (upd y i (nI (nS (fun w => if spA (G 23 0) p i w = true then min 9999 (f (i + pl (G 23 0) w)) else 0) w)))) (nI w)) ws _ (by omega)
    (fun m w hw => by
      have hl := pl_le (G 23 0) w
      have hl1 := hW.2.2.1 w hw
      show fX8_splitsOf_40 (nI p) (nI i) k (m + 1) (wc G 28 0 (upd y i (nI (nS (fun w => if spA (G 23 0) p i w = true then min 9999 (f (i + pl (G 23 0) w)) else 0) w)))) (nI w) = fX8_splitsOf_40 (nI p) (nI i) k m (wc G 28 0 (upd y i (nI (nS (fun w => if spA (G 23 0) p i w = true then min 9999 (f (i + pl (G 23 0) w)) else 0) (w + 1))))) (nI (w + 1))
      rw [nS]
      generalize hs : nS (fun w => if spA (G 23 0) p i w = true then min 9999 (f (i + pl (G 23 0) w)) else 0) w = s
      have e23 : wc G 28 0 (upd y i (nI s)) 23 0 = G 23 0 := wc_ne (by omega)
      have hz1 : Kz (wc G 28 0 (upd y i (nI s)) 23 0) := by rw [e23]; exact hz
      have a8 := isAt8 (wc G 28 0 (upd y i (nI s))) hz1 (w := w) (p := p + i) (by omega) (by omega)
      have l8 := lengthOf8 (wc G 28 0 (upd y i (nI s))) (w := w) (by omega)
      rw [e23] at a8 l8
      rw [fX8_splitsOf_40]
      simp only [lit, nI_add, st3_e]
      rw [inb_nI (show 80 < 2 ^ 31 by decide), gd_dec _ (by decide), cl_nI (show 80 < 2 ^ 31 by decide), e23, hW.1, if_neg (show ¬ nI ws ≤ nI w by rw [le_nI (by omega) (by omega)]; omega), a8, bd_some]
      by_cases e : spA (G 23 0) p i w = true
      · have h1 := at_in (show i ≤ ln (G 23 0) p by omega) e
        have e2 : atb (G 23 0) (G 23 0) w (p + i) (pl (G 23 0) w) = true := e
        rw [if_pos e2, if_neg (show ¬ nI 1 = nI 0 by decide), l8, bd_some, if_pos e, nI_add, inb_nI (show i < 2 ^ 31 by omega), gd_dec _ (by omega), inb_nI (show i + pl (G 23 0) w < 2 ^ 31 by omega), gd_dec _ (by omega), gd_dec _ (by omega), cl_nI (show i < 2 ^ 31 by omega), cl_nI (show i + pl (G 23 0) w < 2 ^ 31 by omega), up_wc, wc_at, upd_at, upd_ne (show i + pl (G 23 0) w ≠ i by omega), hy _ (by omega) h1, nI_add, upd_same]
      · have e2 : ¬ atb (G 23 0) (G 23 0) w (p + i) (pl (G 23 0) w) = true := e
        rw [if_neg e2, if_pos rfl, if_neg e]; rfl)
    (fun m => by
      show fX8_splitsOf_40 (nI p) (nI i) k (m + 1) (wc G 28 0 (upd y i (nI (nS (fun w => if spA (G 23 0) p i w = true then min 9999 (f (i + pl (G 23 0) w)) else 0) ws)))) (nI ws) = _
      have hle : nS (fun w => if spA (G 23 0) p i w = true then min 9999 (f (i + pl (G 23 0) w)) else 0) ws ≤ 9999 * ws := nS_le (fun w _ => by
        by_cases e : spA (G 23 0) p i w = true
        · rw [if_pos e]; omega
        · rw [if_neg e]; omega)
      have hcap : min 9999 (nS (fun w => if spA (G 23 0) p i w = true then min 9999 (f (i + pl (G 23 0) w)) else 0) ws) = min 9999 (f i) := by
        rw [hf.2 i hi]
        refine nS_cap (fun w _ => ?_)
        by_cases e : spA (G 23 0) p i w = true
        · rw [if_pos e, if_pos e]; omega
        · rw [if_neg e, if_neg e]
      generalize nS (fun w => if spA (G 23 0) p i w = true then min 9999 (f (i + pl (G 23 0) w)) else 0) ws = s at hle hcap
      have e23 : wc G 28 0 (upd y i (nI s)) 23 0 = G 23 0 := wc_ne (by omega)
      rw [fX8_splitsOf_40]
      simp only [lit, st3_e]
      rw [inb_nI (show 80 < 2 ^ 31 by decide), gd_dec _ (by decide), cl_nI (show 80 < 2 ^ 31 by decide), e23, hW.1, if_pos (Int32.le_refl _), inb_nI (show i < 2 ^ 31 by omega), gd_dec _ (by omega), gd_dec _ (by omega), gd_dec _ (by omega), gd_dec _ (by omega), cl_nI (show i < 2 ^ 31 by omega), wc_at, upd_at, up_wc, up_wc, upd_same, upd_same]
      by_cases c : s ≤ 9999
      · rw [if_pos (show nI s ≤ nI 9999 from nI_le c (by decide)), ← hcap, Nat.min_eq_right c]
      · rw [if_neg (show ¬ nI s ≤ nI 9999 by rw [le_nI (by omega) (by decide)]; exact c), ← hcap, Nat.min_eq_left (by omega)])
theorem sp24 (G : GT) (hz : Kz (G 23 0)) {ws p : Nat} {f : Nat → Nat} (hW : Wd (G 23 0) ws) (hp : p < 40) (hf : fwdR (G 23 0) ws p (ln (G 23 0) p) f) : ∀ (i m : Nat) (y : Nat → Int32), i < m → i ≤ ln (G 23 0) p → (∀ j, i ≤ j → j ≤ ln (G 23 0) p → y j = nI (min 9999 (f j))) → ∃ y', fX8_splitsOf_24 (nI p) m (wc G 28 0 y) (nI i + -(nI 1)) = some (nI (min 9999 (f 0)), wc G 28 0 y') := by
  have hn := ln_le (G 23 0) p
  intro i
  induction i with
  | zero =>
    intro m y hm _ hy
    obtain ⟨m, rfl⟩ : ∃ k, m = k + 1 := ⟨m - 1, by omega⟩
    refine ⟨y, ?_⟩
    rw [fX8_splitsOf_24, if_pos (by decide), gd_t (by decide)]
    show some (wc G 28 0 y 28 0 0, wc G 28 0 y) = _
    rw [wc_at, hy 0 (Nat.le_refl _) (Nat.zero_le _)]
  | succ i ih =>
    intro m y hm hi hy
    obtain ⟨m, rfl⟩ : ∃ k, m = k + 1 := ⟨m - 1, by omega⟩
    have e : nI (i + 1) + -(nI 1) = nI i := by rw [dec_nI (by omega)]; rfl
    obtain ⟨y', q⟩ := ih m (upd y i (nI (min 9999 (f i)))) (by omega) (by omega) (fun j a b => by
      by_cases c : j = i
      · rw [c, upd_at]
      · rw [upd_ne c]; exact hy j (by omega) b)
    refine ⟨y', ?_⟩
    rw [e, fX8_splitsOf_24]
    simp only [lit, st3_e]
    rw [if_neg (show ¬ nI i < nI 0 by rw [lt_nI (by omega) (by decide)]; omega), inb_nI (by omega), gd_dec _ (by omega), cl_nI (by omega), up_wc, sp40 G hz hW hp (by omega) hf (fun j a b => hy j (by omega) b)]
    exact q
theorem ln_pos {g : Nat → Int32} {p : Nat} (h : bg g p = true) : 1 ≤ ln g p := by
  unfold bg at h
  rw [Bool.and_eq_true] at h
  rw [ln_s h.1]
  omega
theorem splitsOf8 (G : GT) (hz : Kz (G 23 0)) {ws j : Nat} {f : Nat → Nat} (hW : Wd (G 23 0) ws) (hj : j < cn (bg (G 23 0)) 40) (hf : fwdR (G 23 0) ws (rs (G 23 0) j) (ln (G 23 0) (rs (G 23 0) j)) f) : ∃ y', fX8_splitsOf G (nI j) = some (nI (min 9999 (f 0)), wc G 28 0 y') := by
  have hle := cn_le (bg (G 23 0)) 40
  obtain ⟨r1, r2, -⟩ := rs_ok hj
  have hn := ln_le (G 23 0) (rs (G 23 0) j)
  have h1 := ln_pos r2
  obtain ⟨y', q⟩ := sp24 G hz hW r1 hf (ln (G 23 0) (rs (G 23 0) j)) FU (upd (G 28 0) (ln (G 23 0) (rs (G 23 0) j)) (nI 1)) (by rw [FU_eq]; omega) (Nat.le_refl _) (fun i a b => by
    obtain rfl : i = ln (G 23 0) (rs (G 23 0) j) := by omega
    rw [upd_at, hf.1, Nat.min_eq_right (by decide)])
  refine ⟨y', ?_⟩
  unfold fX8_splitsOf
  rw [firstOf8 G hz (by omega), fo_rs hj, bd_some, lengthFrom8 G hz (by omega), bd_some]
  simp only [lit, st3_e]
  rw [inb_nI (by omega), gd_dec _ (by omega), cl_nI (by omega), up_wc0, sub_nI h1, ← dec_nI (by omega)]
  exact q
theorem imin40 {n : Nat} (h : n ≤ 40) : imin (nI 40) (nI n) = nI n := by rw [imin_nI (by decide) (by omega), Nat.min_eq_right h]
/-- 18 splits -/
theorem op18 {t : Nat} {G : GT} (hI : Inv t G) (a : Int32) : Stq t G (fX7_splits G a) (fun G1 => fX8_splits G1 a) := by
  obtain ⟨ws, G1, s1, s2, s3, s4, hW⟩ := rr hI
  have hle := cn_le (bg (G 23 0)) 40
  unfold fX7_splits fX8_splits
  rw [s1, bd_some, has3 s4, bd_some]
  simp only [lit, st3_e]
  by_cases h : nI 0 ≤ a ∧ a < nI (cn (bg (G 23 0)) 40)
  · obtain ⟨j, -, hj, rfl⟩ := of_lt h (by decide) (by omega)
    have c0 : ¬ (if nI 0 ≤ nI j ∧ nI j < nI (cn (bg (G 23 0)) 40) then nI 1 else nI 0) = nI 0 := by rw [if_pos h]; decide
    obtain ⟨r1, r2, -⟩ := rs_ok hj
    have hn := ln_le (G 23 0) (rs (G 23 0) j)
    have h1 := ln_pos r2
    have hC1 : Cw G1 (G 23 0) ws := (hI.sr.cw hW).of (fun a p q => s3 a 0 (by omega))
    have hk1 : kv (G1 1 0) = kv (G 23 0) := by rw [s3 1 0 (by omega)]; exact hI.kv
    obtain ⟨f, hf⟩ := fwd_ex hW (rs (G 23 0) j) (ln (G 23 0) (rs (G 23 0) j))
    obtain ⟨y1, q1⟩ := spl7 hC1 hW hk1 r1 hf (ln (G 23 0) (rs (G 23 0) j)) FU (upd (G1 21 0) (ln (G 23 0) (rs (G 23 0) j)) (nI 1)) (by rw [FU_eq]; omega) (Nat.le_refl _) (fun i a b => by
      obtain rfl : i = ln (G 23 0) (rs (G 23 0) j) := by omega
      rw [upd_at, hf.1, Nat.min_eq_right (by decide)])
    have eC : wc G1 21 0 y1 23 0 = G 23 0 := by rw [wc_ne (by omega)]; exact s3 23 0 (by omega)
    obtain ⟨y2, q2⟩ := splitsOf8 (wc G1 21 0 y1) (by rw [eC]; exact hI.kz) (ws := ws) (j := j) (f := f) (by rw [eC]; exact hW) (by rw [eC]; exact hj) (by rw [eC]; exact hf)
    refine stay hI (nI (min 9999 (f 0))) (wc G1 21 0 y1) (wc (wc G1 21 0 y1) 28 0 y2) ?_ (s2.tr (fun a b h => wc_ne (by omega))) ?_ (frm28 _ _)
    · rw [if_neg c0, firstOf3 s4 hj, bd_some, lengthOf3 s4 hj, bd_some, imin40 (by omega), inb_nI (by omega), gd_dec _ (by omega), cl_nI (by omega), up_wc0, sub_nI h1, ← dec_nI (by omega)]
      exact q1
    · show bd (fX8_isRun (wc G1 21 0 y1) (nI j)) _ = _
      rw [isRun8 _ (by rw [eC]; exact hI.kz), bd_some, eC, if_neg c0, q2, bd2_some]
  · refine stay hI (-(nI 1)) G1 G1 ?_ s2 ?_ (FrM.rf _)
    · rw [if_neg h, if_pos rfl]
    · have e23 : G1 23 0 = G 23 0 := s3 23 0 (by omega)
      show bd (fX8_isRun G1 a) _ = _
      rw [isRun8 G1 (by rw [e23]; exact hI.kz), bd_some, e23, if_neg h, if_pos rfl]
/-- 19 splitsBack -/
theorem op19 {t : Nat} {G : GT} (hI : Inv t G) (a : Int32) : Stq t G (fX7_splitsBack G a) (fun G1 => fX8_splitsBack G1 a) := by
  obtain ⟨ws, G1, s1, s2, s3, s4, hW⟩ := rr hI
  have hle := cn_le (bg (G 23 0)) 40
  unfold fX7_splitsBack fX8_splitsBack
  rw [s1, bd_some, has3 s4, bd_some]
  simp only [lit, st3_e]
  by_cases h : nI 0 ≤ a ∧ a < nI (cn (bg (G 23 0)) 40)
  · obtain ⟨j, -, hj, rfl⟩ := of_lt h (by decide) (by omega)
    have c0 : ¬ (if nI 0 ≤ nI j ∧ nI j < nI (cn (bg (G 23 0)) 40) then nI 1 else nI 0) = nI 0 := by rw [if_pos h]; decide
    obtain ⟨r1, r2, -⟩ := rs_ok hj
    have hn := ln_le (G 23 0) (rs (G 23 0) j)
    have hC1 : Cw G1 (G 23 0) ws := (hI.sr.cw hW).of (fun a p q => s3 a 0 (by omega))
    have hk1 : kv (G1 1 0) = kv (G 23 0) := by rw [s3 1 0 (by omega)]; exact hI.kv
    obtain ⟨f, hf⟩ := fwd_ex hW (rs (G 23 0) j) (ln (G 23 0) (rs (G 23 0) j))
    obtain ⟨b, hb⟩ := bwd_ex hW (rs (G 23 0) j) (ln (G 23 0) (rs (G 23 0) j))
    obtain ⟨y1, q1⟩ := spb7 hC1 hW hk1 r1 hb (ln (G 23 0) (rs (G 23 0) j)) 0 FU (upd (G1 21 0) 0 (nI 1)) (Nat.zero_add _) (by rw [FU_eq]; omega) (fun i a => by
      obtain rfl : i = 0 := by omega
      rw [upd_at, hb.1, Nat.min_eq_right (by decide)])
    rw [← fwd_bwd hW hf hb] at q1
    have eC : wc G1 21 0 y1 23 0 = G 23 0 := by rw [wc_ne (by omega)]; exact s3 23 0 (by omega)
    obtain ⟨y2, q2⟩ := splitsOf8 (wc G1 21 0 y1) (by rw [eC]; exact hI.kz) (ws := ws) (j := j) (f := f) (by rw [eC]; exact hW) (by rw [eC]; exact hj) (by rw [eC]; exact hf)
    refine stay hI (nI (min 9999 (f 0))) (wc G1 21 0 y1) (wc (wc G1 21 0 y1) 28 0 y2) ?_ (s2.tr (fun a b h => wc_ne (by omega))) ?_ (frm28 _ _)
    · rw [if_neg c0, firstOf3 s4 hj, bd_some, lengthOf3 s4 hj, bd_some, imin40 (by omega), inb_nI (by decide), gd_dec _ (by decide), cl_nI (by decide), up_wc0]
      exact q1
    · show bd (fX8_isRun (wc G1 21 0 y1) (nI j)) _ = _
      rw [isRun8 _ (by rw [eC]; exact hI.kz), bd_some, eC, if_neg c0, q2, bd2_some]
  · refine stay hI (-(nI 1)) G1 G1 ?_ s2 ?_ (FrM.rf _)
    · rw [if_neg h, if_pos rfl]
    · have e23 : G1 23 0 = G 23 0 := s3 23 0 (by omega)
      show bd (fX8_isRun G1 a) _ = _
      rw [isRun8 G1 (by rw [e23]; exact hI.kz), bd_some, e23, if_neg h, if_pos rfl]
