/-! laying a text: the class's rope and the reference's row -/
def Ok (x : Nat → Int32) (len : Nat) : Prop := ∀ k, k < len → (x k = nI 33 ∧ 0 < mny true x k) ∨ (¬ x k = nI 33 ∧ isP true (x k) = true ∧ mny true x k < 40)
theorem isK_cases {c : Int32} (h : isK c = true) : ∃ n : Nat, 1 ≤ n ∧ n ≤ 5 ∧ c = nI (48 + n) := by
  unfold isK at h
  rw [decide_eq_true_eq] at h
  have h1 := Int32.le_iff_toInt_le.mp h.1
  have h2 := Int32.le_iff_toInt_le.mp h.2
  rw [nI_toInt (by decide)] at h1 h2
  refine ⟨c.toInt.toNat - 48, by omega, by omega, Int32.toInt_inj.mp ?_⟩
  rw [nI_toInt (by omega)]
  omega
theorem isK_sub {c : Int32} (h : isK c = true) : ∃ n : Nat, 1 ≤ n ∧ n ≤ 5 ∧ c - nI 48 = nI n ∧ ¬ c = nI 46 ∧ ¬ c = nI 33 := by
  obtain ⟨n, h1, h2, rfl⟩ := isK_cases h
  refine ⟨n, h1, h2, ?_, ?_, ?_⟩
  · rw [sub_nI (by omega), Nat.add_sub_cancel_left]
  · rw [eq_nI (by omega) (by decide)]; omega
  · rw [eq_nI (by omega) (by decide)]; omega
theorem isP_isK {r : Bool} {c : Int32} (h : isP r c = true) (h2 : ¬ c = nI 46) : isK c = true := by
  unfold isP at h
  rw [decide_eq_false h2, Bool.and_false, Bool.or_false] at h
  exact h
theorem isP_true_of {r : Bool} {c : Int32} (h : isK c = true) : isP r c = true := by
  unfold isP; rw [h, Bool.true_or]
theorem ok_rope {x : Nat → Int32} {len : Nat} (h : ∀ k, k < len → ¬ bad true x k = true) : Ok x len := by
  have key : ∀ k, k ≤ len → mny true x k ≤ 40 := by
    intro k
    induction k with
    | zero => intro _; exact Nat.zero_le _
    | succ k ih =>
      intro hk
      have i := ih (by omega)
      by_cases p : isP true (x k) = true
      · have : ¬ mny true x k = 40 := fun q => h k (by omega) (bad_iff.mpr (Or.inr ⟨p, q⟩))
        have e : mny true x (k + 1) = mny true x k + 1 := cn_t (f := fun j => isP true (x j)) p
        omega
      · have e : mny true x (k + 1) = mny true x k := cn_f (f := fun j => isP true (x j)) (by simpa using p)
        omega
  intro k hk
  have h1 := h k hk
  have m := key k (by omega)
  by_cases p : isP true (x k) = true
  · have : ¬ mny true x k = 40 := fun q => h1 (bad_iff.mpr (Or.inr ⟨p, q⟩))
    refine Or.inr ⟨fun q => ?_, p, by omega⟩
    rw [q, isP_33] at p
    exact absurd p (by decide)
  · have s : su true x k = true := by
      cases e : su true x k with
      | true => rfl
      | false => exact absurd (bad_iff.mpr (Or.inl ⟨e, by simpa using p⟩)) h1
    unfold su at s
    simp only [Bool.true_and, Bool.and_eq_true, decide_eq_true_eq] at s
    refine Or.inl ⟨s.1, ?_⟩
    obtain ⟨j, rfl⟩ : ∃ j, k = j + 1 := ⟨k - 1, by omega⟩
    have e : mny true x (j + 1) = mny true x j + 1 := cn_t (f := fun j => isP true (x j)) (isP_true_of (by have := s.2.2; rwa [Nat.add_sub_cancel] at this))
    omega
theorem pat_of {x : Nat → Int32} {len : Nat} (h : ∀ k, k < len → ¬ bad false x k = true) : (∀ k, k < len → isK (x k) = true) ∧ len ≤ 5 := by
  have hk : ∀ k, k < len → isK (x k) = true := fun k hk => by
    cases e : isK (x k) with
    | true => rfl
    | false => exact absurd (bad_iff.mpr (Or.inl ⟨rfl, by unfold isP; rw [e]; rfl⟩)) (h k hk)
  refine ⟨hk, Nat.not_lt.mp (fun h5 => ?_)⟩
  have m : ∀ k, k ≤ len → mny false x k = k := by
    intro k
    induction k with
    | zero => intro _; rfl
    | succ k ih =>
      intro q
      have e : mny false x (k + 1) = mny false x k + 1 := cn_t (f := fun j => isP false (x j)) (isP_true_of (hk k (by omega)))
      have := ih (by omega)
      omega
  exact h 5 h5 (bad_iff.mpr (Or.inr ⟨isP_true_of (hk 5 h5), m 5 (by omega)⟩))
theorem ok_pat {x : Nat → Int32} {len : Nat} (h : ∀ k, k < len → isK (x k) = true) (h5 : len ≤ 5) : Ok x len := by
  intro k hk
  obtain ⟨n, -, -, -, -, q⟩ := isK_sub (h k hk)
  have := cn_le (fun j => isP true (x j)) k
  exact Or.inr ⟨q, isP_true_of (h k hk), by unfold mny; omega⟩
def LK (g x : Nat → Int32) : Nat → Nat → Int32
  | 0 => g
  | k + 1 => if isK (x k) = true then upd (LK g x k) (mny true x k) (x k - nI 48) else LK g x k
def LT (t x : Nat → Int32) : Nat → Nat → Int32
  | 0 => t
  | k + 1 => if x k = nI 33 then upd (LT t x k) (mny true x k - 1) (nI 9) else if isK (x k) = true then upd (LT t x k) (mny true x k) (nI 5) else LT t x k
theorem upd_self (f : Nat → Int32) (k : Nat) : upd f k (f k) = f := by
  funext j
  unfold upd
  by_cases e : j = k
  · rw [if_pos e, e]
  · rw [if_neg e]
theorem lay48 (G : GT) (i : Nat) (a2 a3 c : Int32) (k8 : GT → Int32 → Int32 → Option GT) : fX5_layOn_48 G i a2 a3 c k8 = if isK c = true then bd (fX2_put G i a2 (c - nI 48) (nI 5)) (fun G5 => k8 G5 a2 (a3 + nI 1)) else k8 G a2 (a3 + nI 1) := by
  unfold fX5_layOn_48
  rw [isKind5, bd_some]
  simp only [lit]
  by_cases h : isK c = true
  · rw [if_pos h, if_pos h, if_neg (by decide)]
  · rw [if_neg h, if_neg h, if_pos rfl]
theorem m1_0 : (-1 : Int32) = nI 0 - nI 1 := by decide
theorem cancel1 (m : Nat) : nI m - nI 1 + nI 1 = nI m := Int32.sub_add_cancel _ _
theorem tx_wr {G : GT} {x : Nat → Int32} {len i : Nat} {g t : Nat → Int32} (hT : Tx G x len) : Tx (wr G i g t) x len := by
  obtain ⟨h1, h2, h3⟩ := hT
  exact ⟨by rw [wr_ne (by omega)]; exact h1, h2, fun j hj => by rw [wr_ne (by omega)]; exact h3 j hj⟩
theorem layOn_e (G : GT) (i : Nat) {x : Nat → Int32} {len : Nat} (hT : Tx G x len) (hok : Ok x len) : fX5_layOn G i = some (wr G i (LK (fl (G 1 i) (fun _ => nI 0) 40) x len) (LT (fl (G 2 i) (fun _ => nI 0) 40) x len)) := by
  obtain ⟨-, hlen, -⟩ := id hT
  unfold fX5_layOn
  rw [clear_e, bd_some]
  generalize fl (G 1 i) (fun _ => nI 0) 40 = g
  generalize fl (G 2 i) (fun _ => nI 0) 40 = t
  have key := up_fu (fun n k => fX5_layOn_8 i n (wr G i (LK g x k) (LT t x k)) (nI (mny true x k) - nI 1) (nI k)) len (some (wr G i (LK g x len) (LT t x len))) (by omega)
    (fun n k hk => by
      show fX5_layOn_8 i (n + 1) (wr G i (LK g x k) (LT t x k)) (nI (mny true x k) - nI 1) (nI k) = fX5_layOn_8 i n (wr G i (LK g x (k + 1)) (LT t x (k + 1))) (nI (mny true x (k + 1)) - nI 1) (nI (k + 1))
      have hT2 := tx_wr (i := i) (g := LK g x k) (t := LT t x k) hT
      rw [fX5_layOn_8, charAt_e _ hT2 (by omega), hT2.1, LK, LT]
      simp only [bd_some, lay48]
      simp (disch := omega) only [lit, le_nI, nI_add]
      rw [if_neg (show ¬ len ≤ k by omega)]
      rcases hok k hk with ⟨h1, h2⟩ | ⟨h1, h2, h3⟩
      · have hm : mny true x (k + 1) = mny true x k := cn_f (f := fun j => isP true (x j)) (by show isP true (x k) = false; rw [h1]; exact isP_33 true)
        have hle : mny true x k ≤ k := cn_le _ k
        have hk2 : isK (x k) = false := by rw [h1]; exact isK_33
        rw [if_pos h1, if_pos h1, hk2, hm, sub_nI (show 1 ≤ mny true x k by omega), kindAt_e _ _ (by omega), bd_some, wr_1]
        have hp : mny true x k - 1 < 40 := by
          have key2 : ∀ j, j ≤ k → mny true x j ≤ 40 := by
            intro j
            induction j with
            | zero => intro _; exact Nat.zero_le _
            | succ j ih =>
              intro hj
              have i1 := ih (by omega)
              by_cases p : isP true (x j) = true
              · have e : mny true x (j + 1) = mny true x j + 1 := cn_t (f := fun j => isP true (x j)) p
                rcases hok j (by omega) with ⟨a, b⟩ | ⟨a, b, c⟩
                · rw [a, isP_33] at p; exact absurd p (by decide)
                · omega
              · have e : mny true x (j + 1) = mny true x j := cn_f (f := fun j => isP true (x j)) (by simpa using p)
                omega
          have := key2 k (Nat.le_refl _)
          omega
        rw [put_r G i hp, bd_some, if_neg (show ¬ (false = true) by decide), if_neg (show ¬ (false = true) by decide), kv_in hp, upd_self]
      · have hm : mny true x (k + 1) = mny true x k + 1 := cn_t (f := fun j => isP true (x j)) h2
        rw [if_neg h1, if_neg h1, hm, cancel1, sub_nI (show 1 ≤ mny true x k + 1 by omega), Nat.add_sub_cancel]
        by_cases hk2 : isK (x k) = true
        · rw [if_pos hk2, if_pos hk2, if_pos hk2, put_r G i h3, bd_some]
        · rw [if_neg hk2, if_neg hk2, if_neg hk2])
    (fun n => by
      show fX5_layOn_8 i (n + 1) (wr G i (LK g x len) (LT t x len)) _ (nI len) = _
      have hT2 := tx_wr (i := i) (g := LK g x len) (t := LT t x len) hT
      rw [fX5_layOn_8, hT2.1, if_pos (Int32.le_refl _)])
  rw [m1_0]
  exact key
/-! the reference's row laid -/
def cz (z : Nat → Int32) (m : Nat) : Nat → Int32 := fun j => if j < m ∨ (40 ≤ j ∧ j < 40 + m) then nI 0 else z j
def MR (z x : Nat → Int32) : Nat → Nat → Int32
  | 0 => z
  | k + 1 => if x k = nI 33 then upd (MR z x k) (40 + mny true x k - 1) (nI 9) else upd (upd (MR z x k) (mny true x k) (if x k = nI 46 then nI 0 else x k - nI 48)) (40 + mny true x k) (if x k = nI 46 then nI 0 else nI 5)
theorem mny_le (r : Bool) (x : Nat → Int32) (k : Nat) : mny r x k ≤ k := cn_le _ k
theorem ok_le {x : Nat → Int32} {len : Nat} (hok : Ok x len) : ∀ k, k ≤ len → mny true x k ≤ 40 := by
  intro j
  induction j with
  | zero => intro _; exact Nat.zero_le _
  | succ j ih =>
    intro hj
    have i1 := ih (by omega)
    by_cases p : isP true (x j) = true
    · have e : mny true x (j + 1) = mny true x j + 1 := cn_t (f := fun j => isP true (x j)) p
      rcases hok j (by omega) with ⟨a, b⟩ | ⟨a, b, c⟩
      · rw [a, isP_33] at p; exact absurd p (by decide)
      · omega
    · have e : mny true x (j + 1) = mny true x j := cn_f (f := fun j => isP true (x j)) (by simpa using p)
      omega
/-- the two rows agree -/
theorem lay_agree {x z g t : Nat → Int32} {len : Nat} (hok : Ok x len) (hg : ∀ p, p < 40 → g p = nI 0) (ht : ∀ p, p < 40 → t p = nI 0) : ∀ k, k ≤ len → (∀ p, p < 40 → MR (cz z 40) x k p = LK g x k p ∧ MR (cz z 40) x k (40 + p) = LT t x k p ∧ (mny true x k ≤ p → LK g x k p = nI 0 ∧ LT t x k p = nI 0) ∧ nI 0 ≤ LK g x k p) ∧ ∀ j, 80 ≤ j → MR (cz z 40) x k j = z j := by
  intro k
  induction k with
  | zero =>
    intro _
    refine ⟨fun p hp => ?_, fun j hj => ?_⟩
    · show cz z 40 p = g p ∧ cz z 40 (40 + p) = t p ∧ _ ∧ nI 0 ≤ g p
      rw [hg p hp, ht p hp]
      unfold cz
      rw [if_pos (by omega), if_pos (by omega)]
      exact ⟨rfl, rfl, fun _ => ⟨hg p hp, ht p hp⟩, Int32.le_refl _⟩
    · show cz z 40 j = z j
      unfold cz
      rw [if_neg (by omega)]
  | succ k ih =>
    intro hk
    obtain ⟨i1, i2⟩ := ih (by omega)
    have hmk := ok_le hok k (by omega)
    rcases hok k (by omega) with ⟨h1, h2⟩ | ⟨h1, h2, h3⟩
    · have hm : mny true x (k + 1) = mny true x k := cn_f (f := fun j => isP true (x j)) (by show isP true (x k) = false; rw [h1]; exact isP_33 true)
      have hk2 : isK (x k) = false := by rw [h1]; exact isK_33
      rw [MR, LK, LT, if_pos h1, if_pos h1, hk2, if_neg (show ¬ (false = true) by decide), hm]
      refine ⟨fun p hp => ?_, fun j hj => ?_⟩
      · obtain ⟨a, b, c, d⟩ := i1 p hp
        rw [upd_ne (show p ≠ 40 + mny true x k - 1 by omega)]
        by_cases e : p = mny true x k - 1
        · subst e
          rw [show 40 + (mny true x k - 1) = 40 + mny true x k - 1 by omega, upd_at, upd_at]
          exact ⟨a, rfl, fun q => by omega, d⟩
        · rw [upd_ne e, upd_ne (show 40 + p ≠ 40 + mny true x k - 1 by omega)]
          exact ⟨a, b, c, d⟩
      · rw [upd_ne (by omega)]; exact i2 j hj
    · have hm : mny true x (k + 1) = mny true x k + 1 := cn_t (f := fun j => isP true (x j)) h2
      rw [MR, LK, LT, if_neg h1, if_neg h1, hm]
      refine ⟨fun p hp => ?_, fun j hj => ?_⟩
      · obtain ⟨a, b, c, d⟩ := i1 p hp
        by_cases hk2 : isK (x k) = true
        · obtain ⟨n, n1, n2, n3, n4, n5⟩ := isK_sub hk2
          rw [if_pos hk2, if_pos hk2, if_neg n4, if_neg n4, n3]
          by_cases e : p = mny true x k
          · subst e
            rw [upd_at, upd_at, upd_at, upd_ne (by omega), upd_at]
            exact ⟨rfl, rfl, fun q => by omega, nI_le (by omega) (by omega)⟩
          · rw [upd_ne (show p ≠ 40 + mny true x k by omega), upd_ne e, upd_ne (show 40 + p ≠ 40 + mny true x k by omega), upd_ne (show 40 + p ≠ mny true x k by omega), upd_ne e, upd_ne e]
            exact ⟨a, b, fun q => c (by omega), d⟩
        · have e46 : x k = nI 46 := Classical.byContradiction (fun q => hk2 (isP_isK h2 q))
          rw [if_neg hk2, if_neg hk2, if_pos e46, if_pos e46]
          by_cases e : p = mny true x k
          · subst e
            rw [upd_ne (by omega), upd_at, upd_at]
            obtain ⟨c1, c2⟩ := c (Nat.le_refl _)
            exact ⟨c1.symm, c2.symm, fun q => by omega, d⟩
          · rw [upd_ne (show p ≠ 40 + mny true x k by omega), upd_ne e, upd_ne (show 40 + p ≠ 40 + mny true x k by omega), upd_ne (show 40 + p ≠ mny true x k by omega)]
            exact ⟨a, b, fun q => c (by omega), d⟩
      · rw [upd_ne (by omega), upd_ne (by omega)]; exact i2 j hj
theorem lay122 (G : GT) {x : Nat → Int32} (hx : ∀ j, j < 50 → G 27 0 j = x j) {m k : Nat} (hm : m < 40) (hk : k < 50) (s2 : Int32) (k56 : GT → Int32 → Int32 → Option (Int32 × GT)) (y : Nat → Int32) : fX8_layRope_122 (wc G 23 0 y) (nI m) (nI k) (nI m) s2 k56 = k56 (wc G 23 0 (upd (upd y m s2) (40 + m) (if x k = nI 46 then nI 0 else nI 5))) (nI (m + 1)) (nI (k + 1)) := by
  unfold fX8_layRope_122
  simp (disch := omega) only [lit, litN5, le_nI, lt_nI, eq_nI, nI_nN, nN_nI, nN_lt, nN_le, lt_nN, nI_add, mul_nI, sub_nI, dec_nI, cl_nI, inb_nI, bd_some, bd2_some, gd_true, b01, isB_ite, isB_0, isB_1, st3_e, up_wc]
  rw [gd_dec _ (by omega), gd_dec _ (by omega), wc_ne (show ¬ (27 = 23 ∧ 0 = 0) by omega), hx k hk, gd_dec _ (by omega), gd_dec _ (by omega)]
  by_cases e : x k = nI 46
  · rw [if_pos e, if_pos e]
  · rw [if_neg e, if_neg e]
theorem lay56 (G : GT) {x : Nat → Int32} {len : Nat} (h7 : G 22 0 7 = nI len) (hlen : len ≤ 50) (hx : ∀ j, j < 50 → G 27 0 j = x j) (hok : Ok x len) (z : Nat → Int32) : fX8_layRope_56 FU (wc G 23 0 z) (nI 0) (nI 0) = bd (fX8_knots (wc G 23 0 (MR z x len))) (fun r1 => some (r1, wc G 23 0 (MR z x len))) := by
  exact up_fu (fun n k => fX8_layRope_56 n (wc G 23 0 (MR z x k)) (nI (mny true x k)) (nI k)) len _ (by omega)
    (fun n k hk => by
      show fX8_layRope_56 (n + 1) (wc G 23 0 (MR z x k)) (nI (mny true x k)) (nI k) = fX8_layRope_56 n (wc G 23 0 (MR z x (k + 1))) (nI (mny true x (k + 1))) (nI (k + 1))
      have hm40 := ok_le hok k (by omega)
      rw [fX8_layRope_56, wc_ne (show ¬ (22 = 23 ∧ 0 = 0) by omega), wc_ne (show ¬ (27 = 23 ∧ 0 = 0) by omega), h7, MR]
      simp (disch := omega) only [lit, le_nI, cl_nI, inb_nI, nI_add, Nat.zero_add]
      rw [if_neg (show ¬ len ≤ k by omega), gd_dec _ (by omega), gd_dec _ (by omega), gd_dec _ (by omega), hx k (by omega)]
      rcases hok k hk with ⟨h1, h2⟩ | ⟨h1, h2, h3⟩
      · have hm : mny true x (k + 1) = mny true x k := cn_f (f := fun j => isP true (x j)) (by show isP true (x k) = false; rw [h1]; exact isP_33 true)
        rw [if_pos h1, if_pos h1, sub_nI (by omega), inb_nI (by omega), gd_dec _ (by omega), st3_e, cl_nI (by omega), up_wc, hm]
      · have hm : mny true x (k + 1) = mny true x k + 1 := cn_t (f := fun j => isP true (x j)) h2
        rw [if_neg h1, if_neg h1, lay122 G hx h3 (by omega), lay122 G hx h3 (by omega), hm]
        by_cases e : x k = nI 46
        · simp only [if_pos e]
        · simp only [if_neg e])
    (fun n => by
      show fX8_layRope_56 (n + 1) (wc G 23 0 (MR z x len)) _ (nI len) = _
      rw [fX8_layRope_56, wc_ne (show ¬ (22 = 23 ∧ 0 = 0) by omega), h7, if_pos (Int32.le_refl _)])
theorem lay21 (G : GT) : fX8_layRope_21 FU G (nI 0) = fX8_layRope_56 FU (wc G 23 0 (cz (G 23 0) 40)) (nI 0) (nI 0) := by
  have key := up_fu (fun n m => fX8_layRope_21 n (wc G 23 0 (cz (G 23 0) m)) (nI m)) 40 (fX8_layRope_56 FU (wc G 23 0 (cz (G 23 0) 40)) (nI 0) (nI 0)) (by decide)
    (fun n m hm => by
      show fX8_layRope_21 (n + 1) _ (nI m) = fX8_layRope_21 n _ (nI (m + 1))
      rw [fX8_layRope_21]
      simp (disch := omega) only [lit, litN5, le_nI, lt_nI, eq_nI, nI_nN, nN_nI, nN_lt, nN_le, lt_nN, nI_add, mul_nI, sub_nI, dec_nI, cl_nI, inb_nI, bd_some, bd2_some, gd_true, b01, isB_ite, isB_0, isB_1, st3_e, up_wc, Nat.zero_add]
      rw [if_neg (by omega), gd_dec _ (by omega), gd_dec _ (by omega)]
      congr 2
      funext j
      unfold upd cz
      (repeat' split) <;> first | rfl | (exfalso; omega))
    (fun n => by
      show fX8_layRope_21 (n + 1) _ (nI 40) = _
      rw [fX8_layRope_21, if_pos (by decide)]
      rfl)
  have e : cz (G 23 0) 0 = G 23 0 := by funext j; unfold cz; rw [if_neg (by omega)]
  rw [e, wc_self] at key
  exact key
