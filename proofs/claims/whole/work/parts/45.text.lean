/-! the text: faults, in the class and in the reference -/
def isK (c : Int32) : Bool := decide (nI 49 ≤ c ∧ c ≤ nI 53)
def isP (r : Bool) (c : Int32) : Bool := isK c || (r && decide (c = nI 46))
def su (r : Bool) (x : Nat → Int32) (k : Nat) : Bool := r && (decide (x k = nI 33) && (decide (0 < k) && isK (x (k - 1))))
def mny (r : Bool) (x : Nat → Int32) (k : Nat) : Nat := cn (fun j => isP r (x j)) k
def cap (r : Bool) : Nat := if r then 40 else 5
def bad (r : Bool) (x : Nat → Int32) (k : Nat) : Bool := (!su r x k && !isP r (x k)) || (isP r (x k) && decide (mny r x k = cap r))
theorem bad_iff {r : Bool} {x : Nat → Int32} {k : Nat} : bad r x k = true ↔ (su r x k = false ∧ isP r (x k) = false) ∨ (isP r (x k) = true ∧ mny r x k = cap r) := by
  unfold bad
  simp only [Bool.or_eq_true, Bool.and_eq_true, Bool.not_eq_true', decide_eq_true_eq]
def fkd (r : Bool) (c : Int32) : Int32 := if isP r c = true then nI 3 else if nI 48 ≤ c ∧ c ≤ nI 57 then nI 2 else nI 4
noncomputable def fi (r : Bool) (x : Nat → Int32) : Nat → Nat → Int32
  | 0, _ => nN
  | d + 1, k => if bad r x k then nI k else fi r x d (k + 1)
noncomputable def fk (r : Bool) (x : Nat → Int32) : Nat → Nat → Int32
  | 0, _ => nI 1
  | d + 1, k => if bad r x k then fkd r (x k) else fk r x d (k + 1)
theorem cap_le (r : Bool) : cap r ≤ 40 := by cases r <;> decide
/-- either no fault, or the first one -/
theorem fi_cases (r : Bool) (x : Nat → Int32) : ∀ d k, (fi r x d k = nN ∧ fk r x d k = nI 1 ∧ ∀ j, k ≤ j → j < k + d → ¬ bad r x j) ∨ ∃ j, k ≤ j ∧ j < k + d ∧ fi r x d k = nI j ∧ fk r x d k = fkd r (x j)
  | 0, k => Or.inl ⟨rfl, rfl, fun j h1 h2 => by omega⟩
  | d + 1, k => by
    unfold fi fk
    by_cases e : bad r x k
    · rw [if_pos e, if_pos e]
      exact Or.inr ⟨k, Nat.le_refl _, by omega, rfl, rfl⟩
    · rw [if_neg e, if_neg e]
      rcases fi_cases r x d (k + 1) with ⟨h1, h2, h3⟩ | ⟨j, h1, h2, h3, h4⟩
      · refine Or.inl ⟨h1, h2, fun j p q => ?_⟩
        by_cases ej : j = k
        · subst ej; exact e
        · exact h3 j (by omega) (by omega)
      · exact Or.inr ⟨j, by omega, by omega, h3, h4⟩
theorem in_e (a b c : Int32) : fX8_in a b c = some (if b ≤ a ∧ a ≤ c then nI 1 else nI 0) := by
  unfold fX8_in
  simp only [lit]
  by_cases h1 : a < b
  · rw [if_pos h1, if_neg (fun q => by
      have a1 := Int32.lt_iff_toInt_lt.mp h1
      have a2 := Int32.le_iff_toInt_le.mp q.1
      omega)]
  · rw [if_neg h1]
    by_cases h2 : c < a
    · rw [if_pos h2, if_neg (fun q => by
        have a1 := Int32.lt_iff_toInt_lt.mp h2
        have a2 := Int32.le_iff_toInt_le.mp q.2
        omega)]
    · rw [if_neg h2, if_pos ⟨Int32.le_iff_toInt_le.mpr (Int.not_lt.mp (fun q => h1 (Int32.lt_iff_toInt_lt.mpr q))), Int32.le_iff_toInt_le.mpr (Int.not_lt.mp (fun q => h2 (Int32.lt_iff_toInt_lt.mpr q)))⟩]
theorem isKind5 (c : Int32) : fX5_isKind c = some (if isK c = true then nI 1 else nI 0) := by
  have := in_e c (nI 49) (nI 53)
  unfold fX8_in at this
  unfold fX5_isKind isK
  simp only [lit] at this ⊢
  rw [this]
  simp only [decide_eq_true_eq]
theorem isDigit5 (c : Int32) : fX5_isDigit c = some (if nI 48 ≤ c ∧ c ≤ nI 57 then nI 1 else nI 0) := by
  have := in_e c (nI 48) (nI 57)
  unfold fX8_in at this
  unfold fX5_isDigit
  simp only [lit] at this ⊢
  exact this
theorem isPlace5 (c : Int32) : fX5_isPlace c = some (if isP true c = true then nI 1 else nI 0) := by
  unfold fX5_isPlace
  rw [isKind5, bd_some]
  simp only [lit]
  by_cases h : c = nI 46
  · rw [if_pos h, if_pos (by unfold isP; simp [h])]
  · rw [if_neg h]
    cases hk : isK c with
    | true =>
      have e : isP true c = true := by unfold isP; simp [hk]
      rw [e]; rfl
    | false =>
      have e : isP true c = false := by unfold isP; simp [hk, h]
      rw [e]; rfl
/-- the class's text -/
def Tx (G : GT) (x : Nat → Int32) (len : Nat) : Prop := G 14 0 1 = nI len ∧ len ≤ 50 ∧ ∀ j, j < 50 → G 15 0 j = x j ∧ isC (x j) = true
theorem charAt_e (G : GT) {x : Nat → Int32} {len k : Nat} (hT : Tx G x len) (hk : k < 50) : fX5_characterAt G (nI k) = some (x k) := by
  obtain ⟨h1, h2, h3⟩ := hT
  unfold fX5_characterAt
  simp (disch := omega) only [lit, litN5, le_nI, lt_nI, eq_nI, nI_nN, nN_nI, nN_lt, nN_le, lt_nN, nI_add, mul_nI, sub_nI, dec_nI, cl_nI, inb_nI, bd_some, bd2_some, gd_true, b01, isB_ite, isB_0, isB_1, isW]
  rw [if_neg (by omega), gd_dec _ hk, (h3 k hk).1, gd_t (h3 k hk).2]
theorem isK_33 : isK (nI 33) = false := by decide
theorem isP_33 (r : Bool) : isP r (nI 33) = false := by cases r <;> decide
theorem rope37 (G : GT) (a1 a3 c : Int32) (k6 : Int32 → Int32 → Int32 → Option Int32) : fX5_ropeFault_37 G a1 a3 c k6 = if isP true c = true then (if nI 40 ≤ a1 then some a3 else k6 (a1 + nI 1) (if isK c = true then nI 1 else nI 0) (a3 + nI 1)) else some a3 := by
  unfold fX5_ropeFault_37
  rw [isPlace5, isKind5, bd_some, bd_some]
  simp only [lit]
  by_cases h : isP true c = true
  · rw [if_pos h, if_pos h, if_neg (by decide)]
  · rw [if_neg h, if_neg h, if_pos rfl]
theorem ropeFault_e (G : GT) {x : Nat → Int32} {len : Nat} (hT : Tx G x len) : fX5_ropeFault G = some (fi true x len 0) := by
  obtain ⟨h1, h2, h3⟩ := id hT
  unfold fX5_ropeFault
  exact lp_fu (fun n (_ : Unit) k => fX5_ropeFault_6 G n (nI (mny true x k)) (if (decide (0 < k) && isK (x (k - 1))) = true then nI 1 else nI 0) (nI k)) len (fun _ k => some (fi true x (len - k) k)) (fun _ k => mny true x k ≤ 40) (by omega)
    (fun n c k hk hc => by
      show (∃ s' : Unit, mny true x (k + 1) ≤ 40 ∧ fX5_ropeFault_6 G (n + 1) (nI (mny true x k)) (if (decide (0 < k) && isK (x (k - 1))) = true then nI 1 else nI 0) (nI k) = fX5_ropeFault_6 G n (nI (mny true x (k + 1))) (if (decide (0 < k + 1) && isK (x (k + 1 - 1))) = true then nI 1 else nI 0) (nI (k + 1)) ∧ some (fi true x (len - k) k) = some (fi true x (len - (k + 1)) (k + 1))) ∨ fX5_ropeFault_6 G (n + 1) (nI (mny true x k)) (if (decide (0 < k) && isK (x (k - 1))) = true then nI 1 else nI 0) (nI k) = some (fi true x (len - k) k)
      have eb : (if (decide (0 < k + 1) && isK (x (k + 1 - 1))) = true then nI 1 else nI 0) = if isK (x k) = true then nI 1 else nI 0 := by
        rw [show decide (0 < k + 1) = true by simp, Bool.true_and, Nat.add_sub_cancel]
      rw [eb, fX5_ropeFault_6, charAt_e G hT (by omega), h1, show len - k = (len - (k + 1)) + 1 by omega, fi]
      simp (disch := omega) only [lit, litN5, le_nI, lt_nI, eq_nI, nI_nN, nN_nI, nN_lt, nN_le, lt_nN, nI_add, mul_nI, sub_nI, dec_nI, cl_nI, inb_nI, bd_some, bd2_some, gd_true, b01, isB_ite, isB_0, isB_1, rope37]
      rw [if_neg (by omega)]
      by_cases e : x k = nI 33
      · rw [if_pos e]
        by_cases b : (decide (0 < k) && isK (x (k - 1))) = true
        · have hb : ¬ bad true x k := by
            unfold bad
            rw [e, isP_33]
            unfold su
            rw [e, b]
            simp
          have hm : mny true x (k + 1) = mny true x k := cn_f (by show isP true (x k) = false; rw [e]; exact isP_33 true)
          refine Or.inl ⟨(), by rw [hm]; exact hc, ?_, by rw [if_neg hb]⟩
          rw [if_neg (fun q => q b), hm, e, if_neg (by rw [isK_33]; decide)]
        · have hb : bad true x k := bad_iff.mpr (Or.inl ⟨by unfold su; simp only [Bool.not_eq_true] at b; rw [b]; simp, by rw [e]; exact isP_33 true⟩)
          refine Or.inr ?_
          rw [if_pos b, if_pos hb, e, if_neg (by rw [isP_33]; decide)]
      · rw [if_neg e]
        have hs : su true x k = false := by unfold su; simp [e]
        by_cases p : isP true (x k) = true
        · by_cases m : 40 ≤ mny true x k
          · have hb : bad true x k := bad_iff.mpr (Or.inr ⟨p, show mny true x k = 40 by omega⟩)
            exact Or.inr (by rw [if_pos p, if_pos m, if_pos hb])
          · have hb : ¬ bad true x k := fun q => by
              rcases bad_iff.mp q with q | q
              · rw [p] at q; exact absurd q.2 (by decide)
              · have : mny true x k = 40 := q.2
                omega
            have hm : mny true x (k + 1) = mny true x k + 1 := cn_t (f := fun j => isP true (x j)) p
            exact Or.inl ⟨(), by omega, by rw [if_pos p, if_neg m, hm], by rw [if_neg hb]⟩
        · have hb : bad true x k := bad_iff.mpr (Or.inl ⟨hs, by simpa using p⟩)
          exact Or.inr (by rw [if_neg p, if_pos hb]))
    (fun n c _ => by
      show fX5_ropeFault_6 G (n + 1) _ _ (nI len) = some (fi true x (len - len) len)
      rw [fX5_ropeFault_6, h1, if_pos (Int32.le_refl _), Nat.sub_self]
      rfl)
    0 () (Nat.zero_le _) (Nat.zero_le _)
theorem patternFault_e (G : GT) {x : Nat → Int32} {len : Nat} (hT : Tx G x len) : fX5_patternFault G = some (fi false x len 0) := by
  obtain ⟨h1, h2, h3⟩ := id hT
  unfold fX5_patternFault
  exact lp_fu (fun n (_ : Unit) k => fX5_patternFault_2 G n (nI k)) len (fun _ k => some (fi false x (len - k) k)) (fun _ k => mny false x k = k ∧ k ≤ 5) (by omega)
    (fun n c k hk hc => by
      show (∃ s' : Unit, (mny false x (k + 1) = k + 1 ∧ k + 1 ≤ 5) ∧ fX5_patternFault_2 G (n + 1) (nI k) = fX5_patternFault_2 G n (nI (k + 1)) ∧ some (fi false x (len - k) k) = some (fi false x (len - (k + 1)) (k + 1))) ∨ fX5_patternFault_2 G (n + 1) (nI k) = some (fi false x (len - k) k)
      rw [fX5_patternFault_2, charAt_e G hT (by omega), h1, show len - k = (len - (k + 1)) + 1 by omega, fi]
      simp (disch := omega) only [lit, litN5, le_nI, lt_nI, eq_nI, nI_nN, nN_nI, nN_lt, nN_le, lt_nN, nI_add, mul_nI, sub_nI, dec_nI, cl_nI, inb_nI, bd_some, bd2_some, gd_true, b01, isB_ite, isB_0, isB_1, isKind5]
      rw [if_neg (by omega)]
      have eP : isP false (x k) = isK (x k) := by unfold isP; simp
      have hs : su false x k = false := rfl
      obtain ⟨hc1, hc2⟩ := hc
      by_cases p : isK (x k) = true
      · rw [if_neg (fun q => q p)]
        by_cases m : k < 5
        · have hb : ¬ bad false x k := fun q => by
            rcases bad_iff.mp q with q | q
            · rw [eP, p] at q; exact absurd q.2 (by decide)
            · have : mny false x k = 5 := q.2
              omega
          have hm : mny false x (k + 1) = mny false x k + 1 := cn_t (f := fun j => isP false (x j)) (by show isP false (x k) = true; rw [eP]; exact p)
          exact Or.inl ⟨(), ⟨by omega, by omega⟩, by rw [if_pos m], by rw [if_neg hb]⟩
        · have hb : bad false x k := bad_iff.mpr (Or.inr ⟨by rw [eP]; exact p, show mny false x k = 5 by omega⟩)
          exact Or.inr (by rw [if_neg m, if_pos hb])
      · have hb : bad false x k := bad_iff.mpr (Or.inl ⟨hs, by rw [eP]; simpa using p⟩)
        exact Or.inr (by rw [if_pos p, if_pos hb]))
    (fun n c _ => by
      show fX5_patternFault_2 G (n + 1) (nI len) = some (fi false x (len - len) len)
      rw [fX5_patternFault_2, h1, if_pos (Int32.le_refl _), Nat.sub_self]
      rfl)
    0 () (Nat.zero_le _) ⟨rfl, by decide⟩
/-- the index of the fault, with that of the empty text -/
noncomputable def FI (r : Bool) (x : Nat → Int32) (len : Nat) : Int32 := if len = 0 then nI 0 else fi r x len 0
theorem faultIndex_e (G : GT) {x : Nat → Int32} {len : Nat} (hT : Tx G x len) {a : Int32} {r : Bool} (ha : (a = nI 0) = (r = false)) : fX5_faultIndex G a = some (FI r x len) := by
  obtain ⟨h1, h2, -⟩ := id hT
  unfold fX5_faultIndex FI
  rw [ropeFault_e G hT, patternFault_e G hT, h1]
  simp (disch := omega) only [lit, litN5, le_nI, lt_nI, eq_nI, nI_nN, nN_nI, nN_lt, nN_le, lt_nN, nI_add, mul_nI, sub_nI, dec_nI, cl_nI, inb_nI, bd_some, bd2_some, gd_true, b01, isB_ite, isB_0, isB_1, ha]
  by_cases e : len = 0
  · rw [if_pos e, if_pos e]
  · rw [if_neg e, if_neg e]
    cases r with
    | false => rw [if_pos rfl]
    | true => rw [if_neg (by decide)]
theorem FI_cases (r : Bool) (x : Nat → Int32) (len : Nat) : (FI r x len = nN ∧ 0 < len ∧ ∀ j, j < len → ¬ bad r x j) ∨ (∃ j, j < len ∧ FI r x len = nI j ∧ fk r x len 0 = fkd r (x j)) ∨ (len = 0 ∧ FI r x len = nI 0 ∧ fk r x len 0 = nI 1) := by
  unfold FI
  by_cases e : len = 0
  · subst e; exact Or.inr (Or.inr ⟨rfl, rfl, rfl⟩)
  · rw [if_neg e]
    rcases fi_cases r x len 0 with ⟨h1, h2, h3⟩ | ⟨j, h1, h2, h3, h4⟩
    · exact Or.inl ⟨h1, by omega, fun j hj => h3 j (Nat.zero_le _) (by omega)⟩
    · exact Or.inr (Or.inl ⟨j, by omega, h3, h4⟩)
theorem faultKind_e (G : GT) {x : Nat → Int32} {len : Nat} (hT : Tx G x len) {a : Int32} {r : Bool} (ha : (a = nI 0) = (r = false)) (hf : ¬ FI r x len = nN) : fX5_faultKind G a (FI r x len) = some (fk r x len 0) := by
  obtain ⟨h1, h2, -⟩ := id hT
  rcases FI_cases r x len with ⟨q, -, -⟩ | ⟨j, q1, q2, q3⟩ | ⟨q1, q2, q3⟩
  · exact absurd q hf
  · rw [q2, q3]
    unfold fX5_faultKind fkd fX5_faultKind_36
    rw [charAt_e G hT (by omega), h1]
    simp (disch := omega) only [lit, litN5, le_nI, lt_nI, eq_nI, nI_nN, nN_nI, nN_lt, nN_le, lt_nN, nI_add, mul_nI, sub_nI, dec_nI, cl_nI, inb_nI, bd_some, bd2_some, gd_true, b01, isB_ite, isB_0, isB_1, isKind5, isPlace5, isDigit5, ha]
    rw [if_pos q1]
    cases hk : isK (x j) with
    | true => rw [if_neg (by decide), if_pos (by unfold isP; simp [hk])]
    | false =>
      cases r with
      | false =>
        have eP : isP false (x j) = false := by unfold isP; simp [hk]
        rw [if_pos (by decide), if_pos rfl, eP]
        by_cases e : nI 48 ≤ x j ∧ x j ≤ nI 57
        · rw [if_neg (fun q => q e), if_neg (show ¬ (false = true) by decide), if_pos e]
        · rw [if_pos e, if_neg (show ¬ (false = true) by decide), if_neg e]
      | true =>
        rw [if_pos (by decide), if_neg (by decide)]
        by_cases p : isP true (x j) = true
        · rw [if_neg (fun q => q p), if_pos p]
        · rw [if_pos p, if_neg p]
          by_cases e : nI 48 ≤ x j ∧ x j ≤ nI 57
          · rw [if_neg (fun q => q e), if_pos e]
          · rw [if_pos e, if_neg e]
  · rw [q2, q3]
    unfold fX5_faultKind
    rw [h1, q1]
    simp (disch := omega) only [lit, litN5, le_nI, lt_nI, eq_nI, nI_nN, nN_nI, nN_lt, nN_le, lt_nN, nI_add, mul_nI, sub_nI, dec_nI, cl_nI, inb_nI, bd_some, bd2_some, gd_true, b01, isB_ite, isB_0, isB_1]
    rw [if_neg (by decide)]
/-! the reference's fault -/
theorem ff153 (G : GT) (a1 : Int32) (m k : Nat) (s : Bool) (k4 : Int32 → Int32 → Option (Int32 × GT)) : fX8_findFault_153 G a1 (nI m) (nI k) (if s = true then nI 1 else nI 0) k4 = k4 (nI (m + cond s 1 0)) (nI (k + 1)) := by
  unfold fX8_findFault_153
  simp (disch := omega) only [lit, litN5, le_nI, lt_nI, eq_nI, nI_nN, nN_nI, nN_lt, nN_le, lt_nN, nI_add, mul_nI, sub_nI, dec_nI, cl_nI, inb_nI, bd_some, bd2_some, gd_true, b01, isB_ite, isB_0, isB_1]
  cases s with
  | true => rw [if_neg (by decide)]; rfl
  | false => rw [if_pos (by decide)]; rfl
theorem ff127 (G : GT) {a1 : Int32} {r : Bool} (ha : (a1 = nI 0) = (r = false)) {m : Nat} (k : Nat) (hm : m ≤ 40) (s : Bool) (k4 : Int32 → Int32 → Option (Int32 × GT)) : fX8_findFault_127 G a1 (nI m) (nI k) (if s = true then nI 1 else nI 0) k4 = if s = true ∧ m = cap r then some (nI k, up3 G 22 0 8 (nI 3)) else k4 (nI (m + cond s 1 0)) (nI (k + 1)) := by
  unfold fX8_findFault_127 fX8_findFault_143
  simp (disch := omega) only [lit, litN5, le_nI, lt_nI, eq_nI, nI_nN, nN_nI, nN_lt, nN_le, lt_nN, nI_add, mul_nI, sub_nI, dec_nI, cl_nI, inb_nI, bd_some, bd2_some, gd_true, b01, isB_ite, isB_0, isB_1, ha, ff153, st3_e]
  cases s with
  | false => rw [if_pos (by decide), if_neg (show ¬ (false = true ∧ m = cap r) from fun q => absurd q.1 (by decide))]
  | true =>
    rw [if_neg (by decide)]
    cases r with
    | false =>
      rw [if_pos rfl]
      by_cases e : m = 5
      · rw [if_pos e, if_pos ⟨rfl, e⟩]
      · rw [if_neg e, if_neg (fun q => e q.2)]
    | true =>
      rw [if_neg (by decide)]
      by_cases e : m = 40
      · rw [if_pos e, if_pos ⟨rfl, e⟩]
      · rw [if_neg e, if_neg (fun q => e q.2)]
theorem ff92 (G : GT) {a1 : Int32} {r : Bool} (ha : (a1 = nI 0) = (r = false)) {m : Nat} (k : Nat) (hm : m ≤ 40) (c : Int32) (s u : Bool) (k4 : Int32 → Int32 → Option (Int32 × GT)) : fX8_findFault_92 G a1 (nI m) (nI k) c (if s = true then nI 1 else nI 0) (if u = true then nI 1 else nI 0) k4 = if u = false ∧ s = false then some (nI k, up3 G 22 0 8 (if nI 48 ≤ c ∧ c ≤ nI 57 then nI 2 else nI 4)) else if s = true ∧ m = cap r then some (nI k, up3 G 22 0 8 (nI 3)) else k4 (nI (m + cond s 1 0)) (nI (k + 1)) := by
  unfold fX8_findFault_92
  rw [ff127 G ha k hm]
  simp (disch := omega) only [lit, litN5, le_nI, lt_nI, eq_nI, nI_nN, nN_nI, nN_lt, nN_le, lt_nN, nI_add, mul_nI, sub_nI, dec_nI, cl_nI, inb_nI, bd_some, bd2_some, gd_true, b01, isB_ite, isB_0, isB_1, in_e, st3_e]
  cases u with
  | true => rw [if_neg (by decide), if_neg (show ¬ (true = false ∧ s = false) from fun q => absurd q.1 (by decide))]
  | false =>
    rw [if_pos (by decide)]
    cases s with
    | true => rw [if_neg (by decide), if_neg (show ¬ (false = false ∧ true = false) from fun q => absurd q.2 (by decide))]
    | false =>
      rw [if_pos (by decide)]
      by_cases e : nI 48 ≤ c ∧ c ≤ nI 57
      · rw [if_neg (show ¬ ¬ (nI 48 ≤ c ∧ c ≤ nI 57) from fun q => q e), if_pos (show false = false ∧ false = false from ⟨rfl, rfl⟩), if_pos e]
      · rw [if_pos e, if_pos (show false = false ∧ false = false from ⟨rfl, rfl⟩), if_neg e]
theorem ff52 (G : GT) {a1 : Int32} {r : Bool} (ha : (a1 = nI 0) = (r = false)) (m : Int32) {k : Nat} (hk : k < 50) (s : Int32) (k4 : Int32 → Int32 → Option (Int32 × GT)) : fX8_findFault_52 G a1 m (nI k) (G 27 0 k) s k4 = fX8_findFault_92 G a1 m (nI k) (G 27 0 k) s (if su r (G 27 0) k = true then nI 1 else nI 0) k4 := by
  unfold fX8_findFault_52 fX8_findFault_91
  simp (disch := omega) only [lit, ha, le_nI, bd_some, in_e]
  unfold su
  cases r with
  | false => rw [if_pos rfl]; rfl
  | true =>
    rw [if_neg (by decide), Bool.true_and]
    by_cases e : G 27 0 k = nI 33
    · rw [if_pos e, decide_eq_true e, Bool.true_and]
      by_cases z : k ≤ 0
      · rw [if_pos z, show decide (0 < k) = false by simp only [decide_eq_false_iff_not]; omega]; rfl
      · rw [if_neg z, show decide (0 < k) = true by simp only [decide_eq_true_eq]; omega, Bool.true_and]
        simp (disch := omega) only [lit, litN5, le_nI, lt_nI, eq_nI, nI_nN, nN_nI, nN_lt, nN_le, lt_nN, nI_add, mul_nI, sub_nI, dec_nI, cl_nI, inb_nI, bd_some, bd2_some, gd_true, b01, isB_ite, isB_0, isB_1]
        rw [gd_dec _ (by omega)]
        unfold isK
        by_cases q : nI 49 ≤ G 27 0 (k - 1) ∧ G 27 0 (k - 1) ≤ nI 53
        · rw [if_neg (fun h => h q), decide_eq_true q, if_pos rfl]
        · rw [if_pos q, decide_eq_false q, if_neg (by decide)]
    · rw [if_neg e, decide_eq_false e]; rfl
theorem ff_e (G : GT) {len : Nat} (h7 : G 22 0 7 = nI len) (hlen : len ≤ 50) {a1 : Int32} {r : Bool} (ha : (a1 = nI 0) = (r = false)) : fX8_findFault G a1 = some (FI r (G 27 0) len, up3 G 22 0 8 (fk r (G 27 0) len 0)) := by
  have hcap := cap_le r
  have key := lp_fu (fun n (_ : Unit) k => fX8_findFault_4 G a1 n (nI (mny r (G 27 0) k)) (nI k)) len (fun _ k => some (if len = 0 then nI 0 else fi r (G 27 0) (len - k) k, up3 G 22 0 8 (fk r (G 27 0) (len - k) k))) (fun _ k => mny r (G 27 0) k ≤ cap r) (by omega)
    (fun n c k hk hc => by
      show (∃ s' : Unit, mny r (G 27 0) (k + 1) ≤ cap r ∧ fX8_findFault_4 G a1 (n + 1) (nI (mny r (G 27 0) k)) (nI k) = fX8_findFault_4 G a1 n (nI (mny r (G 27 0) (k + 1))) (nI (k + 1)) ∧ some (if len = 0 then nI 0 else fi r (G 27 0) (len - k) k, up3 G 22 0 8 (fk r (G 27 0) (len - k) k)) = some (if len = 0 then nI 0 else fi r (G 27 0) (len - (k + 1)) (k + 1), up3 G 22 0 8 (fk r (G 27 0) (len - (k + 1)) (k + 1)))) ∨ fX8_findFault_4 G a1 (n + 1) (nI (mny r (G 27 0) k)) (nI k) = some (if len = 0 then nI 0 else fi r (G 27 0) (len - k) k, up3 G 22 0 8 (fk r (G 27 0) (len - k) k))
      have hc : mny r (G 27 0) k ≤ cap r := hc
      have e1 : fX8_findFault_4 G a1 (n + 1) (nI (mny r (G 27 0) k)) (nI k) = fX8_findFault_92 G a1 (nI (mny r (G 27 0) k)) (nI k) (G 27 0 k) (if isP r (G 27 0 k) = true then nI 1 else nI 0) (if su r (G 27 0) k = true then nI 1 else nI 0) (fX8_findFault_4 G a1 n) := by
        rw [fX8_findFault_4]
        unfold fX8_findFault_47 fX8_findFault_51
        simp (disch := omega) only [lit, litN5, le_nI, lt_nI, eq_nI, nI_nN, nN_nI, nN_lt, nN_le, lt_nN, nI_add, mul_nI, sub_nI, dec_nI, cl_nI, inb_nI, bd_some, bd2_some, gd_true, b01, isB_ite, isB_0, isB_1, h7, in_e, ha]
        rw [if_neg (by omega), gd_dec _ (by omega), ff52 G ha _ (by omega), ff52 G ha _ (by omega)]
        unfold isP
        by_cases q : isK (G 27 0 k) = true
        · have q2 : nI 49 ≤ G 27 0 k ∧ G 27 0 k ≤ nI 53 := by unfold isK at q; simpa using q
          rw [if_neg (fun h => h q2), q, Bool.true_or]; rfl
        · have q2 : ¬ (nI 49 ≤ G 27 0 k ∧ G 27 0 k ≤ nI 53) := by unfold isK at q; simpa using q
          rw [if_pos q2, show isK (G 27 0 k) = false by simpa using q, Bool.false_or]
          cases r with
          | false => rw [if_pos (show false = false from rfl), Bool.false_and]; rfl
          | true =>
            rw [if_neg (show ¬ (true = false) by decide), Bool.true_and]
            by_cases e : G 27 0 k = nI 46
            · rw [if_pos e, decide_eq_true e]; rfl
            · rw [if_neg e, decide_eq_false e]; rfl
      rw [e1, ff92 G ha k (by omega), show len - k = (len - (k + 1)) + 1 by omega, fi, fk, if_neg (show ¬ len = 0 by omega), if_neg (show ¬ len = 0 by omega)]
      unfold fkd
      cases hp : isP r (G 27 0 k) with
      | false =>
        cases hs : su r (G 27 0) k with
        | false =>
          have hb : bad r (G 27 0) k = true := bad_iff.mpr (Or.inl ⟨hs, hp⟩)
          refine Or.inr ?_
          rw [if_pos (show false = false ∧ false = false from ⟨rfl, rfl⟩), if_pos hb, if_pos hb, if_neg (show ¬ (false = true) by decide)]
        | true =>
          have hb : ¬ bad r (G 27 0) k = true := fun q => by
            rcases bad_iff.mp q with q | q
            · rw [hs] at q; exact absurd q.1 (by decide)
            · rw [hp] at q; exact absurd q.1 (by decide)
          have hm : mny r (G 27 0) (k + 1) = mny r (G 27 0) k := cn_f (f := fun j => isP r (G 27 0 j)) hp
          refine Or.inl ⟨(), by rw [hm]; exact hc, ?_, by rw [if_neg hb, if_neg hb]⟩
          rw [if_neg (show ¬ (true = false ∧ false = false) by decide), if_neg (show ¬ (false = true ∧ mny r (G 27 0) k = cap r) from fun q => absurd q.1 (by decide)), hm]; rfl
      | true =>
        rw [if_neg (show ¬ (su r (G 27 0) k = false ∧ true = false) from fun q => absurd q.2 (by decide))]
        by_cases m : mny r (G 27 0) k = cap r
        · have hb : bad r (G 27 0) k = true := bad_iff.mpr (Or.inr ⟨hp, m⟩)
          refine Or.inr ?_
          rw [if_pos (show true = true ∧ mny r (G 27 0) k = cap r from ⟨rfl, m⟩), if_pos hb, if_pos hb, if_pos (show true = true from rfl)]
        · have hb : ¬ bad r (G 27 0) k = true := fun q => by
            rcases bad_iff.mp q with q | q
            · rw [hp] at q; exact absurd q.2 (by decide)
            · exact m q.2
          have hm : mny r (G 27 0) (k + 1) = mny r (G 27 0) k + 1 := cn_t (f := fun j => isP r (G 27 0 j)) hp
          refine Or.inl ⟨(), by rw [hm]; omega, ?_, by rw [if_neg hb, if_neg hb]⟩
          rw [if_neg (show ¬ (true = true ∧ mny r (G 27 0) k = cap r) from fun q => m q.2), hm]; rfl)
    (fun n c _ => by
      show fX8_findFault_4 G a1 (n + 1) _ (nI len) = some (if len = 0 then nI 0 else fi r (G 27 0) (len - len) len, up3 G 22 0 8 (fk r (G 27 0) (len - len) len))
      rw [fX8_findFault_4, h7, if_pos (Int32.le_refl _), st3_e, Nat.sub_self, up3_r, if_neg (show ¬ (22 = 22 ∧ 0 = 0 ∧ 7 = 8) by omega), h7]
      simp (disch := omega) only [lit, litN5, le_nI, lt_nI, eq_nI, nI_nN, nN_nI, nN_lt, nN_le, lt_nN, nI_add, mul_nI, sub_nI, dec_nI, cl_nI, inb_nI, bd_some, bd2_some, gd_true, b01, isB_ite, isB_0, isB_1]
      by_cases e : len = 0
      · rw [if_pos e, if_pos e]; rfl
      · rw [if_neg e, if_neg e]; rfl)
    0 () (Nat.zero_le _) (Nat.zero_le _)
  exact key
