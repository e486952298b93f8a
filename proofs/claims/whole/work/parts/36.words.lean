/-! words, over the 289 numbers x of a state -/
def pt (x : Nat → Int32) (w k : Nat) : Int32 := x (81 + 5 * w + k)
def plF (x : Nat → Int32) (w : Nat) : Nat → Nat → Nat
  | 0, _ => 0
  | n + 1, k => if pt x w k ≤ nI 0 then 0 else plF x w n (k + 1) + 1
/-- the length of a word's pattern -/
def pl (x : Nat → Int32) (w : Nat) : Nat := plF x w 5 0
theorem plF_le (x : Nat → Int32) (w : Nat) : ∀ n k, plF x w n k ≤ n
  | 0, _ => Nat.le_refl 0
  | n + 1, k => by
    have := plF_le x w n (k + 1)
    unfold plF
    split <;> omega
theorem pl_le (x : Nat → Int32) (w : Nat) : pl x w ≤ 5 := plF_le x w 5 0
theorem plF_in (x : Nat → Int32) (w : Nat) : ∀ n k j, j < plF x w n k → ¬ pt x w (k + j) ≤ nI 0
  | 0, _, _, h => absurd h (Nat.not_lt_zero _)
  | n + 1, k, j, h => by
    unfold plF at h
    by_cases e : pt x w k ≤ nI 0
    · rw [if_pos e] at h; exact absurd h (Nat.not_lt_zero _)
    · rw [if_neg e] at h
      cases j with
      | zero => exact e
      | succ j =>
        have := plF_in x w n (k + 1) j (by omega)
        rw [show k + (j + 1) = k + 1 + j by omega]
        exact this
theorem pl_in {x : Nat → Int32} {w j : Nat} (h : j < pl x w) : ¬ pt x w j ≤ nI 0 := by
  have := plF_in x w 5 0 j h
  rwa [Nat.zero_add] at this
theorem pl_end {x : Nat → Int32} {w : Nat} (h : pl x w < 5) : pt x w (pl x w) ≤ nI 0 := by
  have key : ∀ n k, plF x w n k < n → pt x w (k + plF x w n k) ≤ nI 0 := by
    intro n
    induction n with
    | zero => intro k h; exact absurd h (Nat.not_lt_zero _)
    | succ n ih =>
      intro k h
      unfold plF at h ⊢
      by_cases e : pt x w k ≤ nI 0
      · rw [if_pos e]; exact e
      · rw [if_neg e] at h ⊢
        have := ih (k + 1) (by omega)
        rw [show k + (plF x w n (k + 1) + 1) = k + 1 + plF x w n (k + 1) by omega]
        exact this
  have := key 5 0 h
  rwa [Nat.zero_add] at this
/-- the words of a state: ws of them, each pattern of 1 to 5 kinds and zeros behind, no two the same -/
def Wd (x : Nat → Int32) (ws : Nat) : Prop := x 80 = nI ws ∧ ws ≤ 16 ∧ (∀ w, w < ws → 1 ≤ pl x w) ∧ (∀ w k, w < ws → pl x w ≤ k → k < 5 → pt x w k = nI 0) ∧ ∀ v w, v < ws → w < ws → (∀ k, k < 5 → pt x v k = pt x w k) → v = w
/-- the knots from p on begin with the first n kinds of the word -/
def atb (g x : Nat → Int32) (w p : Nat) : Nat → Bool
  | 0 => true
  | k + 1 => atb g x w p k && decide (pt x w k = kv g (p + k))
theorem atb_iff {g x : Nat → Int32} {w p : Nat} : ∀ {n : Nat}, atb g x w p n = true ↔ ∀ k, k < n → pt x w k = kv g (p + k)
  | 0 => ⟨fun _ k h => absurd h (Nat.not_lt_zero _), fun _ => rfl⟩
  | n + 1 => by
    unfold atb
    rw [Bool.and_eq_true, atb_iff, decide_eq_true_eq]
    exact ⟨fun h k hk => by
      rcases Nat.lt_or_ge k n with q | q
      · exact h.1 k q
      · obtain rfl : k = n := by omega
        exact h.2, fun h => ⟨fun k hk => h k (by omega), h n (by omega)⟩⟩
def mt (g x : Nat → Int32) (len w p : Nat) : Bool := decide (pl x w = len) && atb g x w p (pl x w)
theorem mt_iff {g x : Nat → Int32} {len w p : Nat} : mt g x len w p = true ↔ pl x w = len ∧ atb g x w p (pl x w) = true := by
  unfold mt
  rw [Bool.and_eq_true, decide_eq_true_eq]
/-- the first word that matches -/
def wfF (g x : Nat → Int32) (len p : Nat) : Nat → Nat → Int32
  | 0, _ => nN
  | d + 1, w => if mt g x len w p = true then nI w else wfF g x len p d (w + 1)
/-- the last word that matches, among the first n -/
def wlF (g x : Nat → Int32) (len p : Nat) : Nat → Int32
  | 0 => nN
  | n + 1 => if mt g x len n p = true then nI n else wlF g x len p n
theorem mt_one {g x : Nat → Int32} {ws len v w p : Nat} (h : Wd x ws) (hv : v < ws) (hw : w < ws) (h1 : mt g x len v p = true) (h2 : mt g x len w p = true) : v = w := by
  obtain ⟨-, -, -, h4, h5⟩ := h
  unfold mt at h1 h2
  rw [Bool.and_eq_true, decide_eq_true_eq, atb_iff] at h1 h2
  refine h5 v w hv hw (fun k hk => ?_)
  rcases Nat.lt_or_ge k len with q | q
  · rw [h1.2 k (by omega), h2.2 k (by omega)]
  · rw [h4 v k hv (by omega) hk, h4 w k hw (by omega) hk]
theorem wfF_none {g x : Nat → Int32} {len p : Nat} : ∀ (d w : Nat), (∀ v, w ≤ v → v < w + d → mt g x len v p = false) → wfF g x len p d w = nN
  | 0, _, _ => rfl
  | d + 1, w, h => by
    unfold wfF
    rw [if_neg (by rw [h w (by omega) (by omega)]; decide)]
    exact wfF_none d (w + 1) (fun v h1 h2 => h v (by omega) (by omega))
theorem wfF_some {g x : Nat → Int32} {len p u : Nat} (hu : mt g x len u p = true) : ∀ (d w : Nat), w ≤ u → u < w + d → (∀ v, v < w + d → mt g x len v p = true → v = u) → wfF g x len p d w = nI u
  | 0, w, h1, h2, _ => by omega
  | d + 1, w, h1, h2, h3 => by
    unfold wfF
    by_cases e : mt g x len w p = true
    · rw [if_pos e, h3 w (by omega) e]
    · rw [if_neg e]
      have : w ≠ u := fun q => e (q ▸ hu)
      exact wfF_some hu d (w + 1) (by omega) (by omega) (fun v h => h3 v (by omega))
theorem wlF_none {g x : Nat → Int32} {len p : Nat} : ∀ (n : Nat), (∀ v, v < n → mt g x len v p = false) → wlF g x len p n = nN
  | 0, _ => rfl
  | n + 1, h => by
    unfold wlF
    rw [if_neg (by rw [h n (by omega)]; decide)]
    exact wlF_none n (fun v h1 => h v (by omega))
theorem wlF_some {g x : Nat → Int32} {len p u : Nat} (hu : mt g x len u p = true) : ∀ (n : Nat), u < n → (∀ v, v < n → mt g x len v p = true → v = u) → wlF g x len p n = nI u
  | 0, h, _ => absurd h (Nat.not_lt_zero _)
  | n + 1, h, h3 => by
    unfold wlF
    by_cases e : mt g x len n p = true
    · rw [if_pos e, h3 n (by omega) e]
    · rw [if_neg e]
      have : n ≠ u := fun q => e (q ▸ hu)
      exact wlF_some hu n (by omega) (fun v h => h3 v (by omega))
/-- the word from p on (nN if there is none) -/
def wi (g x : Nat → Int32) (ws len p : Nat) : Int32 := wfF g x len p ws 0
theorem wi_cases (g x : Nat → Int32) {ws len p : Nat} (h : Wd x ws) : (∃ u, u < ws ∧ mt g x len u p = true ∧ wi g x ws len p = nI u) ∨ ((∀ u, u < ws → mt g x len u p = false) ∧ wi g x ws len p = nN) := by
  by_cases e : ∃ u, u < ws ∧ mt g x len u p = true
  · obtain ⟨u, h1, h2⟩ := e
    exact Or.inl ⟨u, h1, h2, wfF_some h2 ws 0 (Nat.zero_le _) (by omega) (fun v hv hm => mt_one h (by omega) h1 hm h2)⟩
  · have h2 : ∀ u, u < ws → mt g x len u p = false := fun u hu => by
      cases hm : mt g x len u p with
      | true => exact absurd ⟨u, hu, hm⟩ e
      | false => rfl
    exact Or.inr ⟨h2, wfF_none ws 0 (fun v _ hv => h2 v (by omega))⟩
theorem wl_eq {g x : Nat → Int32} {ws len p : Nat} (h : Wd x ws) : wlF g x len p ws = wi g x ws len p := by
  rcases wi_cases g x (len := len) (p := p) h with ⟨u, h1, h2, h3⟩ | ⟨h1, h2⟩
  · rw [h3]; exact wlF_some h2 ws h1 (fun v hv hm => mt_one h hv h1 hm h2)
  · rw [h2]; exact wlF_none ws h1
/-! the reference's words -/
theorem patternAt8 (G : GT) {w k : Nat} (h : 81 + 5 * w + k < 289) : fX8_patternAt G (nI w) (nI k) = some (pt (G 23 0) w k) := by
  unfold fX8_patternAt pt
  simp (disch := omega) only [lit, litN5, le_nI, lt_nI, eq_nI, nI_nN, nN_nI, nN_lt, nN_le, lt_nN, nI_add, mul_nI, sub_nI, dec_nI, cl_nI, inb_nI, bd_some, bd2_some, gd_true, b01, isB_ite, isB_0, isB_1]
  rw [gd_dec _ h]
theorem lengthOf8 (G : GT) {w : Nat} (hw : w < 16) : fX8_lengthOf G (nI w) = some (nI (pl (G 23 0) w)) := by
  unfold fX8_lengthOf
  have key := lp_fu (fun n (_ : Unit) i => fX8_lengthOf_2 G (nI w) n (nI i)) 5 (fun _ i => some (nI (i + plF (G 23 0) w (5 - i) i))) (fun _ _ => True) (by decide)
    (fun n c i hi _ => by
      show (∃ s' : Unit, True ∧ fX8_lengthOf_2 G (nI w) (n + 1) (nI i) = fX8_lengthOf_2 G (nI w) n (nI (i + 1)) ∧ some (nI (i + plF (G 23 0) w (5 - i) i)) = some (nI (i + 1 + plF (G 23 0) w (5 - (i + 1)) (i + 1)))) ∨ fX8_lengthOf_2 G (nI w) (n + 1) (nI i) = some (nI (i + plF (G 23 0) w (5 - i) i))
      rw [fX8_lengthOf_2, patternAt8 G (by omega), show 5 - i = (5 - (i + 1)) + 1 by omega]
      simp (disch := omega) only [lit, litN5, le_nI, lt_nI, eq_nI, nI_nN, nN_nI, nN_lt, nN_le, lt_nN, nI_add, mul_nI, sub_nI, dec_nI, cl_nI, inb_nI, bd_some, bd2_some, gd_true, b01, isB_ite, isB_0, isB_1, plF]
      rw [if_neg (by omega)]
      by_cases e : pt (G 23 0) w i ≤ nI 0
      · rw [if_pos e]; exact Or.inr (by rw [if_pos e]; rfl)
      · rw [if_neg e]; exact Or.inl ⟨(), trivial, rfl, by rw [if_neg e]; congr 2; omega⟩)
    (fun n c _ => by
      show fX8_lengthOf_2 G (nI w) (n + 1) (nI 5) = some (nI (5 + plF (G 23 0) w (5 - 5) 5))
      rw [fX8_lengthOf_2, if_pos (by decide)]
      rfl)
    0 () (by decide) trivial
  rw [Nat.zero_add] at key
  exact key
theorem isAt8 (G : GT) (hz : Kz (G 23 0)) {w p : Nat} (hw : w < 16) (hp : p ≤ 40) : fX8_isAt G (nI w) (nI p) = some (if atb (G 23 0) (G 23 0) w p (pl (G 23 0) w) = true then nI 1 else nI 0) := by
  have hl := pl_le (G 23 0) w
  unfold fX8_isAt
  refine up_fu (fun n k => fX8_isAt_5 G (nI w) (nI p) n (if atb (G 23 0) (G 23 0) w p k = true then nI 1 else nI 0) (nI k)) (pl (G 23 0) w) _ (by omega) (fun n k hk => ?_) (fun n => ?_)
  · show fX8_isAt_5 G (nI w) (nI p) (n + 1) (if atb (G 23 0) (G 23 0) w p k = true then nI 1 else nI 0) (nI k) = fX8_isAt_5 G (nI w) (nI p) n (if atb (G 23 0) (G 23 0) w p (k + 1) = true then nI 1 else nI 0) (nI (k + 1))
    rw [fX8_isAt_5, lengthOf8 G hw, patternAt8 G (by omega)]
    simp (disch := omega) only [lit, litN5, le_nI, lt_nI, eq_nI, nI_nN, nN_nI, nN_lt, nN_le, lt_nN, nI_add, mul_nI, sub_nI, dec_nI, cl_nI, inb_nI, bd_some, bd2_some, gd_true, b01, isB_ite, isB_0, isB_1, Nat.zero_add]
    rw [if_neg (by omega), isKnot8 G hz (by omega)]
    simp (disch := omega) only [lit, litN5, le_nI, lt_nI, eq_nI, nI_nN, nN_nI, nN_lt, nN_le, lt_nN, nI_add, mul_nI, sub_nI, dec_nI, cl_nI, inb_nI, bd_some, bd2_some, gd_true, b01, isB_ite, isB_0, isB_1]
    by_cases h1 : atb (G 23 0) (G 23 0) w p k = true
    · rw [if_neg (by simp [h1])]
      have hpos := pl_in hk
      by_cases h2 : kn (G 23 0) (p + k) = true
      · have h3 := kn_lt h2
        rw [if_neg (by simp [h2]), gd_dec _ (by omega)]
        unfold atb
        rw [h1, kv_in h3]
        by_cases h4 : G 23 0 (p + k) = pt (G 23 0) w k
        · rw [if_pos h4, if_pos (by simp [h4])]
        · rw [if_neg h4, if_neg (by simp [Ne.symm h4])]
      · have h2' : kn (G 23 0) (p + k) = false := by simpa using h2
        rw [if_pos (by simp [h2'])]
        unfold atb
        have h5 : kv (G 23 0) (p + k) = nI 0 := by rw [kv0]; exact h2'
        rw [if_neg (fun q => hpos (by
          rw [Bool.and_eq_true, decide_eq_true_eq] at q
          rw [q.2, h5]; exact Int32.le_refl _))]
    · rw [if_pos h1]
      unfold atb
      rw [if_neg (fun q => h1 (by rw [Bool.and_eq_true] at q; exact q.1))]
  · show fX8_isAt_5 G (nI w) (nI p) (n + 1) _ (nI (pl (G 23 0) w)) = _
    rw [fX8_isAt_5, lengthOf8 G hw]
    simp (disch := omega) only [lit, litN5, le_nI, lt_nI, eq_nI, nI_nN, nN_nI, nN_lt, nN_le, lt_nN, nI_add, mul_nI, sub_nI, dec_nI, cl_nI, inb_nI, bd_some, bd2_some, gd_true, b01, isB_ite, isB_0, isB_1]
    rw [if_pos (Nat.le_refl _)]
theorem wordFrom8 (G : GT) (hz : Kz (G 23 0)) {ws p : Nat} (hW : Wd (G 23 0) ws) (hp : p ≤ 40) : fX8_wordFrom G (nI p) = some (wi (G 23 0) (G 23 0) ws (ln (G 23 0) p) p) := by
  obtain ⟨h80, hws, -⟩ := id hW
  rw [← wl_eq hW]
  unfold fX8_wordFrom
  refine up_fu (fun n w => fX8_wordFrom_5 G (nI p) n (wlF (G 23 0) (G 23 0) (ln (G 23 0) p) p w) (nI w)) ws _ (by omega) (fun n w hw => ?_) (fun n => ?_)
  · have hl := pl_le (G 23 0) w
    have hl2 := ln_le (G 23 0) p
    show fX8_wordFrom_5 G (nI p) (n + 1) (wlF (G 23 0) (G 23 0) (ln (G 23 0) p) p w) (nI w) = fX8_wordFrom_5 G (nI p) n (wlF (G 23 0) (G 23 0) (ln (G 23 0) p) p (w + 1)) (nI (w + 1))
    rw [fX8_wordFrom_5, lengthOf8 G (by omega), lengthFrom8 G hz hp, isAt8 G hz (by omega) hp]
    simp (disch := omega) only [lit, litN5, le_nI, lt_nI, eq_nI, nI_nN, nN_nI, nN_lt, nN_le, lt_nN, nI_add, mul_nI, sub_nI, dec_nI, cl_nI, inb_nI, bd_some, bd2_some, gd_true, b01, isB_ite, isB_0, isB_1, h80]
    rw [gd_dec _ (by decide), if_neg (by omega)]
    rw [wlF]
    by_cases h1 : pl (G 23 0) w = ln (G 23 0) p
    · rw [if_pos h1]
      by_cases h2 : atb (G 23 0) (G 23 0) w p (pl (G 23 0) w) = true
      · rw [if_neg (by simp [h2]), if_pos (mt_iff.mpr ⟨h1, h2⟩)]
      · rw [if_pos h2, if_neg (fun q => h2 (mt_iff.mp q).2)]
    · rw [if_neg h1, if_neg (fun q => h1 (mt_iff.mp q).1)]
  · show fX8_wordFrom_5 G (nI p) (n + 1) _ (nI ws) = _
    rw [fX8_wordFrom_5]
    simp (disch := omega) only [lit, litN5, le_nI, lt_nI, eq_nI, nI_nN, nN_nI, nN_lt, nN_le, lt_nN, nI_add, mul_nI, sub_nI, dec_nI, cl_nI, inb_nI, bd_some, bd2_some, gd_true, b01, isB_ite, isB_0, isB_1, h80]
    rw [gd_dec _ (by decide), if_pos (Nat.le_refl _)]
