/-! safePull: the words in their order, in the reference -/
def wq (g x : Nat → Int32) (ws k : Nat) : Nat → Int32
  | 0 => nN
  | p + 1 => if isw g x ws p = true ∧ cn (isw g x ws) p = k then rw' g x ws p else wq g x ws k p
theorem wq_off {g x : Nat → Int32} {ws k : Nat} : ∀ {n : Nat}, cn (isw g x ws) n ≤ k → wq g x ws k n = nN
  | 0, _ => rfl
  | n + 1, h => by
    unfold wq
    by_cases e : isw g x ws n = true
    · rw [cn_t e] at h
      rw [if_neg (fun q => by omega)]
      exact wq_off (by omega)
    · rw [if_neg (fun q => e q.1)]
      rw [cn_f (by simpa using e)] at h
      exact wq_off h
theorem wq_at {g x : Nat → Int32} {ws p : Nat} (h : isw g x ws p = true) : ∀ {n : Nat}, p < n → wq g x ws (cn (isw g x ws) p) n = rw' g x ws p
  | 0, hp => absurd hp (Nat.not_lt_zero _)
  | n + 1, hp => by
    unfold wq
    by_cases e : isw g x ws n = true ∧ cn (isw g x ws) n = cn (isw g x ws) p
    · rw [if_pos e, cn_inj e.1 h e.2]
    · rw [if_neg e]
      have : p ≠ n := fun q => e ⟨q ▸ h, by rw [q]⟩
      exact wq_at h (by omega)
theorem wordAt8 (G : GT) (hz : Kz (G 23 0)) {ws k : Nat} (hW : Wd (G 23 0) ws) (hk : k < 1000) : fX8_wordAt G (nI k) = some (wq (G 23 0) (G 23 0) ws k 40) := by
  have hws := hW.2.1
  unfold fX8_wordAt
  exact up_fu (fun n p => fX8_wordAt_8 G (nI k) n (nI (cn (isw (G 23 0) (G 23 0) ws) p)) (wq (G 23 0) (G 23 0) ws k p) (nI p)) 40 _ (by decide)
    (fun n p hp => by
      show fX8_wordAt_8 G (nI k) (n + 1) (nI (cn (isw (G 23 0) (G 23 0) ws) p)) (wq (G 23 0) (G 23 0) ws k p) (nI p) = fX8_wordAt_8 G (nI k) n (nI (cn (isw (G 23 0) (G 23 0) ws) (p + 1))) (wq (G 23 0) (G 23 0) ws k (p + 1)) (nI (p + 1))
      have hc := cn_le (isw (G 23 0) (G 23 0) ws) p
      rw [fX8_wordAt_8, begins8 G hz (by omega), bd_some, wordFrom8 G hz hW (by omega), bd_some, bd_some]
      show (if _ then _ else _) = _
      have hw : wi (G 23 0) (G 23 0) ws (ln (G 23 0) p) p = rw' (G 23 0) (G 23 0) ws p := rfl
      rw [hw]
      simp only [lit, nI_add]
      rw [if_neg (show ¬ nI 40 ≤ nI p by rw [le_nI (by decide) (by omega)]; omega)]
      by_cases b : bg (G 23 0) p = true
      · rw [if_pos b, if_neg (show ¬ nI 1 = nI 0 by decide)]
        rcases rw_cases (G 23 0) (G 23 0) hW p with ⟨u, hu, e⟩ | e
        · have hi : isw (G 23 0) (G 23 0) ws p = true := by
            unfold isw
            rw [b, e, decide_eq_true (show ¬ nI u = nN by rw [nI_nN (by omega)]; exact id)]
            rfl
          rw [e, if_neg (show ¬ nI u < nI 0 by rw [lt_nI (by omega) (by decide)]; omega), cn_t hi, wq, e]
          by_cases c : cn (isw (G 23 0) (G 23 0) ws) p = k
          · rw [if_pos (show nI (cn (isw (G 23 0) (G 23 0) ws) p) = nI k by rw [c]), if_pos ⟨hi, c⟩]
          · rw [if_neg (show ¬ nI (cn (isw (G 23 0) (G 23 0) ws) p) = nI k by rw [eq_nI (by omega) (by omega)]; exact c), if_neg (fun q => c q.2)]
        · have hi : isw (G 23 0) (G 23 0) ws p = false := by
            unfold isw
            rw [e, decide_eq_false (show ¬ ¬ nN = nN from fun q => q rfl), Bool.and_false]
          rw [e, if_pos (show nN < nI 0 by decide), cn_f hi, wq, hi, if_neg (fun q => absurd q.1 (by decide))]
      · have hi : isw (G 23 0) (G 23 0) ws p = false := by
          unfold isw
          rw [show bg (G 23 0) p = false by simpa using b, Bool.false_and]
        rw [if_neg b, if_pos rfl, cn_f hi, wq, hi, if_neg (fun q => absurd q.1 (by decide))])
    (fun n => by
      show fX8_wordAt_8 G (nI k) (n + 1) _ _ (nI 40) = _
      rw [fX8_wordAt_8, if_pos (by decide)])
