/-! ring: how often each word is heard -/
def hcn (g x : Nat → Int32) (ws w : Nat) : Nat → Nat → Nat := fun c p => if rw' g x ws p = nI w then c + 1 else c
theorem hr_at {g x f : Nat → Int32} {ws l w : Nat} (hW : Wd x ws) (hw : w < 16) : ∀ j, hr g x ws l f j (l * 16 + w) = f (l * 16 + w) + nI (fj g (hcn g x ws w) 0 j)
  | 0 => (Int32.add_zero _).symm
  | j + 1 => by
    have ih := hr_at (g := g) (f := f) (l := l) hW hw j
    have hws := hW.2.1
    show hr g x ws l f (j + 1) (l * 16 + w) = f (l * 16 + w) + nI (hcn g x ws w (fj g (hcn g x ws w) 0 j) (rs g j))
    unfold hr hcn
    rcases rw_cases g x hW (rs g j) with ⟨u, hu, e⟩ | e
    · rw [e, if_neg (show ¬ nI u = nN by rw [nI_nN (by omega)]; exact id), cl_nI (by omega)]
      by_cases c : u = w
      · subst c
        rw [upd_at, if_pos rfl, ih, Int32.add_assoc, nI_add]
        rfl
      · rw [upd_ne (by omega), if_neg (show ¬ nI u = nI w by rw [eq_nI (by omega) (by omega)]; exact c), ih]
        rfl
    · rw [e, if_pos rfl, if_neg (show ¬ nN = nI w by rw [nN_nI (by omega)]; exact id), ih]
      rfl
theorem hr_off {g x f : Nat → Int32} {ws l q : Nat} (hW : Wd x ws) (hq : q < l * 16 ∨ l * 16 + ws ≤ q) : ∀ j, hr g x ws l f j q = f q
  | 0 => rfl
  | j + 1 => by
    have ih := hr_off (g := g) (f := f) hW hq j
    have hws := hW.2.1
    unfold hr
    rcases rw_cases g x hW (rs g j) with ⟨u, hu, e⟩ | e
    · rw [e, if_neg (show ¬ nI u = nN by rw [nI_nN (by omega)]; exact id), cl_nI (by omega), upd_ne (by omega), ih]
    · rw [e, if_pos rfl, ih]
theorem fp_isv (g x : Nat → Int32) (ws w : Nat) : ∀ n, fp g (hcn g x ws w) 0 n = cn (isv g x ws (nI w)) n
  | 0 => rfl
  | n + 1 => by
    unfold fp
    rw [fp_isv g x ws w n]
    unfold hcn
    by_cases b : bg g n = true
    · rw [if_pos b]
      by_cases c : rw' g x ws n = nI w
      · rw [if_pos c, cn_t (show isv g x ws (nI w) n = true by unfold isv; rw [b, decide_eq_true c]; rfl)]
      · rw [if_neg c, cn_f (show isv g x ws (nI w) n = false by unfold isv; rw [decide_eq_false c, Bool.and_false])]
    · rw [if_neg b, cn_f (show isv g x ws (nI w) n = false by unfold isv; rw [show bg g n = false by simpa using b, Bool.false_and])]
theorem hr_all {g x f : Nat → Int32} {ws l w : Nat} (hW : Wd x ws) (hw : w < 16) : hr g x ws l f (cn (bg g) 40) (l * 16 + w) = f (l * 16 + w) + nI (cn (isv g x ws (nI w)) 40) := by
  rw [hr_at hW hw, fj_fp g _ _ 40 (Nat.le_refl _), fp_isv]
