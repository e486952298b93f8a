/-! ring: the reference's inner loop -/
/-- learner l's row of words heard, the first n words -/
def rh (z : Nat → Int32) (ws l : Nat) (y : Nat → Int32) : Nat → Nat → Int32
  | 0 => y
  | n + 1 => upd (rh z ws l y n) (177 + 16 * l + n) (rh z ws l y n (177 + 16 * l + n) + nI (cn (isv z z ws (nI n)) 40))
theorem rh_ne {z y : Nat → Int32} {ws l j : Nat} : ∀ {n : Nat}, (j < 177 + 16 * l ∨ 177 + 16 * l + n ≤ j) → rh z ws l y n j = y j
  | 0, _ => rfl
  | n + 1, h => by
    unfold rh
    rw [upd_ne (by omega)]
    exact rh_ne (by omega)
theorem rh_at {z y : Nat → Int32} {ws l w : Nat} : ∀ {n : Nat}, w < n → rh z ws l y n (177 + 16 * l + w) = y (177 + 16 * l + w) + nI (cn (isv z z ws (nI w)) 40)
  | 0, h => absurd h (Nat.not_lt_zero _)
  | n + 1, h => by
    unfold rh
    by_cases e : w = n
    · subst e
      rw [upd_at, rh_ne (by omega)]
    · rw [upd_ne (by omega)]
      exact rh_at (by omega)
