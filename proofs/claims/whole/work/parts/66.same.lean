/-! safePull: the class's cursor -/
def nw (x : Nat → Int32) (ws : Nat) : Nat → Nat → Nat
  | 0, a => a
  | d + 1, a => if rw' x x ws (rs x a) = nN then nw x ws d (a + 1) else a
theorem nextWord_e {G : GT} {i : Nat} {x : Nat → Int32} {ws : Nat} (hR : RD G i x x ws) {a : Nat} (ha : a ≤ cn (bg x) 40) : fX3_nextWord G i (nI a) = some (nI (nw x ws (cn (bg x) 40 - a) a)) := by
  have hle := cn_le (bg x) 40
  unfold fX3_nextWord
  exact lp_fu (fun n (_ : Unit) j => fX3_nextWord_2 G i n (nI j)) (cn (bg x) 40) (fun _ j => some (nI (nw x ws (cn (bg x) 40 - j) j))) (fun _ _ => True) (by omega)
    (fun n c j hj _ => by
      show (∃ s' : Unit, True ∧ fX3_nextWord_2 G i (n + 1) (nI j) = fX3_nextWord_2 G i n (nI (j + 1)) ∧ some (nI (nw x ws (cn (bg x) 40 - j) j)) = some (nI (nw x ws (cn (bg x) 40 - (j + 1)) (j + 1)))) ∨ fX3_nextWord_2 G i (n + 1) (nI j) = some (nI (nw x ws (cn (bg x) 40 - j) j))
      rw [fX3_nextWord_2, hR.1, wordOf3 hR hj, bd_some, show cn (bg x) 40 - j = (cn (bg x) 40 - (j + 1)) + 1 by omega, nw]
      simp only [lit, litN5, nI_add]
      rw [if_neg (show ¬ nI (cn (bg x) 40) ≤ nI j by rw [le_nI (by omega) (by omega)]; omega)]
      by_cases e : rw' x x ws (rs x j) = nN
      · exact Or.inl ⟨(), trivial, by rw [if_pos e], by rw [if_pos e]⟩
      · exact Or.inr (by rw [if_neg e, if_neg e]))
    (fun n c _ => by
      show fX3_nextWord_2 G i (n + 1) (nI (cn (bg x) 40)) = some (nI (nw x ws (cn (bg x) 40 - cn (bg x) 40) (cn (bg x) 40)))
      rw [fX3_nextWord_2, hR.1, if_pos (Int32.le_refl _), Nat.sub_self]
      rfl)
    a () ha trivial
