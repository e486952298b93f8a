/-! safePull: the reference's outer loop -/
def bsf (q : Nat → Bool) : Nat → Nat
  | 0 => 1
  | n + 1 => if q (n + 2) = true then n + 2 else bsf q n
theorem bsf_le (q : Nat → Bool) : ∀ n, bsf q n ≤ n + 1
  | 0 => Nat.le_refl _
  | n + 1 => by
    have := bsf_le q n
    unfold bsf
    split <;> omega
def sbs (z : Nat → Int32) (ws v : Nat) : Bool := sb z ws (nI v) 21
theorem safe_l {G : GT} (hz : Kz (G 23 0)) {ws : Nat} (hW : Wd (G 23 0) ws) : ∀ (d k n : Nat) (G' : GT), k + d = 8 → d < n → FrM G G' → ∃ G'', fX8_safePull_4 n G' (nI (bsf (sbs (G 23 0) ws) k)) (nI (k + 2)) = some (nI (bsf (sbs (G 23 0) ws) 8), G'') ∧ FrM G G'' := by
  intro d
  induction d with
  | zero =>
    intro k n G' h1 h2 h3
    obtain ⟨m, rfl⟩ : ∃ m, n = m + 1 := ⟨n - 1, by omega⟩
    obtain rfl : k = 8 := by omega
    exact ⟨G', by rw [fX8_safePull_4, if_pos (by decide)], h3⟩
  | succ d ih =>
    intro k n G' h1 h2 h3
    obtain ⟨m, rfl⟩ : ∃ m, n = m + 1 := ⟨n - 1, by omega⟩
    obtain ⟨G2, p1, p2⟩ := isSafe8 hz hW (nI (k + 2)) h3
    obtain ⟨G'', q1, q2⟩ := ih (k + 1) m G2 (by omega) (by omega) p2
    refine ⟨G'', ?_, q2⟩
    rw [← q1, fX8_safePull_4, p1, bd2_some, bsf]
    simp only [lit, nI_add]
    rw [if_neg (show ¬ nI 9 < nI (k + 2) by rw [lt_nI (by decide) (by omega)]; omega)]
    by_cases e : sb (G 23 0) ws (nI (k + 2)) 21 = true
    · rw [if_neg (show ¬ bI (sb (G 23 0) ws (nI (k + 2)) 21) = nI 0 by rw [bI_0, e]; decide), if_pos (show sbs (G 23 0) ws (k + 2) = true from e)]
    · rw [if_pos (show bI (sb (G 23 0) ws (nI (k + 2)) 21) = nI 0 by rw [bI_0]; simpa using e), if_neg (show ¬ sbs (G 23 0) ws (k + 2) = true from e)]
theorem safePull8 {G : GT} (hz : Kz (G 23 0)) {ws : Nat} (hW : Wd (G 23 0) ws) : ∃ G'', fX8_safePull G = some (nI (bsf (sbs (G 23 0) ws) 8), G'') ∧ FrM G G'' :=
  safe_l hz hW 8 0 FU G (by decide) (by rw [FU_eq]; decide) (FrM.rf G)
