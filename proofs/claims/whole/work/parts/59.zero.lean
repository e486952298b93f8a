/-! the beginning -/
def Z0 : Nat → Int32 := fun j => if j = 285 then nI 2 else nI 0
theorem z0_eq : G0 23 0 = Z0 := by
  funext j
  unfold Z0
  by_cases e : j = 285
  · subst e; rw [if_pos rfl]; rfl
  · rw [if_neg e]
    simp [G0, e, lit]
theorem z0_ne {j : Nat} (h : j ≠ 285) : Z0 j = nI 0 := by unfold Z0; rw [if_neg h]
theorem z0_wd : Wd Z0 0 := ⟨z0_ne (by decide), by decide, fun w hw => absurd hw (Nat.not_lt_zero _), fun w k hw => absurd hw (Nat.not_lt_zero _), fun v w hv => absurd hv (Nat.not_lt_zero _)⟩
theorem z0_wf : Wf 0 Z0 := ⟨fun p hp => by rw [z0_ne (by omega)]; exact Int32.le_refl _, ⟨0, z0_wd⟩, ⟨2, by decide, by decide, by unfold Z0; rw [if_pos rfl]⟩, fun j hj => ⟨0, Nat.zero_le _, z0_ne (by omega)⟩⟩
theorem g0_0 {a b : Nat} (h1 : a ≠ 7) (h2 : a ≠ 23) (j : Nat) : G0 a b j = nI 0 := by
  unfold G0
  split <;> first | rfl | (exfalso; omega)
theorem inv_0 : Inv 0 G0 := by
  have e7 : G0 7 0 0 = nI 2 := rfl
  have e0 : ∀ a b j, a ≠ 7 → a ≠ 23 → G0 a b j = nI 0 := fun a b j p q => g0_0 p q j
  refine ⟨0, 0, 0, ⟨e0 22 0 3 (by decide) (by decide), e0 12 0 1 (by decide) (by decide), by decide, e0 12 0 2 (by decide) (by decide), by decide⟩, ⟨?_, by rw [z0_eq]; exact z0_wf⟩, fun h hh => absurd hh (Nat.not_lt_zero _), Or.inl ⟨e0 20 0 2 (by decide) (by decide), e0 22 0 5 (by decide) (by decide)⟩, e0 14 0 1 (by decide) (by decide), e0 22 0 7 (by decide) (by decide), by decide, fun j hj => ⟨?_, ?_⟩⟩
  · rw [z0_eq]
    refine ⟨fun p hp => ?_, fun p hp => ?_, ?_, fun j hj => ?_, fun w hw => ?_, fun w hw hw2 => ?_, ?_, fun j hj => ?_, fun l hl => ?_, fun l hl => ?_, ?_, ?_, ?_⟩
    · rw [e0 1 0 p (by decide) (by decide), z0_ne (by omega)]
    · rw [e0 2 0 p (by decide) (by decide), z0_ne (by omega)]
    · rw [e0 3 0 0 (by decide) (by decide), z0_ne (by omega)]
    · rw [e0 6 0 j (by decide) (by decide), z0_ne (by omega)]
    · rw [e0 5 0 w (by decide) (by decide), z0_ne (by omega)]
    · rw [wz_eq z0_wd] at hw; exact absurd hw (Nat.not_lt_zero _)
    · rw [e7]; unfold Z0; rw [if_pos rfl]
    · rw [e0 8 0 j (by decide) (by decide), z0_ne (by omega)]
    · rw [e0 9 0 l (by decide) (by decide), z0_ne (by omega)]
    · rw [e0 10 0 l (by decide) (by decide), z0_ne (by omega)]
    · rw [e0 11 0 3 (by decide) (by decide), z0_ne (by omega)]
    · rw [e0 11 0 4 (by decide) (by decide), z0_ne (by omega)]
    · rw [e0 11 0 5 (by decide) (by decide), z0_ne (by omega)]
  · rw [e0 15 0 j (by decide) (by decide), e0 27 0 j (by decide) (by decide)]
  · rw [e0 27 0 j (by decide) (by decide)]; decide
