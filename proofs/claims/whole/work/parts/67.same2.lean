/-! safePull: the words of a rope as a list -/
def lwf (g x : Nat → Int32) (ws : Nat) : List Int32 → Nat → List Int32 := fun l p => if rw' g x ws p = nN then l else l ++ [rw' g x ws p]
def WL (g x : Nat → Int32) (ws j : Nat) : List Int32 := fj g (lwf g x ws) [] j
theorem lp_len (g x : Nat → Int32) (ws : Nat) : ∀ n, (fp g (lwf g x ws) [] n).length = cn (isw g x ws) n
  | 0 => rfl
  | n + 1 => by
    have ih := lp_len g x ws n
    unfold fp
    by_cases b : bg g n = true
    · rw [if_pos b]
      unfold lwf at ih ⊢
      by_cases e : rw' g x ws n = nN
      · rw [if_pos e, cn_f (show isw g x ws n = false by unfold isw; rw [decide_eq_false (fun q => q e), Bool.and_false])]
        exact ih
      · rw [if_neg e, cn_t (show isw g x ws n = true by unfold isw; rw [b, decide_eq_true e]; rfl), List.length_append, ih]
        rfl
    · rw [if_neg b, cn_f (show isw g x ws n = false by unfold isw; rw [show bg g n = false by simpa using b, Bool.false_and])]
      exact ih
theorem lp_get (g x : Nat → Int32) (ws k : Nat) : ∀ n, ((fp g (lwf g x ws) [] n)[k]?).getD nN = wq g x ws k n
  | 0 => rfl
  | n + 1 => by
    have ih := lp_get g x ws k n
    have hl := lp_len g x ws n
    unfold fp wq
    by_cases b : bg g n = true
    · rw [if_pos b]
      by_cases e : rw' g x ws n = nN
      · have hi : isw g x ws n = false := by unfold isw; rw [decide_eq_false (fun q => q e), Bool.and_false]
        have hl2 : lwf g x ws (fp g (lwf g x ws) [] n) n = fp g (lwf g x ws) [] n := by
          show (if rw' g x ws n = nN then _ else _) = _
          rw [if_pos e]
        rw [hl2, hi, if_neg (fun q => absurd q.1 (by decide))]
        exact ih
      · have hi : isw g x ws n = true := by unfold isw; rw [b, decide_eq_true e]; rfl
        have hl2 : lwf g x ws (fp g (lwf g x ws) [] n) n = fp g (lwf g x ws) [] n ++ [rw' g x ws n] := by
          show (if rw' g x ws n = nN then _ else _) = _
          rw [if_neg e]
        rw [hl2, hi, List.getElem?_append, hl]
        by_cases c : k < cn (isw g x ws) n
        · rw [if_pos c, if_neg (fun q => by omega)]
          exact ih
        · rw [if_neg c]
          by_cases d : cn (isw g x ws) n = k
          · rw [if_pos ⟨rfl, d⟩, d, Nat.sub_self]
            rfl
          · rw [if_neg (fun q => d q.2), wq_off (by omega), List.getElem?_eq_none (by simp; omega)]
            rfl
    · have hi : isw g x ws n = false := by unfold isw; rw [show bg g n = false by simpa using b, Bool.false_and]
      rw [if_neg b, hi, if_neg (fun q => absurd q.1 (by decide))]
      exact ih
theorem lp_ne (g x : Nat → Int32) (ws : Nat) : ∀ n v, v ∈ fp g (lwf g x ws) [] n → ¬ v = nN
  | 0, v, h => by cases h
  | n + 1, v, h => by
    have ih := lp_ne g x ws n v
    unfold fp at h
    by_cases b : bg g n = true
    · rw [if_pos b] at h
      unfold lwf at h ih
      by_cases e : rw' g x ws n = nN
      · rw [if_pos e] at h
        exact ih h
      · rw [if_neg e] at h
        rcases List.mem_append.mp h with h | h
        · exact ih h
        · rw [List.mem_singleton.mp h]
          exact e
    · rw [if_neg b] at h
      exact ih h
theorem cn_sub {f h : Nat → Bool} (e : ∀ p, f p = true → h p = true) : ∀ n, cn f n ≤ cn h n
  | 0 => Nat.le_refl _
  | n + 1 => by
    have ih := cn_sub e n
    unfold cn
    by_cases a : f n = true
    · rw [if_pos a, if_pos (e n a)]
      omega
    · rw [if_neg a]
      omega
theorem isw_le (g x : Nat → Int32) (ws : Nat) : cn (isw g x ws) 40 ≤ 20 := by
  have h1 := runs_le g
  have h2 := cn_sub (f := isw g x ws) (h := bg g) (fun p q => by
    unfold isw at q
    rw [Bool.and_eq_true] at q
    exact q.1) 40
  omega
theorem WL_len (g x : Nat → Int32) (ws : Nat) : (WL g x ws (cn (bg g) 40)).length = cn (isw g x ws) 40 := by
  unfold WL
  rw [fj_fp g _ _ 40 (Nat.le_refl _), lp_len]
theorem WL_get (g x : Nat → Int32) (ws k : Nat) : ((WL g x ws (cn (bg g) 40))[k]?).getD nN = wq g x ws k 40 := by
  unfold WL
  rw [fj_fp g _ _ 40 (Nat.le_refl _), lp_get]
theorem WL_ne {g x : Nat → Int32} {ws : Nat} {v : Int32} (h : v ∈ WL g x ws (cn (bg g) 40)) : ¬ v = nN := by
  unfold WL at h
  rw [fj_fp g _ _ 40 (Nat.le_refl _)] at h
  exact lp_ne g x ws 40 v h
theorem WL_eq {g x z y : Nat → Int32} {ws : Nat} (h : ∀ k, k < 21 → wq g x ws k 40 = wq z y ws k 40) : WL g x ws (cn (bg g) 40) = WL z y ws (cn (bg z) 40) := by
  have l1 := WL_len g x ws
  have l2 := WL_len z y ws
  have m1 := isw_le g x ws
  have m2 := isw_le z y ws
  refine List.ext_getElem? (fun k => ?_)
  by_cases hk : k < 21
  · have e := h k hk
    rw [← WL_get g x ws k, ← WL_get z y ws k] at e
    cases c1 : (WL g x ws (cn (bg g) 40))[k]? with
    | none =>
      cases c2 : (WL z y ws (cn (bg z) 40))[k]? with
      | none => rfl
      | some v =>
        rw [c1, c2] at e
        exact absurd e.symm (WL_ne (List.mem_of_getElem? c2))
    | some u =>
      cases c2 : (WL z y ws (cn (bg z) 40))[k]? with
      | none =>
        rw [c1, c2] at e
        exact absurd e (WL_ne (List.mem_of_getElem? c1))
      | some v =>
        rw [c1, c2] at e
        exact congrArg some e
  · rw [List.getElem?_eq_none (by omega), List.getElem?_eq_none (by omega)]
theorem sb_iff (z : Nat → Int32) (ws : Nat) (s : Int32) : ∀ n, sb z ws s n = true ↔ ∀ k, k < n → wq (slx s 39 0 z).2 (slx s 39 0 z).2 ws k 40 = wq z z ws k 40
  | 0 => ⟨fun _ k h => absurd h (Nat.not_lt_zero _), fun _ => rfl⟩
  | n + 1 => by
    unfold sb
    rw [Bool.and_eq_true, sb_iff z ws s n, decide_eq_true_eq]
    exact ⟨fun h k hk => by
      rcases Nat.lt_or_ge k n with q | q
      · exact h.1 k q
      · obtain rfl : k = n := by omega
        exact h.2, fun h => ⟨fun k hk => h k (by omega), h n (by omega)⟩⟩
theorem sb_dcd (z : Nat → Int32) (ws : Nat) (s : Int32) : sb z ws s 21 = decide (WL (slx s 39 0 z).2 (slx s 39 0 z).2 ws (cn (bg (slx s 39 0 z).2) 40) = WL z z ws (cn (bg z) 40)) := by
  by_cases h : sb z ws s 21 = true
  · rw [h, decide_eq_true (WL_eq ((sb_iff z ws s 21).mp h))]
  · rw [decide_eq_false (fun q => h ((sb_iff z ws s 21).mpr (fun k _ => by rw [← WL_get, q, WL_get])))]
    simpa using h
