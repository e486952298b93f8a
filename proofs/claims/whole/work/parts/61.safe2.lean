/-! safePull: the reference -/
theorem isw_f {g z x y : Nat → Int32} {ws : Nat} (e : kv g = kv z) (ex : ∀ j, 80 ≤ j → j < 161 → x j = y j) (hws : ws ≤ 16) : isw g x ws = isw z y ws := by
  funext p
  unfold isw
  rw [bg_f e, rw_f e, rw_x ex hws]
theorem wq_f {g z x y : Nat → Int32} {ws k : Nat} (e : kv g = kv z) (ex : ∀ j, 80 ≤ j → j < 161 → x j = y j) (hws : ws ≤ 16) : ∀ n, wq g x ws k n = wq z y ws k n
  | 0 => rfl
  | n + 1 => by
    unfold wq
    rw [isw_f e ex hws, wq_f e ex hws n, rw_f e, rw_x ex hws]
theorem FrM.tr {G H K : GT} (h1 : FrM G H) (h2 : FrM H K) : FrM G K := ⟨fun a b h => (h2.1 a b h).trans (h1.1 a b h), fun s h => (h2.2.1 s h).trans (h1.2.1 s h), fun j hj => (h1.2.2 j hj).trans (h2.2.2 j hj)⟩
/-- the rope behind a pull, of two rows that agree -/
theorem slx_e9 {s : Int32} {z y : Nat → Int32} (hE : E9 z y) (hz : Kz z) : E9 (slx s 39 0 z).2 (slx s 39 0 y).2 ∧ (slx s 39 0 z).1 = (slx s 39 0 y).1 := by
  have hy : Kz y := fun p hp => by rw [← hE p (by omega)]; exact hz p hp
  obtain ⟨a1, a2, a3, a4, -⟩ := sl_rel s 39 0 z (fun j => z (40 + j)) z (by decide) hz (fun _ _ => rfl) (fun _ _ => rfl)
  obtain ⟨b1, b2, b3, b4, -⟩ := sl_rel s 39 0 z (fun j => z (40 + j)) y (by decide) hy (fun p hp => hE p (by omega)) (fun p hp => hE _ (by omega))
  refine ⟨fun j hj => ?_, by rw [← a1, ← b1]⟩
  by_cases h1 : j < 40
  · rw [← a2 j h1, ← b2 j h1]
  · by_cases h2 : j < 80
    · obtain ⟨p, rfl⟩ : ∃ p, j = 40 + p := ⟨j - 40, by omega⟩
      rw [← a3 p (by omega), ← b3 p (by omega)]
    · rw [a4 j (by omega), b4 j (by omega), hE j hj]
theorem wq_e9 {z y : Nat → Int32} {ws k : Nat} (hE : E9 z y) (hws : ws ≤ 16) : wq z z ws k 40 = wq y y ws k 40 := wq_f (kv_f (fun p hp => hE p (by omega))) (fun j _ h => hE j (by omega)) hws 40
/-- the words of rank below n stay -/
def sb (z : Nat → Int32) (ws : Nat) (s : Int32) : Nat → Bool
  | 0 => true
  | n + 1 => sb z ws s n && decide (wq (slx s 39 0 z).2 (slx s 39 0 z).2 ws n 40 = wq z z ws n 40)
theorem isSafe_l {G : GT} (hz : Kz (G 23 0)) {ws : Nat} (hW : Wd (G 23 0) ws) (s : Int32) : ∀ (d k n : Nat) (G' : GT), k + d = 21 → d < n → FrM G G' → ∃ G'', fX8_isSafe_4 s n G' (bI (sb (G 23 0) ws s k)) (nI k) = some (bI (sb (G 23 0) ws s 21), G'') ∧ FrM G G'' := by
  have hws := hW.2.1
  obtain ⟨-, -, -, c4, c5⟩ := sl_rel s 39 0 (G 23 0) (fun j => G 23 0 (40 + j)) (G 23 0) (by decide) hz (fun _ _ => rfl) (fun _ _ => rfl)
  have hWY : Wd (slx s 39 0 (G 23 0)).2 ws := Wd_cong (fun j a _ => c4 j a) hW
  intro d
  induction d with
  | zero =>
    intro k n G' h1 h2 h3
    obtain ⟨m, rfl⟩ : ∃ m, n = m + 1 := ⟨n - 1, by omega⟩
    obtain rfl : k = 21 := by omega
    refine ⟨G', ?_, h3⟩
    rw [fX8_isSafe_4, if_pos (by decide), gd_t]
    unfold bI
    exact isB_ite _
  | succ d ih =>
    intro k n G' h1 h2 h3
    obtain ⟨m, rfl⟩ : ∃ m, n = m + 1 := ⟨n - 1, by omega⟩
    have hE := h3.2.2
    have hz' : Kz (G' 23 0) := fun p hp => by rw [← hE p (by omega)]; exact hz p hp
    obtain ⟨Gp, G11, G2, p1, p2, p3, p4, p5⟩ := aside8 G' hz' s
    obtain ⟨x1, x2⟩ := slx_e9 (s := s) hE hz
    have hz11 : Kz (G11 23 0) := fun p hp => by rw [p3, ← x1 p (by omega)]; exact c5 p hp
    have hW11 : Wd (G11 23 0) ws := by rw [p3]; exact x1.wd hWY
    have w1 : fX8_wordAt G' (nI k) = some (wq (G 23 0) (G 23 0) ws k 40) := by rw [wordAt8 G' hz' (hE.wd hW) (by omega), wq_e9 hE hws]
    have w2 : fX8_wordAt G11 (nI k) = some (wq (slx s 39 0 (G 23 0)).2 (slx s 39 0 (G 23 0)).2 ws k 40) := by rw [wordAt8 G11 hz11 hW11 (by omega), p3, wq_e9 x1 hws]
    obtain ⟨G'', q1, q2⟩ := ih (k + 1) m G2 (by omega) (by omega) (h3.tr p5)
    refine ⟨G'', ?_, q2⟩
    rw [← q1, fX8_isSafe_4, w1, p1, bd_some, bd_some, p2, bd2_some, p4, w2]
    simp only [lit, nI_add, bd_some]
    rw [if_neg (show ¬ nI 20 < nI k by rw [lt_nI (by decide) (by omega)]; omega), sb]
    by_cases e : sb (G 23 0) ws s k = false
    · rw [if_pos (show bI (sb (G 23 0) ws s k) = nI 0 by rw [bI_0]; exact e), e, Bool.false_and]; rfl
    · rw [if_neg (show ¬ bI (sb (G 23 0) ws s k) = nI 0 by rw [bI_0]; exact e), show sb (G 23 0) ws s k = true by simpa using e, Bool.true_and]
      by_cases c : wq (slx s 39 0 (G 23 0)).2 (slx s 39 0 (G 23 0)).2 ws k 40 = wq (G 23 0) (G 23 0) ws k 40
      · rw [if_pos c, decide_eq_true c]; rfl
      · rw [if_neg c, decide_eq_false c]; rfl
theorem isSafe8 {G : GT} (hz : Kz (G 23 0)) {ws : Nat} (hW : Wd (G 23 0) ws) (s : Int32) {G' : GT} (h : FrM G G') : ∃ G'', fX8_isSafe G' s = some (bI (sb (G 23 0) ws s 21), G'') ∧ FrM G G'' := by
  obtain ⟨G'', a, b⟩ := isSafe_l hz hW s 21 0 FU G' (by decide) (by rw [FU_eq]; decide) h
  exact ⟨G'', a, b⟩
