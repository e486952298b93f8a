/-! nearest -/
theorem lnF_in {g : Nat → Int32} : ∀ n p k, k < lnF g n p → kn g (p + k) = true
  | 0, _, _, h => absurd h (Nat.not_lt_zero _)
  | n + 1, p, k, h => by
    unfold lnF at h
    by_cases e : kn g p = true
    · rw [if_pos e] at h
      cases k with
      | zero => exact e
      | succ k =>
        have := lnF_in (g := g) n (p + 1) k (by omega)
        rw [show p + (k + 1) = p + 1 + k by omega]
        exact this
    · rw [if_neg e] at h
      exact absurd h (Nat.not_lt_zero _)
theorem ln_kn {g : Nat → Int32} {p k : Nat} (h : k < ln g p) : kn g (p + k) = true := lnF_in _ _ _ h
/-- where word w and the run from p on are not alike -/
def ud (x : Nat → Int32) (p w k : Nat) : Bool := decide (¬ (if k < ln x p then x (p + k) else nI 0) = (if k < 5 then pt x w k else nI 0))
def dd (x : Nat → Int32) (p w k : Nat) : Bool := decide (¬ pt x w k = kv x (p + k))
theorem cn_run {f : Nat → Bool} {a : Nat} : ∀ j, (∀ k, a ≤ k → k < a + j → f k = true) → cn f (a + j) = cn f a + j
  | 0, _ => rfl
  | j + 1, h => by
    rw [← Nat.add_assoc, cn_t (h (a + j) (by omega) (by omega)), cn_run j (fun k p q => h k p (by omega))]
    omega
theorem cn_off {f : Nat → Bool} {a : Nat} : ∀ j, (∀ k, a ≤ k → k < a + j → f k = false) → cn f (a + j) = cn f a
  | 0, _ => rfl
  | j + 1, h => by
    rw [← Nat.add_assoc, cn_f (h (a + j) (by omega) (by omega)), cn_off j (fun k p q => h k p (by omega))]
theorem un_eq {x : Nat → Int32} {ws p w : Nat} (hW : Wd x ws) (hw : w < ws) : cn (ud x p w) (max 5 (ln x p)) = (max (ln x p) (pl x w) - min (ln x p) (pl x w)) + cn (dd x p w) (min (ln x p) (pl x w)) := by
  have hl := pl_le x w
  have h0 := hW.2.2.2.1
  have hin : ∀ k, k < ln x p → x (p + k) = kv x (p + k) ∧ ¬ kv x (p + k) = nI 0 := fun k hk => by
    have h1 := ln_kn hk
    have h2 := kn_lt h1
    refine ⟨(kv_in h2).symm, fun q => ?_⟩
    rw [kv0, h1] at q
    exact absurd q (by decide)
  have e1 : cn (ud x p w) (min (ln x p) (pl x w)) = cn (dd x p w) (min (ln x p) (pl x w)) := cn_cong (fun k hk => by
    unfold ud dd
    rw [if_pos (by omega), if_pos (by omega), (hin k (by omega)).1]
    congr 1
    exact propext ⟨fun q r => q r.symm, fun q r => q r.symm⟩)
  have e2 := cn_run (f := ud x p w) (a := min (ln x p) (pl x w)) (max (ln x p) (pl x w) - min (ln x p) (pl x w)) (fun k hk hk2 => by
    unfold ud
    refine decide_eq_true (fun q => ?_)
    by_cases c : k < ln x p
    · rw [if_pos c, (hin k c).1] at q
      by_cases c5 : k < 5
      · rw [if_pos c5, h0 w k hw (by omega) c5] at q
        exact (hin k c).2 q
      · rw [if_neg c5] at q
        exact (hin k c).2 q
    · rw [if_neg c, if_pos (by omega)] at q
      exact pl_in (x := x) (w := w) (j := k) (by omega) (by rw [← q]; exact Int32.le_refl _))
  have e3 := cn_off (f := ud x p w) (a := max (ln x p) (pl x w)) (max 5 (ln x p) - max (ln x p) (pl x w)) (fun k hk hk2 => by
    unfold ud
    refine decide_eq_false (fun q => q ?_)
    rw [if_neg (by omega)]
    by_cases c5 : k < 5
    · rw [if_pos c5, h0 w k hw (by omega) c5]
    · rw [if_neg c5])
  rw [show max (ln x p) (pl x w) + (max 5 (ln x p) - max (ln x p) (pl x w)) = max 5 (ln x p) by omega] at e3
  rw [show min (ln x p) (pl x w) + (max (ln x p) (pl x w) - min (ln x p) (pl x w)) = max (ln x p) (pl x w) by omega] at e2
  omega
theorem differing_e (G : GT) {x : Nat → Int32} {ws w p : Nat} (hC : Cw G x ws) (hws : ws ≤ 16) (hw : w < ws) (hp : p ≤ 40) (hk : kv (G 1 0) = kv x) : fX6_differing G 0 (nI w) 0 (nI p) (nI (ln x p)) = some (nI ((max (ln x p) (pl x w) - min (ln x p) (pl x w)) + cn (dd x p w) (min (ln x p) (pl x w)))) := by
  have hl := pl_le x w
  have hn := ln_le x p
  unfold fX6_differing
  rw [lengthOf6 G hC hws hw, bd_some, bd_some, imin_nI (by omega) (by omega), imax_nI (by omega) (by omega), sub_nI (by omega)]
  exact up_fu (fun n k => fX6_differing_30 G 0 0 (nI w) (nI p) (nI (min (ln x p) (pl x w))) n (nI ((max (ln x p) (pl x w) - min (ln x p) (pl x w)) + cn (dd x p w) k)) (nI k)) (min (ln x p) (pl x w)) _ (by omega)
    (fun n k hk2 => by
      show fX6_differing_30 G 0 0 (nI w) (nI p) (nI (min (ln x p) (pl x w))) (n + 1) (nI ((max (ln x p) (pl x w) - min (ln x p) (pl x w)) + cn (dd x p w) k)) (nI k) = fX6_differing_30 G 0 0 (nI w) (nI p) (nI (min (ln x p) (pl x w))) n (nI ((max (ln x p) (pl x w) - min (ln x p) (pl x w)) + cn (dd x p w) (k + 1))) (nI (k + 1))
      rw [fX6_differing_30, kindAt6 G hC hws hw (by omega), bd_some, nI_add, kindAt_e G 0 (by omega), bd_some, hk]
      simp only [lit, nI_add]
      rw [if_neg (show ¬ nI (min (ln x p) (pl x w)) ≤ nI k by rw [le_nI (by omega) (by omega)]; omega)]
      by_cases e : pt x w k = kv x (p + k)
      · rw [if_pos e, cn_f (show dd x p w k = false from decide_eq_false (fun q => q e))]
      · rw [if_neg e, cn_t (show dd x p w k = true from decide_eq_true e), Nat.add_assoc])
    (fun n => by
      show fX6_differing_30 G 0 0 (nI w) (nI p) (nI (min (ln x p) (pl x w))) (n + 1) _ (nI (min (ln x p) (pl x w))) = _
      rw [fX6_differing_30, if_pos (Int32.le_refl _)])
theorem un32 (G : GT) (hz : Kz (G 23 0)) {p w k c : Nat} (hp : p < 40) (hw : w < 16) (hk : k < 41) (k5 : Int32 → Int32 → Option Int32) : fX8_unlike_32 G (nI p) (nI w) (nI c) (nI k) k5 = k5 (nI (if ud (G 23 0) p w k = true then c + 1 else c)) (nI (k + 1)) := by
  have hn := ln_le (G 23 0) p
  have h76 : ∀ a b : Int32, fX8_unlike_76 G (nI p) (nI w) (nI c) (nI k) a b k5 = k5 (nI (if decide (¬ a = b) = true then c + 1 else c)) (nI (k + 1)) := fun a b => by
    unfold fX8_unlike_76
    simp only [lit, nI_add]
    by_cases e : a = b
    · rw [if_pos e, decide_eq_false (fun q => q e), if_neg (by decide), Nat.add_zero]
    · rw [if_neg e, decide_eq_true e, if_pos rfl]
  have h57 : ∀ a : Int32, fX8_unlike_57 G (nI p) (nI w) (nI c) (nI k) a k5 = k5 (nI (if decide (¬ a = (if k < 5 then pt (G 23 0) w k else nI 0)) = true then c + 1 else c)) (nI (k + 1)) := fun a => by
    unfold fX8_unlike_57
    simp only [lit]
    by_cases e : k < 5
    · rw [if_neg (show ¬ nI 5 ≤ nI k by rw [le_nI (by decide) (by omega)]; omega), patternAt8 G (by omega), bd_some, h76, if_pos e]
    · rw [if_pos (show nI 5 ≤ nI k by rw [le_nI (by decide) (by omega)]; omega), h76, if_neg e]
  unfold fX8_unlike_32 ud
  rw [lengthFrom8 G hz (by omega), bd_some]
  by_cases e : k < ln (G 23 0) p
  · rw [if_neg (show ¬ nI (ln (G 23 0) p) ≤ nI k by rw [le_nI (by omega) (by omega)]; omega)]
    simp only [lit, nI_add]
    rw [inb_nI (by omega), gd_dec _ (by omega), cl_nI (by omega), h57, if_pos e, Nat.zero_add]
  · rw [if_pos (show nI (ln (G 23 0) p) ≤ nI k by rw [le_nI (by omega) (by omega)]; omega), if_neg e]
    simp only [lit]
    exact h57 _
theorem unlike8 (G : GT) (hz : Kz (G 23 0)) {p w : Nat} (hp : p < 40) (hw : w < 16) : fX8_unlike G (nI p) (nI w) = some (nI (cn (ud (G 23 0) p w) (max 5 (ln (G 23 0) p)))) := by
  have hn := ln_le (G 23 0) p
  unfold fX8_unlike
  exact up_fu (fun n k => fX8_unlike_5 G (nI p) (nI w) n (nI (cn (ud (G 23 0) p w) k)) (nI k)) (max 5 (ln (G 23 0) p)) _ (by omega)
    (fun n k hk => by
      show fX8_unlike_5 G (nI p) (nI w) (n + 1) (nI (cn (ud (G 23 0) p w) k)) (nI k) = fX8_unlike_5 G (nI p) (nI w) n (nI (cn (ud (G 23 0) p w) (k + 1))) (nI (k + 1))
      have e : fX8_unlike_32 G (nI p) (nI w) (nI (cn (ud (G 23 0) p w) k)) (nI k) (fX8_unlike_5 G (nI p) (nI w) n) = fX8_unlike_5 G (nI p) (nI w) n (nI (cn (ud (G 23 0) p w) (k + 1))) (nI (k + 1)) := by
        rw [un32 G hz hp hw (by omega)]
        congr 2
        by_cases q : ud (G 23 0) p w k = true
        · rw [if_pos q, cn_t q]
        · rw [if_neg q, cn_f (by simpa using q)]
      rw [fX8_unlike_5, e]
      simp only [lit, nI_add]
      by_cases c : k < 5
      · rw [if_pos (show nI k < nI 5 by rw [lt_nI (by omega) (by decide)]; exact c)]
      · have hk1 : k < ln (G 23 0) p := by omega
        rw [if_neg (show ¬ nI k < nI 5 by rw [lt_nI (by omega) (by decide)]; exact c), isKnot8 G hz (by omega), bd_some, if_pos (ln_kn hk1), if_neg (by decide), lengthFrom8 G hz (by omega), bd_some, if_neg (show ¬ nI (ln (G 23 0) p) ≤ nI k by rw [le_nI (by omega) (by omega)]; omega)])
    (fun n => by
      show fX8_unlike_5 G (nI p) (nI w) (n + 1) _ (nI (max 5 (ln (G 23 0) p))) = _
      rw [fX8_unlike_5, nI_add, isKnot8 G hz (by omega), lengthFrom8 G hz (by omega)]
      simp only [lit, bd_some]
      rw [if_neg (show ¬ nI (max 5 (ln (G 23 0) p)) < nI 5 by rw [lt_nI (by omega) (by decide)]; omega), if_pos (show nI (ln (G 23 0) p) ≤ nI (max 5 (ln (G 23 0) p)) by rw [le_nI (by omega) (by omega)]; omega)]
      split <;> rfl)
def nbf (u : Nat → Nat) : Nat → Int32 × Int32
  | 0 => (nN, nN)
  | w + 1 => if (nbf u w).1 = nN then (nI w, nI (u w)) else if (nbf u w).2 ≤ nI (u w) then nbf u w else (nI w, nI (u w))
theorem nbf_c (u : Nat → Nat) : ∀ w, (nbf u w).1 = nN ∨ ∃ v, v < w ∧ (nbf u w).1 = nI v
  | 0 => Or.inl rfl
  | w + 1 => by
    unfold nbf
    split
    · exact Or.inr ⟨w, by omega, rfl⟩
    · split
      · rcases nbf_c u w with h | ⟨v, h1, h2⟩
        · exact Or.inl h
        · exact Or.inr ⟨v, by omega, h2⟩
      · exact Or.inr ⟨w, by omega, rfl⟩
theorem nbf_neg {u : Nat → Nat} {w : Nat} (hw : w < 1000) : ((nbf u w).1 < nI 0) = ((nbf u w).1 = nN) := by
  rcases nbf_c u w with h | ⟨v, h1, h2⟩
  · rw [h]; simp; decide
  · rw [h2, lt_nI (by omega) (by decide), nI_nN (by omega)]; simp
def un (x : Nat → Int32) (p w : Nat) : Nat := cn (ud x p w) (max 5 (ln x p))
theorem near35 (G : GT) {x : Nat → Int32} {ws j : Nat} (hR : RD G 0 x x ws) (hC : Cw G x ws) (hW : Wd x ws) (hk : kv (G 1 0) = kv x) (hj : j < cn (bg x) 40) (b : Int32) : fX7_nearest_35 G (nI j) b FU nN nN (nI 0) = some (if b = nI 0 then (nbf (un x (rs x j)) ws).1 else (nbf (un x (rs x j)) ws).2, G) := by
  have hws := hW.2.1
  obtain ⟨r1, -, -⟩ := rs_ok hj
  exact up_fu (fun n w => fX7_nearest_35 G (nI j) b n (nbf (un x (rs x j)) w).1 (nbf (un x (rs x j)) w).2 (nI w)) ws _ (by omega)
    (fun n w hw => by
      show fX7_nearest_35 G (nI j) b (n + 1) (nbf (un x (rs x j)) w).1 (nbf (un x (rs x j)) w).2 (nI w) = fX7_nearest_35 G (nI j) b n (nbf (un x (rs x j)) (w + 1)).1 (nbf (un x (rs x j)) (w + 1)).2 (nI (w + 1))
      rw [fX7_nearest_35, hC.1, firstOf3 hR hj, bd_some, lengthOf3 hR hj, bd_some, differing_e G hC hws hw (by omega) hk, bd_some, ← un_eq hW hw]
      simp only [lit, litN5, nI_add]
      rw [if_neg (show ¬ nI ws ≤ nI w by rw [le_nI (by omega) (by omega)]; omega), nbf]
      show (if _ then fX7_nearest_35 G (nI j) b n (nI w) (nI (un x (rs x j) w)) (nI (w + 1)) else if _ ≤ nI (un x (rs x j) w) then _ else fX7_nearest_35 G (nI j) b n (nI w) (nI (un x (rs x j) w)) (nI (w + 1))) = _
      by_cases c : (nbf (un x (rs x j)) w).1 = nN
      · rw [if_pos c, if_pos c]
      · rw [if_neg c, if_neg c]
        by_cases d : (nbf (un x (rs x j)) w).2 ≤ nI (un x (rs x j) w)
        · rw [if_pos d, if_pos d]
        · rw [if_neg d, if_neg d])
    (fun n => by
      show fX7_nearest_35 G (nI j) b (n + 1) _ _ (nI ws) = _
      rw [fX7_nearest_35, hC.1, if_pos (Int32.le_refl _)]
      simp only [lit]
      by_cases c : b = nI 0
      · rw [if_pos c, if_pos c]
      · rw [if_neg c, if_neg c])
theorem near32 (G : GT) (hz : Kz (G 23 0)) {ws j : Nat} (hW : Wd (G 23 0) ws) (hj : j < cn (bg (G 23 0)) 40) (b : Int32) : fX8_nearest_32 G (nI j) b FU nN nN (nI 0) = some (if b = nI 0 then (nbf (un (G 23 0) (rs (G 23 0) j)) ws).1 else (nbf (un (G 23 0) (rs (G 23 0) j)) ws).2) := by
  have hws := hW.2.1
  have hle := cn_le (bg (G 23 0)) 40
  obtain ⟨r1, -, -⟩ := rs_ok hj
  exact up_fu (fun n w => fX8_nearest_32 G (nI j) b n (nbf (un (G 23 0) (rs (G 23 0) j)) w).1 (nbf (un (G 23 0) (rs (G 23 0) j)) w).2 (nI w)) ws _ (by omega)
    (fun n w hw => by
      show fX8_nearest_32 G (nI j) b (n + 1) (nbf (un (G 23 0) (rs (G 23 0) j)) w).1 (nbf (un (G 23 0) (rs (G 23 0) j)) w).2 (nI w) = fX8_nearest_32 G (nI j) b n (nbf (un (G 23 0) (rs (G 23 0) j)) (w + 1)).1 (nbf (un (G 23 0) (rs (G 23 0) j)) (w + 1)).2 (nI (w + 1))
      rw [fX8_nearest_32, firstOf8 G hz (by omega), fo_rs hj, bd_some, unlike8 G hz r1 (by omega), bd_some]
      simp only [lit, nI_add]
      rw [inb_nI (by decide), gd_dec _ (by decide), cl_nI (by decide), hW.1, if_neg (show ¬ nI ws ≤ nI w by rw [le_nI (by omega) (by omega)]; omega), nbf]
      show (if _ then fX8_nearest_32 G (nI j) b n (nI w) (nI (un (G 23 0) (rs (G 23 0) j) w)) (nI (w + 1)) else if _ ≤ nI (un (G 23 0) (rs (G 23 0) j) w) then _ else fX8_nearest_32 G (nI j) b n (nI w) (nI (un (G 23 0) (rs (G 23 0) j) w)) (nI (w + 1))) = _
      have hb := nbf_neg (u := un (G 23 0) (rs (G 23 0) j)) (w := w) (by omega)
      by_cases c : (nbf (un (G 23 0) (rs (G 23 0) j)) w).1 = nN
      · rw [if_pos (by rw [hb]; exact c), if_pos c]
      · rw [if_neg (by rw [hb]; exact c), if_neg c]
        by_cases d : (nbf (un (G 23 0) (rs (G 23 0) j)) w).2 ≤ nI (un (G 23 0) (rs (G 23 0) j) w)
        · rw [if_pos d, if_pos d]
        · rw [if_neg d, if_neg d])
    (fun n => by
      show fX8_nearest_32 G (nI j) b (n + 1) _ _ (nI ws) = _
      rw [fX8_nearest_32]
      simp only [lit]
      rw [inb_nI (by decide), gd_dec _ (by decide), cl_nI (by decide), hW.1, if_pos (Int32.le_refl _)]
      by_cases c : b = nI 0
      · rw [if_pos c, if_pos c]
      · rw [if_neg c, if_neg c])
/-- 20 nearest -/
theorem op20 {t : Nat} {G : GT} (hI : Inv t G) (a b : Int32) : Stq t G (fX7_nearest G a b) (fun G1 => lf1 (fX8_nearest G1 a b) G1) := by
  refine stay2 hI ?_
  obtain ⟨ws, G1, s1, s2, s3, s4, hW⟩ := rr hI
  have e23 : G1 23 0 = G 23 0 := s3 23 0 (by omega)
  have hz1 : Kz (G1 23 0) := by rw [e23]; exact hI.kz
  have hW1 : Wd (G1 23 0) ws := by rw [e23]; exact hW
  have hC1 : Cw G1 (G 23 0) ws := (hI.sr.cw hW).of (fun a p q => s3 a 0 (by omega))
  have hk1 : kv (G1 1 0) = kv (G 23 0) := by rw [s3 1 0 (by omega)]; exact hI.kv
  have hle := cn_le (bg (G 23 0)) 40
  unfold fX7_nearest fX8_nearest
  rw [s1, bd_some, has3 s4, bd_some, isW]
  simp only [lit, litN5, bd_some, in_e]
  by_cases h : nI 0 ≤ a ∧ a < nI (cn (bg (G 23 0)) 40)
  · obtain ⟨j, -, hj, rfl⟩ := of_lt h (by decide) (by omega)
    have c0 : ¬ (if nI 0 ≤ nI j ∧ nI j < nI (cn (bg (G 23 0)) 40) then nI 1 else nI 0) = nI 0 := by rw [if_pos h]; decide
    by_cases hb : nI 0 ≤ b ∧ b ≤ nI 1
    · have c1 : ¬ (if nI 0 ≤ b ∧ b ≤ nI 1 then nI 1 else nI 0) = nI 0 := by rw [if_pos hb]; decide
      have k := near32 G1 hz1 hW1 (by rw [e23]; exact hj) b
      rw [e23] at k
      exact ⟨_, G1, by rw [if_neg c0, if_neg c1, near35 G1 s4 hC1 hW hk1 hj b], s2, by rw [isRun8 G1 hz1, bd_some, e23, if_neg c0, if_neg c1, k]⟩
    · have c1 : (if nI 0 ≤ b ∧ b ≤ nI 1 then nI 1 else nI 0) = nI 0 := by rw [if_neg hb]
      exact ⟨-(nI 2), G1, by rw [if_neg c0, if_pos c1], s2, by rw [isRun8 G1 hz1, bd_some, e23, if_neg c0, if_pos c1]⟩
  · exact ⟨-(nI 1), G1, by rw [if_neg h, if_pos rfl], s2, by rw [isRun8 G1 hz1, bd_some, e23, if_neg h, if_pos rfl]⟩
