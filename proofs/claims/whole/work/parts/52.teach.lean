/-! teach -/
def bI (b : Bool) : Int32 := if b = true then nI 1 else nI 0
theorem bI_0 (b : Bool) : (bI b = nI 0) = (b = false) := by
  cases b with
  | true => exact propext ⟨fun h => absurd h (by decide), fun h => absurd h (by decide)⟩
  | false => exact propext ⟨fun _ => rfl, fun _ => rfl⟩
def SM (z x : Nat → Int32) (len w : Nat) : Nat → Bool
  | 0 => decide (pl z w = len)
  | i + 1 => SM z x len w i && decide (pt z w i = x i - nI 48)
theorem SM_iff {z x : Nat → Int32} {len w : Nat} : ∀ {n : Nat}, SM z x len w n = true ↔ pl z w = len ∧ ∀ k, k < n → pt z w k = x k - nI 48
  | 0 => ⟨fun h => ⟨of_decide_eq_true h, fun k hk => absurd hk (Nat.not_lt_zero _)⟩, fun h => decide_eq_true h.1⟩
  | n + 1 => by
    unfold SM
    rw [Bool.and_eq_true, SM_iff, decide_eq_true_eq]
    exact ⟨fun h => ⟨h.1.1, fun k hk => by
      rcases Nat.lt_or_ge k n with q | q
      · exact h.1.2 k q
      · obtain rfl : k = n := by omega
        exact h.2⟩, fun h => ⟨⟨h.1, fun k hk => h.2 k (by omega)⟩, h.2 n (by omega)⟩⟩
/-- taught among the first n words -/
def tk (z x : Nat → Int32) (len : Nat) : Nat → Bool
  | 0 => false
  | n + 1 => tk z x len n || SM z x len n len
theorem tk_iff {z x : Nat → Int32} {len : Nat} : ∀ {n : Nat}, tk z x len n = true ↔ ∃ w, w < n ∧ SM z x len w len = true
  | 0 => ⟨fun h => absurd (show false = true from h) (by decide), fun ⟨w, h, _⟩ => absurd h (Nat.not_lt_zero _)⟩
  | n + 1 => by
    unfold tk
    rw [Bool.or_eq_true, tk_iff]
    exact ⟨fun h => by
      rcases h with ⟨w, a, b⟩ | h
      · exact ⟨w, by omega, b⟩
      · exact ⟨n, by omega, h⟩, fun ⟨w, a, b⟩ => by
      rcases Nat.lt_or_ge w n with q | q
      · exact Or.inl ⟨w, q, b⟩
      · obtain rfl : w = n := by omega
        exact Or.inr b⟩
theorem it36 (G : GT) {len w : Nat} (h7 : G 22 0 7 = nI len) (hlen : len ≤ 50) (hw : w < 16) (b : Bool) (k4 : Int32 → Int32 → Option Int32) : fX8_isTaught_36 G (bI b) (nI w) k4 FU (bI (SM (G 23 0) (G 27 0) len w 0)) (nI 0) = k4 (bI (b || SM (G 23 0) (G 27 0) len w len)) (nI (w + 1)) :=
  up_fu (fun n i => fX8_isTaught_36 G (bI b) (nI w) k4 n (bI (SM (G 23 0) (G 27 0) len w i)) (nI i)) len _ (by omega)
    (fun n i hi => by
      show fX8_isTaught_36 G (bI b) (nI w) k4 (n + 1) (bI (SM (G 23 0) (G 27 0) len w i)) (nI i) = fX8_isTaught_36 G (bI b) (nI w) k4 n (bI (SM (G 23 0) (G 27 0) len w (i + 1))) (nI (i + 1))
      rw [fX8_isTaught_36, patternAt8 G (by omega), h7, SM]
      simp (disch := omega) only [lit, litN5, le_nI, lt_nI, eq_nI, nI_nN, nN_nI, nN_lt, nN_le, lt_nN, nI_add, mul_nI, sub_nI, dec_nI, cl_nI, inb_nI, bd_some, bd2_some, gd_true, b01, isB_ite, isB_0, isB_1, bI_0]
      rw [if_neg (by omega)]
      by_cases e : SM (G 23 0) (G 27 0) len w i = false
      · rw [if_pos e, e, Bool.false_and]; rfl
      · rw [if_neg e, show SM (G 23 0) (G 27 0) len w i = true by simpa using e, Bool.true_and, gd_dec _ (by omega)]
        by_cases q : pt (G 23 0) w i = G 27 0 i - nI 48
        · rw [if_pos q, decide_eq_true q]; rfl
        · rw [if_neg q, decide_eq_false q]; rfl)
    (fun n => by
      show fX8_isTaught_36 G (bI b) (nI w) k4 (n + 1) (bI (SM (G 23 0) (G 27 0) len w len)) (nI len) = _
      rw [fX8_isTaught_36, h7]
      simp (disch := omega) only [lit, litN5, le_nI, lt_nI, eq_nI, nI_nN, nN_nI, nN_lt, nN_le, lt_nN, nI_add, mul_nI, sub_nI, dec_nI, cl_nI, inb_nI, bd_some, bd2_some, gd_true, b01, isB_ite, isB_0, isB_1, bI_0]
      rw [if_pos (Nat.le_refl _)]
      cases b with
      | true => rw [if_neg (by decide)]; rfl
      | false =>
        rw [if_pos rfl]
        cases SM (G 23 0) (G 27 0) len w len with
        | true => rw [if_neg (by decide)]; rfl
        | false => rw [if_pos rfl]; rfl)
theorem isTaught8 (G : GT) {len ws : Nat} (h7 : G 22 0 7 = nI len) (hlen : len ≤ 50) (h80 : G 23 0 80 = nI ws) (hws : ws ≤ 16) : fX8_isTaught G = some (bI (tk (G 23 0) (G 27 0) len ws)) := by
  unfold fX8_isTaught
  refine up_fu (fun n w => fX8_isTaught_4 G n (bI (tk (G 23 0) (G 27 0) len w)) (nI w)) ws _ (by omega) (fun n w hw => ?_) (fun n => ?_)
  · show fX8_isTaught_4 G (n + 1) (bI (tk (G 23 0) (G 27 0) len w)) (nI w) = fX8_isTaught_4 G n (bI (tk (G 23 0) (G 27 0) len (w + 1))) (nI (w + 1))
    have k := it36 G h7 hlen (show w < 16 by omega) (tk (G 23 0) (G 27 0) len w) (fX8_isTaught_4 G n)
    have hl := pl_le (G 23 0) w
    rw [fX8_isTaught_4, lengthOf8 G (by omega), h7]
    simp (disch := omega) only [lit, litN5, le_nI, lt_nI, eq_nI, nI_nN, nN_nI, nN_lt, nN_le, lt_nN, nI_add, mul_nI, sub_nI, dec_nI, cl_nI, inb_nI, bd_some, bd2_some, gd_true, b01, isB_ite, isB_0, isB_1, h80]
    rw [gd_dec _ (by decide), if_neg (by omega)]
    by_cases e : pl (G 23 0) w = len
    · rw [if_pos e]
      have : SM (G 23 0) (G 27 0) len w 0 = true := decide_eq_true e
      rw [this] at k
      exact k
    · rw [if_neg e]
      have : SM (G 23 0) (G 27 0) len w 0 = false := decide_eq_false e
      rw [this] at k
      exact k
  · show fX8_isTaught_4 G (n + 1) _ (nI ws) = _
    rw [fX8_isTaught_4]
    simp (disch := omega) only [lit, litN5, le_nI, lt_nI, eq_nI, nI_nN, nN_nI, nN_lt, nN_le, lt_nN, nI_add, mul_nI, sub_nI, dec_nI, cl_nI, inb_nI, bd_some, bd2_some, gd_true, b01, isB_ite, isB_0, isB_1, h80]
    rw [gd_dec _ (by decide), if_pos (Nat.le_refl _), gd_t]
    unfold bI
    exact isB_ite _
/-- the rope of a pattern -/
theorem LK_pat {g x : Nat → Int32} {len : Nat} (h : ∀ k, k < len → isK (x k) = true) : ∀ k, k ≤ len → mny true x k = k ∧ ∀ p, LK g x k p = if p < k then x p - nI 48 else g p
  | 0, _ => ⟨rfl, fun p => by rw [if_neg (Nat.not_lt_zero _)]; rfl⟩
  | k + 1, hk => by
    obtain ⟨a, b⟩ := LK_pat (g := g) h k (by omega)
    have e : mny true x (k + 1) = mny true x k + 1 := cn_t (f := fun j => isP true (x j)) (isP_true_of (h k (by omega)))
    refine ⟨by omega, fun p => ?_⟩
    unfold LK
    rw [if_pos (h k (by omega)), a]
    unfold upd
    by_cases q : p = k
    · rw [if_pos q, if_pos (by omega), q]
    · rw [if_neg q, b p]
      by_cases q2 : p < k
      · rw [if_pos q2, if_pos (by omega)]
      · rw [if_neg q2, if_neg (by omega)]
def PT (x : Nat → Int32) (len : Nat) : Nat → Int32 := fun k => if k < len then x k - nI 48 else nI 0
theorem taught_iff {g z x : Nat → Int32} {len ws : Nat} (h : ∀ k, k < len → isK (x k) = true) (h5 : len ≤ 5) (hW : Wd z ws) : (wi (LK g x len) z ws len 0 = nN) = (tk z x len ws = false) := by
  have hp := (LK_pat (g := g) h len (Nat.le_refl _)).2
  have hm : ∀ w, mt (LK g x len) z len w 0 = true ↔ SM z x len w len = true := fun w => by
    rw [mt_iff, atb_iff, SM_iff]
    refine ⟨fun q => ⟨q.1, fun k hk => ?_⟩, fun q => ⟨q.1, fun k hk => ?_⟩⟩
    · have := q.2 k (by omega)
      rw [Nat.zero_add, kv_in (by omega), hp k, if_pos hk] at this
      exact this
    · rw [Nat.zero_add, kv_in (by omega), hp k, if_pos (by omega)]
      exact q.2 k (by omega)
  rcases wi_cases (LK g x len) z (len := len) (p := 0) hW with ⟨u, h1, h2, h3⟩ | ⟨h1, h2⟩
  · rw [h3]
    have hu := hW.2.1
    rw [nI_nN (by omega)]
    have : tk z x len ws = true := tk_iff.mpr ⟨u, h1, (hm u).mp h2⟩
    rw [this]
    simp
  · rw [h2]
    have : tk z x len ws = false := by
      cases e : tk z x len ws with
      | false => rfl
      | true =>
        obtain ⟨w, a, b⟩ := tk_iff.mp e
        have := h1 w a
        rw [(hm w).mpr b] at this
        exact absurd this (by decide)
    rw [this]
    simp
theorem pl_of {y : Nat → Int32} {w len : Nat} (h1 : ∀ k, k < len → ¬ pt y w k ≤ nI 0) (h2 : len < 5 → pt y w len ≤ nI 0) (h5 : len ≤ 5) : pl y w = len := by
  have hle := pl_le y w
  rcases Nat.lt_trichotomy (pl y w) len with q | q | q
  · exact absurd (pl_end (x := y) (w := w) (by omega)) (h1 _ q)
  · exact q
  · exact absurd (h2 (by omega)) (pl_in q)
/-- the row behind a lesson -/
def TZ (z x : Nat → Int32) (len ws : Nat) (a : Int32) : Nat → Int32 := upd (upd (bl z (PT x len) (81 + 5 * ws) 5) (161 + ws) a) 80 (nI (ws + 1))
theorem TZ_pt {z x : Nat → Int32} {len ws : Nat} {a : Int32} (hws : ws < 16) {k : Nat} (hk : k < 5) : pt (TZ z x len ws a) ws k = PT x len k := by
  unfold pt TZ
  rw [upd_ne (by omega), upd_ne (by omega), bl_in hk]
theorem TZ_old {z x : Nat → Int32} {len ws : Nat} {a : Int32} (hws : ws < 16) {w k : Nat} (hw : w < ws) (hk : k < 5) : pt (TZ z x len ws a) w k = pt z w k := by
  unfold pt TZ
  rw [upd_ne (by omega), upd_ne (by omega), bl_out (by omega)]
theorem TZ_wd {z x : Nat → Int32} {len ws : Nat} {a : Int32} (h : ∀ k, k < len → isK (x k) = true) (h0 : 0 < len) (h5 : len ≤ 5) (hW : Wd z ws) (hws : ws < 16) (ht : tk z x len ws = false) : Wd (TZ z x len ws a) (ws + 1) ∧ pl (TZ z x len ws a) ws = len ∧ ∀ w, w < ws → pl (TZ z x len ws a) w = pl z w := by
  obtain ⟨w1, w2, w3, w4, w5⟩ := hW
  have hP1 : ∀ k, k < len → ¬ PT x len k ≤ nI 0 := fun k hk => by
    unfold PT
    rw [if_pos hk]
    obtain ⟨n, n1, n2, n3, -, -⟩ := isK_sub (h k hk)
    rw [n3, le_nI (by omega) (by decide)]
    omega
  have hP2 : PT x len len ≤ nI 0 := by
    unfold PT
    rw [if_neg (by omega)]
    exact Int32.le_refl _
  have hpl : pl (TZ z x len ws a) ws = len := pl_of (fun k hk => by rw [TZ_pt hws (by omega)]; exact hP1 k hk) (fun hl => by rw [TZ_pt hws hl]; exact hP2) h5
  have hold : ∀ w, w < ws → pl (TZ z x len ws a) w = pl z w := fun w hw => pl_cong (fun k hk => TZ_old hws hw hk)
  have hno : ∀ v, v < ws → (∀ k, k < 5 → pt z v k = PT x len k) → False := fun v hv e => by
    have : tk z x len ws = true := tk_iff.mpr ⟨v, hv, SM_iff.mpr ⟨pl_of (fun k hk => by rw [e k (by omega)]; exact hP1 k hk) (fun hl => by rw [e len hl]; exact hP2) h5, fun k hk => by
      rw [e k (by omega)]
      unfold PT
      rw [if_pos hk]⟩⟩
    rw [ht] at this
    exact absurd this (by decide)
  refine ⟨⟨?_, by omega, fun w hw => ?_, fun w k hw hk hk5 => ?_, fun v w hv hw e => ?_⟩, hpl, hold⟩
  · unfold TZ; rw [upd_at]
  · by_cases q : w = ws
    · subst q; omega
    · rw [hold w (by omega)]; exact w3 w (by omega)
  · by_cases q : w = ws
    · subst q
      rw [hpl] at hk
      rw [TZ_pt hws hk5]
      unfold PT
      rw [if_neg (by omega)]
    · rw [hold w (by omega)] at hk
      rw [TZ_old hws (by omega) hk5]
      exact w4 w k (by omega) hk hk5
  · by_cases qv : v = ws
    · by_cases qw : w = ws
      · omega
      · refine (hno w (by omega) (fun k hk => ?_)).elim
        have := e k hk
        rw [qv, TZ_pt hws hk, TZ_old hws (by omega) hk] at this
        exact this.symm
    · by_cases qw : w = ws
      · refine (hno v (by omega) (fun k hk => ?_)).elim
        have := e k hk
        rw [qw, TZ_pt hws hk, TZ_old hws (by omega) hk] at this
        exact this
      · refine w5 v w (by omega) (by omega) (fun k hk => ?_)
        have := e k hk
        rw [TZ_old hws (by omega) hk, TZ_old hws (by omega) hk] at this
        exact this
