/-! splits: sums, and the ways counted exactly, forward and backward -/
def nS (h : Nat → Nat) : Nat → Nat
  | 0 => 0
  | n + 1 => nS h n + h n
theorem nS_s (h : Nat → Nat) (n : Nat) : nS h (n + 1) = nS h n + h n := rfl
theorem nS_cong {f h : Nat → Nat} : ∀ {n : Nat}, (∀ i, i < n → f i = h i) → nS f n = nS h n
  | 0, _ => rfl
  | n + 1, e => by
    unfold nS
    rw [nS_cong (fun i hi => e i (by omega)), e n (by omega)]
theorem nS_0 {h : Nat → Nat} : ∀ {n : Nat}, (∀ i, i < n → h i = 0) → nS h n = 0
  | 0, _ => rfl
  | n + 1, e => by
    unfold nS
    rw [nS_0 (fun i hi => e i (by omega)), e n (by omega)]
theorem nS_add (f h : Nat → Nat) : ∀ n, nS (fun i => f i + h i) n = nS f n + nS h n
  | 0 => rfl
  | n + 1 => by
    have ih := nS_add f h n
    unfold nS
    rw [ih]
    omega
theorem nS_mul (c : Nat) (h : Nat → Nat) : ∀ n, nS (fun i => c * h i) n = c * nS h n
  | 0 => (Nat.mul_zero c).symm
  | n + 1 => by
    have ih := nS_mul c h n
    unfold nS
    rw [ih, Nat.mul_add]
theorem nS_swap (h : Nat → Nat → Nat) (m : Nat) : ∀ n, nS (fun i => nS (fun w => h i w) m) n = nS (fun w => nS (fun i => h i w) n) m
  | 0 => (nS_0 (fun _ _ => rfl)).symm
  | n + 1 => by
    have ih := nS_swap h m n
    rw [nS_s, ih]
    exact (nS_add (fun w => nS (fun i => h i w) n) (fun w => h n w) m).symm
theorem nS_tail {h : Nat → Nat} {m : Nat} : ∀ {n : Nat}, m ≤ n → (∀ i, m ≤ i → i < n → h i = 0) → nS h n = nS h m
  | 0, hm, _ => by
    obtain rfl : m = 0 := by omega
    rfl
  | n + 1, hm, e => by
    by_cases c : m = n + 1
    · rw [c]
    · rw [nS_s, e n (by omega) (by omega), nS_tail (n := n) (by omega) (fun i a b => e i a (by omega)), Nat.add_zero]
theorem nS_shift (h : Nat → Nat) (L : Nat) : ∀ N, nS (fun j => if L ≤ j then h (j - L) else 0) N = nS h (N - L)
  | 0 => by rw [Nat.zero_sub]; rfl
  | N + 1 => by
    have ih := nS_shift h L N
    rw [nS, ih]
    by_cases c : L ≤ N
    · rw [if_pos c, show N + 1 - L = (N - L) + 1 by omega]
      rfl
    · rw [if_neg c, show N + 1 - L = N - L by omega]
      rfl
/-- the exact ways to split a row of n knots: ways f from each place to the end, ways b up to each place; φ i w: the word w, L w long, stands at i -/
theorem ways_eq {n m : Nat} {φ : Nat → Nat → Bool} {L f b : Nat → Nat} (hL : ∀ w, w < m → 1 ≤ L w) (hn : ∀ i w, w < m → i < n → φ i w = true → i + L w ≤ n) (f0 : f n = 1) (f1 : ∀ i, i < n → f i = nS (fun w => if φ i w = true then f (i + L w) else 0) m) (b0 : b 0 = 1) (b1 : ∀ j, j < n → b (j + 1) = nS (fun w => if L w ≤ j + 1 ∧ φ (j + 1 - L w) w = true then b (j + 1 - L w) else 0) m) : f 0 = b n := by
  have e1 : nS (fun i => b i * f i) n = nS (fun w => nS (fun i => if φ i w = true then b i * f (i + L w) else 0) n) m := by
    rw [← nS_swap (fun i w => if φ i w = true then b i * f (i + L w) else 0) m n]
    refine nS_cong (fun i hi => ?_)
    rw [f1 i hi, ← nS_mul]
    refine nS_cong (fun w _ => ?_)
    by_cases c : φ i w = true
    · rw [if_pos c, if_pos c]
    · rw [if_neg c, if_neg c, Nat.mul_zero]
  have e2 : ∀ w, w < m → nS (fun i => if φ i w = true then b i * f (i + L w) else 0) n = nS (fun j => if L w ≤ j then (if φ (j - L w) w = true then b (j - L w) * f (j - L w + L w) else 0) else 0) (n + 1) := by
    intro w hw
    have h1 := hL w hw
    rw [nS_shift (fun i => if φ i w = true then b i * f (i + L w) else 0) (L w) (n + 1)]
    refine nS_tail (by omega) (fun i a c => ?_)
    by_cases e : φ i w = true
    · have := hn i w hw c e
      omega
    · rw [if_neg e]
  have e3 : nS (fun i => b i * f i) n = nS (fun j => nS (fun w => if L w ≤ j then (if φ (j - L w) w = true then b (j - L w) * f (j - L w + L w) else 0) else 0) m) (n + 1) := by
    rw [e1, nS_swap (fun j w => if L w ≤ j then (if φ (j - L w) w = true then b (j - L w) * f (j - L w + L w) else 0) else 0) m (n + 1)]
    exact nS_cong (fun w hw => e2 w hw)
  have e4 : ∀ N, N ≤ n → nS (fun j => nS (fun w => if L w ≤ j then (if φ (j - L w) w = true then b (j - L w) * f (j - L w + L w) else 0) else 0) m) (N + 1) + b 0 * f 0 = nS (fun i => b i * f i) (N + 1) := by
    intro N
    induction N with
    | zero =>
      intro _
      have h0 : nS (fun w => if L w ≤ 0 then (if φ (0 - L w) w = true then b (0 - L w) * f (0 - L w + L w) else 0) else 0) m = 0 := nS_0 (fun w hw => if_neg (by have := hL w hw; omega))
      show 0 + nS (fun w => if L w ≤ 0 then (if φ (0 - L w) w = true then b (0 - L w) * f (0 - L w + L w) else 0) else 0) m + b 0 * f 0 = 0 + b 0 * f 0
      rw [h0]
    | succ N ih =>
      intro hN
      have ih' := ih (by omega)
      rw [nS]
      rw [nS] at ⊢
      have : nS (fun w => if L w ≤ N + 1 then (if φ (N + 1 - L w) w = true then b (N + 1 - L w) * f (N + 1 - L w + L w) else 0) else 0) m = b (N + 1) * f (N + 1) := by
        rw [b1 N (by omega), Nat.mul_comm, ← nS_mul]
        refine nS_cong (fun w _ => ?_)
        by_cases c : L w ≤ N + 1
        · rw [if_pos c]
          by_cases d : φ (N + 1 - L w) w = true
          · rw [if_pos d, if_pos ⟨c, d⟩, show N + 1 - L w + L w = N + 1 by omega, Nat.mul_comm]
          · rw [if_neg d, if_neg (fun q => d q.2), Nat.mul_zero]
        · rw [if_neg c, if_neg (fun q => c q.1), Nat.mul_zero]
      show nS _ (N + 1) + nS _ m + b 0 * f 0 = nS _ (N + 1) + b (N + 1) * f (N + 1)
      rw [this, ← ih']
      omega
  have e5 := e4 n (Nat.le_refl _)
  rw [← e3] at e5
  have e6 : nS (fun i => b i * f i) (n + 1) = nS (fun i => b i * f i) n + b n * f n := rfl
  rw [e6, b0, f0, Nat.one_mul, Nat.mul_one] at e5
  omega
/-- ways that satisfy the forward rule -/
def fA (n m : Nat) (φ : Nat → Nat → Bool) (L : Nat → Nat) : Nat → Nat → Nat
  | 0 => fun _ => 1
  | d + 1 => fun j => if j + (d + 1) = n then nS (fun w => if φ j w = true then fA n m φ L d (j + L w) else 0) m else fA n m φ L d j
theorem fA_st {n m : Nat} {φ : Nat → Nat → Bool} {L : Nat → Nat} {d j : Nat} (h : n ≤ j + d) : ∀ e, fA n m φ L (d + e) j = fA n m φ L d j
  | 0 => rfl
  | e + 1 => by
    show (if j + (d + e + 1) = n then _ else fA n m φ L (d + e) j) = _
    rw [if_neg (by omega)]
    exact fA_st h e
theorem fA_ex {n m : Nat} {φ : Nat → Nat → Bool} {L : Nat → Nat} (hL : ∀ w, w < m → 1 ≤ L w) : ∃ f : Nat → Nat, f n = 1 ∧ ∀ i, i < n → f i = nS (fun w => if φ i w = true then f (i + L w) else 0) m := by
  refine ⟨fA n m φ L n, ?_, fun i hi => ?_⟩
  · have := fA_st (n := n) (m := m) (φ := φ) (L := L) (d := 0) (j := n) (by omega) n
    rw [Nat.zero_add] at this
    exact this
  · have e1 := fA_st (n := n) (m := m) (φ := φ) (L := L) (d := n - i) (j := i) (by omega) i
    rw [show n - i + i = n by omega] at e1
    rw [e1]
    obtain ⟨d, hd⟩ : ∃ d, n - i = d + 1 := ⟨n - i - 1, by omega⟩
    rw [hd]
    show (if i + (d + 1) = n then _ else _) = _
    rw [if_pos (by omega)]
    refine nS_cong (fun w hw => ?_)
    have h1 := hL w hw
    have e2 := fA_st (n := n) (m := m) (φ := φ) (L := L) (d := d) (j := i + L w) (by omega) (i + 1)
    rw [show d + (i + 1) = n by omega] at e2
    rw [e2]
def bA (m : Nat) (φ : Nat → Nat → Bool) (L : Nat → Nat) : Nat → Nat → Nat
  | 0 => fun _ => 1
  | d + 1 => fun j => if j = d + 1 then nS (fun w => if L w ≤ j ∧ φ (j - L w) w = true then bA m φ L d (j - L w) else 0) m else bA m φ L d j
theorem bA_st {m : Nat} {φ : Nat → Nat → Bool} {L : Nat → Nat} {d j : Nat} (h : j ≤ d) : ∀ e, bA m φ L (d + e) j = bA m φ L d j
  | 0 => rfl
  | e + 1 => by
    show (if j = d + e + 1 then _ else bA m φ L (d + e) j) = _
    rw [if_neg (by omega)]
    exact bA_st h e
theorem bA_ex {n m : Nat} {φ : Nat → Nat → Bool} {L : Nat → Nat} (hL : ∀ w, w < m → 1 ≤ L w) : ∃ b : Nat → Nat, b 0 = 1 ∧ ∀ j, j < n → b (j + 1) = nS (fun w => if L w ≤ j + 1 ∧ φ (j + 1 - L w) w = true then b (j + 1 - L w) else 0) m := by
  refine ⟨bA m φ L n, ?_, fun j hj => ?_⟩
  · have := bA_st (m := m) (φ := φ) (L := L) (d := 0) (j := 0) (by omega) n
    rw [Nat.zero_add] at this
    exact this
  · have e1 := bA_st (m := m) (φ := φ) (L := L) (d := j + 1) (j := j + 1) (by omega) (n - (j + 1))
    rw [show j + 1 + (n - (j + 1)) = n by omega] at e1
    rw [e1]
    show (if j + 1 = j + 1 then _ else _) = _
    rw [if_pos rfl]
    refine nS_cong (fun w hw => ?_)
    have h1 := hL w hw
    have e2 := bA_st (m := m) (φ := φ) (L := L) (d := j) (j := j + 1 - L w) (by omega) (n - j)
    rw [show j + (n - j) = n by omega] at e2
    rw [e2]
/-! the bound of 9999 -/
theorem nS_cap {h k : Nat → Nat} : ∀ {n : Nat}, (∀ i, i < n → min 9999 (h i) = min 9999 (k i)) → min 9999 (nS h n) = min 9999 (nS k n)
  | 0, _ => rfl
  | n + 1, e => by
    have ih := nS_cap (n := n) (fun i hi => e i (by omega))
    have := e n (by omega)
    unfold nS
    omega
theorem nS_le {h : Nat → Nat} {c : Nat} : ∀ {n : Nat}, (∀ i, i < n → h i ≤ c) → nS h n ≤ c * n
  | 0, _ => Nat.zero_le _
  | n + 1, e => by
    have ih := nS_le (n := n) (fun i hi => e i (by omega))
    have := e n (by omega)
    unfold nS
    rw [Nat.mul_add]
    omega
theorem ln_end (g : Nat → Int32) : ∀ d p, 40 - p = d → kn g (p + ln g p) = false
  | 0, p, h => kn_off (by omega)
  | d + 1, p, h => by
    by_cases e : kn g p = true
    · rw [ln_s e, show p + (ln g (p + 1) + 1) = p + 1 + ln g (p + 1) by omega]
      exact ln_end g d (p + 1) (by omega)
    · have e' : kn g p = false := by simpa using e
      rw [ln_0 e', Nat.add_zero]
      exact e'
/-- a word that stands within a run doesn't pass its end -/
theorem at_in {z : Nat → Int32} {w p i : Nat} (hi : i ≤ ln z p) (h : atb z z w (p + i) (pl z w) = true) : i + pl z w ≤ ln z p := by
  by_cases c : i + pl z w ≤ ln z p
  · exact c
  · exfalso
    have h1 := atb_iff.mp h (ln z p - i) (by omega)
    have h2 := ln_end z (40 - p) p rfl
    rw [← kv0] at h2
    rw [show p + i + (ln z p - i) = p + ln z p by omega, h2] at h1
    exact pl_in (x := z) (w := w) (j := ln z p - i) (by omega) (by rw [h1]; exact Int32.le_refl _)
