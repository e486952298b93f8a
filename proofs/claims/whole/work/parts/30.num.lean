/-! numbers and loops of the pure part. Normal form: every Int32 that is known is nI of a Nat, -5 is nN -/
def nN : Int32 := -5
theorem lit (n : Nat) : (OfNat.ofNat n : Int32) = nI n := Int32.toInt_inj.mp rfl
theorem litN5 : -(nI 5) = nN := Int32.toInt_inj.mp rfl
theorem le_nI {a b : Nat} (ha : a < 2 ^ 31) (hb : b < 2 ^ 31) : (nI a ≤ nI b) = (a ≤ b) := propext (nI_leI ha hb)
theorem lt_nI {a b : Nat} (ha : a < 2 ^ 31) (hb : b < 2 ^ 31) : (nI a < nI b) = (a < b) := propext (nI_ltI ha hb)
theorem eq_nI {a b : Nat} (ha : a < 2 ^ 31) (hb : b < 2 ^ 31) : (nI a = nI b) = (a = b) := propext (nI_eq ha hb)
theorem nN_toInt : nN.toInt = -5 := rfl
theorem nI_nN {a : Nat} (ha : a < 2 ^ 31) : (nI a = nN) = False := by
  refine propext ⟨fun h => ?_, fun h => h.elim⟩
  have h1 := congrArg Int32.toInt h
  rw [nI_toInt ha, nN_toInt] at h1
  omega
theorem nN_nI {a : Nat} (ha : a < 2 ^ 31) : (nN = nI a) = False := by
  refine propext ⟨fun h => ?_, fun h => h.elim⟩
  have h1 := congrArg Int32.toInt h
  rw [nI_toInt ha, nN_toInt] at h1
  omega
theorem nN_lt {a : Nat} (ha : a < 2 ^ 31) : (nN < nI a) = True := by
  refine propext ⟨fun _ => trivial, fun _ => ?_⟩
  rw [Int32.lt_iff_toInt_lt, nI_toInt ha, nN_toInt]
  omega
theorem nN_le {a : Nat} (ha : a < 2 ^ 31) : (nN ≤ nI a) = True := by
  refine propext ⟨fun _ => trivial, fun _ => ?_⟩
  rw [Int32.le_iff_toInt_le, nI_toInt ha, nN_toInt]
  omega
theorem lt_nN {a : Nat} (ha : a < 2 ^ 31) : (nI a < nN) = False := by
  refine propext ⟨fun h => ?_, fun h => h.elim⟩
  rw [Int32.lt_iff_toInt_lt, nI_toInt ha, nN_toInt] at h
  omega
theorem sub_nI {a b : Nat} (h : b ≤ a) : nI a - nI b = nI (a - b) := pk_sub h
theorem dec_nI {a : Nat} (h : 0 < a) : nI a + -(nI 1) = nI (a - 1) := by
  obtain ⟨b, rfl⟩ : ∃ b, a = b + 1 := ⟨a - 1, by omega⟩
  exact pk_m1 b
theorem mul_nI (a b : Nat) : nI a * nI b = nI (a * b) := pk_mul a b
theorem cl_nI {i : Nat} (h : i < 2 ^ 31) : (nI i).toNatClampNeg = i := nI_clamp h
theorem inb_nI {i n : Nat} (h : i < 2 ^ 31) : inb (nI i) n = decide (i < n) := by
  unfold inb
  rw [nI_toInt h]
  congr 1
  apply propext
  omega
theorem bd_some {α β : Type} (a : α) (f : α → Option β) : bd (some a) f = f a := rfl
theorem bd2_some {α β γ : Type} (a : α) (b : β) (f : α → β → Option γ) : bd2 (some (a, b)) f = f a b := rfl
theorem gd_true {β : Type} (x : Option β) : gd true x = x := rfl
theorem gd_dec {β : Type} {c : Prop} (hd : Decidable c) (h : c) (x : Option β) : gd (@decide c hd) x = x := by
  rw [decide_eq_true h]; rfl
theorem gd_t {β : Type} {b : Bool} (h : b = true) (x : Option β) : gd b x = x := by rw [h]; rfl
theorem st3_e {β : Type} (G : GT) (k i j : Nat) (x : Int32) (f : GT → Option β) : st3 G k i j x f = f (up3 G k i j x) := rfl
theorem isB_0 : isB (nI 0) = true := by decide
theorem isB_1 : isB (nI 1) = true := by decide
theorem b01 {c : Prop} (hd : Decidable c) : ((@ite Int32 c hd (nI 1) (nI 0)) = nI 0) = ¬ c := by
  by_cases h : c
  · rw [if_pos h]; exact propext ⟨fun q => absurd q (by decide), fun q => absurd h q⟩
  · rw [if_neg h]; exact propext ⟨fun _ => h, fun _ => rfl⟩
theorem isB_ite {c : Prop} (hd : Decidable c) : isB (@ite Int32 c hd (nI 1) (nI 0)) = true := by
  by_cases h : c
  · rw [if_pos h]; exact isB_1
  · rw [if_neg h]; exact isB_0
/-! reading a heap behind a write -/
theorem up3_r (G : GT) (k i j a b c : Nat) (x : Int32) : up3 G k i j x a b c = if a = k ∧ b = i ∧ c = j then x else G a b c := by
  unfold up3
  by_cases h : a = k ∧ b = i
  · rw [if_pos h]
    by_cases hc : c = j
    · rw [if_pos ⟨h.1, h.2, hc⟩]; unfold upd; rw [if_pos hc]
    · rw [if_neg (fun q => hc q.2.2)]; unfold upd; rw [if_neg hc]
  · rw [if_neg h, if_neg (fun q => h ⟨q.1, q.2.1⟩)]
/-- a block of a cell replaced: its first m slots are those of f -/
def bc (G : GT) (k i : Nat) (f : Nat → Int32) (o m : Nat) : GT := fun a b c => if a = k ∧ b = i ∧ o ≤ c ∧ c < o + m then f (c - o) else G a b c
theorem bc_0 (G : GT) (k i : Nat) (f : Nat → Int32) (o : Nat) : bc G k i f o 0 = G := by
  funext a b c
  unfold bc
  rw [if_neg (by omega)]
theorem bc_s (G : GT) (k i : Nat) (f : Nat → Int32) (o m : Nat) : up3 (bc G k i f o m) k i (o + m) (f m) = bc G k i f o (m + 1) := by
  funext a b c
  rw [up3_r]
  unfold bc
  by_cases h : a = k ∧ b = i ∧ c = o + m
  · obtain ⟨rfl, rfl, rfl⟩ := h
    rw [if_pos ⟨rfl, rfl, rfl⟩, if_pos ⟨rfl, rfl, by omega, by omega⟩, Nat.add_sub_cancel_left]
  · rw [if_neg h]
    by_cases h2 : a = k ∧ b = i ∧ o ≤ c ∧ c < o + m
    · rw [if_pos h2, if_pos ⟨h2.1, h2.2.1, h2.2.2.1, by omega⟩]
    · rw [if_neg h2, if_neg (fun q => h2 ⟨q.1, q.2.1, q.2.2.1, by
        have := q.2.2.2
        have h3 : c ≠ o + m := fun z => h ⟨q.1, q.2.1, z⟩
        omega⟩)]
theorem bc_in {G : GT} {k i o m c : Nat} {f : Nat → Int32} (h : o ≤ c) (h2 : c < o + m) : bc G k i f o m k i c = f (c - o) := by
  unfold bc; rw [if_pos ⟨rfl, rfl, h, h2⟩]
theorem bc_out {G : GT} {k i o m a b c : Nat} {f : Nat → Int32} (h : ¬ (a = k ∧ b = i ∧ o ≤ c ∧ c < o + m)) : bc G k i f o m a b c = G a b c := by
  unfold bc; rw [if_neg h]
/-! loops -/
/-- a loop that counts up to N -/
theorem up_to {β : Type} (A : Nat → Nat → β) (N : Nat) (res : β) (hs : ∀ n i, i < N → A (n + 1) i = A n (i + 1)) (he : ∀ n, A (n + 1) N = res) : ∀ (d i n : Nat), N - i = d → i ≤ N → d < n → A n i = res := by
  intro d
  induction d with
  | zero =>
    intro i n h1 h2 h3
    obtain ⟨m, rfl⟩ : ∃ m, n = m + 1 := ⟨n - 1, by omega⟩
    obtain rfl : i = N := by omega
    exact he m
  | succ d ih =>
    intro i n h1 h2 h3
    obtain ⟨m, rfl⟩ : ∃ m, n = m + 1 := ⟨n - 1, by omega⟩
    rw [hs m i (by omega)]
    exact ih (i + 1) m (by omega) (by omega) (by omega)
theorem up_fu {β : Type} (A : Nat → Nat → β) (N : Nat) (res : β) (hN : N < 1300) (hs : ∀ n i, i < N → A (n + 1) i = A n (i + 1)) (he : ∀ n, A (n + 1) N = res) : A FU 0 = res := up_to A N res hs he N 0 FU rfl (Nat.zero_le _) (by rw [FU_eq]; exact hN)
theorem up_fui {β : Type} (A : Nat → Nat → β) (N i : Nat) (res : β) (hN : N < 1300) (hi : i ≤ N) (hs : ∀ n i, i < N → A (n + 1) i = A n (i + 1)) (he : ∀ n, A (n + 1) N = res) : A FU i = res := up_to A N res hs he (N - i) i FU rfl hi (by rw [FU_eq]; omega)
/-- a loop with a way out -/
def sr {β : Type} (c : Nat → Prop) (hd : ∀ i, Decidable (c i)) (out : Nat → β) (fin : β) : Nat → Nat → β
  | 0, _ => fin
  | d + 1, i => if c i then out i else sr c hd out fin d (i + 1)
theorem up_sr {β : Type} (A : Nat → Nat → β) (N : Nat) (c : Nat → Prop) (hd : ∀ i, Decidable (c i)) (out : Nat → β) (fin : β) (hs : ∀ n i, i < N → A (n + 1) i = if c i then out i else A n (i + 1)) (he : ∀ n, A (n + 1) N = fin) : ∀ (d i n : Nat), N - i = d → i ≤ N → d < n → A n i = sr c hd out fin d i := by
  intro d
  induction d with
  | zero =>
    intro i n h1 h2 h3
    obtain ⟨m, rfl⟩ : ∃ m, n = m + 1 := ⟨n - 1, by omega⟩
    obtain rfl : i = N := by omega
    exact he m
  | succ d ih =>
    intro i n h1 h2 h3
    obtain ⟨m, rfl⟩ : ∃ m, n = m + 1 := ⟨n - 1, by omega⟩
    rw [hs m i (by omega)]
    unfold sr
    by_cases hc : c i
    · rw [if_pos hc, if_pos hc]
    · rw [if_neg hc, if_neg hc]
      exact ih (i + 1) m (by omega) (by omega) (by omega)
/-- a loop that counts down from i -/
theorem down_to {β : Type} (A : Nat → Nat → β) (res : β) (hs : ∀ n i, A (n + 1) (i + 1) = A n i) (he : ∀ n, A (n + 1) 0 = res) : ∀ (i n : Nat), i < n → A n i = res := by
  intro i
  induction i with
  | zero =>
    intro n h
    obtain ⟨m, rfl⟩ : ∃ m, n = m + 1 := ⟨n - 1, by omega⟩
    exact he m
  | succ i ih =>
    intro n h
    obtain ⟨m, rfl⟩ : ∃ m, n = m + 1 := ⟨n - 1, by omega⟩
    rw [hs m i]
    exact ih m (by omega)
/-- the general loop that counts up: from state s at i the result is R s i -/
theorem lp_up {β σ : Type} (F : Nat → σ → Nat → β) (N : Nat) (R : σ → Nat → β) (P : σ → Nat → Prop) (hs : ∀ n s i, i < N → P s i → (∃ s', P s' (i + 1) ∧ F (n + 1) s i = F n s' (i + 1) ∧ R s i = R s' (i + 1)) ∨ F (n + 1) s i = R s i) (he : ∀ n s, P s N → F (n + 1) s N = R s N) : ∀ (d i n : Nat) (s : σ), N - i = d → i ≤ N → d < n → P s i → F n s i = R s i := by
  intro d
  induction d with
  | zero =>
    intro i n s h1 h2 h3 h4
    obtain ⟨m, rfl⟩ : ∃ m, n = m + 1 := ⟨n - 1, by omega⟩
    obtain rfl : i = N := by omega
    exact he m s h4
  | succ d ih =>
    intro i n s h1 h2 h3 h4
    obtain ⟨m, rfl⟩ : ∃ m, n = m + 1 := ⟨n - 1, by omega⟩
    rcases hs m s i (by omega) h4 with ⟨s', p1, p2, p3⟩ | h
    · rw [p2, p3]
      exact ih (i + 1) m s' (by omega) (by omega) (by omega) p1
    · exact h
theorem lp_fu {β σ : Type} (F : Nat → σ → Nat → β) (N : Nat) (R : σ → Nat → β) (P : σ → Nat → Prop) (hN : N < 1300) (hs : ∀ n s i, i < N → P s i → (∃ s', P s' (i + 1) ∧ F (n + 1) s i = F n s' (i + 1) ∧ R s i = R s' (i + 1)) ∨ F (n + 1) s i = R s i) (he : ∀ n s, P s N → F (n + 1) s N = R s N) (i : Nat) (s : σ) (hi : i ≤ N) (h : P s i) : F FU s i = R s i := lp_up F N R P hs he (N - i) i FU s rfl hi (by rw [FU_eq]; omega) h
/-- a cell's ints replaced -/
def wc (G : GT) (k i : Nat) (f : Nat → Int32) : GT := fun a b => if a = k ∧ b = i then f else G a b
theorem wc_at (G : GT) (k i : Nat) (f : Nat → Int32) : wc G k i f k i = f := by simp [wc]
theorem wc_ne {G : GT} {k i a b : Nat} {f : Nat → Int32} (h : ¬ (a = k ∧ b = i)) : wc G k i f a b = G a b := by simp only [wc, if_neg h]
theorem wc_self (G : GT) (k i : Nat) : wc G k i (G k i) = G := by
  funext a b
  by_cases h : a = k ∧ b = i
  · obtain ⟨rfl, rfl⟩ := h; rw [wc_at]
  · rw [wc_ne h]
theorem up_wc (G : GT) (k i j : Nat) (f : Nat → Int32) (x : Int32) : up3 (wc G k i f) k i j x = wc G k i (upd f j x) := by
  funext a b
  by_cases h : a = k ∧ b = i
  · obtain ⟨rfl, rfl⟩ := h; rw [up3_at, wc_at, wc_at]
  · rw [up3_ne h, wc_ne h, wc_ne h]
theorem up_wc0 (G : GT) (k i j : Nat) (x : Int32) : up3 G k i j x = wc G k i (upd (G k i) j x) := by
  rw [← up_wc, wc_self]
theorem wc_comm {G : GT} {k i a b : Nat} {f h : Nat → Int32} (e : ¬ (a = k ∧ b = i)) : wc (wc G k i f) a b h = wc (wc G a b h) k i f := by
  funext c d
  by_cases h1 : c = k ∧ d = i
  · obtain ⟨rfl, rfl⟩ := h1
    rw [wc_at, wc_ne (fun q => e ⟨q.1.symm, q.2.symm⟩), wc_at]
  · rw [wc_ne h1]
    by_cases h2 : c = a ∧ d = b
    · obtain ⟨rfl, rfl⟩ := h2
      rw [wc_at, wc_at]
    · rw [wc_ne h2, wc_ne h1, wc_ne h2]
theorem wc_wc (G : GT) (k i : Nat) (f h : Nat → Int32) : wc (wc G k i f) k i h = wc G k i h := by
  funext a b
  by_cases e : a = k ∧ b = i
  · obtain ⟨rfl, rfl⟩ := e; rw [wc_at, wc_at]
  · rw [wc_ne e, wc_ne e, wc_ne e]
theorem upd_at (f : Nat → Int32) (k : Nat) (x : Int32) : upd f k x k = x := by simp [upd]
theorem upd_ne {f : Nat → Int32} {k j : Nat} {x : Int32} (h : j ≠ k) : upd f k x j = f j := by simp [upd, h]
/-- how many of the first n -/
def cn (f : Nat → Bool) : Nat → Nat
  | 0 => 0
  | n + 1 => cn f n + (if f n = true then 1 else 0)
theorem cn_le (f : Nat → Bool) : ∀ n, cn f n ≤ n
  | 0 => Nat.le_refl 0
  | n + 1 => by
    have := cn_le f n
    unfold cn
    split <;> omega
theorem cn_mono (f : Nat → Bool) {m n : Nat} (h : m ≤ n) : cn f m ≤ cn f n := by
  induction n with
  | zero => obtain rfl : m = 0 := by omega
            exact Nat.le_refl _
  | succ n ih =>
    by_cases e : m = n + 1
    · subst e; exact Nat.le_refl _
    · have := ih (by omega)
      show _ ≤ cn f n + _
      omega
theorem cn_t {f : Nat → Bool} {n : Nat} (h : f n = true) : cn f (n + 1) = cn f n + 1 := by simp [cn, h]
theorem cn_f {f : Nat → Bool} {n : Nat} (h : f n = false) : cn f (n + 1) = cn f n := by simp [cn, h]
theorem cn_lt {f : Nat → Bool} {p n : Nat} (h : f p = true) (hp : p < n) : cn f p < cn f n := by
  have h1 := cn_mono f (show p + 1 ≤ n by omega)
  rw [cn_t h] at h1
  omega
theorem cn_inj {f : Nat → Bool} {p q : Nat} (hp : f p = true) (hq : f q = true) (h : cn f p = cn f q) : p = q := by
  rcases Nat.lt_trichotomy p q with e | e | e
  · have := cn_lt hp e; omega
  · exact e
  · have := cn_lt hq e; omega
theorem cn_ex {f : Nat → Bool} {j : Nat} : ∀ {n : Nat}, j < cn f n → ∃ p, p < n ∧ f p = true ∧ cn f p = j
  | 0, h => absurd h (Nat.not_lt_zero _)
  | n + 1, h => by
    by_cases h1 : j < cn f n
    · obtain ⟨p, a, b, c⟩ := cn_ex h1
      exact ⟨p, by omega, b, c⟩
    · by_cases h2 : f n = true
      · rw [cn_t h2] at h
        exact ⟨n, by omega, h2, by omega⟩
      · rw [cn_f (by simpa using h2)] at h
        exact absurd h h1
theorem cn_cong {f h : Nat → Bool} : ∀ {n : Nat}, (∀ p, p < n → f p = h p) → cn f n = cn h n
  | 0, _ => rfl
  | n + 1, e => by
    unfold cn
    rw [cn_cong (fun p hp => e p (by omega)), e n (by omega)]
/-- the place of rank j -/
def sp (f : Nat → Bool) (j : Nat) : Nat → Nat
  | 0 => 0
  | n + 1 => if f n = true ∧ cn f n = j then n else sp f j n
theorem sp_at {f : Nat → Bool} {p : Nat} (h : f p = true) : ∀ {n : Nat}, p < n → sp f (cn f p) n = p
  | 0, hp => absurd hp (Nat.not_lt_zero _)
  | n + 1, hp => by
    unfold sp
    by_cases e : f n = true ∧ cn f n = cn f p
    · rw [if_pos e]
      exact cn_inj e.1 h e.2
    · rw [if_neg e]
      have : p ≠ n := fun q => e ⟨q ▸ h, by rw [q]⟩
      exact sp_at h (by omega)
