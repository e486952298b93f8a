/-! ropes: kinds g p, by place -/
def kv (g : Nat → Int32) (p : Nat) : Int32 := if p < 40 then g p else nI 0
def kn (g : Nat → Int32) (p : Nat) : Bool := decide (¬ kv g p = nI 0)
def bg (g : Nat → Int32) (p : Nat) : Bool := kn g p && (p == 0 || !kn g (p - 1))
theorem kv0 (g : Nat → Int32) (p : Nat) : (kv g p = nI 0) = (kn g p = false) := by
  unfold kn
  by_cases h : kv g p = nI 0
  · simp [h]
  · simp [h]
theorem kn_lt {g : Nat → Int32} {p : Nat} (h : kn g p = true) : p < 40 := by
  by_cases hp : p < 40
  · exact hp
  · simp [kn, kv, hp] at h
theorem kv_in {g : Nat → Int32} {p : Nat} (h : p < 40) : kv g p = g p := by simp [kv, h]
theorem kv_off {g : Nat → Int32} {p : Nat} (h : 40 ≤ p) : kv g p = nI 0 := by simp [kv, Nat.not_lt.mpr h]
theorem kn_off {g : Nat → Int32} {p : Nat} (h : 40 ≤ p) : kn g p = false := by
  rw [← kv0]; exact kv_off h
theorem bf (b : Bool) : (¬ b = true) = (b = false) := by cases b <;> simp
theorem bt' (b : Bool) : (¬ b = false) = (b = true) := by cases b <;> simp
theorem isW (a lo hi : Int32) : fX7_isWithin a lo hi = some (if lo ≤ a ∧ a ≤ hi then nI 1 else nI 0) := by
  unfold fX7_isWithin
  by_cases h1 : a < lo
  · rw [if_pos h1, if_neg (fun q => absurd (Int32.le_iff_toInt_le.mp q.1) (by have := Int32.lt_iff_toInt_lt.mp h1; omega))]; rfl
  · rw [if_neg h1]
    have h1' : lo ≤ a := by rw [Int32.le_iff_toInt_le]; rw [Int32.lt_iff_toInt_lt] at h1; omega
    by_cases h2 : hi < a
    · rw [if_pos h2, if_neg (fun q => absurd (Int32.le_iff_toInt_le.mp q.2) (by have := Int32.lt_iff_toInt_lt.mp h2; omega))]; rfl
    · rw [if_neg h2]
      have h2' : a ≤ hi := by rw [Int32.le_iff_toInt_le]; rw [Int32.lt_iff_toInt_lt] at h2; omega
      rw [if_pos ⟨h1', h2'⟩]; rfl
theorem inW (a lo hi : Int32) : fX8_in a lo hi = some (if lo ≤ a ∧ a ≤ hi then nI 1 else nI 0) := isW a lo hi
theorem kindAt_e (G : GT) (r : Nat) {p : Nat} (hp : p < 2 ^ 31) : fX2_kindAt G r (nI p) = some (kv (G 1 r) p) := by
  unfold fX2_kindAt kv
  simp (disch := omega) only [lit, litN5, le_nI, lt_nI, eq_nI, nI_nN, nN_nI, nN_lt, nN_le, lt_nN, nI_add, mul_nI, sub_nI, dec_nI, cl_nI, inb_nI, bd_some, bd2_some, gd_true, b01, isB_ite, isB_0, isB_1, isW]
  by_cases h : p < 40
  · rw [if_neg (by omega), gd_dec _ h, if_pos h]
  · rw [if_pos (by omega), if_neg h]
theorem tightAt_e (G : GT) (r : Nat) {p : Nat} (hp : p < 2 ^ 31) : fX2_tightAt G r (nI p) = some (kv (G 2 r) p) := by
  unfold fX2_tightAt kv
  simp (disch := omega) only [lit, litN5, le_nI, lt_nI, eq_nI, nI_nN, nN_nI, nN_lt, nN_le, lt_nN, nI_add, mul_nI, sub_nI, dec_nI, cl_nI, inb_nI, bd_some, bd2_some, gd_true, b01, isB_ite, isB_0, isB_1, isW]
  by_cases h : p < 40
  · rw [if_neg (by omega), gd_dec _ h, if_pos h]
  · rw [if_pos (by omega), if_neg h]
theorem kindAt_m (G : GT) (r : Nat) : fX2_kindAt G r (nI 0 - nI 1) = some (nI 0) := by
  unfold fX2_kindAt
  rw [isW, bd_some, if_pos (by decide)]
  rfl
theorem startsRun_e (G : GT) (r : Nat) {p : Nat} (hp : p < 2 ^ 31) : fX2_startsRun G r (nI p) = some (if bg (G 1 r) p = true then nI 1 else nI 0) := by
  unfold fX2_startsRun bg
  simp only [kindAt_e G r hp, bd_some, lit, kv0]
  by_cases h : kn (G 1 r) p = true
  · rw [if_neg (by simp [h]), h]
    by_cases h0 : p = 0
    · subst h0
      rw [kindAt_m, bd_some, if_pos rfl]
      simp
    · simp only [sub_nI (show 1 ≤ p by omega), kindAt_e G r (show p - 1 < 2 ^ 31 by omega), bd_some, kv0]
      have h0' : (p == 0) = false := by simp [h0]
      rw [h0']
      by_cases h2 : kn (G 1 r) (p - 1) = true <;> simp [h2]
  · have h' : kn (G 1 r) p = false := by rw [← bf]; exact h
    rw [if_pos h', h']
    simp
/-- the reference's rope -/
def Kz (x : Nat → Int32) : Prop := ∀ p, p < 40 → nI 0 ≤ x p
theorem Kz.le {x : Nat → Int32} (h : Kz x) {p : Nat} (hp : p < 40) : (x p ≤ nI 0) = (kn x p = false) := by
  rw [← kv0, kv_in hp]
  have h1 := h p hp
  refine propext ⟨fun q => Int32.toInt_inj.mp ?_, fun q => by rw [q]; exact Int32.le_refl _⟩
  rw [Int32.le_iff_toInt_le] at h1 q
  omega
theorem isPlace8 (a : Int32) : fX8_isPlace a = some (if nI 0 ≤ a ∧ a ≤ nI 39 then nI 1 else nI 0) := by
  unfold fX8_isPlace
  rw [inW, bd_some, gd_t (isB_ite _)]
  rfl
theorem isKnot8 (G : GT) (hz : Kz (G 23 0)) {p : Nat} (hp : p < 2 ^ 31) : fX8_isKnot G (nI p) = some (if kn (G 23 0) p = true then nI 1 else nI 0) := by
  unfold fX8_isKnot
  simp (disch := omega) only [lit, litN5, le_nI, lt_nI, eq_nI, nI_nN, nN_nI, nN_lt, nN_le, lt_nN, nI_add, mul_nI, sub_nI, dec_nI, cl_nI, inb_nI, bd_some, bd2_some, gd_true, b01, isB_ite, isB_0, isB_1, isPlace8, Nat.zero_add]
  by_cases h : p < 40
  · rw [if_neg (by omega), gd_dec _ (by omega)]
    simp only [hz.le h]
    by_cases h2 : kn (G 23 0) p = true <;> simp [h2]
  · rw [if_pos (by omega), kn_off (by omega)]
    simp
theorem isKnot8_m (G : GT) : fX8_isKnot G (nI 0 - nI 1) = some (nI 0) := by
  unfold fX8_isKnot
  rw [isPlace8, bd_some, if_pos (by decide)]
  rfl
theorem begins8 (G : GT) (hz : Kz (G 23 0)) {p : Nat} (hp : p < 2 ^ 31) : fX8_begins G (nI p) = some (if bg (G 23 0) p = true then nI 1 else nI 0) := by
  unfold fX8_begins bg
  simp only [isKnot8 G hz hp, bd_some, lit, b01]
  by_cases h : kn (G 23 0) p = true
  · rw [if_neg (by simp [h]), h]
    by_cases h0 : p = 0
    · subst h0
      rw [isKnot8_m, bd_some, if_pos rfl]
      simp
    · simp only [sub_nI (show 1 ≤ p by omega), isKnot8 G hz (show p - 1 < 2 ^ 31 by omega), bd_some, b01]
      have h0' : (p == 0) = false := by simp [h0]
      rw [h0']
      by_cases h2 : kn (G 23 0) (p - 1) = true <;> simp [h2]
  · have h' : kn (G 23 0) p = false := by rw [← bf]; exact h
    rw [if_pos (by simp [h']), h']
    simp
