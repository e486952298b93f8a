/-! splits: the class, forward and backward -/
theorem upd_same {f : Nat → Int32} {i : Nat} {a b : Int32} : upd (upd f i a) i b = upd f i b := by
  funext k
  unfold upd
  by_cases c : k = i
  · simp only [if_pos c]
  · simp only [if_neg c]
/-- the word w stands at the i-th knot of the run from p on -/
def spA (z : Nat → Int32) (p i w : Nat) : Bool := atb z z w (p + i) (pl z w)
def fwdR (z : Nat → Int32) (ws p n : Nat) (f : Nat → Nat) : Prop := f n = 1 ∧ ∀ i, i < n → f i = nS (fun w => if spA z p i w = true then f (i + pl z w) else 0) ws
def bwdR (z : Nat → Int32) (ws p n : Nat) (b : Nat → Nat) : Prop := b 0 = 1 ∧ ∀ j, j < n → b (j + 1) = nS (fun w => if pl z w ≤ j + 1 ∧ spA z p (j + 1 - pl z w) w = true then b (j + 1 - pl z w) else 0) ws
theorem fwd_bwd {z : Nat → Int32} {ws p : Nat} {f b : Nat → Nat} (hW : Wd z ws) (hf : fwdR z ws p (ln z p) f) (hb : bwdR z ws p (ln z p) b) : f 0 = b (ln z p) := by
  refine ways_eq (m := ws) (φ := spA z p) (L := pl z) (fun w hw => hW.2.2.1 w hw) (fun i w hw hi h => at_in (by omega) h) hf.1 hf.2 hb.1 hb.2
theorem fwd_ex {z : Nat → Int32} {ws : Nat} (hW : Wd z ws) (p n : Nat) : ∃ f, fwdR z ws p n f := fA_ex (fun w hw => hW.2.2.1 w hw)
theorem bwd_ex {z : Nat → Int32} {ws : Nat} (hW : Wd z ws) (p n : Nat) : ∃ b, bwdR z ws p n b := bA_ex (fun w hw => hW.2.2.1 w hw)
theorem cap_add (a b : Nat) : imin (nI 9999) (nI (min 9999 a) + nI (min 9999 b)) = nI (min 9999 (a + b)) := by
  rw [nI_add, imin_nI (by decide) (by omega)]
  congr 1
  omega
theorem waysFrom_e {H : GT} {z : Nat → Int32} {ws p i : Nat} {f : Nat → Nat} (hC : Cw H z ws) (hW : Wd z ws) (hk : kv (H 1 0) = kv z) (hp : p < 40) (hi : i < ln z p) (hf : fwdR z ws p (ln z p) f) (hy : ∀ j, i < j → j ≤ ln z p → H 21 0 j = nI (min 9999 (f j))) : fX7_waysFrom H (nI p) (nI i) (nI (ln z p)) = some (nI (min 9999 (f i))) := by
  have hws := hW.2.1
  have hn := ln_le z p
  rw [hf.2 i hi]
  unfold fX7_waysFrom
  exact up_fu (fun m w => fX7_waysFrom_6 H (nI p) (nI i) (nI (ln z p)) m (nI (min 9999 (nS (fun w => if spA z p i w = true then f (i + pl z w) else 0) w))) (nI w)) ws _ (by omega)
    (fun m w hw => by
      have hl := pl_le z w
      have hl1 := hW.2.2.1 w hw
      show fX7_waysFrom_6 H (nI p) (nI i) (nI (ln z p)) (m + 1) (nI (min 9999 (nS (fun w => if spA z p i w = true then f (i + pl z w) else 0) w))) (nI w) = fX7_waysFrom_6 H (nI p) (nI i) (nI (ln z p)) m (nI (min 9999 (nS (fun w => if spA z p i w = true then f (i + pl z w) else 0) (w + 1)))) (nI (w + 1))
      rw [fX7_waysFrom_6, hC.1, lengthOf6 H hC hws hw, bd_some, nS]
      simp only [lit, nI_add, isW, bd_some]
      rw [if_neg (show ¬ nI ws ≤ nI w by rw [le_nI (by omega) (by omega)]; omega), standsAt6 H hC hws hw (show p + i ≤ 80 by omega), bd_some, atb_f hk]
      by_cases e : spA z p i w = true
      · have h1 := at_in (show i ≤ ln z p by omega) e
        have c1 : nI (i + 1) ≤ nI (i + pl z w) ∧ nI (i + pl z w) ≤ nI (ln z p) := ⟨nI_le (by omega) (by omega), nI_le h1 (by omega)⟩
        have e2 : atb z z w (p + i) (pl z w) = true := e
        rw [if_pos c1, if_neg (show ¬ nI 1 = nI 0 by decide), if_pos e2, if_neg (show ¬ nI 1 = nI 0 by decide), inb_nI (by omega), gd_dec _ (by omega), cl_nI (by omega), hy _ (by omega) h1, if_pos e, cap_add]
      · have e2 : ¬ atb z z w (p + i) (pl z w) = true := e
        rw [if_neg e2, if_pos rfl, if_neg e]
        by_cases c1 : nI (i + 1) ≤ nI (i + pl z w) ∧ nI (i + pl z w) ≤ nI (ln z p)
        · rw [if_pos c1, if_neg (show ¬ nI 1 = nI 0 by decide)]; rfl
        · rw [if_neg c1, if_pos rfl]; rfl)
    (fun m => by
      show fX7_waysFrom_6 H (nI p) (nI i) (nI (ln z p)) (m + 1) _ (nI ws) = _
      rw [fX7_waysFrom_6, hC.1, if_pos (Int32.le_refl _)])
theorem spl7 {G : GT} {z : Nat → Int32} {ws p : Nat} {f : Nat → Nat} (hC : Cw G z ws) (hW : Wd z ws) (hk : kv (G 1 0) = kv z) (hp : p < 40) (hf : fwdR z ws p (ln z p) f) : ∀ (i m : Nat) (y : Nat → Int32), i < m → i ≤ ln z p → (∀ j, i ≤ j → j ≤ ln z p → y j = nI (min 9999 (f j))) → ∃ y', fX7_splits_48 (nI p) (nI (ln z p)) m (wc G 21 0 y) (nI i + -(nI 1)) = some (nI (min 9999 (f 0)), wc G 21 0 y') := by
  have hn := ln_le z p
  intro i
  induction i with
  | zero =>
    intro m y hm _ hy
    obtain ⟨m, rfl⟩ : ∃ k, m = k + 1 := ⟨m - 1, by omega⟩
    refine ⟨y, ?_⟩
    rw [fX7_splits_48, if_pos (by decide), gd_t (by decide)]
    show some (wc G 21 0 y 21 0 0, wc G 21 0 y) = _
    rw [wc_at, hy 0 (Nat.le_refl _) (Nat.zero_le _)]
  | succ i ih =>
    intro m y hm hi hy
    obtain ⟨m, rfl⟩ : ∃ k, m = k + 1 := ⟨m - 1, by omega⟩
    have e : nI (i + 1) + -(nI 1) = nI i := by rw [dec_nI (by omega)]; rfl
    have hw := waysFrom_e (H := wc G 21 0 y) (i := i) (hC.of (fun a p q => wc_ne (by omega))) hW (by rw [wc_ne (by omega)]; exact hk) hp (by omega) hf (fun j a b => by rw [wc_at]; exact hy j (by omega) b)
    obtain ⟨y', q⟩ := ih m (upd y i (nI (min 9999 (f i)))) (by omega) (by omega) (fun j a b => by
      by_cases c : j = i
      · rw [c, upd_at]
      · rw [upd_ne c]; exact hy j (by omega) b)
    refine ⟨y', ?_⟩
    rw [e, fX7_splits_48, hw, bd_some]
    simp only [lit, st3_e]
    rw [if_neg (show ¬ nI i < nI 0 by rw [lt_nI (by omega) (by decide)]; omega), inb_nI (by omega), gd_dec _ (by omega), cl_nI (by omega), up_wc]
    exact q
theorem sub_neg : ∀ b, b < 6 → ∀ a, a < b → ¬ nI 0 ≤ nI a - nI b := by decide
theorem waysUpTo_e {H : GT} {z : Nat → Int32} {ws p j : Nat} {b : Nat → Nat} (hC : Cw H z ws) (hW : Wd z ws) (hk : kv (H 1 0) = kv z) (hp : p < 40) (hj : j < 40) (hb : b (j + 1) = nS (fun w => if pl z w ≤ j + 1 ∧ spA z p (j + 1 - pl z w) w = true then b (j + 1 - pl z w) else 0) ws) (hy : ∀ i, i ≤ j → H 21 0 i = nI (min 9999 (b i))) : fX7_waysUpTo H (nI p) (nI (j + 1)) = some (nI (min 9999 (b (j + 1)))) := by
  have hws := hW.2.1
  rw [hb]
  unfold fX7_waysUpTo
  exact up_fu (fun m w => fX7_waysUpTo_5 H (nI p) (nI (j + 1)) m (nI (min 9999 (nS (fun w => if pl z w ≤ j + 1 ∧ spA z p (j + 1 - pl z w) w = true then b (j + 1 - pl z w) else 0) w))) (nI w)) ws _ (by omega)
    (fun m w hw => by
      have hl := pl_le z w
      have hl1 := hW.2.2.1 w hw
      show fX7_waysUpTo_5 H (nI p) (nI (j + 1)) (m + 1) (nI (min 9999 (nS (fun w => if pl z w ≤ j + 1 ∧ spA z p (j + 1 - pl z w) w = true then b (j + 1 - pl z w) else 0) w))) (nI w) = fX7_waysUpTo_5 H (nI p) (nI (j + 1)) m (nI (min 9999 (nS (fun w => if pl z w ≤ j + 1 ∧ spA z p (j + 1 - pl z w) w = true then b (j + 1 - pl z w) else 0) (w + 1)))) (nI (w + 1))
      rw [fX7_waysUpTo_5, hC.1, lengthOf6 H hC hws hw, bd_some, nS]
      simp only [lit, nI_add, isW, bd_some]
      rw [if_neg (show ¬ nI ws ≤ nI w by rw [le_nI (by omega) (by omega)]; omega)]
      by_cases c : pl z w ≤ j + 1
      · have c1 : nI 0 ≤ nI (j + 1 - pl z w) ∧ nI (j + 1 - pl z w) ≤ nI (j + 1 - 1) := ⟨nI_le (by omega) (by omega), nI_le (by omega) (by omega)⟩
        rw [sub_nI c, sub_nI (show 1 ≤ j + 1 by omega), if_pos c1, if_neg (show ¬ nI 1 = nI 0 by decide), nI_add, standsAt6 H hC hws hw (show p + (j + 1 - pl z w) ≤ 80 by omega), bd_some, atb_f hk]
        by_cases e : spA z p (j + 1 - pl z w) w = true
        · have e2 : atb z z w (p + (j + 1 - pl z w)) (pl z w) = true := e
          rw [if_pos e2, if_neg (show ¬ nI 1 = nI 0 by decide), inb_nI (by omega), gd_dec _ (by omega), cl_nI (by omega), hy _ (by omega), if_pos ⟨c, e⟩, cap_add]
        · have e2 : ¬ atb z z w (p + (j + 1 - pl z w)) (pl z w) = true := e
          rw [if_neg e2, if_pos rfl, if_neg (fun q => e q.2)]; rfl
      · have c1 : ¬ (nI 0 ≤ nI (j + 1) - nI (pl z w) ∧ nI (j + 1) - nI (pl z w) ≤ nI (j + 1) - nI 1) := fun q => sub_neg (pl z w) (by omega) (j + 1) (by omega) q.1
        rw [if_neg c1, if_pos rfl, if_neg (fun q => c q.1)]; rfl)
    (fun m => by
      show fX7_waysUpTo_5 H (nI p) (nI (j + 1)) (m + 1) _ (nI ws) = _
      rw [fX7_waysUpTo_5, hC.1, if_pos (Int32.le_refl _)])
theorem spb7 {G : GT} {z : Nat → Int32} {ws p : Nat} {b : Nat → Nat} (hC : Cw G z ws) (hW : Wd z ws) (hk : kv (G 1 0) = kv z) (hp : p < 40) (hb : bwdR z ws p (ln z p) b) : ∀ (d j m : Nat) (y : Nat → Int32), j + d = ln z p → d < m → (∀ i, i ≤ j → y i = nI (min 9999 (b i))) → ∃ y', fX7_splitsBack_46 (nI p) (nI (ln z p)) m (wc G 21 0 y) (nI (j + 1)) = some (nI (min 9999 (b (ln z p))), wc G 21 0 y') := by
  have hn := ln_le z p
  intro d
  induction d with
  | zero =>
    intro j m y h hm hy
    obtain ⟨m, rfl⟩ : ∃ k, m = k + 1 := ⟨m - 1, by omega⟩
    obtain rfl : j = ln z p := by omega
    refine ⟨y, ?_⟩
    rw [fX7_splitsBack_46, if_pos (show nI (ln z p) < nI (ln z p + 1) by rw [lt_nI (by omega) (by omega)]; omega), inb_nI (by omega), gd_dec _ (by omega), cl_nI (by omega), wc_at, hy _ (Nat.le_refl _)]
  | succ d ih =>
    intro j m y h hm hy
    obtain ⟨m, rfl⟩ : ∃ k, m = k + 1 := ⟨m - 1, by omega⟩
    have hw := waysUpTo_e (H := wc G 21 0 y) (j := j) (hC.of (fun a p q => wc_ne (by omega))) hW (by rw [wc_ne (by omega)]; exact hk) hp (by omega) (hb.2 j (by omega)) (fun i a => by rw [wc_at]; exact hy i a)
    obtain ⟨y', q⟩ := ih (j + 1) m (upd y (j + 1) (nI (min 9999 (b (j + 1))))) (by omega) (by omega) (fun i a => by
      by_cases c : i = j + 1
      · rw [c, upd_at]
      · rw [upd_ne c]; exact hy i (by omega))
    refine ⟨y', ?_⟩
    rw [fX7_splitsBack_46, hw, bd_some]
    simp only [lit, st3_e, nI_add]
    rw [if_neg (show ¬ nI (ln z p) < nI (j + 1) by rw [lt_nI (by omega) (by omega)]; omega), inb_nI (by omega), gd_dec _ (by omega), cl_nI (by omega), up_wc]
    exact q
