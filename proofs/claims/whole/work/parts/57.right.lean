/-! allRightIn -/
theorem div_nI {a b : Nat} (ha : a < 2 ^ 31) (hb : b < 2 ^ 31) : nI a / nI b = nI (a / b) := by
  have hd := Nat.div_le_self a b
  apply Int32.toInt_inj.mp
  rw [Int32.toInt_div, nI_toInt ha, nI_toInt hb, nI_toInt (by omega), ← Int.ofNat_tdiv]
  generalize a / b = q at hd ⊢
  apply Int.bmod_eq_of_le <;> omega
theorem subI {s h : Nat} (hs : s < 2 ^ 30) (hh : h < 2 ^ 30) : (nI s - nI h).toInt = (s : Int) - h := by
  rw [Int32.toInt_sub, nI_toInt (by omega), nI_toInt (by omega)]
  apply Int.bmod_eq_of_le <;> omega
theorem imax_sub {m s h : Nat} (hm : m < 2 ^ 30) (hs : s < 2 ^ 30) (hh : h < 2 ^ 30) : imax (nI m) (nI s - nI h) = nI (max m (s - h)) := by
  by_cases e : h ≤ s
  · rw [sub_nI e, imax_nI (by omega) (by omega)]
  · unfold imax
    rw [if_neg (by rw [Int32.lt_iff_toInt_lt, subI hs hh, nI_toInt (by omega)]; omega), show max m (s - h) = m by omega]
theorem le0_sub {s h : Nat} (hs : s < 2 ^ 30) (hh : h < 2 ^ 30) : (nI s - nI h ≤ nI 0) = (s ≤ h) := by
  rw [Int32.le_iff_toInt_le, subI hs hh, nI_toInt (by decide)]
  apply propext
  omega
def mm (f : Nat → Nat) : Nat → Nat
  | 0 => 0
  | n + 1 => max (mm f n) (f n)
theorem mm_le {f : Nat → Nat} {b : Nat} (h : ∀ n, f n ≤ b) : ∀ n, mm f n ≤ b
  | 0 => Nat.zero_le _
  | n + 1 => by
    have := mm_le h n
    have := h n
    unfold mm
    omega
/-- rings until m more are heard, e at a time -/
def ru (e m : Nat) : Nat := (m + e - 1) / e
theorem ru_mono {e m n : Nat} (h : m ≤ n) : ru e m ≤ ru e n := Nat.div_le_div_right (by omega)
theorem ru_0 {e : Nat} (h : 0 < e) : ru e 0 = 0 := Nat.div_eq_of_lt (by omega)
theorem ru_max {e : Nat} (m n : Nat) : ru e (max m n) = max (ru e m) (ru e n) := by
  rcases Nat.le_total m n with h | h
  · have := ru_mono (e := e) h
    rw [show max m n = n by omega]
    omega
  · have := ru_mono (e := e) h
    rw [show max m n = m by omega]
    omega
theorem mm_ru {e : Nat} (he : 0 < e) (f : Nat → Nat) : ∀ n, mm (fun l => ru e (f l)) n = ru e (mm f n)
  | 0 => (ru_0 he).symm
  | n + 1 => by
    unfold mm
    rw [mm_ru he f n, ru_max]
theorem ru_le {e m : Nat} : ru e m ≤ m + e := by
  have := Nat.div_le_self (m + e - 1) e
  unfold ru
  omega
/-- what learner l has heard of word w -/
def hd' (x : Nat → Int32) (l w : Nat) : Nat := (x (177 + 16 * l + w)).toNatClampNeg
def sg (x : Nat → Int32) : Nat := (x 285).toNatClampNeg
def Hb (x : Nat → Int32) : Prop := (x 285 = nI (sg x) ∧ sg x ≤ 9) ∧ ∀ l w, l < 6 → w < 16 → x (177 + 16 * l + w) = nI (hd' x l w) ∧ hd' x l w < 2 ^ 30
theorem hb_of {t : Nat} {x : Nat → Int32} (h : Wf t x) (ht : t ≤ 512) : Hb x := by
  obtain ⟨-, -, ⟨n, n1, n2, n3⟩, hh⟩ := h
  refine ⟨?_, fun l w hl hw => ?_⟩
  · have : sg x = n := by unfold sg; rw [n3, cl_nI (by omega)]
    rw [this]; exact ⟨n3, n2⟩
  · obtain ⟨m, m1, m2⟩ := hh (16 * l + w) (by omega)
    have e : x (177 + 16 * l + w) = nI m := by rw [← m2]; congr 1; omega
    have : hd' x l w = m := by unfold hd'; rw [e, cl_nI (by omega)]
    rw [this]; exact ⟨e, by omega⟩
def ms (x : Nat → Int32) (w l : Nat) : Nat := sg x - hd' x l w
theorem mostMissing_e (G : GT) {x : Nat → Int32} (hC : Cl G x) (hb : Hb x) {w : Nat} (hw : w < 16) : fX1_mostMissing G 0 (nI w) = some (nI (mm (ms x w) 6)) := by
  obtain ⟨⟨h1, h2⟩, h3⟩ := hb
  have hle : ∀ n, mm (ms x w) n ≤ 9 := mm_le (fun n => by unfold ms; omega)
  unfold fX1_mostMissing
  exact up_fu (fun n l => fX1_mostMissing_4 G 0 (nI w) n (nI (mm (ms x w) l)) (nI l)) 6 _ (by decide)
    (fun n l hl => by
      show fX1_mostMissing_4 G 0 (nI w) (n + 1) (nI (mm (ms x w) l)) (nI l) = fX1_mostMissing_4 G 0 (nI w) n (nI (mm (ms x w) (l + 1))) (nI (l + 1))
      obtain ⟨a, b⟩ := h3 l w hl hw
      have := hle l
      rw [fX1_mostMissing_4, timesHeard_e G hl hw, bd_some, hC.1, hC.2.1 _ (by omega), show 177 + (l * 16 + w) = 177 + 16 * l + w by omega, a, h1, imax_sub (by omega) (by omega) b, mm]
      simp only [lit, nI_add]
      rw [if_neg (show ¬ nI 6 ≤ nI l by rw [le_nI (by decide) (by omega)]; omega)]
      rfl)
    (fun n => by
      show fX1_mostMissing_4 G 0 (nI w) (n + 1) _ (nI 6) = _
      rw [fX1_mostMissing_4, if_pos (by decide)])
/-- the rings a word wants -/
def rg (x : Nat → Int32) (e w : Nat) : Nat := if 0 < e then ru e (mm (ms x w) 6) else 0
theorem rg_le {x : Nat → Int32} (hb : Hb x) (e w : Nat) : rg x e w ≤ 9 + e := by
  have h1 : mm (ms x w) 6 ≤ 9 := mm_le (fun n => by unfold ms; have := hb.1.2; omega) 6
  have := ru_le (e := e) (m := mm (ms x w) 6)
  unfold rg
  split <;> omega
theorem until_e (G : GT) {x : Nat → Int32} (hC : Cl G x) (hb : Hb x) {w e : Nat} (hw : w < 16) (he : e ≤ 40) : fX7_ringsUntilAllKnow G (nI w) (nI e) = some (nI (rg x e w)) := by
  have h1 : mm (ms x w) 6 ≤ 9 := mm_le (fun n => by unfold ms; have := hb.1.2; omega) 6
  unfold fX7_ringsUntilAllKnow rg nz ru
  rw [mostMissing_e G hC hb hw, bd_some]
  simp only [lit]
  by_cases c : 0 < e
  · rw [if_pos (show nI 0 < nI e by rw [lt_nI (by decide) (by omega)]; exact c), if_pos c, gd_dec _ (by rw [eq_nI (by omega) (by decide)]; omega), nI_add, sub_nI (by omega), div_nI (by omega) (by omega)]
  · rw [if_neg (show ¬ nI 0 < nI e by rw [lt_nI (by decide) (by omega)]; exact c), if_neg c]
/-- the most rings, the first n words -/
def mr (x : Nat → Int32) (ws : Nat) : Nat → Nat := mm (fun w => rg x (cn (isv x x ws (nI w)) 40) w)
theorem mr_le {x : Nat → Int32} (hb : Hb x) (ws : Nat) : ∀ n, mr x ws n ≤ 49 := mm_le (fun w => by
  have := rg_le hb (cn (isv x x ws (nI w)) 40) w
  have := cn_le (isv x x ws (nI w)) 40
  omega)
theorem right17 (G : GT) {x : Nat → Int32} {ws : Nat} (hR : RD G 0 x x ws) (hC : Cl G x) (hCw : Cw G x ws) (hW : Wd x ws) (hb : Hb x) : fX7_allRightIn_17 G FU (nI 0) (nI 0) = some (nI (mr x ws ws), G) := by
  have hws := hW.2.1
  exact up_fu (fun n w => fX7_allRightIn_17 G n (nI (mr x ws w)) (nI w)) ws _ (by omega)
    (fun n w hw => by
      show fX7_allRightIn_17 G (n + 1) (nI (mr x ws w)) (nI w) = fX7_allRightIn_17 G n (nI (max (mr x ws w) (rg x (cn (isv x x ws (nI w)) 40) w))) (nI (w + 1))
      have h1 := cn_le (isv x x ws (nI w)) 40
      have h2 := mr_le hb ws w
      have h3 := rg_le hb (cn (isv x x ws (nI w)) 40) w
      rw [fX7_allRightIn_17, hCw.1, countOf_e hR, bd_some, until_e G hC hb (by omega) h1, bd_some, imax_nI (by omega) (by omega)]
      simp only [lit, nI_add]
      rw [if_neg (show ¬ nI ws ≤ nI w by rw [le_nI (by omega) (by omega)]; omega)])
    (fun n => by
      show fX7_allRightIn_17 G (n + 1) _ (nI ws) = _
      rw [fX7_allRightIn_17, hCw.1, if_pos (Int32.le_refl _)])
theorem right80 (G : GT) {A s : Nat} (a2 a3 : Int32) (l : Nat) (hA : A < 2 ^ 30) (hs : s < 2 ^ 30) (k14 k34 : Int32 → Int32 → Option Int32) : fX8_allRightIn_80 G (nI A) a2 a3 (nI l) (nI s) k14 k34 = k34 (nI (max A s)) (nI (l + 1)) := by
  unfold fX8_allRightIn_80
  simp only [lit, nI_add]
  by_cases e : s ≤ A
  · rw [if_pos (show nI s ≤ nI A by rw [le_nI (by omega) (by omega)]; exact e), show max A s = A by omega]
  · rw [if_neg (show ¬ nI s ≤ nI A by rw [le_nI (by omega) (by omega)]; exact e), show max A s = s by omega]
theorem right34 (G : GT) {w e A : Nat} (hb : Hb (G 23 0)) (hw : w < 16) (he : e ≤ 40) (hA : A ≤ 49) (k14 : Int32 → Int32 → Option Int32) : fX8_allRightIn_34 G (nI w) (nI e) k14 FU (nI A) (nI 0) = k14 (nI (max A (rg (G 23 0) e w))) (nI (w + 1)) := by
  obtain ⟨⟨h1, h2⟩, h3⟩ := hb
  by_cases c : 0 < e
  · have hr : rg (G 23 0) e w = mm (fun l => ru e (ms (G 23 0) w l)) 6 := by
      unfold rg
      rw [if_pos c, mm_ru c]
    rw [hr]
    have hle : ∀ n, mm (fun l => ru e (ms (G 23 0) w l)) n ≤ 49 := mm_le (fun n => by
      have := ru_le (e := e) (m := ms (G 23 0) w n)
      have : ms (G 23 0) w n ≤ 9 := by unfold ms; omega
      omega)
    have k : fX8_allRightIn_34 G (nI w) (nI e) k14 FU (nI (max A (mm (fun l => ru e (ms (G 23 0) w l)) 0))) (nI 0) = k14 (nI (max A (mm (fun l => ru e (ms (G 23 0) w l)) 6))) (nI (w + 1)) := by
      refine up_fu (fun n l => fX8_allRightIn_34 G (nI w) (nI e) k14 n (nI (max A (mm (fun l => ru e (ms (G 23 0) w l)) l))) (nI l)) 6 _ (by decide) ?_ ?_
      · intro n l hl
        show fX8_allRightIn_34 G (nI w) (nI e) k14 (n + 1) (nI (max A (mm (fun l => ru e (ms (G 23 0) w l)) l))) (nI l) = fX8_allRightIn_34 G (nI w) (nI e) k14 n (nI (max A (max (mm (fun l => ru e (ms (G 23 0) w l)) l) (ru e (ms (G 23 0) w l))))) (nI (l + 1))
        obtain ⟨a, b⟩ := h3 l w hl hw
        have q1 := hle l
        have q2 : ms (G 23 0) w l ≤ 9 := by unfold ms; omega
        have q3 := ru_le (e := e) (m := ms (G 23 0) w l)
        rw [fX8_allRightIn_34, heardOf8 G hl hw, bd_some]
        simp only [lit]
        rw [if_neg (show ¬ nI 6 ≤ nI l by rw [le_nI (by decide) (by omega)]; omega), if_neg (show ¬ nI e ≤ nI 0 by rw [le_nI (by omega) (by decide)]; omega), inb_nI (by decide), gd_dec _ (by decide), cl_nI (by decide), h1, a]
        rw [show max A (max (mm (fun l => ru e (ms (G 23 0) w l)) l) (ru e (ms (G 23 0) w l))) = max (max A (mm (fun l => ru e (ms (G 23 0) w l)) l)) (ru e (ms (G 23 0) w l)) by omega]
        by_cases z : sg (G 23 0) ≤ hd' (G 23 0) l w
        · have : ms (G 23 0) w l = 0 := by unfold ms; omega
          rw [if_pos (show nI (sg (G 23 0)) - nI (hd' (G 23 0) l w) ≤ nI 0 by rw [le0_sub (by omega) b]; exact z), right80 G _ _ l (by omega) (by decide), this, ru_0 c]
        · rw [if_neg (show ¬ nI (sg (G 23 0)) - nI (hd' (G 23 0) l w) ≤ nI 0 by rw [le0_sub (by omega) b]; exact z)]
          unfold nz
          rw [gd_dec _ (by simp only [lit]; rw [eq_nI (by omega) (by decide)]; omega), sub_nI (by omega), nI_add, sub_nI (by omega), div_nI (by omega) (by omega)]
          exact right80 G _ _ l (by omega) (by unfold ru ms at q3; omega) _ _
      · intro n
        show fX8_allRightIn_34 G (nI w) (nI e) k14 (n + 1) _ (nI 6) = _
        rw [fX8_allRightIn_34, if_pos (by decide)]
        simp only [lit, nI_add]
    have : max A (mm (fun l => ru e (ms (G 23 0) w l)) 0) = A := by show max A 0 = A; omega
    rw [this] at k
    exact k
  · have hr : rg (G 23 0) e w = 0 := by unfold rg; rw [if_neg c]
    rw [hr, show max A 0 = A by omega]
    have : FU = FU - 1 + 1 := by rw [FU_eq]
    rw [this, fX8_allRightIn_34]
    simp only [lit, nI_add]
    rw [if_neg (by decide), if_pos (by rw [le_nI (by omega) (by decide)]; omega)]
/-- 27 allRightIn -/
theorem op27 {t : Nat} {G : GT} (hI : Inv t G) (ht : t ≤ 512) : Stq t G (fX7_allRightIn G) (fun G1 => lf1 (fX8_allRightIn G1) G1) := by
  refine stay2 hI ?_
  obtain ⟨ws, G1, s1, s2, s3, s4, hW⟩ := rr hI
  have e23 : G1 23 0 = G 23 0 := s3 23 0 (by omega)
  have hz1 : Kz (G1 23 0) := by rw [e23]; exact hI.kz
  have hW1 : Wd (G1 23 0) ws := by rw [e23]; exact hW
  have hL1 : Cl G1 (G 23 0) := hI.sr.cl.of (fun a p q => s3 a 0 (by omega))
  have hC1 : Cw G1 (G 23 0) ws := (hI.sr.cw hW).of (fun a p q => s3 a 0 (by omega))
  have hb := hb_of hI.wf ht
  have hb1 : Hb (G1 23 0) := by rw [e23]; exact hb
  have hws := hW.2.1
  have hle := cn_le (isw (G 23 0) (G 23 0) ws) 40
  have m1 : fX8_wordRuns G1 = some (nI (cn (isw (G 23 0) (G 23 0) ws) 40)) := by rw [wordRuns8 G1 hz1 hW1, e23]
  unfold fX7_allRightIn fX8_allRightIn
  rw [s1, bd_some, wordRuns_e s4, bd_some]
  simp only [lit, litN5]
  by_cases e : cn (isw (G 23 0) (G 23 0) ws) 40 = 0
  · exact ⟨nN, G1, by rw [e, if_pos rfl], s2, by rw [m1, bd_some, e, if_pos rfl]⟩
  · have hne : ¬ nI (cn (isw (G 23 0) (G 23 0) ws) 40) = nI 0 := by rw [eq_nI (by omega) (by decide)]; exact e
    have k : fX8_allRightIn_14 G1 FU (nI 0) (nI 0) = some (nI (mr (G 23 0) ws ws)) := up_fu (fun n w => fX8_allRightIn_14 G1 n (nI (mr (G 23 0) ws w)) (nI w)) ws _ (by omega)
      (fun n w hw => by
        show fX8_allRightIn_14 G1 (n + 1) (nI (mr (G 23 0) ws w)) (nI w) = fX8_allRightIn_14 G1 n (nI (max (mr (G 23 0) ws w) (rg (G 23 0) (cn (isv (G 23 0) (G 23 0) ws (nI w)) 40) w))) (nI (w + 1))
        have q1 := cn_le (isv (G 23 0) (G 23 0) ws (nI w)) 40
        have q2 := right34 G1 hb1 (show w < 16 by omega) q1 (mr_le hb ws w) (fX8_allRightIn_14 G1 n)
        rw [e23] at q2
        rw [fX8_allRightIn_14, runsOf8 G1 hz1 hW1, bd_some, e23]
        simp only [lit]
        rw [inb_nI (by decide), gd_dec _ (by decide), cl_nI (by decide), hW.1, if_neg (show ¬ nI ws ≤ nI w by rw [le_nI (by omega) (by omega)]; omega)]
        exact q2)
      (fun n => by
        show fX8_allRightIn_14 G1 (n + 1) _ (nI ws) = _
        rw [fX8_allRightIn_14, e23]
        simp only [lit]
        rw [inb_nI (by decide), gd_dec _ (by decide), cl_nI (by decide), hW.1, if_pos (Int32.le_refl _)])
    exact ⟨nI (mr (G 23 0) ws ws), G1, by rw [if_neg hne]; exact right17 G1 s4 hL1 hC1 hW hb, s2, by rw [m1, bd_some, if_neg hne, k]⟩
