/-! steps: the simple calls -/
def Stq (t : Nat) (G : GT) (c : Option (Int32 × GT)) (m : GT → Option (Int32 × GT)) : Prop := ∃ v G1 G2, c = some (v, G1) ∧ m G1 = some (v, G2) ∧ Inv (t + 1) G2
theorem stay {t : Nat} {G : GT} {c : Option (Int32 × GT)} {m : GT → Option (Int32 × GT)} (hI : Inv t G) (v : Int32) (G1 G2 : GT) (h1 : c = some (v, G1)) (f1 : FrC G G1) (h2 : m G1 = some (v, G2)) (f2 : FrM G1 G2) : Stq t G c m := ⟨v, G1, G2, h1, h2, inv_mono _ _ (inv_M (inv_C hI f1) f2)⟩
theorem stay1 {t : Nat} {G : GT} {c : Option Int32} {m : GT → Option Int32} (hI : Inv t G) (h : ∃ v, c = some v ∧ m G = some v) : Stq t G (lf1 c G) (fun G1 => lf1 (m G1) G1) := by
  obtain ⟨v, h1, h2⟩ := h
  exact stay hI v G G (by rw [h1]; rfl) (FrC.rf G) (by show lf1 (m G) G = _; rw [h2]; rfl) (FrM.rf G)
theorem stay2 {t : Nat} {G : GT} {c : Option (Int32 × GT)} {m : GT → Option Int32} (hI : Inv t G) (h : ∃ v G1, c = some (v, G1) ∧ FrC G G1 ∧ m G1 = some v) : Stq t G c (fun G1 => lf1 (m G1) G1) := by
  obtain ⟨v, G1, h1, h2, h3⟩ := h
  exact stay hI v G1 G1 h1 h2 (by show lf1 (m G1) G1 = _; rw [h3]; rfl) (FrM.rf G1)
theorem of_in {a : Int32} {l h : Nat} (q : nI l ≤ a ∧ a ≤ nI h) (hl : l < 2 ^ 31) (hh : h < 2 ^ 31) : ∃ p, l ≤ p ∧ p ≤ h ∧ a = nI p := by
  have h1 := Int32.le_iff_toInt_le.mp q.1
  have h2 := Int32.le_iff_toInt_le.mp q.2
  rw [nI_toInt hl] at h1
  rw [nI_toInt hh] at h2
  refine ⟨a.toInt.toNat, by omega, by omega, Int32.toInt_inj.mp ?_⟩
  rw [nI_toInt (by omega)]
  omega
theorem of_lt {a : Int32} {l h : Nat} (q : nI l ≤ a ∧ a < nI h) (hl : l < 2 ^ 31) (hh : h < 2 ^ 31) : ∃ p, l ≤ p ∧ p < h ∧ a = nI p := by
  have h1 := Int32.le_iff_toInt_le.mp q.1
  have h2 := Int32.lt_iff_toInt_lt.mp q.2
  rw [nI_toInt hl] at h1
  rw [nI_toInt hh] at h2
  refine ⟨a.toInt.toNat, by omega, by omega, Int32.toInt_inj.mp ?_⟩
  rw [nI_toInt (by omega)]
  omega
theorem Inv.sr {t : Nat} {G : GT} (h : Inv t G) : Sr G 0 (G 23 0) := by obtain ⟨_, _, _, -, h2, -⟩ := h; exact h2.1
theorem Inv.wf {t : Nat} {G : GT} (h : Inv t G) : Wf t (G 23 0) := by obtain ⟨_, _, _, -, h2, -⟩ := h; exact h2.2
theorem Inv.kz {t : Nat} {G : GT} (h : Inv t G) : Kz (G 23 0) := h.wf.1
theorem Inv.tx {t : Nat} {G : GT} (h : Inv t G) : ∃ len, Tx G (G 27 0) len ∧ G 22 0 7 = nI len := by
  obtain ⟨_, _, len, -, -, -, -, a, b, c, d⟩ := h
  exact ⟨len, ⟨a, c, d⟩, b⟩
theorem Inv.r1 {t : Nat} {G : GT} (h : Inv t G) : ∀ p, p < 40 → G 1 0 p = G 23 0 p := h.sr.1
theorem kv_f {g z : Nat → Int32} (e : ∀ p, p < 40 → g p = z p) : kv g = kv z := by
  funext p
  unfold kv
  by_cases h : p < 40
  · rw [if_pos h, if_pos h, e p h]
  · rw [if_neg h, if_neg h]
theorem kn_f {g z : Nat → Int32} (e : kv g = kv z) : kn g = kn z := by funext p; unfold kn; rw [e]
theorem bg_f {g z : Nat → Int32} (e : kv g = kv z) : bg g = bg z := by funext p; unfold bg; rw [kn_f e]
theorem lnF_f {g z : Nat → Int32} (e : kv g = kv z) : ∀ n p, lnF g n p = lnF z n p
  | 0, _ => rfl
  | n + 1, p => by unfold lnF; rw [kn_f e, lnF_f e n (p + 1)]
theorem ln_f {g z : Nat → Int32} (e : kv g = kv z) : ln g = ln z := by funext p; unfold ln; exact lnF_f e _ _
theorem rs_f {g z : Nat → Int32} (e : kv g = kv z) : rs g = rs z := by funext p; unfold rs; rw [bg_f e]
theorem atb_f {g z x : Nat → Int32} {w p : Nat} (e : kv g = kv z) : ∀ n, atb g x w p n = atb z x w p n
  | 0 => rfl
  | n + 1 => by unfold atb; rw [atb_f e n, e]
theorem wfF_f {g z x : Nat → Int32} {len p : Nat} (e : kv g = kv z) : ∀ n w, wfF g x len p n w = wfF z x len p n w
  | 0, _ => rfl
  | n + 1, w => by unfold wfF mt; rw [wfF_f e n (w + 1), atb_f e]
theorem rw_f {g z : Nat → Int32} (e : kv g = kv z) (x : Nat → Int32) (ws : Nat) : rw' g x ws = rw' z x ws := by
  funext p; unfold rw' wi; rw [wfF_f e, ln_f e]
theorem loF_f {g z t u : Nat → Int32} (e : kv g = kv z) (ht : ∀ p, p < 40 → t p = u p) : ∀ n p a, loF g t n p a = loF z u n p a
  | 0, _, _ => rfl
  | n + 1, p, a => by
    unfold loF
    rw [kn_f e]
    by_cases h : kn z p = true
    · rw [if_pos h, if_pos h, ht p (kn_lt h)]
      exact loF_f e ht n (p + 1) _
    · rw [if_neg h, if_neg h]
theorem lo_f {g z t u : Nat → Int32} (e : kv g = kv z) (ht : ∀ p, p < 40 → t p = u p) (p : Nat) (a : Int32) : lo g t p a = lo z u p a := by unfold lo; exact loF_f e ht _ _ _
theorem RD_f {H : GT} {i : Nat} {g z x : Nat → Int32} {ws : Nat} (e : kv g = kv z) (h : RD H i g x ws) : RD H i z x ws := by
  unfold RD at h ⊢
  rw [← bg_f e, ← rs_f e, ← ln_f e, ← rw_f e]
  exact h
theorem Inv.kv {t : Nat} {G : GT} (h : Inv t G) : kv (G 1 0) = kv (G 23 0) := kv_f h.r1
/-- the runs read -/
theorem rr {t : Nat} {G : GT} (hI : Inv t G) : ∃ ws G1, fX7_readRuns G = some G1 ∧ FrC G G1 ∧ (∀ a b, ¬ (16 ≤ a ∧ a ≤ 19 ∧ b = 0) → G1 a b = G a b) ∧ RD G1 0 (G 23 0) (G 23 0) ws ∧ Wd (G 23 0) ws := by
  obtain ⟨hz, ⟨ws, hW⟩, -⟩ := hI.wf
  have hC := hI.sr.cw hW
  refine ⟨ws, _, ?_, ?_, ?_, RD_f hI.kv (RD_of G 0 (G 1 0) (G 23 0) ws), hW⟩
  · unfold fX7_readRuns
    rw [read_e G 0 0 hC hW.2.1]
    rfl
  · intro a b h
    exact RH_ne (by omega)
  · intro a b h
    exact RH_ne h
/-- 16 knot -/
theorem op16 {t : Nat} {G : GT} (hI : Inv t G) (a b : Int32) : Stq t G (lf1 (fX7_knot G a b) G) (fun G1 => lf1 (fX8_knot G1 a b) G1) := by
  refine stay1 hI ?_
  unfold fX7_knot fX8_knot
  simp only [isW, isPlace8, bd_some, lit, b01]
  by_cases h : nI 0 ≤ a ∧ a ≤ nI 39
  · obtain ⟨p, -, hp, rfl⟩ := of_in h (by decide) (by decide)
    have hp : p < 40 := by omega
    have hn : ¬ ¬ (nI 0 ≤ nI p ∧ nI p ≤ nI 39) := fun q => q h
    rw [if_neg hn, if_neg hn, kindAt_e G 0 (by omega), tightAt_e G 0 (by omega), runAt_e G 0 hp, runAt8 G hI.kz hp]
    simp (disch := omega) only [lit, litN5, le_nI, lt_nI, eq_nI, nI_nN, nN_nI, nN_lt, nN_le, lt_nN, nI_add, mul_nI, sub_nI, dec_nI, cl_nI, inb_nI, bd_some, bd2_some, gd_true, b01, isB_ite, isB_0, isB_1, Nat.zero_add]
    rw [gd_dec _ (by omega), gd_dec _ (by omega), kn_f hI.kv, bg_f hI.kv, kv_in hp, kv_in hp, hI.r1 p hp, hI.sr.2.1 p hp]
    by_cases h0 : b = nI 0
    · exact ⟨_, by rw [if_pos h0], by rw [if_pos h0]⟩
    · rw [if_neg h0]
      by_cases h1 : b = nI 1
      · exact ⟨_, by rw [if_pos h1], by rw [if_pos h1]⟩
      · rw [if_neg h1]
        by_cases h2 : b = nI 2
        · exact ⟨_, by rw [if_pos h2], by rw [if_pos h2]⟩
        · exact ⟨_, by rw [if_neg h2], by rw [if_neg h2]⟩
  · exact ⟨_, by rw [if_pos h], by rw [if_pos h]⟩
/-- 12 fault -/
theorem frm8 (G : GT) (v : Int32) : FrM G (up3 G 22 0 8 v) := by
  refine ⟨fun a b h => ?_, fun s h => ?_, fun j _ => ?_⟩
  · exact up3_ne (by omega)
  · rw [up3_r, if_neg (by omega)]
  · rw [up3_r, if_neg (by omega)]
theorem op12 {t : Nat} {G : GT} (hI : Inv t G) (a b : Int32) : Stq t G (lf1 (fX7_fault G (if a = 0 then 0 else 1) b) G) (fun G1 => fX8_fault G1 (if a = 0 then 0 else 1) b) := by
  obtain ⟨len, hT, h7⟩ := hI.tx
  obtain ⟨r, ha⟩ : ∃ r : Bool, ((if a = 0 then 0 else 1 : Int32) = nI 0) = (r = false) := by
    by_cases h : a = 0
    · rw [if_pos h]; exact ⟨false, by simp [lit]⟩
    · rw [if_neg h]; exact ⟨true, by simp only [lit]; simp (disch := omega) [eq_nI]⟩
  generalize (if a = 0 then 0 else 1 : Int32) = s at ha
  have hlen := hT.2.1
  unfold fX7_fault fX8_fault
  simp only [isW, in_e, bd_some, lit, b01]
  by_cases h : nI 0 ≤ b ∧ b ≤ nI 1
  · have hF := faultIndex_e G hT ha
    have h8 := ff_e G h7 hlen ha
    by_cases hn : FI r (G 27 0) len = nN
    · refine stay hI nN G (up3 G 22 0 8 (fk r (G 27 0) len 0)) ?_ (FrC.rf G) ?_ (frm8 _ _)
      · rw [if_neg (fun q => q h), hF, bd_some, hn, litN5, if_pos rfl]; rfl
      · show (if ¬ _ then _ else _) = _
        rw [if_neg (fun q => q h), h8, bd2_some, hn, if_neg (by decide), litN5]
    · have hK := faultKind_e G hT ha hn
      have h0 : nI 0 ≤ FI r (G 27 0) len := by
        rcases FI_cases r (G 27 0) len with ⟨q, -, -⟩ | ⟨j, q1, q2, -⟩ | ⟨q1, q2, -⟩
        · exact absurd q hn
        · rw [q2]; exact nI_le (Nat.zero_le _) (by omega)
        · rw [q2]; exact Int32.le_refl _
      refine stay hI (if b = nI 0 then FI r (G 27 0) len else fk r (G 27 0) len 0) G (up3 G 22 0 8 (fk r (G 27 0) len 0)) ?_ (FrC.rf G) ?_ (frm8 _ _)
      · rw [if_neg (fun q => q h), hF, bd_some, litN5, if_neg hn, hK]
        by_cases b0 : b = nI 0
        · rw [if_pos b0, if_pos b0]; rfl
        · rw [if_neg b0, if_neg b0]; rfl
      · show (if ¬ _ then _ else _) = _
        rw [if_neg (fun q => q h), h8, bd2_some, if_pos h0]
        by_cases b0 : b = nI 0
        · rw [if_pos b0, if_pos b0]
        · rw [if_neg b0, if_neg b0, up3_r, if_pos ⟨rfl, rfl, rfl⟩]
  · refine stay hI (-(nI 2)) G G ?_ (FrC.rf G) ?_ (FrM.rf G)
    · rw [if_pos h]; rfl
    · show (if ¬ _ then _ else _) = _
      rw [if_pos h]
/-- 10 type -/
theorem char_ok (a : Int32) : vp_nar .char (a.toUInt32 % 65536).toInt32 = (a.toUInt32 % 65536).toInt32 ∧ isC (a.toUInt32 % 65536).toInt32 = true := by
  have h1 : vp_nar .char (a.toUInt32 % 65536).toInt32 = (a.toUInt32 % 65536).toInt32 := by
    rw [vp_nar_char, UInt32.toUInt32_toInt32]
    congr 1
    apply UInt32.toNat_inj.mp
    simp
  refine ⟨h1, ?_⟩
  have h2 : narrow .char (.int (a.toUInt32 % 65536).toInt32) = .int (vp_nar .char (a.toUInt32 % 65536).toInt32) := rfl
  unfold isC
  rw [h2, h1]
  exact decide_eq_true rfl
theorem op10 {t : Nat} {G : GT} (hI : Inv t G) {a : Int32} (hc : vp_nar .char a = a ∧ isC a = true) : Stq t G (fX7_type G a) (fun G1 => fX8_type G1 a) := by
  obtain ⟨hs, nx, len, h1, h2, h3, h4, h5, h6, h7, h8⟩ := id hI
  unfold fX7_type fX8_type fX5_append
  by_cases e : len = 50
  · subst e
    refine stay hI (-(nI 3)) G G ?_ (FrC.rf G) ?_ (FrM.rf G)
    · rw [h5, if_neg (by decide)]; rfl
    · show (if G 22 0 7 = _ then _ else _) = _
      rw [h6, if_pos (by decide)]; rfl
  · let G1 : GT := up3 (up3 G 15 0 len a) 14 0 1 (nI (len + 1))
    let G2 : GT := up3 (up3 G1 27 0 len a) 22 0 7 (nI (len + 1))
    refine ⟨nI (len + 1), G1, G2, ?_, ?_, ?_⟩
    · rw [h5, isW]
      simp (disch := omega) only [lit, litN5, le_nI, lt_nI, eq_nI, nI_nN, nN_nI, nN_lt, nN_le, lt_nN, nI_add, mul_nI, sub_nI, dec_nI, cl_nI, inb_nI, bd_some, bd2_some, gd_true, b01, isB_ite, isB_0, isB_1, st3_e]
      rw [if_pos (by omega), if_neg (by omega), gd_dec _ (by omega), hc.1, up3_r _ 15 0 len 14 0 1, if_neg (by omega), h5, nI_add, bd_some, up3_r _ 14 0 1 14 0 1, if_pos ⟨rfl, rfl, rfl⟩]
    · have e7 : G1 22 0 7 = nI len := by
        show up3 _ 14 0 1 _ 22 0 7 = _
        rw [up3_r, if_neg (by omega), up3_r, if_neg (by omega)]; exact h6
      show (if G1 22 0 7 = _ then _ else _) = _
      rw [e7]
      simp (disch := omega) only [lit, litN5, le_nI, lt_nI, eq_nI, nI_nN, nN_nI, nN_lt, nN_le, lt_nN, nI_add, mul_nI, sub_nI, dec_nI, cl_nI, inb_nI, bd_some, bd2_some, gd_true, b01, isB_ite, isB_0, isB_1, st3_e]
      rw [if_neg e, gd_dec _ (by omega), up3_r _ 27 0 len 22 0 7, if_neg (by omega), e7, nI_add, up3_r _ 22 0 7 22 0 7, if_pos ⟨rfl, rfl, rfl⟩]
    · have eR : ∀ p q r, G2 p q r = if p = 22 ∧ q = 0 ∧ r = 7 then nI (len + 1) else if p = 27 ∧ q = 0 ∧ r = len then a else if p = 14 ∧ q = 0 ∧ r = 1 then nI (len + 1) else if p = 15 ∧ q = 0 ∧ r = len then a else G p q r := by
        intro p q r
        show up3 (up3 (up3 (up3 G 15 0 len a) 14 0 1 (nI (len + 1))) 27 0 len a) 22 0 7 (nI (len + 1)) p q r = _
        rw [up3_r, up3_r, up3_r, up3_r]
      have eC : ∀ p q, ¬ (p = 22 ∨ p = 27 ∨ p = 14 ∨ p = 15) → G2 p q = G p q := fun p q h => by
        funext r
        rw [eR, if_neg (by omega), if_neg (by omega), if_neg (by omega), if_neg (by omega)]
      have e22 : ∀ r, r ≠ 7 → G2 22 0 r = G 22 0 r := fun r h => by
        rw [eR, if_neg (by omega), if_neg (by omega), if_neg (by omega), if_neg (by omega)]
      have eH : ∀ q, Hx G2 q = Hx G q := fun q => by unfold Hx; rw [eC 25 0 (by omega)]
      refine inv_mono _ _ ⟨hs, nx, len + 1, ⟨?_, ?_, h1.2.2.1, ?_, h1.2.2.2.2⟩, ⟨?_, ?_⟩, fun q hq => ⟨?_, ?_⟩, ?_, ?_, ?_, by omega, fun j hj => ?_⟩
      · rw [e22 3 (by decide)]; exact h1.1
      · rw [eC 12 0 (by omega)]; exact h1.2.1
      · rw [eC 12 0 (by omega)]; exact h1.2.2.2.1
      · rw [eC 23 0 (by omega)]; exact h2.1.of (fun a p q => eC a 0 (by omega))
      · rw [eC 23 0 (by omega)]; exact h2.2
      · rw [eH]; exact (h3 q hq).1.of (fun a p r => eC a _ (by omega))
      · rw [eH]; exact (h3 q hq).2
      · rw [eC 20 0 (by omega), e22 5 (by decide), eC 26 0 (by omega)]
        rcases h4 with h4 | ⟨p, q, r, s⟩
        · exact Or.inl h4
        · exact Or.inr ⟨p, q, r.of (fun a p q => eC a 1 (by omega)), s⟩
      · rw [eR, if_neg (by omega), if_neg (by omega), if_pos ⟨rfl, rfl, rfl⟩]
      · rw [eR, if_pos ⟨rfl, rfl, rfl⟩]
      · by_cases ej : j = len
        · subst ej
          rw [eR, if_neg (by omega), if_neg (by omega), if_neg (by omega), if_pos ⟨rfl, rfl, rfl⟩, eR, if_neg (by omega), if_pos ⟨rfl, rfl, rfl⟩]
          exact ⟨rfl, hc.2⟩
        · rw [eR, if_neg (by omega), if_neg (by omega), if_neg (by omega), if_neg (by omega), eR, if_neg (by omega), if_neg (by omega), if_neg (by omega), if_neg (by omega)]
          exact h8 j hj
/-- 11 clear -/
theorem op11 {t : Nat} {G : GT} (hI : Inv t G) : Stq t G (fX7_clearText G) (fun G1 => fX8_clearText G1) := by
  obtain ⟨hs, nx, len, h1, h2, h3, h4, h5, h6, h7, h8⟩ := id hI
  unfold fX7_clearText fX8_clearText fX5_clear
  refine ⟨nI len, up3 G 14 0 1 (nI 0), up3 (up3 G 14 0 1 (nI 0)) 22 0 7 (nI 0), ?_, ?_, ?_⟩
  · rw [st3_e, bd_some, h5]; rfl
  · show st3 _ 22 0 7 _ _ = _
    rw [st3_e, up3_r _ 14 0 1 22 0 7, if_neg (by omega), h6]; rfl
  · have eR : ∀ p q r, up3 (up3 G 14 0 1 (nI 0)) 22 0 7 (nI 0) p q r = if p = 22 ∧ q = 0 ∧ r = 7 then nI 0 else if p = 14 ∧ q = 0 ∧ r = 1 then nI 0 else G p q r := by
      intro p q r
      rw [up3_r, up3_r]
    generalize up3 (up3 G 14 0 1 (nI 0)) 22 0 7 (nI 0) = G2 at eR
    have eC : ∀ p q, ¬ (p = 22 ∨ p = 14) → G2 p q = G p q := fun p q h => by
      funext r
      rw [eR, if_neg (by omega), if_neg (by omega)]
    have e22 : ∀ r, r ≠ 7 → G2 22 0 r = G 22 0 r := fun r h => by
      rw [eR, if_neg (by omega), if_neg (by omega)]
    have eH : ∀ q, Hx G2 q = Hx G q := fun q => by unfold Hx; rw [eC 25 0 (by omega)]
    refine inv_mono _ _ ⟨hs, nx, 0, ⟨?_, ?_, h1.2.2.1, ?_, h1.2.2.2.2⟩, ⟨?_, ?_⟩, fun q hq => ⟨?_, ?_⟩, ?_, ?_, ?_, by omega, fun j hj => ?_⟩
    · rw [e22 3 (by decide)]; exact h1.1
    · rw [eC 12 0 (by omega)]; exact h1.2.1
    · rw [eC 12 0 (by omega)]; exact h1.2.2.2.1
    · rw [eC 23 0 (by omega)]; exact h2.1.of (fun a p q => eC a 0 (by omega))
    · rw [eC 23 0 (by omega)]; exact h2.2
    · rw [eH]; exact (h3 q hq).1.of (fun a p r => eC a _ (by omega))
    · rw [eH]; exact (h3 q hq).2
    · rw [eC 20 0 (by omega), e22 5 (by decide), eC 26 0 (by omega)]
      rcases h4 with h4 | ⟨p, q, r, s⟩
      · exact Or.inl h4
      · exact Or.inr ⟨p, q, r.of (fun a p q => eC a 1 (by omega)), s⟩
    · rw [eR, if_neg (by omega), if_pos ⟨rfl, rfl, rfl⟩]
    · rw [eR, if_pos ⟨rfl, rfl, rfl⟩]
    · rw [eC 15 0 (by omega), eC 27 0 (by omega)]; exact h8 j hj
