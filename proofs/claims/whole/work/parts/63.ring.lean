/-! ring: small parts -/
theorem account_e (G : GT) {l : Nat} (hl : l < 6) (b : Bool) : fX1_account G 0 (nI l) (bI b) = some (if b = true then up3 G 9 0 l (G 9 0 l + nI 1) else up3 G 10 0 l (G 10 0 l + nI 1)) := by
  unfold fX1_account
  rw [isL7n hl, bd_some]
  simp only [lit]
  rw [if_neg (by decide)]
  cases b with
  | false =>
    rw [if_pos (show bI false = nI 0 from rfl), inb_nI (by omega), gd_dec _ (by omega), gd_dec _ (by omega), st3_e, cl_nI (by omega)]
    rfl
  | true =>
    rw [if_neg (show ¬ bI true = nI 0 by decide), inb_nI (by omega), gd_dec _ (by omega), gd_dec _ (by omega), st3_e, cl_nI (by omega)]
    rfl
/-- words that are none are not heard -/
theorem hear_m (G : GT) {l : Nat} (hl : l < 6) (d : Int32) : fX1_hear G 0 (nI l) nN d = some G := by
  unfold fX1_hear
  rw [areThere_m hl]
  rfl
/-- one who hears the first j runs -/
def hr (g x : Nat → Int32) (ws l : Nat) (f : Nat → Int32) : Nat → Nat → Int32
  | 0 => f
  | j + 1 => if rw' g x ws (rs g j) = nN then hr g x ws l f j else upd (hr g x ws l f j) (l * 16 + (rw' g x ws (rs g j)).toNatClampNeg) (hr g x ws l f j (l * 16 + (rw' g x ws (rs g j)).toNatClampNeg) + nI 1)
theorem hearRope_e (G : GT) {g x : Nat → Int32} {ws l : Nat} (hR : RD G 0 g x ws) (hW : Wd x ws) (hl : l < 6) : fX7_hearRope G (nI l) = some (wc G 8 0 (hr g x ws l (G 8 0) (cn (bg g) 40))) := by
  have hle := cn_le (bg g) 40
  have hws := hW.2.1
  unfold fX7_hearRope
  have key := up_fu (fun n j => fX7_hearRope_2 (nI l) n (wc G 8 0 (hr g x ws l (G 8 0) j)) (nI j)) (cn (bg g) 40) (some (wc G 8 0 (hr g x ws l (G 8 0) (cn (bg g) 40)))) (by omega)
    (fun n j hj => by
      show fX7_hearRope_2 (nI l) (n + 1) (wc G 8 0 (hr g x ws l (G 8 0) j)) (nI j) = fX7_hearRope_2 (nI l) n (wc G 8 0 (hr g x ws l (G 8 0) (j + 1))) (nI (j + 1))
      have hR2 : RD (wc G 8 0 (hr g x ws l (G 8 0) j)) 0 g x ws := hR.of (fun a p q => wc_ne (by omega))
      rw [fX7_hearRope_2, hR2.1, wordOf3 hR2 hj, bd_some, hr]
      simp only [lit, nI_add]
      rw [if_neg (show ¬ nI (cn (bg g) 40) ≤ nI j by rw [le_nI (by omega) (by omega)]; omega)]
      rcases rw_cases g x hW (rs g j) with ⟨u, hu, e⟩ | e
      · rw [e, hear_e _ hl (by omega), bd_some, if_neg (show ¬ nI u = nN by rw [nI_nN (by omega)]; exact id), cl_nI (by omega), up_wc, wc_at]
      · rw [e, hear_m _ hl, bd_some, if_pos rfl])
    (fun n => by
      show fX7_hearRope_2 (nI l) (n + 1) (wc G 8 0 (hr g x ws l (G 8 0) (cn (bg g) 40))) (nI (cn (bg g) 40)) = _
      have hR2 : RD (wc G 8 0 (hr g x ws l (G 8 0) (cn (bg g) 40))) 0 g x ws := hR.of (fun a p q => wc_ne (by omega))
      rw [fX7_hearRope_2, hR2.1, if_pos (Int32.le_refl _)])
  have e0 : wc G 8 0 (hr g x ws l (G 8 0) 0) = G := wc_self G 8 0
  rw [e0] at key
  exact key
