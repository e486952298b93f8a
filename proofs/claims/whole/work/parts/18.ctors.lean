def ic (E : ET) (n : Nat) : va_E := ia E n (fun _ => 0)
def wRope (E : ET) (a : Nat → Nat) : va_W := [(a 0, .inr (2, [.ref (a 1), .ref (a 2)])), (a 1, ic E 40), (a 2, ic E 40)]
def wWords (E : ET) (a : Nat → Nat) : va_W := [(a 0, .inr (6, [.int 0, .ref (a 1), .ref (a 2), .ref (a 3)])), (a 1, ic E 16), (a 2, ic E 16), (a 3, ic E 80)]
def wLearners (E : ET) (a : Nat → Nat) : va_W := [(a 0, .inr (1, [.int 2, .ref (a 1), .ref (a 2), .ref (a 3)])), (a 1, ic E 96), (a 2, ic E 6), (a 3, ic E 6)]
def wRuns (E : ET) (a : Nat → Nat) : va_W := [(a 0, .inr (3, [.int 0, .ref (a 1), .ref (a 2), .ref (a 3)])), (a 1, ic E 20), (a 2, ic E 20), (a 3, ic E 20)]
def wText (E : ET) (a : Nat → Nat) : va_W := [(a 0, .inr (5, [.ref (a 1), .int 0])), (a 1, .inl (E.2.2.2.1, (50, .inl (fun _ => 0))))]
def wModel (E : ET) (a : Nat → Nat) : va_W := [(a 0, .inr (8, [.ref (a 1), .ref (a 2), .ref (a 3), .int 0, .ref (a 4), .int 0, .ref (a 5), .int 0, .int 0, .ref (a 6)])), (a 1, ia E 289 (upd (fun _ => 0) 285 2)), (a 2, ic E 289), (a 3, ic E 1156), (a 4, ic E 289), (a 5, ic E 50), (a 6, ic E 41)]
def wState (E : ET) (a : Nat → Nat) : va_W := (a 0, .inr (4, [.ref (a 1), .ref (a 4), .ref (a 8), .int 0, .int 0, .int 0])) :: (wRope E (fun j => a (1 + j)) ++ (wWords E (fun j => a (4 + j)) ++ wLearners E (fun j => a (8 + j))))
def wHist (E : ET) (a : Nat → Nat) : va_W := (a 0, .inr (0, [.ref (a 1), .int 0, .int 0])) :: (a 1, .inl (E.2.2.2.2, (4, .inr (.inr (.inr (.inr (va_up (va_up (va_up (va_up (fun _ => none) 0 (some (a 2))) 1 (some (a 14))) 2 (some (a 26))) 3 (some (a 38))))))))) :: (wState E (fun j => a (2 + j)) ++ (wState E (fun j => a (14 + j)) ++ (wState E (fun j => a (26 + j)) ++ wState E (fun j => a (38 + j)))))
def wKnots (E : ET) (a : Nat → Nat) : va_W := (a 0, .inr (7, [.ref (a 1), .ref (a 13), .int 0, .ref (a 25), .ref (a 75), .ref (a 77), .ref (a 81), .ref (a 84), .ref (a 88)])) :: (wState E (fun j => a (1 + j)) ++ (wState E (fun j => a (13 + j)) ++ (wHist E (fun j => a (25 + j)) ++ (wText E (fun j => a (75 + j)) ++ (wRuns E (fun j => a (77 + j)) ++ (wRope E (fun j => a (81 + j)) ++ (wRuns E (fun j => a (84 + j)) ++ [(a 88, ic E 41)])))))))
theorem gf_X0_11i : Fg RX0 11 0 0 RX0 TX0 3 := ⟨by decide, rfl, inX0, rfl, Or.inl (gt_in (i := 160) (by decide +kernel) (by decide +kernel))⟩
theorem gf_X0_18i : Fg RX0 18 0 1 RX0 TX0 3 := ⟨by decide, rfl, inX0, rfl, Or.inl (gt_in (i := 161) (by decide +kernel) (by decide +kernel))⟩
theorem gf_X0_22i : Fg RX0 22 0 2 RX0 TX0 3 := ⟨by decide, rfl, inX0, rfl, Or.inl (gt_in (i := 163) (by decide +kernel) (by decide +kernel))⟩
theorem gf_X1_9i : Fg RX1 9 1 0 RX1 TX1 4 := ⟨by decide, rfl, inX1, rfl, Or.inl (gt_in (i := 112) (by decide +kernel) (by decide +kernel))⟩
theorem gf_X1_15i : Fg RX1 15 1 1 RX1 TX1 4 := ⟨by decide, rfl, inX1, rfl, Or.inl (gt_in (i := 114) (by decide +kernel) (by decide +kernel))⟩
theorem gf_X1_19i : Fg RX1 19 1 2 RX1 TX1 4 := ⟨by decide, rfl, inX1, rfl, Or.inl (gt_in (i := 115) (by decide +kernel) (by decide +kernel))⟩
theorem gf_X1_22i : Fg RX1 22 1 3 RX1 TX1 4 := ⟨by decide, rfl, inX1, rfl, Or.inl (gt_in (i := 116) (by decide +kernel) (by decide +kernel))⟩
theorem gf_X2_9i : Fg RX2 9 2 0 RX2 TX2 2 := ⟨by decide, rfl, inX2, rfl, Or.inl (gt_in (i := 78) (by decide +kernel) (by decide +kernel))⟩
theorem gf_X2_15i : Fg RX2 15 2 1 RX2 TX2 2 := ⟨by decide, rfl, inX2, rfl, Or.inl (gt_in (i := 79) (by decide +kernel) (by decide +kernel))⟩
theorem gf_X3_9i : Fg RX3 9 3 0 RX3 TX3 4 := ⟨by decide, rfl, inX3, rfl, Or.inl (gt_in (i := 192) (by decide +kernel) (by decide +kernel))⟩
theorem gf_X3_15i : Fg RX3 15 3 1 RX3 TX3 4 := ⟨by decide, rfl, inX3, rfl, Or.inl (gt_in (i := 194) (by decide +kernel) (by decide +kernel))⟩
theorem gf_X3_19i : Fg RX3 19 3 2 RX3 TX3 4 := ⟨by decide, rfl, inX3, rfl, Or.inl (gt_in (i := 195) (by decide +kernel) (by decide +kernel))⟩
theorem gf_X3_22i : Fg RX3 22 3 3 RX3 TX3 4 := ⟨by decide, rfl, inX3, rfl, Or.inl (gt_in (i := 196) (by decide +kernel) (by decide +kernel))⟩
theorem gf_X4_10i : Fg RX4 10 4 0 RX4 TX4 6 := ⟨by decide, rfl, inX4, rfl, Or.inl (gt_in (i := 126) (by decide +kernel) (by decide +kernel))⟩
theorem gf_X4_19i : Fg RX4 19 4 1 RX4 TX4 6 := ⟨by decide, rfl, inX4, rfl, Or.inl (gt_in (i := 128) (by decide +kernel) (by decide +kernel))⟩
theorem gf_X4_26i : Fg RX4 26 4 2 RX4 TX4 6 := ⟨by decide, rfl, inX4, rfl, Or.inl (gt_in (i := 130) (by decide +kernel) (by decide +kernel))⟩
theorem gf_X4_30i : Fg RX4 30 4 3 RX4 TX4 6 := ⟨by decide, rfl, inX4, rfl, Or.inl (gt_in (i := 132) (by decide +kernel) (by decide +kernel))⟩
theorem gf_X4_34i : Fg RX4 34 4 4 RX4 TX4 6 := ⟨by decide, rfl, inX4, rfl, Or.inl (gt_in (i := 134) (by decide +kernel) (by decide +kernel))⟩
theorem gf_X4_37i : Fg RX4 37 4 5 RX4 TX4 6 := ⟨by decide, rfl, inX4, rfl, Or.inl (gt_in (i := 136) (by decide +kernel) (by decide +kernel))⟩
theorem gf_X5_9i : Fg RX5 9 5 0 RX5 TX5 2 := ⟨by decide, rfl, inX5, rfl, Or.inl (gt_in (i := 177) (by decide +kernel) (by decide +kernel))⟩
theorem gf_X5_15i : Fg RX5 15 5 1 RX5 TX5 2 := ⟨by decide, rfl, inX5, rfl, Or.inl (gt_in (i := 178) (by decide +kernel) (by decide +kernel))⟩
theorem gf_X6_9i : Fg RX6 9 6 0 RX6 TX6 4 := ⟨by decide, rfl, inX6, rfl, Or.inl (gt_in (i := 92) (by decide +kernel) (by decide +kernel))⟩
theorem gf_X6_15i : Fg RX6 15 6 1 RX6 TX6 4 := ⟨by decide, rfl, inX6, rfl, Or.inl (gt_in (i := 94) (by decide +kernel) (by decide +kernel))⟩
theorem gf_X6_19i : Fg RX6 19 6 2 RX6 TX6 4 := ⟨by decide, rfl, inX6, rfl, Or.inl (gt_in (i := 95) (by decide +kernel) (by decide +kernel))⟩
theorem gf_X6_22i : Fg RX6 22 6 3 RX6 TX6 4 := ⟨by decide, rfl, inX6, rfl, Or.inl (gt_in (i := 96) (by decide +kernel) (by decide +kernel))⟩
theorem gf_X7_10i : Fg RX7 10 7 0 RX7 TX7 9 := ⟨by decide, rfl, inX7, rfl, Or.inl (gt_in (i := 208) (by decide +kernel) (by decide +kernel))⟩
theorem gf_X7_16i : Fg RX7 16 7 1 RX7 TX7 9 := ⟨by decide, rfl, inX7, rfl, Or.inl (gt_in (i := 209) (by decide +kernel) (by decide +kernel))⟩
theorem gf_X7_19i : Fg RX7 19 7 2 RX7 TX7 9 := ⟨by decide, rfl, inX7, rfl, Or.inl (gt_in (i := 210) (by decide +kernel) (by decide +kernel))⟩
theorem gf_X7_26i : Fg RX7 26 7 3 RX7 TX7 9 := ⟨by decide, rfl, inX7, rfl, Or.inl (gt_in (i := 211) (by decide +kernel) (by decide +kernel))⟩
theorem gf_X7_33i : Fg RX7 33 7 4 RX7 TX7 9 := ⟨by decide, rfl, inX7, rfl, Or.inl (gt_in (i := 212) (by decide +kernel) (by decide +kernel))⟩
theorem gf_X7_40i : Fg RX7 40 7 5 RX7 TX7 9 := ⟨by decide, rfl, inX7, rfl, Or.inl (gt_in (i := 213) (by decide +kernel) (by decide +kernel))⟩
theorem gf_X7_47i : Fg RX7 47 7 6 RX7 TX7 9 := ⟨by decide, rfl, inX7, rfl, Or.inl (gt_in (i := 214) (by decide +kernel) (by decide +kernel))⟩
theorem gf_X7_51i : Fg RX7 51 7 7 RX7 TX7 9 := ⟨by decide, rfl, inX7, rfl, Or.inl (gt_in (i := 215) (by decide +kernel) (by decide +kernel))⟩
theorem gf_X7_54i : Fg RX7 54 7 8 RX7 TX7 9 := ⟨by decide, rfl, inX7, rfl, Or.inl (gt_in (i := 216) (by decide +kernel) (by decide +kernel))⟩
theorem gf_X8_7i : Fg RX8 7 8 0 RX8 TX8 10 := ⟨by decide, rfl, inX8, rfl, Or.inl (gt_in (i := 656) (by decide +kernel) (by decide +kernel))⟩
theorem gf_X8_13i : Fg RX8 13 8 1 RX8 TX8 10 := ⟨by decide, rfl, inX8, rfl, Or.inl (gt_in (i := 657) (by decide +kernel) (by decide +kernel))⟩
theorem gf_X8_16i : Fg RX8 16 8 2 RX8 TX8 10 := ⟨by decide, rfl, inX8, rfl, Or.inl (gt_in (i := 658) (by decide +kernel) (by decide +kernel))⟩
theorem gf_X8_19i : Fg RX8 19 8 4 RX8 TX8 10 := ⟨by decide, rfl, inX8, rfl, Or.inl (gt_in (i := 660) (by decide +kernel) (by decide +kernel))⟩
theorem gf_X8_22i : Fg RX8 22 8 6 RX8 TX8 10 := ⟨by decide, rfl, inX8, rfl, Or.inl (gt_in (i := 662) (by decide +kernel) (by decide +kernel))⟩
theorem gf_X8_25i : Fg RX8 25 8 9 RX8 TX8 10 := ⟨by decide, rfl, inX8, rfl, Or.inl (gt_in (i := 665) (by decide +kernel) (by decide +kernel))⟩
theorem dX2_init_0 : decode cX2_init 0 = .ok (.aload_n 0, 1) := by decide +kernel
theorem dX2_init_1 : decode cX2_init 1 = .ok (.invokespecial 3, 3) := by decide +kernel
theorem dX2_init_4 : decode cX2_init 4 = .ok (.aload_n 0, 1) := by decide +kernel
theorem dX2_init_5 : decode cX2_init 5 = .ok (.bipush 40, 2) := by decide +kernel
theorem dX2_init_7 : decode cX2_init 7 = .ok (.newarray .int, 2) := by decide +kernel
theorem dX2_init_9 : decode cX2_init 9 = .ok (.putfield 9, 3) := by decide +kernel
theorem dX2_init_12 : decode cX2_init 12 = .ok (.aload_n 0, 1) := by decide +kernel
theorem dX2_init_13 : decode cX2_init 13 = .ok (.bipush 40, 2) := by decide +kernel
theorem dX2_init_15 : decode cX2_init 15 = .ok (.newarray .int, 2) := by decide +kernel
theorem dX2_init_17 : decode cX2_init 17 = .ok (.putfield 15, 3) := by decide +kernel
theorem dX2_init_20 : decode cX2_init 20 = .ok (.return_, 1) := by decide +kernel
theorem mcX2 : Mc yX2_init cX2_init 1 := ⟨gt_in (i := 76) (by decide +kernel) (by decide +kernel), gt_in (i := 75) (by decide +kernel) (by decide +kernel), gt_in (i := 50) (by decide +kernel) (by decide +kernel), rfl, ⟨by decide +kernel, by decide +kernel, by decide +kernel⟩⟩
set_option maxHeartbeats 4000000 in
set_option maxRecDepth 100000 in
theorem oX2_init (l : Launch) (E : ET) : CC l E yX2_init cX2_init 1 1 2 80 2 [.null, .null] wRope := by
  refine Met_C (by decide +kernel) rfl (by decide) ?_
  intro h0 p e s m args below meth c A X hin2 hr hk Q fin
  refine n_aload_n (pc := 0) X dX2_init_0 rfl 0 rfl ?_
  refine n_init (pc := 1) X (gt_in (i := 77) (by decide +kernel) (by decide +kernel)) dX2_init_1 ⟨Nat.le_of_ble_eq_true rfl, Nat.le_of_ble_eq_true rfl⟩ ?_
  refine n_aload_n (pc := 4) X dX2_init_4 rfl 0 rfl ?_
  refine n_bipush (pc := 5) (v := 40) X dX2_init_5 (by decide) ?_
  refine n_newi (pc := 7) (N := 40) X rfl (by decide) (by decide) (Nat.le_of_ble_eq_true rfl) (Nat.le_of_ble_eq_true rfl) (Nat.le_of_ble_eq_true rfl) dX2_init_7 (fun q0 => ?_)
  show JP p l e (rmC 1 2 80) s m args below meth c A s.heap E.1 1 1 40 Q ((h0, .inr (2, [.null, .null])) :: [(q0, ic E 40)]) 9 [(0, .ref h0)] [.ref q0, .ref h0]
  refine n_putF (pc := 9) (v := .ref q0) X rfl gf_X2_9i tyX2 tyX2_ok nmX2 (Nat.le_of_ble_eq_true rfl) rfl hin2 rfl rfl rfl rfl dX2_init_9 (gt_in (i := 78) (by decide +kernel) (by decide +kernel)) ?_
  show JP p l e (rmC 1 2 80) s m args below meth c A s.heap E.1 1 1 40 Q ((h0, .inr (2, [.ref q0, .null])) :: [(q0, ic E 40)]) 12 [(0, .ref h0)] []
  refine n_aload_n (pc := 12) X dX2_init_12 rfl 0 rfl ?_
  refine n_bipush (pc := 13) (v := 40) X dX2_init_13 (by decide) ?_
  refine n_newi (pc := 15) (N := 40) X rfl (by decide) (by decide) (Nat.le_of_ble_eq_true rfl) (Nat.le_of_ble_eq_true rfl) (Nat.le_of_ble_eq_true rfl) dX2_init_15 (fun q1 => ?_)
  show JP p l e (rmC 1 2 80) s m args below meth c A s.heap E.1 1 2 80 Q ((h0, .inr (2, [.ref q0, .null])) :: ([(q0, ic E 40)] ++ [(q1, ic E 40)])) 17 [(0, .ref h0)] [.ref q1, .ref h0]
  refine n_putF (pc := 17) (v := .ref q1) X rfl gf_X2_15i tyX2 tyX2_ok nmX2 (Nat.le_of_ble_eq_true rfl) rfl hin2 rfl rfl rfl rfl dX2_init_17 (gt_in (i := 79) (by decide +kernel) (by decide +kernel)) ?_
  show JP p l e (rmC 1 2 80) s m args below meth c A s.heap E.1 1 2 80 Q ((h0, .inr (2, [.ref q0, .ref q1])) :: ([(q0, ic E 40)] ++ [(q1, ic E 40)])) 20 [(0, .ref h0)] []
  exact fin (fun j => [h0, q0, q1].getD j 0) rfl 20 [(0, .ref h0)] dX2_init_20
theorem dX6_init_0 : decode cX6_init 0 = .ok (.aload_n 0, 1) := by decide +kernel
theorem dX6_init_1 : decode cX6_init 1 = .ok (.invokespecial 3, 3) := by decide +kernel
theorem dX6_init_4 : decode cX6_init 4 = .ok (.aload_n 0, 1) := by decide +kernel
theorem dX6_init_5 : decode cX6_init 5 = .ok (.iconst 0, 1) := by decide +kernel
theorem dX6_init_6 : decode cX6_init 6 = .ok (.putfield 9, 3) := by decide +kernel
theorem dX6_init_9 : decode cX6_init 9 = .ok (.aload_n 0, 1) := by decide +kernel
theorem dX6_init_10 : decode cX6_init 10 = .ok (.bipush 16, 2) := by decide +kernel
theorem dX6_init_12 : decode cX6_init 12 = .ok (.newarray .int, 2) := by decide +kernel
theorem dX6_init_14 : decode cX6_init 14 = .ok (.putfield 15, 3) := by decide +kernel
theorem dX6_init_17 : decode cX6_init 17 = .ok (.aload_n 0, 1) := by decide +kernel
theorem dX6_init_18 : decode cX6_init 18 = .ok (.bipush 16, 2) := by decide +kernel
theorem dX6_init_20 : decode cX6_init 20 = .ok (.newarray .int, 2) := by decide +kernel
theorem dX6_init_22 : decode cX6_init 22 = .ok (.putfield 19, 3) := by decide +kernel
theorem dX6_init_25 : decode cX6_init 25 = .ok (.aload_n 0, 1) := by decide +kernel
theorem dX6_init_26 : decode cX6_init 26 = .ok (.bipush 80, 2) := by decide +kernel
theorem dX6_init_28 : decode cX6_init 28 = .ok (.newarray .int, 2) := by decide +kernel
theorem dX6_init_30 : decode cX6_init 30 = .ok (.putfield 22, 3) := by decide +kernel
theorem dX6_init_33 : decode cX6_init 33 = .ok (.return_, 1) := by decide +kernel
theorem mcX6 : Mc yX6_init cX6_init 1 := ⟨gt_in (i := 90) (by decide +kernel) (by decide +kernel), gt_in (i := 89) (by decide +kernel) (by decide +kernel), gt_in (i := 51) (by decide +kernel) (by decide +kernel), rfl, ⟨by decide +kernel, by decide +kernel, by decide +kernel⟩⟩
set_option maxHeartbeats 4000000 in
set_option maxRecDepth 100000 in
theorem oX6_init (l : Launch) (E : ET) : CC l E yX6_init cX6_init 1 1 3 112 6 [.int 0, .null, .null, .null] wWords := by
  refine Met_C (by decide +kernel) rfl (by decide) ?_
  intro h0 p e s m args below meth c A X hin2 hr hk Q fin
  refine n_aload_n (pc := 0) X dX6_init_0 rfl 0 rfl ?_
  refine n_init (pc := 1) X (gt_in (i := 91) (by decide +kernel) (by decide +kernel)) dX6_init_1 ⟨Nat.le_of_ble_eq_true rfl, Nat.le_of_ble_eq_true rfl⟩ ?_
  refine n_aload_n (pc := 4) X dX6_init_4 rfl 0 rfl ?_
  refine n_iconst (pc := 5) (v := 0) X dX6_init_5 (by decide) ?_
  refine n_put (pc := 6) (v := .int 0) X rfl gf_X6_9i tyX6 tyX6_ok nmX6 (Nat.le_of_ble_eq_true rfl) rfl rfl rfl rfl dX6_init_6 (gt_in (i := 92) (by decide +kernel) (by decide +kernel)) ?_
  show JP p l e (rmC 1 3 112) s m args below meth c A s.heap E.1 1 0 0 Q ((h0, .inr (6, [.int 0, .null, .null, .null])) :: []) 9 [(0, .ref h0)] []
  refine n_aload_n (pc := 9) X dX6_init_9 rfl 0 rfl ?_
  refine n_bipush (pc := 10) (v := 16) X dX6_init_10 (by decide) ?_
  refine n_newi (pc := 12) (N := 16) X rfl (by decide) (by decide) (Nat.le_of_ble_eq_true rfl) (Nat.le_of_ble_eq_true rfl) (Nat.le_of_ble_eq_true rfl) dX6_init_12 (fun q0 => ?_)
  show JP p l e (rmC 1 3 112) s m args below meth c A s.heap E.1 1 1 16 Q ((h0, .inr (6, [.int 0, .null, .null, .null])) :: [(q0, ic E 16)]) 14 [(0, .ref h0)] [.ref q0, .ref h0]
  refine n_putF (pc := 14) (v := .ref q0) X rfl gf_X6_15i tyX6 tyX6_ok nmX6 (Nat.le_of_ble_eq_true rfl) rfl hin2 rfl rfl rfl rfl dX6_init_14 (gt_in (i := 94) (by decide +kernel) (by decide +kernel)) ?_
  show JP p l e (rmC 1 3 112) s m args below meth c A s.heap E.1 1 1 16 Q ((h0, .inr (6, [.int 0, .ref q0, .null, .null])) :: [(q0, ic E 16)]) 17 [(0, .ref h0)] []
  refine n_aload_n (pc := 17) X dX6_init_17 rfl 0 rfl ?_
  refine n_bipush (pc := 18) (v := 16) X dX6_init_18 (by decide) ?_
  refine n_newi (pc := 20) (N := 16) X rfl (by decide) (by decide) (Nat.le_of_ble_eq_true rfl) (Nat.le_of_ble_eq_true rfl) (Nat.le_of_ble_eq_true rfl) dX6_init_20 (fun q1 => ?_)
  show JP p l e (rmC 1 3 112) s m args below meth c A s.heap E.1 1 2 32 Q ((h0, .inr (6, [.int 0, .ref q0, .null, .null])) :: ([(q0, ic E 16)] ++ [(q1, ic E 16)])) 22 [(0, .ref h0)] [.ref q1, .ref h0]
  refine n_putF (pc := 22) (v := .ref q1) X rfl gf_X6_19i tyX6 tyX6_ok nmX6 (Nat.le_of_ble_eq_true rfl) rfl hin2 rfl rfl rfl rfl dX6_init_22 (gt_in (i := 95) (by decide +kernel) (by decide +kernel)) ?_
  show JP p l e (rmC 1 3 112) s m args below meth c A s.heap E.1 1 2 32 Q ((h0, .inr (6, [.int 0, .ref q0, .ref q1, .null])) :: ([(q0, ic E 16)] ++ [(q1, ic E 16)])) 25 [(0, .ref h0)] []
  refine n_aload_n (pc := 25) X dX6_init_25 rfl 0 rfl ?_
  refine n_bipush (pc := 26) (v := 80) X dX6_init_26 (by decide) ?_
  refine n_newi (pc := 28) (N := 80) X rfl (by decide) (by decide) (Nat.le_of_ble_eq_true rfl) (Nat.le_of_ble_eq_true rfl) (Nat.le_of_ble_eq_true rfl) dX6_init_28 (fun q2 => ?_)
  show JP p l e (rmC 1 3 112) s m args below meth c A s.heap E.1 1 3 112 Q ((h0, .inr (6, [.int 0, .ref q0, .ref q1, .null])) :: ([(q0, ic E 16)] ++ [(q1, ic E 16)] ++ [(q2, ic E 80)])) 30 [(0, .ref h0)] [.ref q2, .ref h0]
  refine n_putF (pc := 30) (v := .ref q2) X rfl gf_X6_22i tyX6 tyX6_ok nmX6 (Nat.le_of_ble_eq_true rfl) rfl hin2 rfl rfl rfl rfl dX6_init_30 (gt_in (i := 96) (by decide +kernel) (by decide +kernel)) ?_
  show JP p l e (rmC 1 3 112) s m args below meth c A s.heap E.1 1 3 112 Q ((h0, .inr (6, [.int 0, .ref q0, .ref q1, .ref q2])) :: ([(q0, ic E 16)] ++ [(q1, ic E 16)] ++ [(q2, ic E 80)])) 33 [(0, .ref h0)] []
  exact fin (fun j => [h0, q0, q1, q2].getD j 0) rfl 33 [(0, .ref h0)] dX6_init_33
theorem dX1_init_0 : decode cX1_init 0 = .ok (.aload_n 0, 1) := by decide +kernel
theorem dX1_init_1 : decode cX1_init 1 = .ok (.invokespecial 3, 3) := by decide +kernel
theorem dX1_init_4 : decode cX1_init 4 = .ok (.aload_n 0, 1) := by decide +kernel
theorem dX1_init_5 : decode cX1_init 5 = .ok (.iconst 2, 1) := by decide +kernel
theorem dX1_init_6 : decode cX1_init 6 = .ok (.putfield 9, 3) := by decide +kernel
theorem dX1_init_9 : decode cX1_init 9 = .ok (.aload_n 0, 1) := by decide +kernel
theorem dX1_init_10 : decode cX1_init 10 = .ok (.bipush 96, 2) := by decide +kernel
theorem dX1_init_12 : decode cX1_init 12 = .ok (.newarray .int, 2) := by decide +kernel
theorem dX1_init_14 : decode cX1_init 14 = .ok (.putfield 15, 3) := by decide +kernel
theorem dX1_init_17 : decode cX1_init 17 = .ok (.aload_n 0, 1) := by decide +kernel
theorem dX1_init_18 : decode cX1_init 18 = .ok (.bipush 6, 2) := by decide +kernel
theorem dX1_init_20 : decode cX1_init 20 = .ok (.newarray .int, 2) := by decide +kernel
theorem dX1_init_22 : decode cX1_init 22 = .ok (.putfield 19, 3) := by decide +kernel
theorem dX1_init_25 : decode cX1_init 25 = .ok (.aload_n 0, 1) := by decide +kernel
theorem dX1_init_26 : decode cX1_init 26 = .ok (.bipush 6, 2) := by decide +kernel
theorem dX1_init_28 : decode cX1_init 28 = .ok (.newarray .int, 2) := by decide +kernel
theorem dX1_init_30 : decode cX1_init 30 = .ok (.putfield 22, 3) := by decide +kernel
theorem dX1_init_33 : decode cX1_init 33 = .ok (.return_, 1) := by decide +kernel
theorem mcX1 : Mc yX1_init cX1_init 1 := ⟨gt_in (i := 110) (by decide +kernel) (by decide +kernel), gt_in (i := 109) (by decide +kernel) (by decide +kernel), gt_in (i := 52) (by decide +kernel) (by decide +kernel), rfl, ⟨by decide +kernel, by decide +kernel, by decide +kernel⟩⟩
set_option maxHeartbeats 4000000 in
set_option maxRecDepth 100000 in
theorem oX1_init (l : Launch) (E : ET) : CC l E yX1_init cX1_init 1 1 3 108 1 [.int 0, .null, .null, .null] wLearners := by
  refine Met_C (by decide +kernel) rfl (by decide) ?_
  intro h0 p e s m args below meth c A X hin2 hr hk Q fin
  refine n_aload_n (pc := 0) X dX1_init_0 rfl 0 rfl ?_
  refine n_init (pc := 1) X (gt_in (i := 111) (by decide +kernel) (by decide +kernel)) dX1_init_1 ⟨Nat.le_of_ble_eq_true rfl, Nat.le_of_ble_eq_true rfl⟩ ?_
  refine n_aload_n (pc := 4) X dX1_init_4 rfl 0 rfl ?_
  refine n_iconst (pc := 5) (v := 2) X dX1_init_5 (by decide) ?_
  refine n_put (pc := 6) (v := .int 2) X rfl gf_X1_9i tyX1 tyX1_ok nmX1 (Nat.le_of_ble_eq_true rfl) rfl rfl rfl rfl dX1_init_6 (gt_in (i := 112) (by decide +kernel) (by decide +kernel)) ?_
  show JP p l e (rmC 1 3 108) s m args below meth c A s.heap E.1 1 0 0 Q ((h0, .inr (1, [.int 2, .null, .null, .null])) :: []) 9 [(0, .ref h0)] []
  refine n_aload_n (pc := 9) X dX1_init_9 rfl 0 rfl ?_
  refine n_bipush (pc := 10) (v := 96) X dX1_init_10 (by decide) ?_
  refine n_newi (pc := 12) (N := 96) X rfl (by decide) (by decide) (Nat.le_of_ble_eq_true rfl) (Nat.le_of_ble_eq_true rfl) (Nat.le_of_ble_eq_true rfl) dX1_init_12 (fun q0 => ?_)
  show JP p l e (rmC 1 3 108) s m args below meth c A s.heap E.1 1 1 96 Q ((h0, .inr (1, [.int 2, .null, .null, .null])) :: [(q0, ic E 96)]) 14 [(0, .ref h0)] [.ref q0, .ref h0]
  refine n_putF (pc := 14) (v := .ref q0) X rfl gf_X1_15i tyX1 tyX1_ok nmX1 (Nat.le_of_ble_eq_true rfl) rfl hin2 rfl rfl rfl rfl dX1_init_14 (gt_in (i := 114) (by decide +kernel) (by decide +kernel)) ?_
  show JP p l e (rmC 1 3 108) s m args below meth c A s.heap E.1 1 1 96 Q ((h0, .inr (1, [.int 2, .ref q0, .null, .null])) :: [(q0, ic E 96)]) 17 [(0, .ref h0)] []
  refine n_aload_n (pc := 17) X dX1_init_17 rfl 0 rfl ?_
  refine n_bipush (pc := 18) (v := 6) X dX1_init_18 (by decide) ?_
  refine n_newi (pc := 20) (N := 6) X rfl (by decide) (by decide) (Nat.le_of_ble_eq_true rfl) (Nat.le_of_ble_eq_true rfl) (Nat.le_of_ble_eq_true rfl) dX1_init_20 (fun q1 => ?_)
  show JP p l e (rmC 1 3 108) s m args below meth c A s.heap E.1 1 2 102 Q ((h0, .inr (1, [.int 2, .ref q0, .null, .null])) :: ([(q0, ic E 96)] ++ [(q1, ic E 6)])) 22 [(0, .ref h0)] [.ref q1, .ref h0]
  refine n_putF (pc := 22) (v := .ref q1) X rfl gf_X1_19i tyX1 tyX1_ok nmX1 (Nat.le_of_ble_eq_true rfl) rfl hin2 rfl rfl rfl rfl dX1_init_22 (gt_in (i := 115) (by decide +kernel) (by decide +kernel)) ?_
  show JP p l e (rmC 1 3 108) s m args below meth c A s.heap E.1 1 2 102 Q ((h0, .inr (1, [.int 2, .ref q0, .ref q1, .null])) :: ([(q0, ic E 96)] ++ [(q1, ic E 6)])) 25 [(0, .ref h0)] []
  refine n_aload_n (pc := 25) X dX1_init_25 rfl 0 rfl ?_
  refine n_bipush (pc := 26) (v := 6) X dX1_init_26 (by decide) ?_
  refine n_newi (pc := 28) (N := 6) X rfl (by decide) (by decide) (Nat.le_of_ble_eq_true rfl) (Nat.le_of_ble_eq_true rfl) (Nat.le_of_ble_eq_true rfl) dX1_init_28 (fun q2 => ?_)
  show JP p l e (rmC 1 3 108) s m args below meth c A s.heap E.1 1 3 108 Q ((h0, .inr (1, [.int 2, .ref q0, .ref q1, .null])) :: ([(q0, ic E 96)] ++ [(q1, ic E 6)] ++ [(q2, ic E 6)])) 30 [(0, .ref h0)] [.ref q2, .ref h0]
  refine n_putF (pc := 30) (v := .ref q2) X rfl gf_X1_22i tyX1 tyX1_ok nmX1 (Nat.le_of_ble_eq_true rfl) rfl hin2 rfl rfl rfl rfl dX1_init_30 (gt_in (i := 116) (by decide +kernel) (by decide +kernel)) ?_
  show JP p l e (rmC 1 3 108) s m args below meth c A s.heap E.1 1 3 108 Q ((h0, .inr (1, [.int 2, .ref q0, .ref q1, .ref q2])) :: ([(q0, ic E 96)] ++ [(q1, ic E 6)] ++ [(q2, ic E 6)])) 33 [(0, .ref h0)] []
  exact fin (fun j => [h0, q0, q1, q2].getD j 0) rfl 33 [(0, .ref h0)] dX1_init_33
theorem dX3_init_0 : decode cX3_init 0 = .ok (.aload_n 0, 1) := by decide +kernel
theorem dX3_init_1 : decode cX3_init 1 = .ok (.invokespecial 3, 3) := by decide +kernel
theorem dX3_init_4 : decode cX3_init 4 = .ok (.aload_n 0, 1) := by decide +kernel
theorem dX3_init_5 : decode cX3_init 5 = .ok (.iconst 0, 1) := by decide +kernel
theorem dX3_init_6 : decode cX3_init 6 = .ok (.putfield 9, 3) := by decide +kernel
theorem dX3_init_9 : decode cX3_init 9 = .ok (.aload_n 0, 1) := by decide +kernel
theorem dX3_init_10 : decode cX3_init 10 = .ok (.bipush 20, 2) := by decide +kernel
theorem dX3_init_12 : decode cX3_init 12 = .ok (.newarray .int, 2) := by decide +kernel
theorem dX3_init_14 : decode cX3_init 14 = .ok (.putfield 15, 3) := by decide +kernel
theorem dX3_init_17 : decode cX3_init 17 = .ok (.aload_n 0, 1) := by decide +kernel
theorem dX3_init_18 : decode cX3_init 18 = .ok (.bipush 20, 2) := by decide +kernel
theorem dX3_init_20 : decode cX3_init 20 = .ok (.newarray .int, 2) := by decide +kernel
theorem dX3_init_22 : decode cX3_init 22 = .ok (.putfield 19, 3) := by decide +kernel
theorem dX3_init_25 : decode cX3_init 25 = .ok (.aload_n 0, 1) := by decide +kernel
theorem dX3_init_26 : decode cX3_init 26 = .ok (.bipush 20, 2) := by decide +kernel
theorem dX3_init_28 : decode cX3_init 28 = .ok (.newarray .int, 2) := by decide +kernel
theorem dX3_init_30 : decode cX3_init 30 = .ok (.putfield 22, 3) := by decide +kernel
theorem dX3_init_33 : decode cX3_init 33 = .ok (.return_, 1) := by decide +kernel
theorem mcX3 : Mc yX3_init cX3_init 1 := ⟨gt_in (i := 190) (by decide +kernel) (by decide +kernel), gt_in (i := 189) (by decide +kernel) (by decide +kernel), gt_in (i := 55) (by decide +kernel) (by decide +kernel), rfl, ⟨by decide +kernel, by decide +kernel, by decide +kernel⟩⟩
set_option maxHeartbeats 4000000 in
set_option maxRecDepth 100000 in
theorem oX3_init (l : Launch) (E : ET) : CC l E yX3_init cX3_init 1 1 3 60 3 [.int 0, .null, .null, .null] wRuns := by
  refine Met_C (by decide +kernel) rfl (by decide) ?_
  intro h0 p e s m args below meth c A X hin2 hr hk Q fin
  refine n_aload_n (pc := 0) X dX3_init_0 rfl 0 rfl ?_
  refine n_init (pc := 1) X (gt_in (i := 191) (by decide +kernel) (by decide +kernel)) dX3_init_1 ⟨Nat.le_of_ble_eq_true rfl, Nat.le_of_ble_eq_true rfl⟩ ?_
  refine n_aload_n (pc := 4) X dX3_init_4 rfl 0 rfl ?_
  refine n_iconst (pc := 5) (v := 0) X dX3_init_5 (by decide) ?_
  refine n_put (pc := 6) (v := .int 0) X rfl gf_X3_9i tyX3 tyX3_ok nmX3 (Nat.le_of_ble_eq_true rfl) rfl rfl rfl rfl dX3_init_6 (gt_in (i := 192) (by decide +kernel) (by decide +kernel)) ?_
  show JP p l e (rmC 1 3 60) s m args below meth c A s.heap E.1 1 0 0 Q ((h0, .inr (3, [.int 0, .null, .null, .null])) :: []) 9 [(0, .ref h0)] []
  refine n_aload_n (pc := 9) X dX3_init_9 rfl 0 rfl ?_
  refine n_bipush (pc := 10) (v := 20) X dX3_init_10 (by decide) ?_
  refine n_newi (pc := 12) (N := 20) X rfl (by decide) (by decide) (Nat.le_of_ble_eq_true rfl) (Nat.le_of_ble_eq_true rfl) (Nat.le_of_ble_eq_true rfl) dX3_init_12 (fun q0 => ?_)
  show JP p l e (rmC 1 3 60) s m args below meth c A s.heap E.1 1 1 20 Q ((h0, .inr (3, [.int 0, .null, .null, .null])) :: [(q0, ic E 20)]) 14 [(0, .ref h0)] [.ref q0, .ref h0]
  refine n_putF (pc := 14) (v := .ref q0) X rfl gf_X3_15i tyX3 tyX3_ok nmX3 (Nat.le_of_ble_eq_true rfl) rfl hin2 rfl rfl rfl rfl dX3_init_14 (gt_in (i := 194) (by decide +kernel) (by decide +kernel)) ?_
  show JP p l e (rmC 1 3 60) s m args below meth c A s.heap E.1 1 1 20 Q ((h0, .inr (3, [.int 0, .ref q0, .null, .null])) :: [(q0, ic E 20)]) 17 [(0, .ref h0)] []
  refine n_aload_n (pc := 17) X dX3_init_17 rfl 0 rfl ?_
  refine n_bipush (pc := 18) (v := 20) X dX3_init_18 (by decide) ?_
  refine n_newi (pc := 20) (N := 20) X rfl (by decide) (by decide) (Nat.le_of_ble_eq_true rfl) (Nat.le_of_ble_eq_true rfl) (Nat.le_of_ble_eq_true rfl) dX3_init_20 (fun q1 => ?_)
  show JP p l e (rmC 1 3 60) s m args below meth c A s.heap E.1 1 2 40 Q ((h0, .inr (3, [.int 0, .ref q0, .null, .null])) :: ([(q0, ic E 20)] ++ [(q1, ic E 20)])) 22 [(0, .ref h0)] [.ref q1, .ref h0]
  refine n_putF (pc := 22) (v := .ref q1) X rfl gf_X3_19i tyX3 tyX3_ok nmX3 (Nat.le_of_ble_eq_true rfl) rfl hin2 rfl rfl rfl rfl dX3_init_22 (gt_in (i := 195) (by decide +kernel) (by decide +kernel)) ?_
  show JP p l e (rmC 1 3 60) s m args below meth c A s.heap E.1 1 2 40 Q ((h0, .inr (3, [.int 0, .ref q0, .ref q1, .null])) :: ([(q0, ic E 20)] ++ [(q1, ic E 20)])) 25 [(0, .ref h0)] []
  refine n_aload_n (pc := 25) X dX3_init_25 rfl 0 rfl ?_
  refine n_bipush (pc := 26) (v := 20) X dX3_init_26 (by decide) ?_
  refine n_newi (pc := 28) (N := 20) X rfl (by decide) (by decide) (Nat.le_of_ble_eq_true rfl) (Nat.le_of_ble_eq_true rfl) (Nat.le_of_ble_eq_true rfl) dX3_init_28 (fun q2 => ?_)
  show JP p l e (rmC 1 3 60) s m args below meth c A s.heap E.1 1 3 60 Q ((h0, .inr (3, [.int 0, .ref q0, .ref q1, .null])) :: ([(q0, ic E 20)] ++ [(q1, ic E 20)] ++ [(q2, ic E 20)])) 30 [(0, .ref h0)] [.ref q2, .ref h0]
  refine n_putF (pc := 30) (v := .ref q2) X rfl gf_X3_22i tyX3 tyX3_ok nmX3 (Nat.le_of_ble_eq_true rfl) rfl hin2 rfl rfl rfl rfl dX3_init_30 (gt_in (i := 196) (by decide +kernel) (by decide +kernel)) ?_
  show JP p l e (rmC 1 3 60) s m args below meth c A s.heap E.1 1 3 60 Q ((h0, .inr (3, [.int 0, .ref q0, .ref q1, .ref q2])) :: ([(q0, ic E 20)] ++ [(q1, ic E 20)] ++ [(q2, ic E 20)])) 33 [(0, .ref h0)] []
  exact fin (fun j => [h0, q0, q1, q2].getD j 0) rfl 33 [(0, .ref h0)] dX3_init_33
theorem dX5_init_0 : decode cX5_init 0 = .ok (.aload_n 0, 1) := by decide +kernel
theorem dX5_init_1 : decode cX5_init 1 = .ok (.invokespecial 3, 3) := by decide +kernel
theorem dX5_init_4 : decode cX5_init 4 = .ok (.aload_n 0, 1) := by decide +kernel
theorem dX5_init_5 : decode cX5_init 5 = .ok (.bipush 50, 2) := by decide +kernel
theorem dX5_init_7 : decode cX5_init 7 = .ok (.newarray .char, 2) := by decide +kernel
theorem dX5_init_9 : decode cX5_init 9 = .ok (.putfield 9, 3) := by decide +kernel
theorem dX5_init_12 : decode cX5_init 12 = .ok (.aload_n 0, 1) := by decide +kernel
theorem dX5_init_13 : decode cX5_init 13 = .ok (.iconst 0, 1) := by decide +kernel
theorem dX5_init_14 : decode cX5_init 14 = .ok (.putfield 15, 3) := by decide +kernel
theorem dX5_init_17 : decode cX5_init 17 = .ok (.return_, 1) := by decide +kernel
theorem mcX5 : Mc yX5_init cX5_init 1 := ⟨gt_in (i := 175) (by decide +kernel) (by decide +kernel), gt_in (i := 174) (by decide +kernel) (by decide +kernel), gt_in (i := 54) (by decide +kernel) (by decide +kernel), rfl, ⟨by decide +kernel, by decide +kernel, by decide +kernel⟩⟩
set_option maxHeartbeats 4000000 in
set_option maxRecDepth 100000 in
theorem oX5_init (l : Launch) (E : ET) : CC l E yX5_init cX5_init 1 1 1 50 5 [.null, .int 0] wText := by
  refine Met_C (by decide +kernel) rfl (by decide) ?_
  intro h0 p e s m args below meth c A X hin2 hr hk Q fin
  refine n_aload_n (pc := 0) X dX5_init_0 rfl 0 rfl ?_
  refine n_init (pc := 1) X (gt_in (i := 176) (by decide +kernel) (by decide +kernel)) dX5_init_1 ⟨Nat.le_of_ble_eq_true rfl, Nat.le_of_ble_eq_true rfl⟩ ?_
  refine n_aload_n (pc := 4) X dX5_init_4 rfl 0 rfl ?_
  refine n_bipush (pc := 5) (v := 50) X dX5_init_5 (by decide) ?_
  refine n_newc (pc := 7) (N := 50) X rfl (by decide) (by decide) (Nat.le_of_ble_eq_true rfl) (Nat.le_of_ble_eq_true rfl) (Nat.le_of_ble_eq_true rfl) dX5_init_7 (fun q0 => ?_)
  show JP p l e (rmC 1 1 50) s m args below meth c A s.heap E.1 1 1 50 Q ((h0, .inr (5, [.null, .int 0])) :: [(q0, .inl (E.2.2.2.1, (50, .inl (fun _ => 0))))]) 9 [(0, .ref h0)] [.ref q0, .ref h0]
  refine n_putF (pc := 9) (v := .ref q0) X rfl gf_X5_9i tyX5 tyX5_ok nmX5 (Nat.le_of_ble_eq_true rfl) rfl hin2 rfl rfl rfl rfl dX5_init_9 (gt_in (i := 177) (by decide +kernel) (by decide +kernel)) ?_
  show JP p l e (rmC 1 1 50) s m args below meth c A s.heap E.1 1 1 50 Q ((h0, .inr (5, [.ref q0, .int 0])) :: [(q0, .inl (E.2.2.2.1, (50, .inl (fun _ => 0))))]) 12 [(0, .ref h0)] []
  refine n_aload_n (pc := 12) X dX5_init_12 rfl 0 rfl ?_
  refine n_iconst (pc := 13) (v := 0) X dX5_init_13 (by decide) ?_
  refine n_put (pc := 14) (v := .int 0) X rfl gf_X5_15i tyX5 tyX5_ok nmX5 (Nat.le_of_ble_eq_true rfl) rfl rfl rfl rfl dX5_init_14 (gt_in (i := 178) (by decide +kernel) (by decide +kernel)) ?_
  show JP p l e (rmC 1 1 50) s m args below meth c A s.heap E.1 1 1 50 Q ((h0, .inr (5, [.ref q0, .int 0])) :: [(q0, .inl (E.2.2.2.1, (50, .inl (fun _ => 0))))]) 17 [(0, .ref h0)] []
  exact fin (fun j => [h0, q0].getD j 0) rfl 17 [(0, .ref h0)] dX5_init_17
theorem dX8_init_0 : decode cX8_init 0 = .ok (.aload_n 0, 1) := by decide +kernel
theorem dX8_init_1 : decode cX8_init 1 = .ok (.invokespecial 1, 3) := by decide +kernel
theorem dX8_init_4 : decode cX8_init 4 = .ok (.aload_n 0, 1) := by decide +kernel
theorem dX8_init_5 : decode cX8_init 5 = .ok (.sipush 289, 3) := by decide +kernel
theorem dX8_init_8 : decode cX8_init 8 = .ok (.newarray .int, 2) := by decide +kernel
theorem dX8_init_10 : decode cX8_init 10 = .ok (.putfield 7, 3) := by decide +kernel
theorem dX8_init_13 : decode cX8_init 13 = .ok (.aload_n 0, 1) := by decide +kernel
theorem dX8_init_14 : decode cX8_init 14 = .ok (.sipush 289, 3) := by decide +kernel
theorem dX8_init_17 : decode cX8_init 17 = .ok (.newarray .int, 2) := by decide +kernel
theorem dX8_init_19 : decode cX8_init 19 = .ok (.putfield 13, 3) := by decide +kernel
theorem dX8_init_22 : decode cX8_init 22 = .ok (.aload_n 0, 1) := by decide +kernel
theorem dX8_init_23 : decode cX8_init 23 = .ok (.sipush 1156, 3) := by decide +kernel
theorem dX8_init_26 : decode cX8_init 26 = .ok (.newarray .int, 2) := by decide +kernel
theorem dX8_init_28 : decode cX8_init 28 = .ok (.putfield 16, 3) := by decide +kernel
theorem dX8_init_31 : decode cX8_init 31 = .ok (.aload_n 0, 1) := by decide +kernel
theorem dX8_init_32 : decode cX8_init 32 = .ok (.sipush 289, 3) := by decide +kernel
theorem dX8_init_35 : decode cX8_init 35 = .ok (.newarray .int, 2) := by decide +kernel
theorem dX8_init_37 : decode cX8_init 37 = .ok (.putfield 19, 3) := by decide +kernel
theorem dX8_init_40 : decode cX8_init 40 = .ok (.aload_n 0, 1) := by decide +kernel
theorem dX8_init_41 : decode cX8_init 41 = .ok (.bipush 50, 2) := by decide +kernel
theorem dX8_init_43 : decode cX8_init 43 = .ok (.newarray .int, 2) := by decide +kernel
theorem dX8_init_45 : decode cX8_init 45 = .ok (.putfield 22, 3) := by decide +kernel
theorem dX8_init_48 : decode cX8_init 48 = .ok (.aload_n 0, 1) := by decide +kernel
theorem dX8_init_49 : decode cX8_init 49 = .ok (.bipush 41, 2) := by decide +kernel
theorem dX8_init_51 : decode cX8_init 51 = .ok (.newarray .int, 2) := by decide +kernel
theorem dX8_init_53 : decode cX8_init 53 = .ok (.putfield 25, 3) := by decide +kernel
theorem dX8_init_56 : decode cX8_init 56 = .ok (.aload_n 0, 1) := by decide +kernel
theorem dX8_init_57 : decode cX8_init 57 = .ok (.getfield 7, 3) := by decide +kernel
theorem dX8_init_60 : decode cX8_init 60 = .ok (.sipush 285, 3) := by decide +kernel
theorem dX8_init_63 : decode cX8_init 63 = .ok (.iconst 2, 1) := by decide +kernel
theorem dX8_init_64 : decode cX8_init 64 = .ok (.iastore, 1) := by decide +kernel
theorem dX8_init_65 : decode cX8_init 65 = .ok (.return_, 1) := by decide +kernel
theorem mcX8 : Mc yX8_init cX8_init 1 := ⟨gt_in (i := 654) (by decide +kernel) (by decide +kernel), gt_in (i := 653) (by decide +kernel) (by decide +kernel), gt_in (i := 56) (by decide +kernel) (by decide +kernel), rfl, ⟨by decide +kernel, by decide +kernel, by decide +kernel⟩⟩
set_option maxHeartbeats 4000000 in
set_option maxRecDepth 100000 in
theorem oX8_init (l : Launch) (E : ET) : CC l E yX8_init cX8_init 1 1 6 2114 8 [.null, .null, .null, .int 0, .null, .int 0, .null, .int 0, .int 0, .null] wModel := by
  refine Met_C (by decide +kernel) rfl (by decide) ?_
  intro h0 p e s m args below meth c A X hin2 hr hk Q fin
  refine n_aload_n (pc := 0) X dX8_init_0 rfl 0 rfl ?_
  refine n_init (pc := 1) X (gt_in (i := 655) (by decide +kernel) (by decide +kernel)) dX8_init_1 ⟨Nat.le_of_ble_eq_true rfl, Nat.le_of_ble_eq_true rfl⟩ ?_
  refine n_aload_n (pc := 4) X dX8_init_4 rfl 0 rfl ?_
  refine n_sipush (pc := 5) (v := 289) X dX8_init_5 (by decide) ?_
  refine n_newi (pc := 8) (N := 289) X rfl (by decide) (by decide) (Nat.le_of_ble_eq_true rfl) (Nat.le_of_ble_eq_true rfl) (Nat.le_of_ble_eq_true rfl) dX8_init_8 (fun q0 => ?_)
  show JP p l e (rmC 1 6 2114) s m args below meth c A s.heap E.1 1 1 289 Q ((h0, .inr (8, [.null, .null, .null, .int 0, .null, .int 0, .null, .int 0, .int 0, .null])) :: [(q0, ic E 289)]) 10 [(0, .ref h0)] [.ref q0, .ref h0]
  refine n_putF (pc := 10) (v := .ref q0) X rfl gf_X8_7i tyX8 tyX8_ok nmX8 (Nat.le_of_ble_eq_true rfl) rfl hin2 rfl rfl rfl rfl dX8_init_10 (gt_in (i := 656) (by decide +kernel) (by decide +kernel)) ?_
  show JP p l e (rmC 1 6 2114) s m args below meth c A s.heap E.1 1 1 289 Q ((h0, .inr (8, [.ref q0, .null, .null, .int 0, .null, .int 0, .null, .int 0, .int 0, .null])) :: [(q0, ic E 289)]) 13 [(0, .ref h0)] []
  refine n_aload_n (pc := 13) X dX8_init_13 rfl 0 rfl ?_
  refine n_sipush (pc := 14) (v := 289) X dX8_init_14 (by decide) ?_
  refine n_newi (pc := 17) (N := 289) X rfl (by decide) (by decide) (Nat.le_of_ble_eq_true rfl) (Nat.le_of_ble_eq_true rfl) (Nat.le_of_ble_eq_true rfl) dX8_init_17 (fun q1 => ?_)
  show JP p l e (rmC 1 6 2114) s m args below meth c A s.heap E.1 1 2 578 Q ((h0, .inr (8, [.ref q0, .null, .null, .int 0, .null, .int 0, .null, .int 0, .int 0, .null])) :: ([(q0, ic E 289)] ++ [(q1, ic E 289)])) 19 [(0, .ref h0)] [.ref q1, .ref h0]
  refine n_putF (pc := 19) (v := .ref q1) X rfl gf_X8_13i tyX8 tyX8_ok nmX8 (Nat.le_of_ble_eq_true rfl) rfl hin2 rfl rfl rfl rfl dX8_init_19 (gt_in (i := 657) (by decide +kernel) (by decide +kernel)) ?_
  show JP p l e (rmC 1 6 2114) s m args below meth c A s.heap E.1 1 2 578 Q ((h0, .inr (8, [.ref q0, .ref q1, .null, .int 0, .null, .int 0, .null, .int 0, .int 0, .null])) :: ([(q0, ic E 289)] ++ [(q1, ic E 289)])) 22 [(0, .ref h0)] []
  refine n_aload_n (pc := 22) X dX8_init_22 rfl 0 rfl ?_
  refine n_sipush (pc := 23) (v := 1156) X dX8_init_23 (by decide) ?_
  refine n_newi (pc := 26) (N := 1156) X rfl (by decide) (by decide) (Nat.le_of_ble_eq_true rfl) (Nat.le_of_ble_eq_true rfl) (Nat.le_of_ble_eq_true rfl) dX8_init_26 (fun q2 => ?_)
  show JP p l e (rmC 1 6 2114) s m args below meth c A s.heap E.1 1 3 1734 Q ((h0, .inr (8, [.ref q0, .ref q1, .null, .int 0, .null, .int 0, .null, .int 0, .int 0, .null])) :: ([(q0, ic E 289)] ++ [(q1, ic E 289)] ++ [(q2, ic E 1156)])) 28 [(0, .ref h0)] [.ref q2, .ref h0]
  refine n_putF (pc := 28) (v := .ref q2) X rfl gf_X8_16i tyX8 tyX8_ok nmX8 (Nat.le_of_ble_eq_true rfl) rfl hin2 rfl rfl rfl rfl dX8_init_28 (gt_in (i := 658) (by decide +kernel) (by decide +kernel)) ?_
  show JP p l e (rmC 1 6 2114) s m args below meth c A s.heap E.1 1 3 1734 Q ((h0, .inr (8, [.ref q0, .ref q1, .ref q2, .int 0, .null, .int 0, .null, .int 0, .int 0, .null])) :: ([(q0, ic E 289)] ++ [(q1, ic E 289)] ++ [(q2, ic E 1156)])) 31 [(0, .ref h0)] []
  refine n_aload_n (pc := 31) X dX8_init_31 rfl 0 rfl ?_
  refine n_sipush (pc := 32) (v := 289) X dX8_init_32 (by decide) ?_
  refine n_newi (pc := 35) (N := 289) X rfl (by decide) (by decide) (Nat.le_of_ble_eq_true rfl) (Nat.le_of_ble_eq_true rfl) (Nat.le_of_ble_eq_true rfl) dX8_init_35 (fun q3 => ?_)
  show JP p l e (rmC 1 6 2114) s m args below meth c A s.heap E.1 1 4 2023 Q ((h0, .inr (8, [.ref q0, .ref q1, .ref q2, .int 0, .null, .int 0, .null, .int 0, .int 0, .null])) :: ([(q0, ic E 289)] ++ [(q1, ic E 289)] ++ [(q2, ic E 1156)] ++ [(q3, ic E 289)])) 37 [(0, .ref h0)] [.ref q3, .ref h0]
  refine n_putF (pc := 37) (v := .ref q3) X rfl gf_X8_19i tyX8 tyX8_ok nmX8 (Nat.le_of_ble_eq_true rfl) rfl hin2 rfl rfl rfl rfl dX8_init_37 (gt_in (i := 660) (by decide +kernel) (by decide +kernel)) ?_
  show JP p l e (rmC 1 6 2114) s m args below meth c A s.heap E.1 1 4 2023 Q ((h0, .inr (8, [.ref q0, .ref q1, .ref q2, .int 0, .ref q3, .int 0, .null, .int 0, .int 0, .null])) :: ([(q0, ic E 289)] ++ [(q1, ic E 289)] ++ [(q2, ic E 1156)] ++ [(q3, ic E 289)])) 40 [(0, .ref h0)] []
  refine n_aload_n (pc := 40) X dX8_init_40 rfl 0 rfl ?_
  refine n_bipush (pc := 41) (v := 50) X dX8_init_41 (by decide) ?_
  refine n_newi (pc := 43) (N := 50) X rfl (by decide) (by decide) (Nat.le_of_ble_eq_true rfl) (Nat.le_of_ble_eq_true rfl) (Nat.le_of_ble_eq_true rfl) dX8_init_43 (fun q4 => ?_)
  show JP p l e (rmC 1 6 2114) s m args below meth c A s.heap E.1 1 5 2073 Q ((h0, .inr (8, [.ref q0, .ref q1, .ref q2, .int 0, .ref q3, .int 0, .null, .int 0, .int 0, .null])) :: ([(q0, ic E 289)] ++ [(q1, ic E 289)] ++ [(q2, ic E 1156)] ++ [(q3, ic E 289)] ++ [(q4, ic E 50)])) 45 [(0, .ref h0)] [.ref q4, .ref h0]
  refine n_putF (pc := 45) (v := .ref q4) X rfl gf_X8_22i tyX8 tyX8_ok nmX8 (Nat.le_of_ble_eq_true rfl) rfl hin2 rfl rfl rfl rfl dX8_init_45 (gt_in (i := 662) (by decide +kernel) (by decide +kernel)) ?_
  show JP p l e (rmC 1 6 2114) s m args below meth c A s.heap E.1 1 5 2073 Q ((h0, .inr (8, [.ref q0, .ref q1, .ref q2, .int 0, .ref q3, .int 0, .ref q4, .int 0, .int 0, .null])) :: ([(q0, ic E 289)] ++ [(q1, ic E 289)] ++ [(q2, ic E 1156)] ++ [(q3, ic E 289)] ++ [(q4, ic E 50)])) 48 [(0, .ref h0)] []
  refine n_aload_n (pc := 48) X dX8_init_48 rfl 0 rfl ?_
  refine n_bipush (pc := 49) (v := 41) X dX8_init_49 (by decide) ?_
  refine n_newi (pc := 51) (N := 41) X rfl (by decide) (by decide) (Nat.le_of_ble_eq_true rfl) (Nat.le_of_ble_eq_true rfl) (Nat.le_of_ble_eq_true rfl) dX8_init_51 (fun q5 => ?_)
  show JP p l e (rmC 1 6 2114) s m args below meth c A s.heap E.1 1 6 2114 Q ((h0, .inr (8, [.ref q0, .ref q1, .ref q2, .int 0, .ref q3, .int 0, .ref q4, .int 0, .int 0, .null])) :: ([(q0, ic E 289)] ++ [(q1, ic E 289)] ++ [(q2, ic E 1156)] ++ [(q3, ic E 289)] ++ [(q4, ic E 50)] ++ [(q5, ic E 41)])) 53 [(0, .ref h0)] [.ref q5, .ref h0]
  refine n_putF (pc := 53) (v := .ref q5) X rfl gf_X8_25i tyX8 tyX8_ok nmX8 (Nat.le_of_ble_eq_true rfl) rfl hin2 rfl rfl rfl rfl dX8_init_53 (gt_in (i := 665) (by decide +kernel) (by decide +kernel)) ?_
  show JP p l e (rmC 1 6 2114) s m args below meth c A s.heap E.1 1 6 2114 Q ((h0, .inr (8, [.ref q0, .ref q1, .ref q2, .int 0, .ref q3, .int 0, .ref q4, .int 0, .int 0, .ref q5])) :: ([(q0, ic E 289)] ++ [(q1, ic E 289)] ++ [(q2, ic E 1156)] ++ [(q3, ic E 289)] ++ [(q4, ic E 50)] ++ [(q5, ic E 41)])) 56 [(0, .ref h0)] []
  refine n_aload_n (pc := 56) X dX8_init_56 rfl 0 rfl ?_
  refine n_get (pc := 57) (v := .ref q0) X rfl gf_X8_7i (gt_in (i := 656) (by decide +kernel) (by decide +kernel)) rfl dX8_init_57 ?_
  refine n_sipush (pc := 60) (v := 285) X dX8_init_60 (by decide) ?_
  refine n_iconst (pc := 63) (v := 2) X dX8_init_63 (by decide) ?_
  refine n_iast (pc := 64) (q0 := 1) (n := 289) (ws1 := ((h0, .inr (8, [.ref q0, .ref q1, .ref q2, .int 0, .ref q3, .int 0, .ref q4, .int 0, .int 0, .ref q5])) :: ([(q0, ia E 289 (upd (fun _ => 0) 285 2))] ++ [(q1, ic E 289)] ++ [(q2, ic E 1156)] ++ [(q3, ic E 289)] ++ [(q4, ic E 50)] ++ [(q5, ic E 41)]))) X rfl rfl (by decide) dX8_init_64 rfl ?_
  exact fin (fun j => [h0, q0, q1, q2, q3, q4, q5].getD j 0) rfl 65 [(0, .ref h0)] dX8_init_65
theorem dX4_init_0 : decode cX4_init 0 = .ok (.aload_n 0, 1) := by decide +kernel
theorem dX4_init_1 : decode cX4_init 1 = .ok (.invokespecial 1, 3) := by decide +kernel
theorem dX4_init_4 : decode cX4_init 4 = .ok (.aload_n 0, 1) := by decide +kernel
theorem dX4_init_5 : decode cX4_init 5 = .ok (.new 7, 3) := by decide +kernel
theorem dX4_init_8 : decode cX4_init 8 = .ok (.dup, 1) := by decide +kernel
theorem dX4_init_9 : decode cX4_init 9 = .ok (.invokespecial 9, 3) := by decide +kernel
theorem dX4_init_12 : decode cX4_init 12 = .ok (.putfield 10, 3) := by decide +kernel
theorem dX4_init_15 : decode cX4_init 15 = .ok (.aload_n 0, 1) := by decide +kernel
theorem dX4_init_16 : decode cX4_init 16 = .ok (.new 16, 3) := by decide +kernel
theorem dX4_init_19 : decode cX4_init 19 = .ok (.dup, 1) := by decide +kernel
theorem dX4_init_20 : decode cX4_init 20 = .ok (.invokespecial 18, 3) := by decide +kernel
theorem dX4_init_23 : decode cX4_init 23 = .ok (.putfield 19, 3) := by decide +kernel
theorem dX4_init_26 : decode cX4_init 26 = .ok (.aload_n 0, 1) := by decide +kernel
theorem dX4_init_27 : decode cX4_init 27 = .ok (.new 23, 3) := by decide +kernel
theorem dX4_init_30 : decode cX4_init 30 = .ok (.dup, 1) := by decide +kernel
theorem dX4_init_31 : decode cX4_init 31 = .ok (.invokespecial 25, 3) := by decide +kernel
theorem dX4_init_34 : decode cX4_init 34 = .ok (.putfield 26, 3) := by decide +kernel
theorem dX4_init_37 : decode cX4_init 37 = .ok (.aload_n 0, 1) := by decide +kernel
theorem dX4_init_38 : decode cX4_init 38 = .ok (.iconst 0, 1) := by decide +kernel
theorem dX4_init_39 : decode cX4_init 39 = .ok (.putfield 30, 3) := by decide +kernel
theorem dX4_init_42 : decode cX4_init 42 = .ok (.aload_n 0, 1) := by decide +kernel
theorem dX4_init_43 : decode cX4_init 43 = .ok (.iconst 0, 1) := by decide +kernel
theorem dX4_init_44 : decode cX4_init 44 = .ok (.putfield 34, 3) := by decide +kernel
theorem dX4_init_47 : decode cX4_init 47 = .ok (.aload_n 0, 1) := by decide +kernel
theorem dX4_init_48 : decode cX4_init 48 = .ok (.iconst 0, 1) := by decide +kernel
theorem dX4_init_49 : decode cX4_init 49 = .ok (.putfield 37, 3) := by decide +kernel
theorem dX4_init_52 : decode cX4_init 52 = .ok (.return_, 1) := by decide +kernel
theorem mcX4 : Mc yX4_init cX4_init 1 := ⟨gt_in (i := 70) (by decide +kernel) (by decide +kernel), gt_in (i := 69) (by decide +kernel) (by decide +kernel), gt_in (i := 49) (by decide +kernel) (by decide +kernel), rfl, ⟨by decide +kernel, by decide +kernel, by decide +kernel⟩⟩
set_option maxHeartbeats 4000000 in
set_option maxRecDepth 100000 in
theorem oX4_init (l : Launch) (E : ET) : CC l E yX4_init cX4_init 1 2 11 310 4 [.null, .null, .null, .int 0, .int 0, .int 0] wState := by
  refine Met_C (by decide +kernel) rfl (by decide) ?_
  intro h0 p e s m args below meth c A X hin2 hr hk Q fin
  refine n_aload_n (pc := 0) X dX4_init_0 rfl 0 rfl ?_
  refine n_init (pc := 1) X (gt_in (i := 71) (by decide +kernel) (by decide +kernel)) dX4_init_1 ⟨Nat.le_of_ble_eq_true rfl, Nat.le_of_ble_eq_true rfl⟩ ?_
  refine n_aload_n (pc := 4) X dX4_init_4 rfl 0 rfl ?_
  refine n_new (pc := 5) (ci := 2) X rfl inX2 tyX2 tyX2_ok (gt_in (i := 72) (by decide +kernel) (by decide +kernel)) (gt_in (i := 73) (by decide +kernel) (by decide +kernel)) (gt_in (i := 50) (by decide +kernel) (by decide +kernel)) rfl [.null, .null] (fun j hj => by rcases (show j = 0 ∨ j = 1 by omega) with rfl | rfl <;> rfl) (Nat.le_of_ble_eq_true rfl) (Nat.le_of_ble_eq_true rfl) dX4_init_5 (fun q0 => ?_)
  show JP p l e (rmC 2 11 310) s m args below meth c A s.heap E.1 1 1 2 Q ((h0, .inr (4, [.null, .null, .null, .int 0, .int 0, .int 0])) :: [(q0, .inr (2, [.null, .null]))]) 8 [(0, .ref h0)] [.ref q0, .ref h0]
  refine n_dup (pc := 8) X dX4_init_8 rfl ?_
  show JP p l e (rmC 2 11 310) s m args below meth c A s.heap E.1 1 1 2 Q (((h0, .inr (4, [.null, .null, .null, .int 0, .int 0, .int 0])) :: []) ++ [(q0, .inr (2, [.null, .null]))]) 9 [(0, .ref h0)] [.ref q0, .ref q0, .ref h0]
  refine n_ctor (pc := 9) X rfl (oX2_init l E) mcX2 (gt_in (i := 74) (by decide +kernel) (by decide +kernel)) (Nat.le_of_ble_eq_true rfl) ⟨Nat.le_of_ble_eq_true rfl, Nat.le_of_ble_eq_true rfl⟩ ⟨Nat.le_of_ble_eq_true rfl, Nat.le_of_ble_eq_true rfl⟩ dX4_init_9 (fun a1 ha1 => ?_)
  subst ha1
  show JP p l e (rmC 2 11 310) s m args below meth c A s.heap E.1 1 3 82 Q ((h0, .inr (4, [.null, .null, .null, .int 0, .int 0, .int 0])) :: wRope E a1) 12 [(0, .ref h0)] [.ref (a1 0), .ref h0]
  refine n_putF (pc := 12) (v := .ref (a1 0)) X rfl gf_X4_10i tyX4 tyX4_ok nmX4 (Nat.le_of_ble_eq_true rfl) rfl hin2 rfl rfl rfl rfl dX4_init_12 (gt_in (i := 126) (by decide +kernel) (by decide +kernel)) ?_
  show JP p l e (rmC 2 11 310) s m args below meth c A s.heap E.1 1 3 82 Q ((h0, .inr (4, [.ref (a1 0), .null, .null, .int 0, .int 0, .int 0])) :: wRope E a1) 15 [(0, .ref h0)] []
  refine n_aload_n (pc := 15) X dX4_init_15 rfl 0 rfl ?_
  refine n_new (pc := 16) (ci := 6) X rfl inX6 tyX6 tyX6_ok (gt_in (i := 86) (by decide +kernel) (by decide +kernel)) (gt_in (i := 87) (by decide +kernel) (by decide +kernel)) (gt_in (i := 51) (by decide +kernel) (by decide +kernel)) rfl [.int 0, .null, .null, .null] (fun j hj => by rcases (show j = 0 ∨ j = 1 ∨ j = 2 ∨ j = 3 by omega) with rfl | rfl | rfl | rfl <;> rfl) (Nat.le_of_ble_eq_true rfl) (Nat.le_of_ble_eq_true rfl) dX4_init_16 (fun q2 => ?_)
  show JP p l e (rmC 2 11 310) s m args below meth c A s.heap E.1 1 4 86 Q ((h0, .inr (4, [.ref (a1 0), .null, .null, .int 0, .int 0, .int 0])) :: (wRope E a1 ++ [(q2, .inr (6, [.int 0, .null, .null, .null]))])) 19 [(0, .ref h0)] [.ref q2, .ref h0]
  refine n_dup (pc := 19) X dX4_init_19 rfl ?_
  show JP p l e (rmC 2 11 310) s m args below meth c A s.heap E.1 1 4 86 Q (((h0, .inr (4, [.ref (a1 0), .null, .null, .int 0, .int 0, .int 0])) :: wRope E a1) ++ [(q2, .inr (6, [.int 0, .null, .null, .null]))]) 20 [(0, .ref h0)] [.ref q2, .ref q2, .ref h0]
  refine n_ctor (pc := 20) X rfl (oX6_init l E) mcX6 (gt_in (i := 88) (by decide +kernel) (by decide +kernel)) (Nat.le_of_ble_eq_true rfl) ⟨Nat.le_of_ble_eq_true rfl, Nat.le_of_ble_eq_true rfl⟩ ⟨Nat.le_of_ble_eq_true rfl, Nat.le_of_ble_eq_true rfl⟩ dX4_init_20 (fun a3 ha3 => ?_)
  subst ha3
  show JP p l e (rmC 2 11 310) s m args below meth c A s.heap E.1 1 7 198 Q ((h0, .inr (4, [.ref (a1 0), .null, .null, .int 0, .int 0, .int 0])) :: (wRope E a1 ++ wWords E a3)) 23 [(0, .ref h0)] [.ref (a3 0), .ref h0]
  refine n_putF (pc := 23) (v := .ref (a3 0)) X rfl gf_X4_19i tyX4 tyX4_ok nmX4 (Nat.le_of_ble_eq_true rfl) rfl hin2 rfl rfl rfl rfl dX4_init_23 (gt_in (i := 128) (by decide +kernel) (by decide +kernel)) ?_
  show JP p l e (rmC 2 11 310) s m args below meth c A s.heap E.1 1 7 198 Q ((h0, .inr (4, [.ref (a1 0), .ref (a3 0), .null, .int 0, .int 0, .int 0])) :: (wRope E a1 ++ wWords E a3)) 26 [(0, .ref h0)] []
  refine n_aload_n (pc := 26) X dX4_init_26 rfl 0 rfl ?_
  refine n_new (pc := 27) (ci := 1) X rfl inX1 tyX1 tyX1_ok (gt_in (i := 106) (by decide +kernel) (by decide +kernel)) (gt_in (i := 107) (by decide +kernel) (by decide +kernel)) (gt_in (i := 52) (by decide +kernel) (by decide +kernel)) rfl [.int 0, .null, .null, .null] (fun j hj => by rcases (show j = 0 ∨ j = 1 ∨ j = 2 ∨ j = 3 by omega) with rfl | rfl | rfl | rfl <;> rfl) (Nat.le_of_ble_eq_true rfl) (Nat.le_of_ble_eq_true rfl) dX4_init_27 (fun q4 => ?_)
  show JP p l e (rmC 2 11 310) s m args below meth c A s.heap E.1 1 8 202 Q ((h0, .inr (4, [.ref (a1 0), .ref (a3 0), .null, .int 0, .int 0, .int 0])) :: (wRope E a1 ++ wWords E a3 ++ [(q4, .inr (1, [.int 0, .null, .null, .null]))])) 30 [(0, .ref h0)] [.ref q4, .ref h0]
  refine n_dup (pc := 30) X dX4_init_30 rfl ?_
  show JP p l e (rmC 2 11 310) s m args below meth c A s.heap E.1 1 8 202 Q (((h0, .inr (4, [.ref (a1 0), .ref (a3 0), .null, .int 0, .int 0, .int 0])) :: (wRope E a1 ++ wWords E a3)) ++ [(q4, .inr (1, [.int 0, .null, .null, .null]))]) 31 [(0, .ref h0)] [.ref q4, .ref q4, .ref h0]
  refine n_ctor (pc := 31) X rfl (oX1_init l E) mcX1 (gt_in (i := 108) (by decide +kernel) (by decide +kernel)) (Nat.le_of_ble_eq_true rfl) ⟨Nat.le_of_ble_eq_true rfl, Nat.le_of_ble_eq_true rfl⟩ ⟨Nat.le_of_ble_eq_true rfl, Nat.le_of_ble_eq_true rfl⟩ dX4_init_31 (fun a5 ha5 => ?_)
  subst ha5
  show JP p l e (rmC 2 11 310) s m args below meth c A s.heap E.1 1 11 310 Q ((h0, .inr (4, [.ref (a1 0), .ref (a3 0), .null, .int 0, .int 0, .int 0])) :: (wRope E a1 ++ wWords E a3 ++ wLearners E a5)) 34 [(0, .ref h0)] [.ref (a5 0), .ref h0]
  refine n_putF (pc := 34) (v := .ref (a5 0)) X rfl gf_X4_26i tyX4 tyX4_ok nmX4 (Nat.le_of_ble_eq_true rfl) rfl hin2 rfl rfl rfl rfl dX4_init_34 (gt_in (i := 130) (by decide +kernel) (by decide +kernel)) ?_
  show JP p l e (rmC 2 11 310) s m args below meth c A s.heap E.1 1 11 310 Q ((h0, .inr (4, [.ref (a1 0), .ref (a3 0), .ref (a5 0), .int 0, .int 0, .int 0])) :: (wRope E a1 ++ wWords E a3 ++ wLearners E a5)) 37 [(0, .ref h0)] []
  refine n_aload_n (pc := 37) X dX4_init_37 rfl 0 rfl ?_
  refine n_iconst (pc := 38) (v := 0) X dX4_init_38 (by decide) ?_
  refine n_put (pc := 39) (v := .int 0) X rfl gf_X4_30i tyX4 tyX4_ok nmX4 (Nat.le_of_ble_eq_true rfl) rfl rfl rfl rfl dX4_init_39 (gt_in (i := 132) (by decide +kernel) (by decide +kernel)) ?_
  show JP p l e (rmC 2 11 310) s m args below meth c A s.heap E.1 1 11 310 Q ((h0, .inr (4, [.ref (a1 0), .ref (a3 0), .ref (a5 0), .int 0, .int 0, .int 0])) :: (wRope E a1 ++ wWords E a3 ++ wLearners E a5)) 42 [(0, .ref h0)] []
  refine n_aload_n (pc := 42) X dX4_init_42 rfl 0 rfl ?_
  refine n_iconst (pc := 43) (v := 0) X dX4_init_43 (by decide) ?_
  refine n_put (pc := 44) (v := .int 0) X rfl gf_X4_34i tyX4 tyX4_ok nmX4 (Nat.le_of_ble_eq_true rfl) rfl rfl rfl rfl dX4_init_44 (gt_in (i := 134) (by decide +kernel) (by decide +kernel)) ?_
  show JP p l e (rmC 2 11 310) s m args below meth c A s.heap E.1 1 11 310 Q ((h0, .inr (4, [.ref (a1 0), .ref (a3 0), .ref (a5 0), .int 0, .int 0, .int 0])) :: (wRope E a1 ++ wWords E a3 ++ wLearners E a5)) 47 [(0, .ref h0)] []
  refine n_aload_n (pc := 47) X dX4_init_47 rfl 0 rfl ?_
  refine n_iconst (pc := 48) (v := 0) X dX4_init_48 (by decide) ?_
  refine n_put (pc := 49) (v := .int 0) X rfl gf_X4_37i tyX4 tyX4_ok nmX4 (Nat.le_of_ble_eq_true rfl) rfl rfl rfl rfl dX4_init_49 (gt_in (i := 136) (by decide +kernel) (by decide +kernel)) ?_
  show JP p l e (rmC 2 11 310) s m args below meth c A s.heap E.1 1 11 310 Q ((h0, .inr (4, [.ref (a1 0), .ref (a3 0), .ref (a5 0), .int 0, .int 0, .int 0])) :: (wRope E a1 ++ wWords E a3 ++ wLearners E a5)) 52 [(0, .ref h0)] []
  exact fin (fun j => [h0, (a1 0), (a1 1), (a1 2), (a3 0), (a3 1), (a3 2), (a3 3), (a5 0), (a5 1), (a5 2), (a5 3)].getD j 0) rfl 52 [(0, .ref h0)] dX4_init_52
theorem dX0_init_0 : decode cX0_init 0 = .ok (.aload_n 0, 1) := by decide +kernel
theorem dX0_init_1 : decode cX0_init 1 = .ok (.invokespecial 3, 3) := by decide +kernel
theorem dX0_init_4 : decode cX0_init 4 = .ok (.aload_n 0, 1) := by decide +kernel
theorem dX0_init_5 : decode cX0_init 5 = .ok (.iconst 4, 1) := by decide +kernel
theorem dX0_init_6 : decode cX0_init 6 = .ok (.anewarray 9, 3) := by decide +kernel
theorem dX0_init_9 : decode cX0_init 9 = .ok (.putfield 11, 3) := by decide +kernel
theorem dX0_init_12 : decode cX0_init 12 = .ok (.iconst 0, 1) := by decide +kernel
theorem dX0_init_13 : decode cX0_init 13 = .ok (.istore_n 1, 1) := by decide +kernel
theorem dX0_init_14 : decode cX0_init 14 = .ok (.iload_n 1, 1) := by decide +kernel
theorem dX0_init_15 : decode cX0_init 15 = .ok (.iconst 4, 1) := by decide +kernel
theorem dX0_init_16 : decode cX0_init 16 = .ok (.if_icmp .ge 22, 3) := by decide +kernel
theorem dX0_init_19 : decode cX0_init 19 = .ok (.aload_n 0, 1) := by decide +kernel
theorem dX0_init_20 : decode cX0_init 20 = .ok (.getfield 11, 3) := by decide +kernel
theorem dX0_init_23 : decode cX0_init 23 = .ok (.iload_n 1, 1) := by decide +kernel
theorem dX0_init_24 : decode cX0_init 24 = .ok (.new 9, 3) := by decide +kernel
theorem dX0_init_27 : decode cX0_init 27 = .ok (.dup, 1) := by decide +kernel
theorem dX0_init_28 : decode cX0_init 28 = .ok (.invokespecial 17, 3) := by decide +kernel
theorem dX0_init_31 : decode cX0_init 31 = .ok (.aastore, 1) := by decide +kernel
theorem dX0_init_32 : decode cX0_init 32 = .ok (.iinc 1 1, 3) := by decide +kernel
theorem dX0_init_35 : decode cX0_init 35 = .ok (.goto (-21), 3) := by decide +kernel
theorem dX0_init_38 : decode cX0_init 38 = .ok (.aload_n 0, 1) := by decide +kernel
theorem dX0_init_39 : decode cX0_init 39 = .ok (.iconst 0, 1) := by decide +kernel
theorem dX0_init_40 : decode cX0_init 40 = .ok (.putfield 18, 3) := by decide +kernel
theorem dX0_init_43 : decode cX0_init 43 = .ok (.aload_n 0, 1) := by decide +kernel
theorem dX0_init_44 : decode cX0_init 44 = .ok (.iconst 0, 1) := by decide +kernel
theorem dX0_init_45 : decode cX0_init 45 = .ok (.putfield 22, 3) := by decide +kernel
theorem dX0_init_48 : decode cX0_init 48 = .ok (.return_, 1) := by decide +kernel
theorem mcX0 : Mc yX0_init cX0_init 2 := ⟨gt_in (i := 155) (by decide +kernel) (by decide +kernel), gt_in (i := 154) (by decide +kernel) (by decide +kernel), gt_in (i := 53) (by decide +kernel) (by decide +kernel), rfl, ⟨by decide +kernel, by decide +kernel, by decide +kernel⟩⟩
set_option maxHeartbeats 4000000 in
set_option maxRecDepth 100000 in
theorem oX0_init (l : Launch) (E : ET) : CC l E yX0_init cX0_init 2 3 49 1268 0 [.null, .int 0, .int 0] wHist := by
  refine Met_C (by decide +kernel) rfl (by decide) ?_
  intro h0 p e s m args below meth c A X hin2 hr hk Q fin
  refine n_aload_n (pc := 0) X dX0_init_0 rfl 0 rfl ?_
  refine n_init (pc := 1) X (gt_in (i := 156) (by decide +kernel) (by decide +kernel)) dX0_init_1 ⟨Nat.le_of_ble_eq_true rfl, Nat.le_of_ble_eq_true rfl⟩ ?_
  refine n_aload_n (pc := 4) X dX0_init_4 rfl 0 rfl ?_
  refine n_iconst (pc := 5) (v := 4) X dX0_init_5 (by decide) ?_
  refine n_newq (pc := 6) (N := 4) X rfl (gt_in (i := 157) (by decide +kernel) (by decide +kernel)) (by decide) (by decide) (Nat.le_of_ble_eq_true rfl) (Nat.le_of_ble_eq_true rfl) (Nat.le_of_ble_eq_true rfl) dX0_init_6 (fun q0 => ?_)
  show JP p l e (rmC 3 49 1268) s m args below meth c A s.heap E.1 2 1 4 Q ((h0, .inr (0, [.null, .int 0, .int 0])) :: [(q0, .inl (E.2.2.2.2, (4, .inr (.inr (.inr (.inr (fun _ => none)))))))]) 9 [(0, .ref h0)] [.ref q0, .ref h0]
  refine n_putF (pc := 9) (v := .ref q0) X rfl gf_X0_11i tyX0 tyX0_ok nmX0 (Nat.le_of_ble_eq_true rfl) rfl hin2 rfl rfl rfl rfl dX0_init_9 (gt_in (i := 160) (by decide +kernel) (by decide +kernel)) ?_
  show JP p l e (rmC 3 49 1268) s m args below meth c A s.heap E.1 2 1 4 Q ((h0, .inr (0, [.ref q0, .int 0, .int 0])) :: [(q0, .inl (E.2.2.2.2, (4, .inr (.inr (.inr (.inr (fun _ => none)))))))]) 12 [(0, .ref h0)] []
  refine n_iconst (pc := 12) (v := 0) X dX0_init_12 (by decide) ?_
  refine n_istore_n (pc := 13) (lv' := [(0, .ref h0), (1, .int 0)]) X dX0_init_13 rfl (by decide) rfl ?_
  refine n_iload_n (pc := 14) X dX0_init_14 rfl 1 rfl ?_
  refine n_iconst (pc := 15) (v := 4) X dX0_init_15 (by decide) ?_
  refine n_icmp_ge (pc := 16) (tgt := 38) X dX0_init_16 (by decide) (fun hc => absurd hc (by decide)) (fun _ => ?_)
  refine n_aload_n (pc := 19) X dX0_init_19 rfl 0 rfl ?_
  refine n_get (pc := 20) (v := .ref q0) X rfl gf_X0_11i (gt_in (i := 160) (by decide +kernel) (by decide +kernel)) rfl dX0_init_20 ?_
  refine n_iload_n (pc := 23) X dX0_init_23 rfl 1 rfl ?_
  refine n_new (pc := 24) (ci := 4) X rfl inX4 tyX4 tyX4_ok (gt_in (i := 157) (by decide +kernel) (by decide +kernel)) (gt_in (i := 67) (by decide +kernel) (by decide +kernel)) (gt_in (i := 49) (by decide +kernel) (by decide +kernel)) rfl [.null, .null, .null, .int 0, .int 0, .int 0] (fun j hj => by rcases (show j = 0 ∨ j = 1 ∨ j = 2 ∨ j = 3 ∨ j = 4 ∨ j = 5 by omega) with rfl | rfl | rfl | rfl | rfl | rfl <;> rfl) (Nat.le_of_ble_eq_true rfl) (Nat.le_of_ble_eq_true rfl) dX0_init_24 (fun q1 => ?_)
  show JP p l e (rmC 3 49 1268) s m args below meth c A s.heap E.1 2 2 10 Q ((h0, .inr (0, [.ref q0, .int 0, .int 0])) :: ([(q0, .inl (E.2.2.2.2, (4, .inr (.inr (.inr (.inr (fun _ => none)))))))] ++ [(q1, .inr (4, [.null, .null, .null, .int 0, .int 0, .int 0]))])) 27 [(0, .ref h0), (1, .int 0)] [.ref q1, .int 0, .ref q0]
  refine n_dup (pc := 27) X dX0_init_27 rfl ?_
  show JP p l e (rmC 3 49 1268) s m args below meth c A s.heap E.1 2 2 10 Q (((h0, .inr (0, [.ref q0, .int 0, .int 0])) :: [(q0, .inl (E.2.2.2.2, (4, .inr (.inr (.inr (.inr (fun _ => none)))))))]) ++ [(q1, .inr (4, [.null, .null, .null, .int 0, .int 0, .int 0]))]) 28 [(0, .ref h0), (1, .int 0)] [.ref q1, .ref q1, .int 0, .ref q0]
  refine n_ctor (pc := 28) X rfl (oX4_init l E) mcX4 (gt_in (i := 159) (by decide +kernel) (by decide +kernel)) (Nat.le_of_ble_eq_true rfl) ⟨Nat.le_of_ble_eq_true rfl, Nat.le_of_ble_eq_true rfl⟩ ⟨Nat.le_of_ble_eq_true rfl, Nat.le_of_ble_eq_true rfl⟩ dX0_init_28 (fun a2 ha2 => ?_)
  subst ha2
  show JP p l e (rmC 3 49 1268) s m args below meth c A s.heap E.1 2 13 320 Q ((h0, .inr (0, [.ref q0, .int 0, .int 0])) :: ([(q0, .inl (E.2.2.2.2, (4, .inr (.inr (.inr (.inr (fun _ => none)))))))] ++ wState E a2)) 31 [(0, .ref h0), (1, .int 0)] [.ref (a2 0), .int 0, .ref q0]
  refine n_aast (pc := 31) (q0 := 1) (qk := 2) (n := 4) (ws1 := ((h0, .inr (0, [.ref q0, .int 0, .int 0])) :: ([(q0, .inl (E.2.2.2.2, (4, .inr (.inr (.inr (.inr (va_up (fun _ => none) 0 (some (a2 0)))))))))] ++ wState E a2))) X rfl rfl rfl (by decide) dX0_init_31 rfl ?_
  refine n_iinc (pc := 32) (q := 1) (v := 1) (lv' := [(0, .ref h0), (1, .int 1)]) X dX0_init_32 rfl (by decide) (by decide) rfl ?_
  refine n_goto (pc := 35) (tgt := 14) X dX0_init_35 (by decide) ?_
  refine n_iload_n (pc := 14) X dX0_init_14 rfl 1 rfl ?_
  refine n_iconst (pc := 15) (v := 4) X dX0_init_15 (by decide) ?_
  refine n_icmp_ge (pc := 16) (tgt := 38) X dX0_init_16 (by decide) (fun hc => absurd hc (by decide)) (fun _ => ?_)
  refine n_aload_n (pc := 19) X dX0_init_19 rfl 0 rfl ?_
  refine n_get (pc := 20) (v := .ref q0) X rfl gf_X0_11i (gt_in (i := 160) (by decide +kernel) (by decide +kernel)) rfl dX0_init_20 ?_
  refine n_iload_n (pc := 23) X dX0_init_23 rfl 1 rfl ?_
  refine n_new (pc := 24) (ci := 4) X rfl inX4 tyX4 tyX4_ok (gt_in (i := 157) (by decide +kernel) (by decide +kernel)) (gt_in (i := 67) (by decide +kernel) (by decide +kernel)) (gt_in (i := 49) (by decide +kernel) (by decide +kernel)) rfl [.null, .null, .null, .int 0, .int 0, .int 0] (fun j hj => by rcases (show j = 0 ∨ j = 1 ∨ j = 2 ∨ j = 3 ∨ j = 4 ∨ j = 5 by omega) with rfl | rfl | rfl | rfl | rfl | rfl <;> rfl) (Nat.le_of_ble_eq_true rfl) (Nat.le_of_ble_eq_true rfl) dX0_init_24 (fun q3 => ?_)
  show JP p l e (rmC 3 49 1268) s m args below meth c A s.heap E.1 2 14 326 Q ((h0, .inr (0, [.ref q0, .int 0, .int 0])) :: ([(q0, .inl (E.2.2.2.2, (4, .inr (.inr (.inr (.inr (va_up (fun _ => none) 0 (some (a2 0)))))))))] ++ wState E a2 ++ [(q3, .inr (4, [.null, .null, .null, .int 0, .int 0, .int 0]))])) 27 [(0, .ref h0), (1, .int 1)] [.ref q3, .int 1, .ref q0]
  refine n_dup (pc := 27) X dX0_init_27 rfl ?_
  show JP p l e (rmC 3 49 1268) s m args below meth c A s.heap E.1 2 14 326 Q (((h0, .inr (0, [.ref q0, .int 0, .int 0])) :: ([(q0, .inl (E.2.2.2.2, (4, .inr (.inr (.inr (.inr (va_up (fun _ => none) 0 (some (a2 0)))))))))] ++ wState E a2)) ++ [(q3, .inr (4, [.null, .null, .null, .int 0, .int 0, .int 0]))]) 28 [(0, .ref h0), (1, .int 1)] [.ref q3, .ref q3, .int 1, .ref q0]
  refine n_ctor (pc := 28) X rfl (oX4_init l E) mcX4 (gt_in (i := 159) (by decide +kernel) (by decide +kernel)) (Nat.le_of_ble_eq_true rfl) ⟨Nat.le_of_ble_eq_true rfl, Nat.le_of_ble_eq_true rfl⟩ ⟨Nat.le_of_ble_eq_true rfl, Nat.le_of_ble_eq_true rfl⟩ dX0_init_28 (fun a4 ha4 => ?_)
  subst ha4
  show JP p l e (rmC 3 49 1268) s m args below meth c A s.heap E.1 2 25 636 Q ((h0, .inr (0, [.ref q0, .int 0, .int 0])) :: ([(q0, .inl (E.2.2.2.2, (4, .inr (.inr (.inr (.inr (va_up (fun _ => none) 0 (some (a2 0)))))))))] ++ wState E a2 ++ wState E a4)) 31 [(0, .ref h0), (1, .int 1)] [.ref (a4 0), .int 1, .ref q0]
  refine n_aast (pc := 31) (q0 := 1) (qk := 14) (n := 4) (ws1 := ((h0, .inr (0, [.ref q0, .int 0, .int 0])) :: ([(q0, .inl (E.2.2.2.2, (4, .inr (.inr (.inr (.inr (va_up (va_up (fun _ => none) 0 (some (a2 0))) 1 (some (a4 0)))))))))] ++ wState E a2 ++ wState E a4))) X rfl rfl rfl (by decide) dX0_init_31 rfl ?_
  refine n_iinc (pc := 32) (q := 1) (v := 2) (lv' := [(0, .ref h0), (1, .int 2)]) X dX0_init_32 rfl (by decide) (by decide) rfl ?_
  refine n_goto (pc := 35) (tgt := 14) X dX0_init_35 (by decide) ?_
  refine n_iload_n (pc := 14) X dX0_init_14 rfl 1 rfl ?_
  refine n_iconst (pc := 15) (v := 4) X dX0_init_15 (by decide) ?_
  refine n_icmp_ge (pc := 16) (tgt := 38) X dX0_init_16 (by decide) (fun hc => absurd hc (by decide)) (fun _ => ?_)
  refine n_aload_n (pc := 19) X dX0_init_19 rfl 0 rfl ?_
  refine n_get (pc := 20) (v := .ref q0) X rfl gf_X0_11i (gt_in (i := 160) (by decide +kernel) (by decide +kernel)) rfl dX0_init_20 ?_
  refine n_iload_n (pc := 23) X dX0_init_23 rfl 1 rfl ?_
  refine n_new (pc := 24) (ci := 4) X rfl inX4 tyX4 tyX4_ok (gt_in (i := 157) (by decide +kernel) (by decide +kernel)) (gt_in (i := 67) (by decide +kernel) (by decide +kernel)) (gt_in (i := 49) (by decide +kernel) (by decide +kernel)) rfl [.null, .null, .null, .int 0, .int 0, .int 0] (fun j hj => by rcases (show j = 0 ∨ j = 1 ∨ j = 2 ∨ j = 3 ∨ j = 4 ∨ j = 5 by omega) with rfl | rfl | rfl | rfl | rfl | rfl <;> rfl) (Nat.le_of_ble_eq_true rfl) (Nat.le_of_ble_eq_true rfl) dX0_init_24 (fun q5 => ?_)
  show JP p l e (rmC 3 49 1268) s m args below meth c A s.heap E.1 2 26 642 Q ((h0, .inr (0, [.ref q0, .int 0, .int 0])) :: ([(q0, .inl (E.2.2.2.2, (4, .inr (.inr (.inr (.inr (va_up (va_up (fun _ => none) 0 (some (a2 0))) 1 (some (a4 0)))))))))] ++ wState E a2 ++ wState E a4 ++ [(q5, .inr (4, [.null, .null, .null, .int 0, .int 0, .int 0]))])) 27 [(0, .ref h0), (1, .int 2)] [.ref q5, .int 2, .ref q0]
  refine n_dup (pc := 27) X dX0_init_27 rfl ?_
  show JP p l e (rmC 3 49 1268) s m args below meth c A s.heap E.1 2 26 642 Q (((h0, .inr (0, [.ref q0, .int 0, .int 0])) :: ([(q0, .inl (E.2.2.2.2, (4, .inr (.inr (.inr (.inr (va_up (va_up (fun _ => none) 0 (some (a2 0))) 1 (some (a4 0)))))))))] ++ wState E a2 ++ wState E a4)) ++ [(q5, .inr (4, [.null, .null, .null, .int 0, .int 0, .int 0]))]) 28 [(0, .ref h0), (1, .int 2)] [.ref q5, .ref q5, .int 2, .ref q0]
  refine n_ctor (pc := 28) X rfl (oX4_init l E) mcX4 (gt_in (i := 159) (by decide +kernel) (by decide +kernel)) (Nat.le_of_ble_eq_true rfl) ⟨Nat.le_of_ble_eq_true rfl, Nat.le_of_ble_eq_true rfl⟩ ⟨Nat.le_of_ble_eq_true rfl, Nat.le_of_ble_eq_true rfl⟩ dX0_init_28 (fun a6 ha6 => ?_)
  subst ha6
  show JP p l e (rmC 3 49 1268) s m args below meth c A s.heap E.1 2 37 952 Q ((h0, .inr (0, [.ref q0, .int 0, .int 0])) :: ([(q0, .inl (E.2.2.2.2, (4, .inr (.inr (.inr (.inr (va_up (va_up (fun _ => none) 0 (some (a2 0))) 1 (some (a4 0)))))))))] ++ wState E a2 ++ wState E a4 ++ wState E a6)) 31 [(0, .ref h0), (1, .int 2)] [.ref (a6 0), .int 2, .ref q0]
  refine n_aast (pc := 31) (q0 := 1) (qk := 26) (n := 4) (ws1 := ((h0, .inr (0, [.ref q0, .int 0, .int 0])) :: ([(q0, .inl (E.2.2.2.2, (4, .inr (.inr (.inr (.inr (va_up (va_up (va_up (fun _ => none) 0 (some (a2 0))) 1 (some (a4 0))) 2 (some (a6 0)))))))))] ++ wState E a2 ++ wState E a4 ++ wState E a6))) X rfl rfl rfl (by decide) dX0_init_31 rfl ?_
  refine n_iinc (pc := 32) (q := 1) (v := 3) (lv' := [(0, .ref h0), (1, .int 3)]) X dX0_init_32 rfl (by decide) (by decide) rfl ?_
  refine n_goto (pc := 35) (tgt := 14) X dX0_init_35 (by decide) ?_
  refine n_iload_n (pc := 14) X dX0_init_14 rfl 1 rfl ?_
  refine n_iconst (pc := 15) (v := 4) X dX0_init_15 (by decide) ?_
  refine n_icmp_ge (pc := 16) (tgt := 38) X dX0_init_16 (by decide) (fun hc => absurd hc (by decide)) (fun _ => ?_)
  refine n_aload_n (pc := 19) X dX0_init_19 rfl 0 rfl ?_
  refine n_get (pc := 20) (v := .ref q0) X rfl gf_X0_11i (gt_in (i := 160) (by decide +kernel) (by decide +kernel)) rfl dX0_init_20 ?_
  refine n_iload_n (pc := 23) X dX0_init_23 rfl 1 rfl ?_
  refine n_new (pc := 24) (ci := 4) X rfl inX4 tyX4 tyX4_ok (gt_in (i := 157) (by decide +kernel) (by decide +kernel)) (gt_in (i := 67) (by decide +kernel) (by decide +kernel)) (gt_in (i := 49) (by decide +kernel) (by decide +kernel)) rfl [.null, .null, .null, .int 0, .int 0, .int 0] (fun j hj => by rcases (show j = 0 ∨ j = 1 ∨ j = 2 ∨ j = 3 ∨ j = 4 ∨ j = 5 by omega) with rfl | rfl | rfl | rfl | rfl | rfl <;> rfl) (Nat.le_of_ble_eq_true rfl) (Nat.le_of_ble_eq_true rfl) dX0_init_24 (fun q7 => ?_)
  show JP p l e (rmC 3 49 1268) s m args below meth c A s.heap E.1 2 38 958 Q ((h0, .inr (0, [.ref q0, .int 0, .int 0])) :: ([(q0, .inl (E.2.2.2.2, (4, .inr (.inr (.inr (.inr (va_up (va_up (va_up (fun _ => none) 0 (some (a2 0))) 1 (some (a4 0))) 2 (some (a6 0)))))))))] ++ wState E a2 ++ wState E a4 ++ wState E a6 ++ [(q7, .inr (4, [.null, .null, .null, .int 0, .int 0, .int 0]))])) 27 [(0, .ref h0), (1, .int 3)] [.ref q7, .int 3, .ref q0]
  refine n_dup (pc := 27) X dX0_init_27 rfl ?_
  show JP p l e (rmC 3 49 1268) s m args below meth c A s.heap E.1 2 38 958 Q (((h0, .inr (0, [.ref q0, .int 0, .int 0])) :: ([(q0, .inl (E.2.2.2.2, (4, .inr (.inr (.inr (.inr (va_up (va_up (va_up (fun _ => none) 0 (some (a2 0))) 1 (some (a4 0))) 2 (some (a6 0)))))))))] ++ wState E a2 ++ wState E a4 ++ wState E a6)) ++ [(q7, .inr (4, [.null, .null, .null, .int 0, .int 0, .int 0]))]) 28 [(0, .ref h0), (1, .int 3)] [.ref q7, .ref q7, .int 3, .ref q0]
  refine n_ctor (pc := 28) X rfl (oX4_init l E) mcX4 (gt_in (i := 159) (by decide +kernel) (by decide +kernel)) (Nat.le_of_ble_eq_true rfl) ⟨Nat.le_of_ble_eq_true rfl, Nat.le_of_ble_eq_true rfl⟩ ⟨Nat.le_of_ble_eq_true rfl, Nat.le_of_ble_eq_true rfl⟩ dX0_init_28 (fun a8 ha8 => ?_)
  subst ha8
  show JP p l e (rmC 3 49 1268) s m args below meth c A s.heap E.1 2 49 1268 Q ((h0, .inr (0, [.ref q0, .int 0, .int 0])) :: ([(q0, .inl (E.2.2.2.2, (4, .inr (.inr (.inr (.inr (va_up (va_up (va_up (fun _ => none) 0 (some (a2 0))) 1 (some (a4 0))) 2 (some (a6 0)))))))))] ++ wState E a2 ++ wState E a4 ++ wState E a6 ++ wState E a8)) 31 [(0, .ref h0), (1, .int 3)] [.ref (a8 0), .int 3, .ref q0]
  refine n_aast (pc := 31) (q0 := 1) (qk := 38) (n := 4) (ws1 := ((h0, .inr (0, [.ref q0, .int 0, .int 0])) :: ([(q0, .inl (E.2.2.2.2, (4, .inr (.inr (.inr (.inr (va_up (va_up (va_up (va_up (fun _ => none) 0 (some (a2 0))) 1 (some (a4 0))) 2 (some (a6 0))) 3 (some (a8 0)))))))))] ++ wState E a2 ++ wState E a4 ++ wState E a6 ++ wState E a8))) X rfl rfl rfl (by decide) dX0_init_31 rfl ?_
  refine n_iinc (pc := 32) (q := 1) (v := 4) (lv' := [(0, .ref h0), (1, .int 4)]) X dX0_init_32 rfl (by decide) (by decide) rfl ?_
  refine n_goto (pc := 35) (tgt := 14) X dX0_init_35 (by decide) ?_
  refine n_iload_n (pc := 14) X dX0_init_14 rfl 1 rfl ?_
  refine n_iconst (pc := 15) (v := 4) X dX0_init_15 (by decide) ?_
  refine n_icmp_ge (pc := 16) (tgt := 38) X dX0_init_16 (by decide) (fun _ => ?_) (fun hc => absurd (by decide) hc)
  refine n_aload_n (pc := 38) X dX0_init_38 rfl 0 rfl ?_
  refine n_iconst (pc := 39) (v := 0) X dX0_init_39 (by decide) ?_
  refine n_put (pc := 40) (v := .int 0) X rfl gf_X0_18i tyX0 tyX0_ok nmX0 (Nat.le_of_ble_eq_true rfl) rfl rfl rfl rfl dX0_init_40 (gt_in (i := 161) (by decide +kernel) (by decide +kernel)) ?_
  show JP p l e (rmC 3 49 1268) s m args below meth c A s.heap E.1 2 49 1268 Q ((h0, .inr (0, [.ref q0, .int 0, .int 0])) :: ([(q0, .inl (E.2.2.2.2, (4, .inr (.inr (.inr (.inr (va_up (va_up (va_up (va_up (fun _ => none) 0 (some (a2 0))) 1 (some (a4 0))) 2 (some (a6 0))) 3 (some (a8 0)))))))))] ++ wState E a2 ++ wState E a4 ++ wState E a6 ++ wState E a8)) 43 [(0, .ref h0), (1, .int 4)] []
  refine n_aload_n (pc := 43) X dX0_init_43 rfl 0 rfl ?_
  refine n_iconst (pc := 44) (v := 0) X dX0_init_44 (by decide) ?_
  refine n_put (pc := 45) (v := .int 0) X rfl gf_X0_22i tyX0 tyX0_ok nmX0 (Nat.le_of_ble_eq_true rfl) rfl rfl rfl rfl dX0_init_45 (gt_in (i := 163) (by decide +kernel) (by decide +kernel)) ?_
  show JP p l e (rmC 3 49 1268) s m args below meth c A s.heap E.1 2 49 1268 Q ((h0, .inr (0, [.ref q0, .int 0, .int 0])) :: ([(q0, .inl (E.2.2.2.2, (4, .inr (.inr (.inr (.inr (va_up (va_up (va_up (va_up (fun _ => none) 0 (some (a2 0))) 1 (some (a4 0))) 2 (some (a6 0))) 3 (some (a8 0)))))))))] ++ wState E a2 ++ wState E a4 ++ wState E a6 ++ wState E a8)) 48 [(0, .ref h0), (1, .int 4)] []
  exact fin (fun j => [h0, q0, (a2 0), (a2 1), (a2 2), (a2 3), (a2 4), (a2 5), (a2 6), (a2 7), (a2 8), (a2 9), (a2 10), (a2 11), (a4 0), (a4 1), (a4 2), (a4 3), (a4 4), (a4 5), (a4 6), (a4 7), (a4 8), (a4 9), (a4 10), (a4 11), (a6 0), (a6 1), (a6 2), (a6 3), (a6 4), (a6 5), (a6 6), (a6 7), (a6 8), (a6 9), (a6 10), (a6 11), (a8 0), (a8 1), (a8 2), (a8 3), (a8 4), (a8 5), (a8 6), (a8 7), (a8 8), (a8 9), (a8 10), (a8 11)].getD j 0) rfl 48 [(0, .ref h0), (1, .int 4)] dX0_init_48
theorem dX7_init_0 : decode cX7_init 0 = .ok (.aload_n 0, 1) := by decide +kernel
theorem dX7_init_1 : decode cX7_init 1 = .ok (.invokespecial 1, 3) := by decide +kernel
theorem dX7_init_4 : decode cX7_init 4 = .ok (.aload_n 0, 1) := by decide +kernel
theorem dX7_init_5 : decode cX7_init 5 = .ok (.new 7, 3) := by decide +kernel
theorem dX7_init_8 : decode cX7_init 8 = .ok (.dup, 1) := by decide +kernel
theorem dX7_init_9 : decode cX7_init 9 = .ok (.invokespecial 9, 3) := by decide +kernel
theorem dX7_init_12 : decode cX7_init 12 = .ok (.putfield 10, 3) := by decide +kernel
theorem dX7_init_15 : decode cX7_init 15 = .ok (.aload_n 0, 1) := by decide +kernel
theorem dX7_init_16 : decode cX7_init 16 = .ok (.new 7, 3) := by decide +kernel
theorem dX7_init_19 : decode cX7_init 19 = .ok (.dup, 1) := by decide +kernel
theorem dX7_init_20 : decode cX7_init 20 = .ok (.invokespecial 9, 3) := by decide +kernel
theorem dX7_init_23 : decode cX7_init 23 = .ok (.putfield 16, 3) := by decide +kernel
theorem dX7_init_26 : decode cX7_init 26 = .ok (.aload_n 0, 1) := by decide +kernel
theorem dX7_init_27 : decode cX7_init 27 = .ok (.iconst 0, 1) := by decide +kernel
theorem dX7_init_28 : decode cX7_init 28 = .ok (.putfield 19, 3) := by decide +kernel
theorem dX7_init_31 : decode cX7_init 31 = .ok (.aload_n 0, 1) := by decide +kernel
theorem dX7_init_32 : decode cX7_init 32 = .ok (.new 23, 3) := by decide +kernel
theorem dX7_init_35 : decode cX7_init 35 = .ok (.dup, 1) := by decide +kernel
theorem dX7_init_36 : decode cX7_init 36 = .ok (.invokespecial 25, 3) := by decide +kernel
theorem dX7_init_39 : decode cX7_init 39 = .ok (.putfield 26, 3) := by decide +kernel
theorem dX7_init_42 : decode cX7_init 42 = .ok (.aload_n 0, 1) := by decide +kernel
theorem dX7_init_43 : decode cX7_init 43 = .ok (.new 30, 3) := by decide +kernel
theorem dX7_init_46 : decode cX7_init 46 = .ok (.dup, 1) := by decide +kernel
theorem dX7_init_47 : decode cX7_init 47 = .ok (.invokespecial 32, 3) := by decide +kernel
theorem dX7_init_50 : decode cX7_init 50 = .ok (.putfield 33, 3) := by decide +kernel
theorem dX7_init_53 : decode cX7_init 53 = .ok (.aload_n 0, 1) := by decide +kernel
theorem dX7_init_54 : decode cX7_init 54 = .ok (.new 37, 3) := by decide +kernel
theorem dX7_init_57 : decode cX7_init 57 = .ok (.dup, 1) := by decide +kernel
theorem dX7_init_58 : decode cX7_init 58 = .ok (.invokespecial 39, 3) := by decide +kernel
theorem dX7_init_61 : decode cX7_init 61 = .ok (.putfield 40, 3) := by decide +kernel
theorem dX7_init_64 : decode cX7_init 64 = .ok (.aload_n 0, 1) := by decide +kernel
theorem dX7_init_65 : decode cX7_init 65 = .ok (.new 44, 3) := by decide +kernel
theorem dX7_init_68 : decode cX7_init 68 = .ok (.dup, 1) := by decide +kernel
theorem dX7_init_69 : decode cX7_init 69 = .ok (.invokespecial 46, 3) := by decide +kernel
theorem dX7_init_72 : decode cX7_init 72 = .ok (.putfield 47, 3) := by decide +kernel
theorem dX7_init_75 : decode cX7_init 75 = .ok (.aload_n 0, 1) := by decide +kernel
theorem dX7_init_76 : decode cX7_init 76 = .ok (.new 37, 3) := by decide +kernel
theorem dX7_init_79 : decode cX7_init 79 = .ok (.dup, 1) := by decide +kernel
theorem dX7_init_80 : decode cX7_init 80 = .ok (.invokespecial 39, 3) := by decide +kernel
theorem dX7_init_83 : decode cX7_init 83 = .ok (.putfield 51, 3) := by decide +kernel
theorem dX7_init_86 : decode cX7_init 86 = .ok (.aload_n 0, 1) := by decide +kernel
theorem dX7_init_87 : decode cX7_init 87 = .ok (.bipush 41, 2) := by decide +kernel
theorem dX7_init_89 : decode cX7_init 89 = .ok (.newarray .int, 2) := by decide +kernel
theorem dX7_init_91 : decode cX7_init 91 = .ok (.putfield 54, 3) := by decide +kernel
theorem dX7_init_94 : decode cX7_init 94 = .ok (.return_, 1) := by decide +kernel
theorem mcX7 : Mc yX7_init cX7_init 1 := ⟨gt_in (i := 62) (by decide +kernel) (by decide +kernel), gt_in (i := 61) (by decide +kernel) (by decide +kernel), gt_in (i := 48) (by decide +kernel) (by decide +kernel), rfl, ⟨by decide +kernel, by decide +kernel, by decide +kernel⟩⟩
set_option maxHeartbeats 4000000 in
set_option maxRecDepth 100000 in
theorem oX7_init (l : Launch) (E : ET) : CC l E yX7_init cX7_init 1 4 88 2206 7 [.null, .null, .int 0, .null, .null, .null, .null, .null, .null] wKnots := by
  refine Met_C (by decide +kernel) rfl (by decide) ?_
  intro h0 p e s m args below meth c A X hin2 hr hk Q fin
  refine n_aload_n (pc := 0) X dX7_init_0 rfl 0 rfl ?_
  refine n_init (pc := 1) X (gt_in (i := 63) (by decide +kernel) (by decide +kernel)) dX7_init_1 ⟨Nat.le_of_ble_eq_true rfl, Nat.le_of_ble_eq_true rfl⟩ ?_
  refine n_aload_n (pc := 4) X dX7_init_4 rfl 0 rfl ?_
  refine n_new (pc := 5) (ci := 4) X rfl inX4 tyX4 tyX4_ok (gt_in (i := 66) (by decide +kernel) (by decide +kernel)) (gt_in (i := 67) (by decide +kernel) (by decide +kernel)) (gt_in (i := 49) (by decide +kernel) (by decide +kernel)) rfl [.null, .null, .null, .int 0, .int 0, .int 0] (fun j hj => by rcases (show j = 0 ∨ j = 1 ∨ j = 2 ∨ j = 3 ∨ j = 4 ∨ j = 5 by omega) with rfl | rfl | rfl | rfl | rfl | rfl <;> rfl) (Nat.le_of_ble_eq_true rfl) (Nat.le_of_ble_eq_true rfl) dX7_init_5 (fun q0 => ?_)
  show JP p l e (rmC 4 88 2206) s m args below meth c A s.heap E.1 1 1 6 Q ((h0, .inr (7, [.null, .null, .int 0, .null, .null, .null, .null, .null, .null])) :: [(q0, .inr (4, [.null, .null, .null, .int 0, .int 0, .int 0]))]) 8 [(0, .ref h0)] [.ref q0, .ref h0]
  refine n_dup (pc := 8) X dX7_init_8 rfl ?_
  show JP p l e (rmC 4 88 2206) s m args below meth c A s.heap E.1 1 1 6 Q (((h0, .inr (7, [.null, .null, .int 0, .null, .null, .null, .null, .null, .null])) :: []) ++ [(q0, .inr (4, [.null, .null, .null, .int 0, .int 0, .int 0]))]) 9 [(0, .ref h0)] [.ref q0, .ref q0, .ref h0]
  refine n_ctor (pc := 9) X rfl (oX4_init l E) mcX4 (gt_in (i := 68) (by decide +kernel) (by decide +kernel)) (Nat.le_of_ble_eq_true rfl) ⟨Nat.le_of_ble_eq_true rfl, Nat.le_of_ble_eq_true rfl⟩ ⟨Nat.le_of_ble_eq_true rfl, Nat.le_of_ble_eq_true rfl⟩ dX7_init_9 (fun a1 ha1 => ?_)
  subst ha1
  show JP p l e (rmC 4 88 2206) s m args below meth c A s.heap E.1 1 12 316 Q ((h0, .inr (7, [.null, .null, .int 0, .null, .null, .null, .null, .null, .null])) :: wState E a1) 12 [(0, .ref h0)] [.ref (a1 0), .ref h0]
  refine n_putF (pc := 12) (v := .ref (a1 0)) X rfl gf_X7_10i tyX7 tyX7_ok nmX7 (Nat.le_of_ble_eq_true rfl) rfl hin2 rfl rfl rfl rfl dX7_init_12 (gt_in (i := 208) (by decide +kernel) (by decide +kernel)) ?_
  show JP p l e (rmC 4 88 2206) s m args below meth c A s.heap E.1 1 12 316 Q ((h0, .inr (7, [.ref (a1 0), .null, .int 0, .null, .null, .null, .null, .null, .null])) :: wState E a1) 15 [(0, .ref h0)] []
  refine n_aload_n (pc := 15) X dX7_init_15 rfl 0 rfl ?_
  refine n_new (pc := 16) (ci := 4) X rfl inX4 tyX4 tyX4_ok (gt_in (i := 66) (by decide +kernel) (by decide +kernel)) (gt_in (i := 67) (by decide +kernel) (by decide +kernel)) (gt_in (i := 49) (by decide +kernel) (by decide +kernel)) rfl [.null, .null, .null, .int 0, .int 0, .int 0] (fun j hj => by rcases (show j = 0 ∨ j = 1 ∨ j = 2 ∨ j = 3 ∨ j = 4 ∨ j = 5 by omega) with rfl | rfl | rfl | rfl | rfl | rfl <;> rfl) (Nat.le_of_ble_eq_true rfl) (Nat.le_of_ble_eq_true rfl) dX7_init_16 (fun q2 => ?_)
  show JP p l e (rmC 4 88 2206) s m args below meth c A s.heap E.1 1 13 322 Q ((h0, .inr (7, [.ref (a1 0), .null, .int 0, .null, .null, .null, .null, .null, .null])) :: (wState E a1 ++ [(q2, .inr (4, [.null, .null, .null, .int 0, .int 0, .int 0]))])) 19 [(0, .ref h0)] [.ref q2, .ref h0]
  refine n_dup (pc := 19) X dX7_init_19 rfl ?_
  show JP p l e (rmC 4 88 2206) s m args below meth c A s.heap E.1 1 13 322 Q (((h0, .inr (7, [.ref (a1 0), .null, .int 0, .null, .null, .null, .null, .null, .null])) :: wState E a1) ++ [(q2, .inr (4, [.null, .null, .null, .int 0, .int 0, .int 0]))]) 20 [(0, .ref h0)] [.ref q2, .ref q2, .ref h0]
  refine n_ctor (pc := 20) X rfl (oX4_init l E) mcX4 (gt_in (i := 68) (by decide +kernel) (by decide +kernel)) (Nat.le_of_ble_eq_true rfl) ⟨Nat.le_of_ble_eq_true rfl, Nat.le_of_ble_eq_true rfl⟩ ⟨Nat.le_of_ble_eq_true rfl, Nat.le_of_ble_eq_true rfl⟩ dX7_init_20 (fun a3 ha3 => ?_)
  subst ha3
  show JP p l e (rmC 4 88 2206) s m args below meth c A s.heap E.1 1 24 632 Q ((h0, .inr (7, [.ref (a1 0), .null, .int 0, .null, .null, .null, .null, .null, .null])) :: (wState E a1 ++ wState E a3)) 23 [(0, .ref h0)] [.ref (a3 0), .ref h0]
  refine n_putF (pc := 23) (v := .ref (a3 0)) X rfl gf_X7_16i tyX7 tyX7_ok nmX7 (Nat.le_of_ble_eq_true rfl) rfl hin2 rfl rfl rfl rfl dX7_init_23 (gt_in (i := 209) (by decide +kernel) (by decide +kernel)) ?_
  show JP p l e (rmC 4 88 2206) s m args below meth c A s.heap E.1 1 24 632 Q ((h0, .inr (7, [.ref (a1 0), .ref (a3 0), .int 0, .null, .null, .null, .null, .null, .null])) :: (wState E a1 ++ wState E a3)) 26 [(0, .ref h0)] []
  refine n_aload_n (pc := 26) X dX7_init_26 rfl 0 rfl ?_
  refine n_iconst (pc := 27) (v := 0) X dX7_init_27 (by decide) ?_
  refine n_put (pc := 28) (v := .int 0) X rfl gf_X7_19i tyX7 tyX7_ok nmX7 (Nat.le_of_ble_eq_true rfl) rfl rfl rfl rfl dX7_init_28 (gt_in (i := 210) (by decide +kernel) (by decide +kernel)) ?_
  show JP p l e (rmC 4 88 2206) s m args below meth c A s.heap E.1 1 24 632 Q ((h0, .inr (7, [.ref (a1 0), .ref (a3 0), .int 0, .null, .null, .null, .null, .null, .null])) :: (wState E a1 ++ wState E a3)) 31 [(0, .ref h0)] []
  refine n_aload_n (pc := 31) X dX7_init_31 rfl 0 rfl ?_
  refine n_new (pc := 32) (ci := 0) X rfl inX0 tyX0 tyX0_ok (gt_in (i := 151) (by decide +kernel) (by decide +kernel)) (gt_in (i := 152) (by decide +kernel) (by decide +kernel)) (gt_in (i := 53) (by decide +kernel) (by decide +kernel)) rfl [.null, .int 0, .int 0] (fun j hj => by rcases (show j = 0 ∨ j = 1 ∨ j = 2 by omega) with rfl | rfl | rfl <;> rfl) (Nat.le_of_ble_eq_true rfl) (Nat.le_of_ble_eq_true rfl) dX7_init_32 (fun q4 => ?_)
  show JP p l e (rmC 4 88 2206) s m args below meth c A s.heap E.1 1 25 635 Q ((h0, .inr (7, [.ref (a1 0), .ref (a3 0), .int 0, .null, .null, .null, .null, .null, .null])) :: (wState E a1 ++ wState E a3 ++ [(q4, .inr (0, [.null, .int 0, .int 0]))])) 35 [(0, .ref h0)] [.ref q4, .ref h0]
  refine n_dup (pc := 35) X dX7_init_35 rfl ?_
  show JP p l e (rmC 4 88 2206) s m args below meth c A s.heap E.1 1 25 635 Q (((h0, .inr (7, [.ref (a1 0), .ref (a3 0), .int 0, .null, .null, .null, .null, .null, .null])) :: (wState E a1 ++ wState E a3)) ++ [(q4, .inr (0, [.null, .int 0, .int 0]))]) 36 [(0, .ref h0)] [.ref q4, .ref q4, .ref h0]
  refine n_ctor (pc := 36) X rfl (oX0_init l E) mcX0 (gt_in (i := 153) (by decide +kernel) (by decide +kernel)) (Nat.le_of_ble_eq_true rfl) ⟨Nat.le_of_ble_eq_true rfl, Nat.le_of_ble_eq_true rfl⟩ ⟨Nat.le_of_ble_eq_true rfl, Nat.le_of_ble_eq_true rfl⟩ dX7_init_36 (fun a5 ha5 => ?_)
  subst ha5
  show JP p l e (rmC 4 88 2206) s m args below meth c A s.heap E.1 1 74 1903 Q ((h0, .inr (7, [.ref (a1 0), .ref (a3 0), .int 0, .null, .null, .null, .null, .null, .null])) :: (wState E a1 ++ wState E a3 ++ wHist E a5)) 39 [(0, .ref h0)] [.ref (a5 0), .ref h0]
  refine n_putF (pc := 39) (v := .ref (a5 0)) X rfl gf_X7_26i tyX7 tyX7_ok nmX7 (Nat.le_of_ble_eq_true rfl) rfl hin2 rfl rfl rfl rfl dX7_init_39 (gt_in (i := 211) (by decide +kernel) (by decide +kernel)) ?_
  show JP p l e (rmC 4 88 2206) s m args below meth c A s.heap E.1 1 74 1903 Q ((h0, .inr (7, [.ref (a1 0), .ref (a3 0), .int 0, .ref (a5 0), .null, .null, .null, .null, .null])) :: (wState E a1 ++ wState E a3 ++ wHist E a5)) 42 [(0, .ref h0)] []
  refine n_aload_n (pc := 42) X dX7_init_42 rfl 0 rfl ?_
  refine n_new (pc := 43) (ci := 5) X rfl inX5 tyX5 tyX5_ok (gt_in (i := 171) (by decide +kernel) (by decide +kernel)) (gt_in (i := 172) (by decide +kernel) (by decide +kernel)) (gt_in (i := 54) (by decide +kernel) (by decide +kernel)) rfl [.null, .int 0] (fun j hj => by rcases (show j = 0 ∨ j = 1 by omega) with rfl | rfl <;> rfl) (Nat.le_of_ble_eq_true rfl) (Nat.le_of_ble_eq_true rfl) dX7_init_43 (fun q6 => ?_)
  show JP p l e (rmC 4 88 2206) s m args below meth c A s.heap E.1 1 75 1905 Q ((h0, .inr (7, [.ref (a1 0), .ref (a3 0), .int 0, .ref (a5 0), .null, .null, .null, .null, .null])) :: (wState E a1 ++ wState E a3 ++ wHist E a5 ++ [(q6, .inr (5, [.null, .int 0]))])) 46 [(0, .ref h0)] [.ref q6, .ref h0]
  refine n_dup (pc := 46) X dX7_init_46 rfl ?_
  show JP p l e (rmC 4 88 2206) s m args below meth c A s.heap E.1 1 75 1905 Q (((h0, .inr (7, [.ref (a1 0), .ref (a3 0), .int 0, .ref (a5 0), .null, .null, .null, .null, .null])) :: (wState E a1 ++ wState E a3 ++ wHist E a5)) ++ [(q6, .inr (5, [.null, .int 0]))]) 47 [(0, .ref h0)] [.ref q6, .ref q6, .ref h0]
  refine n_ctor (pc := 47) X rfl (oX5_init l E) mcX5 (gt_in (i := 173) (by decide +kernel) (by decide +kernel)) (Nat.le_of_ble_eq_true rfl) ⟨Nat.le_of_ble_eq_true rfl, Nat.le_of_ble_eq_true rfl⟩ ⟨Nat.le_of_ble_eq_true rfl, Nat.le_of_ble_eq_true rfl⟩ dX7_init_47 (fun a7 ha7 => ?_)
  subst ha7
  show JP p l e (rmC 4 88 2206) s m args below meth c A s.heap E.1 1 76 1955 Q ((h0, .inr (7, [.ref (a1 0), .ref (a3 0), .int 0, .ref (a5 0), .null, .null, .null, .null, .null])) :: (wState E a1 ++ wState E a3 ++ wHist E a5 ++ wText E a7)) 50 [(0, .ref h0)] [.ref (a7 0), .ref h0]
  refine n_putF (pc := 50) (v := .ref (a7 0)) X rfl gf_X7_33i tyX7 tyX7_ok nmX7 (Nat.le_of_ble_eq_true rfl) rfl hin2 rfl rfl rfl rfl dX7_init_50 (gt_in (i := 212) (by decide +kernel) (by decide +kernel)) ?_
  show JP p l e (rmC 4 88 2206) s m args below meth c A s.heap E.1 1 76 1955 Q ((h0, .inr (7, [.ref (a1 0), .ref (a3 0), .int 0, .ref (a5 0), .ref (a7 0), .null, .null, .null, .null])) :: (wState E a1 ++ wState E a3 ++ wHist E a5 ++ wText E a7)) 53 [(0, .ref h0)] []
  refine n_aload_n (pc := 53) X dX7_init_53 rfl 0 rfl ?_
  refine n_new (pc := 54) (ci := 3) X rfl inX3 tyX3 tyX3_ok (gt_in (i := 186) (by decide +kernel) (by decide +kernel)) (gt_in (i := 187) (by decide +kernel) (by decide +kernel)) (gt_in (i := 55) (by decide +kernel) (by decide +kernel)) rfl [.int 0, .null, .null, .null] (fun j hj => by rcases (show j = 0 ∨ j = 1 ∨ j = 2 ∨ j = 3 by omega) with rfl | rfl | rfl | rfl <;> rfl) (Nat.le_of_ble_eq_true rfl) (Nat.le_of_ble_eq_true rfl) dX7_init_54 (fun q8 => ?_)
  show JP p l e (rmC 4 88 2206) s m args below meth c A s.heap E.1 1 77 1959 Q ((h0, .inr (7, [.ref (a1 0), .ref (a3 0), .int 0, .ref (a5 0), .ref (a7 0), .null, .null, .null, .null])) :: (wState E a1 ++ wState E a3 ++ wHist E a5 ++ wText E a7 ++ [(q8, .inr (3, [.int 0, .null, .null, .null]))])) 57 [(0, .ref h0)] [.ref q8, .ref h0]
  refine n_dup (pc := 57) X dX7_init_57 rfl ?_
  show JP p l e (rmC 4 88 2206) s m args below meth c A s.heap E.1 1 77 1959 Q (((h0, .inr (7, [.ref (a1 0), .ref (a3 0), .int 0, .ref (a5 0), .ref (a7 0), .null, .null, .null, .null])) :: (wState E a1 ++ wState E a3 ++ wHist E a5 ++ wText E a7)) ++ [(q8, .inr (3, [.int 0, .null, .null, .null]))]) 58 [(0, .ref h0)] [.ref q8, .ref q8, .ref h0]
  refine n_ctor (pc := 58) X rfl (oX3_init l E) mcX3 (gt_in (i := 188) (by decide +kernel) (by decide +kernel)) (Nat.le_of_ble_eq_true rfl) ⟨Nat.le_of_ble_eq_true rfl, Nat.le_of_ble_eq_true rfl⟩ ⟨Nat.le_of_ble_eq_true rfl, Nat.le_of_ble_eq_true rfl⟩ dX7_init_58 (fun a9 ha9 => ?_)
  subst ha9
  show JP p l e (rmC 4 88 2206) s m args below meth c A s.heap E.1 1 80 2019 Q ((h0, .inr (7, [.ref (a1 0), .ref (a3 0), .int 0, .ref (a5 0), .ref (a7 0), .null, .null, .null, .null])) :: (wState E a1 ++ wState E a3 ++ wHist E a5 ++ wText E a7 ++ wRuns E a9)) 61 [(0, .ref h0)] [.ref (a9 0), .ref h0]
  refine n_putF (pc := 61) (v := .ref (a9 0)) X rfl gf_X7_40i tyX7 tyX7_ok nmX7 (Nat.le_of_ble_eq_true rfl) rfl hin2 rfl rfl rfl rfl dX7_init_61 (gt_in (i := 213) (by decide +kernel) (by decide +kernel)) ?_
  show JP p l e (rmC 4 88 2206) s m args below meth c A s.heap E.1 1 80 2019 Q ((h0, .inr (7, [.ref (a1 0), .ref (a3 0), .int 0, .ref (a5 0), .ref (a7 0), .ref (a9 0), .null, .null, .null])) :: (wState E a1 ++ wState E a3 ++ wHist E a5 ++ wText E a7 ++ wRuns E a9)) 64 [(0, .ref h0)] []
  refine n_aload_n (pc := 64) X dX7_init_64 rfl 0 rfl ?_
  refine n_new (pc := 65) (ci := 2) X rfl inX2 tyX2 tyX2_ok (gt_in (i := 206) (by decide +kernel) (by decide +kernel)) (gt_in (i := 73) (by decide +kernel) (by decide +kernel)) (gt_in (i := 50) (by decide +kernel) (by decide +kernel)) rfl [.null, .null] (fun j hj => by rcases (show j = 0 ∨ j = 1 by omega) with rfl | rfl <;> rfl) (Nat.le_of_ble_eq_true rfl) (Nat.le_of_ble_eq_true rfl) dX7_init_65 (fun q10 => ?_)
  show JP p l e (rmC 4 88 2206) s m args below meth c A s.heap E.1 1 81 2021 Q ((h0, .inr (7, [.ref (a1 0), .ref (a3 0), .int 0, .ref (a5 0), .ref (a7 0), .ref (a9 0), .null, .null, .null])) :: (wState E a1 ++ wState E a3 ++ wHist E a5 ++ wText E a7 ++ wRuns E a9 ++ [(q10, .inr (2, [.null, .null]))])) 68 [(0, .ref h0)] [.ref q10, .ref h0]
  refine n_dup (pc := 68) X dX7_init_68 rfl ?_
  show JP p l e (rmC 4 88 2206) s m args below meth c A s.heap E.1 1 81 2021 Q (((h0, .inr (7, [.ref (a1 0), .ref (a3 0), .int 0, .ref (a5 0), .ref (a7 0), .ref (a9 0), .null, .null, .null])) :: (wState E a1 ++ wState E a3 ++ wHist E a5 ++ wText E a7 ++ wRuns E a9)) ++ [(q10, .inr (2, [.null, .null]))]) 69 [(0, .ref h0)] [.ref q10, .ref q10, .ref h0]
  refine n_ctor (pc := 69) X rfl (oX2_init l E) mcX2 (gt_in (i := 207) (by decide +kernel) (by decide +kernel)) (Nat.le_of_ble_eq_true rfl) ⟨Nat.le_of_ble_eq_true rfl, Nat.le_of_ble_eq_true rfl⟩ ⟨Nat.le_of_ble_eq_true rfl, Nat.le_of_ble_eq_true rfl⟩ dX7_init_69 (fun a11 ha11 => ?_)
  subst ha11
  show JP p l e (rmC 4 88 2206) s m args below meth c A s.heap E.1 1 83 2101 Q ((h0, .inr (7, [.ref (a1 0), .ref (a3 0), .int 0, .ref (a5 0), .ref (a7 0), .ref (a9 0), .null, .null, .null])) :: (wState E a1 ++ wState E a3 ++ wHist E a5 ++ wText E a7 ++ wRuns E a9 ++ wRope E a11)) 72 [(0, .ref h0)] [.ref (a11 0), .ref h0]
  refine n_putF (pc := 72) (v := .ref (a11 0)) X rfl gf_X7_47i tyX7 tyX7_ok nmX7 (Nat.le_of_ble_eq_true rfl) rfl hin2 rfl rfl rfl rfl dX7_init_72 (gt_in (i := 214) (by decide +kernel) (by decide +kernel)) ?_
  show JP p l e (rmC 4 88 2206) s m args below meth c A s.heap E.1 1 83 2101 Q ((h0, .inr (7, [.ref (a1 0), .ref (a3 0), .int 0, .ref (a5 0), .ref (a7 0), .ref (a9 0), .ref (a11 0), .null, .null])) :: (wState E a1 ++ wState E a3 ++ wHist E a5 ++ wText E a7 ++ wRuns E a9 ++ wRope E a11)) 75 [(0, .ref h0)] []
  refine n_aload_n (pc := 75) X dX7_init_75 rfl 0 rfl ?_
  refine n_new (pc := 76) (ci := 3) X rfl inX3 tyX3 tyX3_ok (gt_in (i := 186) (by decide +kernel) (by decide +kernel)) (gt_in (i := 187) (by decide +kernel) (by decide +kernel)) (gt_in (i := 55) (by decide +kernel) (by decide +kernel)) rfl [.int 0, .null, .null, .null] (fun j hj => by rcases (show j = 0 ∨ j = 1 ∨ j = 2 ∨ j = 3 by omega) with rfl | rfl | rfl | rfl <;> rfl) (Nat.le_of_ble_eq_true rfl) (Nat.le_of_ble_eq_true rfl) dX7_init_76 (fun q12 => ?_)
  show JP p l e (rmC 4 88 2206) s m args below meth c A s.heap E.1 1 84 2105 Q ((h0, .inr (7, [.ref (a1 0), .ref (a3 0), .int 0, .ref (a5 0), .ref (a7 0), .ref (a9 0), .ref (a11 0), .null, .null])) :: (wState E a1 ++ wState E a3 ++ wHist E a5 ++ wText E a7 ++ wRuns E a9 ++ wRope E a11 ++ [(q12, .inr (3, [.int 0, .null, .null, .null]))])) 79 [(0, .ref h0)] [.ref q12, .ref h0]
  refine n_dup (pc := 79) X dX7_init_79 rfl ?_
  show JP p l e (rmC 4 88 2206) s m args below meth c A s.heap E.1 1 84 2105 Q (((h0, .inr (7, [.ref (a1 0), .ref (a3 0), .int 0, .ref (a5 0), .ref (a7 0), .ref (a9 0), .ref (a11 0), .null, .null])) :: (wState E a1 ++ wState E a3 ++ wHist E a5 ++ wText E a7 ++ wRuns E a9 ++ wRope E a11)) ++ [(q12, .inr (3, [.int 0, .null, .null, .null]))]) 80 [(0, .ref h0)] [.ref q12, .ref q12, .ref h0]
  refine n_ctor (pc := 80) X rfl (oX3_init l E) mcX3 (gt_in (i := 188) (by decide +kernel) (by decide +kernel)) (Nat.le_of_ble_eq_true rfl) ⟨Nat.le_of_ble_eq_true rfl, Nat.le_of_ble_eq_true rfl⟩ ⟨Nat.le_of_ble_eq_true rfl, Nat.le_of_ble_eq_true rfl⟩ dX7_init_80 (fun a13 ha13 => ?_)
  subst ha13
  show JP p l e (rmC 4 88 2206) s m args below meth c A s.heap E.1 1 87 2165 Q ((h0, .inr (7, [.ref (a1 0), .ref (a3 0), .int 0, .ref (a5 0), .ref (a7 0), .ref (a9 0), .ref (a11 0), .null, .null])) :: (wState E a1 ++ wState E a3 ++ wHist E a5 ++ wText E a7 ++ wRuns E a9 ++ wRope E a11 ++ wRuns E a13)) 83 [(0, .ref h0)] [.ref (a13 0), .ref h0]
  refine n_putF (pc := 83) (v := .ref (a13 0)) X rfl gf_X7_51i tyX7 tyX7_ok nmX7 (Nat.le_of_ble_eq_true rfl) rfl hin2 rfl rfl rfl rfl dX7_init_83 (gt_in (i := 215) (by decide +kernel) (by decide +kernel)) ?_
  show JP p l e (rmC 4 88 2206) s m args below meth c A s.heap E.1 1 87 2165 Q ((h0, .inr (7, [.ref (a1 0), .ref (a3 0), .int 0, .ref (a5 0), .ref (a7 0), .ref (a9 0), .ref (a11 0), .ref (a13 0), .null])) :: (wState E a1 ++ wState E a3 ++ wHist E a5 ++ wText E a7 ++ wRuns E a9 ++ wRope E a11 ++ wRuns E a13)) 86 [(0, .ref h0)] []
  refine n_aload_n (pc := 86) X dX7_init_86 rfl 0 rfl ?_
  refine n_bipush (pc := 87) (v := 41) X dX7_init_87 (by decide) ?_
  refine n_newi (pc := 89) (N := 41) X rfl (by decide) (by decide) (Nat.le_of_ble_eq_true rfl) (Nat.le_of_ble_eq_true rfl) (Nat.le_of_ble_eq_true rfl) dX7_init_89 (fun q14 => ?_)
  show JP p l e (rmC 4 88 2206) s m args below meth c A s.heap E.1 1 88 2206 Q ((h0, .inr (7, [.ref (a1 0), .ref (a3 0), .int 0, .ref (a5 0), .ref (a7 0), .ref (a9 0), .ref (a11 0), .ref (a13 0), .null])) :: (wState E a1 ++ wState E a3 ++ wHist E a5 ++ wText E a7 ++ wRuns E a9 ++ wRope E a11 ++ wRuns E a13 ++ [(q14, ic E 41)])) 91 [(0, .ref h0)] [.ref q14, .ref h0]
  refine n_putF (pc := 91) (v := .ref q14) X rfl gf_X7_54i tyX7 tyX7_ok nmX7 (Nat.le_of_ble_eq_true rfl) rfl hin2 rfl rfl rfl rfl dX7_init_91 (gt_in (i := 216) (by decide +kernel) (by decide +kernel)) ?_
  show JP p l e (rmC 4 88 2206) s m args below meth c A s.heap E.1 1 88 2206 Q ((h0, .inr (7, [.ref (a1 0), .ref (a3 0), .int 0, .ref (a5 0), .ref (a7 0), .ref (a9 0), .ref (a11 0), .ref (a13 0), .ref q14])) :: (wState E a1 ++ wState E a3 ++ wHist E a5 ++ wText E a7 ++ wRuns E a9 ++ wRope E a11 ++ wRuns E a13 ++ [(q14, ic E 41)])) 94 [(0, .ref h0)] []
  exact fin (fun j => [h0, (a1 0), (a1 1), (a1 2), (a1 3), (a1 4), (a1 5), (a1 6), (a1 7), (a1 8), (a1 9), (a1 10), (a1 11), (a3 0), (a3 1), (a3 2), (a3 3), (a3 4), (a3 5), (a3 6), (a3 7), (a3 8), (a3 9), (a3 10), (a3 11), (a5 0), (a5 1), (a5 2), (a5 3), (a5 4), (a5 5), (a5 6), (a5 7), (a5 8), (a5 9), (a5 10), (a5 11), (a5 12), (a5 13), (a5 14), (a5 15), (a5 16), (a5 17), (a5 18), (a5 19), (a5 20), (a5 21), (a5 22), (a5 23), (a5 24), (a5 25), (a5 26), (a5 27), (a5 28), (a5 29), (a5 30), (a5 31), (a5 32), (a5 33), (a5 34), (a5 35), (a5 36), (a5 37), (a5 38), (a5 39), (a5 40), (a5 41), (a5 42), (a5 43), (a5 44), (a5 45), (a5 46), (a5 47), (a5 48), (a5 49), (a7 0), (a7 1), (a9 0), (a9 1), (a9 2), (a9 3), (a11 0), (a11 1), (a11 2), (a13 0), (a13 1), (a13 2), (a13 3), q14].getD j 0) rfl 94 [(0, .ref h0)] dX7_init_94
