theorem dX7_setRings_0 : decode cX7_setRings 0 = .ok (.aload_n 0, 1) := by decide +kernel
theorem dX7_setRings_1 : decode cX7_setRings 1 = .ok (.getfield 10, 3) := by decide +kernel
theorem dX7_setRings_4 : decode cX7_setRings 4 = .ok (.getfield 112, 3) := by decide +kernel
theorem dX7_setRings_7 : decode cX7_setRings 7 = .ok (.iload_n 1, 1) := by decide +kernel
theorem dX7_setRings_8 : decode cX7_setRings 8 = .ok (.invokevirtual 129, 3) := by decide +kernel
theorem dX7_setRings_11 : decode cX7_setRings 11 = .ok (.ifCond .ne 5, 3) := by decide +kernel
theorem dX7_setRings_14 : decode cX7_setRings 14 = .ok (.iconst (-1), 1) := by decide +kernel
theorem dX7_setRings_15 : decode cX7_setRings 15 = .ok (.ireturn, 1) := by decide +kernel
theorem dX7_setRings_16 : decode cX7_setRings 16 = .ok (.iload_n 2, 1) := by decide +kernel
theorem dX7_setRings_17 : decode cX7_setRings 17 = .ok (.iconst 1, 1) := by decide +kernel
theorem dX7_setRings_18 : decode cX7_setRings 18 = .ok (.bipush 9, 2) := by decide +kernel
theorem dX7_setRings_20 : decode cX7_setRings 20 = .ok (.invokestatic 58, 3) := by decide +kernel
theorem dX7_setRings_23 : decode cX7_setRings 23 = .ok (.ifCond .ne 6, 3) := by decide +kernel
theorem dX7_setRings_26 : decode cX7_setRings 26 = .ok (.bipush (-2), 2) := by decide +kernel
theorem dX7_setRings_28 : decode cX7_setRings 28 = .ok (.ireturn, 1) := by decide +kernel
theorem dX7_setRings_29 : decode cX7_setRings 29 = .ok (.aload_n 0, 1) := by decide +kernel
theorem dX7_setRings_30 : decode cX7_setRings 30 = .ok (.getfield 10, 3) := by decide +kernel
theorem dX7_setRings_33 : decode cX7_setRings 33 = .ok (.getfield 112, 3) := by decide +kernel
theorem dX7_setRings_36 : decode cX7_setRings 36 = .ok (.iload_n 1, 1) := by decide +kernel
theorem dX7_setRings_37 : decode cX7_setRings 37 = .ok (.invokevirtual 133, 3) := by decide +kernel
theorem dX7_setRings_40 : decode cX7_setRings 40 = .ok (.istore_n 3, 1) := by decide +kernel
theorem dX7_setRings_41 : decode cX7_setRings 41 = .ok (.iload_n 3, 1) := by decide +kernel
theorem dX7_setRings_42 : decode cX7_setRings 42 = .ok (.iload_n 2, 1) := by decide +kernel
theorem dX7_setRings_43 : decode cX7_setRings 43 = .ok (.if_icmp .ne 6, 3) := by decide +kernel
theorem dX7_setRings_46 : decode cX7_setRings 46 = .ok (.bipush (-5), 2) := by decide +kernel
theorem dX7_setRings_48 : decode cX7_setRings 48 = .ok (.ireturn, 1) := by decide +kernel
theorem dX7_setRings_49 : decode cX7_setRings 49 = .ok (.aload_n 0, 1) := by decide +kernel
theorem dX7_setRings_50 : decode cX7_setRings 50 = .ok (.getfield 26, 3) := by decide +kernel
theorem dX7_setRings_53 : decode cX7_setRings 53 = .ok (.aload_n 0, 1) := by decide +kernel
theorem dX7_setRings_54 : decode cX7_setRings 54 = .ok (.getfield 10, 3) := by decide +kernel
theorem dX7_setRings_57 : decode cX7_setRings 57 = .ok (.invokevirtual 72, 3) := by decide +kernel
theorem dX7_setRings_60 : decode cX7_setRings 60 = .ok (.aload_n 0, 1) := by decide +kernel
theorem dX7_setRings_61 : decode cX7_setRings 61 = .ok (.getfield 10, 3) := by decide +kernel
theorem dX7_setRings_64 : decode cX7_setRings 64 = .ok (.getfield 112, 3) := by decide +kernel
theorem dX7_setRings_67 : decode cX7_setRings 67 = .ok (.iload_n 1, 1) := by decide +kernel
theorem dX7_setRings_68 : decode cX7_setRings 68 = .ok (.iload_n 2, 1) := by decide +kernel
theorem dX7_setRings_69 : decode cX7_setRings 69 = .ok (.invokevirtual 136, 3) := by decide +kernel
theorem dX7_setRings_72 : decode cX7_setRings 72 = .ok (.iload_n 3, 1) := by decide +kernel
theorem dX7_setRings_73 : decode cX7_setRings 73 = .ok (.ireturn, 1) := by decide +kernel
set_option maxHeartbeats 4000000 in
set_option maxRecDepth 100000 in
theorem tX7_setRings (l : Launch) {E : ET} (hE : Aj E) (G : GT) (a1 : Int32) (a2 : Int32) {r : Int32} {G' : GT} (h : fX7_setRings G a1 a2 = some (r, G')) : CI l E yX7_setRings cX7_setRings 4 (some .int) 3 [.ref (Ad E 20 0), .int a1, .int a2] G r G' := by
  refine Met_I (lv := [(0, .ref (Ad E 20 0)), (1, .int a1), (2, .int a2)]) (by decide +kernel) hE (Nat.le_of_ble_eq_true rfl) rfl ?_
  intro p e s m args below meth c X hr hk
  unfold fX7_setRings at h
  refine j_aload_n (pc := 0) X dX7_setRings_0 rfl 0 rfl ?_
  refine j_get (pc := 1) (v := .ref (Ad E 11 0)) X gf_X7_10 (by decide) rfl rfl dX7_setRings_1 ?_
  refine j_get (pc := 4) (v := .ref (Ad E 3 0)) X gf_X7_112 (by decide) rfl rfl dX7_setRings_4 ?_
  refine j_iload_n (pc := 7) X dX7_setRings_7 rfl 1 rfl ?_
  obtain ⟨r1, hc3, h⟩ := bd_s h
  refine j_callI (pc := 8) X (tX6_has l hE G 0 (by decide) a1 hc3) muX6_has (by decide) q392 rfl rfl (Nat.le_of_ble_eq_true rfl) ⟨Nat.le_of_ble_eq_true rfl, Nat.le_of_ble_eq_true rfl⟩ dX7_setRings_8 ?_
  refine j_if_ne (pc := 11) (tgt := 16) X dX7_setRings_11 (by decide) (fun hc => ?_) (fun hc => ?_)
  · rw [if_neg hc] at h
    refine j_iload_n (pc := 16) X dX7_setRings_16 rfl 2 rfl ?_
    refine j_iconst (pc := 17) (v := 1) X dX7_setRings_17 (by decide) ?_
    refine j_bipush (pc := 18) (v := 9) X dX7_setRings_18 (by decide) ?_
    obtain ⟨r4, hc6, h⟩ := bd_s h
    refine j_staI (pc := 20) X (tX7_isWithin l hE G a2 (1 : Int32) (9 : Int32) hc6) muX7_isWithin (Or.inl q240) rfl rfl (Nat.le_of_ble_eq_true rfl) ⟨Nat.le_of_ble_eq_true rfl, Nat.le_of_ble_eq_true rfl⟩ dX7_setRings_20 ?_
    refine j_if_ne (pc := 23) (tgt := 29) X dX7_setRings_23 (by decide) (fun hc => ?_) (fun hc => ?_)
    · rw [if_neg hc] at h
      refine j_aload_n (pc := 29) X dX7_setRings_29 rfl 0 rfl ?_
      refine j_get (pc := 30) (v := .ref (Ad E 11 0)) X gf_X7_10 (by decide) rfl rfl dX7_setRings_30 ?_
      refine j_get (pc := 33) (v := .ref (Ad E 3 0)) X gf_X7_112 (by decide) rfl rfl dX7_setRings_33 ?_
      refine j_iload_n (pc := 36) X dX7_setRings_36 rfl 1 rfl ?_
      obtain ⟨r7, hc9, h⟩ := bd_s h
      refine j_callI (pc := 37) X (tX6_ringsOf l hE G 0 (by decide) a1 hc9) muX6_ringsOf (by decide) q393 rfl rfl (Nat.le_of_ble_eq_true rfl) ⟨Nat.le_of_ble_eq_true rfl, Nat.le_of_ble_eq_true rfl⟩ dX7_setRings_37 ?_
      refine j_istore_n (pc := 40) (lv' := [(0, .ref (Ad E 20 0)), (1, .int a1), (2, .int a2), (3, .int r7)]) X dX7_setRings_40 rfl (by decide) rfl ?_
      refine j_iload_n (pc := 41) X dX7_setRings_41 rfl 3 rfl ?_
      refine j_iload_n (pc := 42) X dX7_setRings_42 rfl 2 rfl ?_
      refine j_icmp_ne (pc := 43) (tgt := 49) X dX7_setRings_43 (by decide) (fun hc => ?_) (fun hc => ?_)
      · rw [if_neg hc] at h
        refine j_aload_n (pc := 49) X dX7_setRings_49 rfl 0 rfl ?_
        refine j_get (pc := 50) (v := .ref (Ad E 12 0)) X gf_X7_26 (by decide) rfl rfl dX7_setRings_50 ?_
        refine j_aload_n (pc := 53) X dX7_setRings_53 rfl 0 rfl ?_
        refine j_get (pc := 54) (v := .ref (Ad E 11 0)) X gf_X7_10 (by decide) rfl rfl dX7_setRings_54 ?_
        obtain ⟨G11, hc12, h⟩ := bd_s h
        refine j_callV (pc := 57) X (tX0_remember l hE G 0 (by decide) hc12) muX0_remember (by decide) q252 rfl rfl (Nat.le_of_ble_eq_true rfl) ⟨Nat.le_of_ble_eq_true rfl, Nat.le_of_ble_eq_true rfl⟩ dX7_setRings_57 ?_
        refine j_aload_n (pc := 60) X dX7_setRings_60 rfl 0 rfl ?_
        refine j_get (pc := 61) (v := .ref (Ad E 11 0)) X gf_X7_10 (by decide) rfl rfl dX7_setRings_61 ?_
        refine j_get (pc := 64) (v := .ref (Ad E 3 0)) X gf_X7_112 (by decide) rfl rfl dX7_setRings_64 ?_
        refine j_iload_n (pc := 67) X dX7_setRings_67 rfl 1 rfl ?_
        refine j_iload_n (pc := 68) X dX7_setRings_68 rfl 2 rfl ?_
        obtain ⟨G14, hc15, h⟩ := bd_s h
        refine j_callV (pc := 69) X (tX6_changeRings l hE G11 0 (by decide) a1 a2 hc15) muX6_changeRings (by decide) q397 rfl rfl (Nat.le_of_ble_eq_true rfl) ⟨Nat.le_of_ble_eq_true rfl, Nat.le_of_ble_eq_true rfl⟩ dX7_setRings_69 ?_
        refine j_iload_n (pc := 72) X dX7_setRings_72 rfl 3 rfl ?_
        exact j_ret (pc := 73) X hr hk (vp_nar_int _) (pr_s h).1 (pr_s h).2 dX7_setRings_73
      · rw [if_pos hc] at h
        refine j_bipush (pc := 46) (v := (-5)) X dX7_setRings_46 (by decide) ?_
        exact j_ret (pc := 48) X hr hk (vp_nar_int _) (pr_s h).1 (pr_s h).2 dX7_setRings_48
    · rw [if_pos hc] at h
      refine j_bipush (pc := 26) (v := (-2)) X dX7_setRings_26 (by decide) ?_
      exact j_ret (pc := 28) X hr hk (vp_nar_int _) (pr_s h).1 (pr_s h).2 dX7_setRings_28
  · rw [if_pos hc] at h
    refine j_iconst (pc := 14) (v := (-1)) X dX7_setRings_14 (by decide) ?_
    exact j_ret (pc := 15) X hr hk (vp_nar_int _) (pr_s h).1 (pr_s h).2 dX7_setRings_15
theorem dX7_rightAnswer_0 : decode cX7_rightAnswer 0 = .ok (.iconst 0, 1) := by decide +kernel
theorem dX7_rightAnswer_1 : decode cX7_rightAnswer 1 = .ok (.istore_n 2, 1) := by decide +kernel
theorem dX7_rightAnswer_2 : decode cX7_rightAnswer 2 = .ok (.iconst 0, 1) := by decide +kernel
theorem dX7_rightAnswer_3 : decode cX7_rightAnswer 3 = .ok (.istore_n 3, 1) := by decide +kernel
theorem dX7_rightAnswer_4 : decode cX7_rightAnswer 4 = .ok (.iload_n 3, 1) := by decide +kernel
theorem dX7_rightAnswer_5 : decode cX7_rightAnswer 5 = .ok (.aload_n 1, 1) := by decide +kernel
theorem dX7_rightAnswer_6 : decode cX7_rightAnswer 6 = .ok (.getfield 84, 3) := by decide +kernel
theorem dX7_rightAnswer_9 : decode cX7_rightAnswer 9 = .ok (.if_icmp .ge 27, 3) := by decide +kernel
theorem dX7_rightAnswer_12 : decode cX7_rightAnswer 12 = .ok (.iload_n 2, 1) := by decide +kernel
theorem dX7_rightAnswer_13 : decode cX7_rightAnswer 13 = .ok (.aload_n 0, 1) := by decide +kernel
theorem dX7_rightAnswer_14 : decode cX7_rightAnswer 14 = .ok (.getfield 10, 3) := by decide +kernel
theorem dX7_rightAnswer_17 : decode cX7_rightAnswer 17 = .ok (.getfield 112, 3) := by decide +kernel
theorem dX7_rightAnswer_20 : decode cX7_rightAnswer 20 = .ok (.aload_n 1, 1) := by decide +kernel
theorem dX7_rightAnswer_21 : decode cX7_rightAnswer 21 = .ok (.iload_n 3, 1) := by decide +kernel
theorem dX7_rightAnswer_22 : decode cX7_rightAnswer 22 = .ok (.invokevirtual 207, 3) := by decide +kernel
theorem dX7_rightAnswer_25 : decode cX7_rightAnswer 25 = .ok (.invokevirtual 133, 3) := by decide +kernel
theorem dX7_rightAnswer_28 : decode cX7_rightAnswer 28 = .ok (.iadd, 1) := by decide +kernel
theorem dX7_rightAnswer_29 : decode cX7_rightAnswer 29 = .ok (.istore_n 2, 1) := by decide +kernel
theorem dX7_rightAnswer_30 : decode cX7_rightAnswer 30 = .ok (.iinc 3 1, 3) := by decide +kernel
theorem dX7_rightAnswer_33 : decode cX7_rightAnswer 33 = .ok (.goto (-29), 3) := by decide +kernel
theorem dX7_rightAnswer_36 : decode cX7_rightAnswer 36 = .ok (.iload_n 2, 1) := by decide +kernel
theorem dX7_rightAnswer_37 : decode cX7_rightAnswer 37 = .ok (.ireturn, 1) := by decide +kernel
set_option maxHeartbeats 4000000 in
set_option maxRecDepth 100000 in
theorem tX7_rightAnswer_4 (l : Launch) {E : ET} (hE : Aj E) {p : Program} {e : Env} {s : State} {m : MethodId} {args : Array Value} {below : List Frame} {meth : Method} {c : Code} (X : Cx p (rmL 2) s m args c yX7_rightAnswer.cls cX7_rightAnswer 4 E (Aw E) 0 0) (hr : meth.sig.returnType = (some .int)) (hk : meth.locks = false) {r : Int32} (G : GT) (i1 : Nat) (hi1 : i1 < cnt 16) : ∀ (n : Nat) (a2 a3 : Int32), fX7_rightAnswer_4 G i1 n a2 a3 = some r → J p l e (rmL 2) s m args below meth c E (Aw E) s.heap 4 0 0 (MQ below (QI E r G) args s 0 0 (Aw E)) G 4 [(0, .ref (Ad E 20 0)), (1, .ref (Ad E 16 i1)), (2, .int a2), (3, .int a3)] [] := by
  intro n
  induction n with
  | zero =>
    intro a2 a3 h
    simp [fX7_rightAnswer_4] at h
  | succ n ih =>
    intro a2 a3 h
    rw [fX7_rightAnswer_4] at h
    refine j_iload_n (pc := 4) X dX7_rightAnswer_4 rfl 3 rfl ?_
    refine j_aload_n (pc := 5) X dX7_rightAnswer_5 rfl 1 rfl ?_
    refine j_get (pc := 6) (v := .int (G 16 i1 0)) X gf_X7_84 hi1 rfl rfl dX7_rightAnswer_6 ?_
    refine j_icmp_ge (pc := 9) (tgt := 36) X dX7_rightAnswer_9 (by decide) (fun hc => ?_) (fun hc => ?_)
    · rw [if_pos hc] at h
      refine j_iload_n (pc := 36) X dX7_rightAnswer_36 rfl 2 rfl ?_
      exact j_ret (pc := 37) X hr hk (vp_nar_int _) (Option.some.inj h) rfl dX7_rightAnswer_37
    · rw [if_neg hc] at h
      refine j_iload_n (pc := 12) X dX7_rightAnswer_12 rfl 2 rfl ?_
      refine j_aload_n (pc := 13) X dX7_rightAnswer_13 rfl 0 rfl ?_
      refine j_get (pc := 14) (v := .ref (Ad E 11 0)) X gf_X7_10 (by decide) rfl rfl dX7_rightAnswer_14 ?_
      refine j_get (pc := 17) (v := .ref (Ad E 3 0)) X gf_X7_112 (by decide) rfl rfl dX7_rightAnswer_17 ?_
      refine j_aload_n (pc := 20) X dX7_rightAnswer_20 rfl 1 rfl ?_
      refine j_iload_n (pc := 21) X dX7_rightAnswer_21 rfl 3 rfl ?_
      obtain ⟨r1, hc3, h⟩ := bd_s h
      refine j_callI (pc := 22) X (tX3_wordOf l hE G i1 hi1 a3 hc3) muX3_wordOf hi1 q421 rfl rfl (Nat.le_of_ble_eq_true rfl) ⟨Nat.le_of_ble_eq_true rfl, Nat.le_of_ble_eq_true rfl⟩ dX7_rightAnswer_22 ?_
      obtain ⟨r4, hc6, h⟩ := bd_s h
      refine j_callI (pc := 25) X (tX6_ringsOf l hE G 0 (by decide) r1 hc6) muX6_ringsOf (by decide) q393 rfl rfl (Nat.le_of_ble_eq_true rfl) ⟨Nat.le_of_ble_eq_true rfl, Nat.le_of_ble_eq_true rfl⟩ dX7_rightAnswer_25 ?_
      refine j_iadd (pc := 28) X dX7_rightAnswer_28 ?_
      refine j_istore_n (pc := 29) (lv' := [(0, .ref (Ad E 20 0)), (1, .ref (Ad E 16 i1)), (2, .int (a2 + r4)), (3, .int a3)]) X dX7_rightAnswer_29 rfl (by decide) rfl ?_
      refine j_iinc (pc := 30) (q := 3) (v := (a3 + (1 : Int32))) (lv' := [(0, .ref (Ad E 20 0)), (1, .ref (Ad E 16 i1)), (2, .int (a2 + r4)), (3, .int (a3 + (1 : Int32)))]) X dX7_rightAnswer_30 rfl rfl (by decide) rfl ?_
      refine j_goto (pc := 33) (tgt := 4) X dX7_rightAnswer_33 (by decide) ?_
      exact ih (a2 + r4) (a3 + (1 : Int32)) h
set_option maxHeartbeats 4000000 in
set_option maxRecDepth 100000 in
theorem tX7_rightAnswer (l : Launch) {E : ET} (hE : Aj E) (G : GT) (i1 : Nat) (hi1 : i1 < cnt 16) {r : Int32} (h : fX7_rightAnswer G i1 = some r) : CI l E yX7_rightAnswer cX7_rightAnswer 4 (some .int) 2 [.ref (Ad E 20 0), .ref (Ad E 16 i1)] G r G := by
  refine Met_I (lv := [(0, .ref (Ad E 20 0)), (1, .ref (Ad E 16 i1))]) (by decide +kernel) hE (Nat.le_of_ble_eq_true rfl) rfl ?_
  intro p e s m args below meth c X hr hk
  unfold fX7_rightAnswer at h
  refine j_iconst (pc := 0) (v := 0) X dX7_rightAnswer_0 (by decide) ?_
  refine j_istore_n (pc := 1) (lv' := [(0, .ref (Ad E 20 0)), (1, .ref (Ad E 16 i1)), (2, .int (0 : Int32))]) X dX7_rightAnswer_1 rfl (by decide) rfl ?_
  refine j_iconst (pc := 2) (v := 0) X dX7_rightAnswer_2 (by decide) ?_
  refine j_istore_n (pc := 3) (lv' := [(0, .ref (Ad E 20 0)), (1, .ref (Ad E 16 i1)), (2, .int (0 : Int32)), (3, .int (0 : Int32))]) X dX7_rightAnswer_3 rfl (by decide) rfl ?_
  exact tX7_rightAnswer_4 l hE X hr hk G i1 hi1 FU (0 : Int32) (0 : Int32) h
theorem dX7_answerOf_0 : decode cX7_answerOf 0 = .ok (.iconst 0, 1) := by decide +kernel
theorem dX7_answerOf_1 : decode cX7_answerOf 1 = .ok (.istore_n 2, 1) := by decide +kernel
theorem dX7_answerOf_2 : decode cX7_answerOf 2 = .ok (.iconst 0, 1) := by decide +kernel
theorem dX7_answerOf_3 : decode cX7_answerOf 3 = .ok (.istore_n 3, 1) := by decide +kernel
theorem dX7_answerOf_4 : decode cX7_answerOf 4 = .ok (.iload_n 3, 1) := by decide +kernel
theorem dX7_answerOf_5 : decode cX7_answerOf 5 = .ok (.aload_n 0, 1) := by decide +kernel
theorem dX7_answerOf_6 : decode cX7_answerOf 6 = .ok (.getfield 40, 3) := by decide +kernel
theorem dX7_answerOf_9 : decode cX7_answerOf 9 = .ok (.getfield 84, 3) := by decide +kernel
theorem dX7_answerOf_12 : decode cX7_answerOf 12 = .ok (.if_icmp .ge 50, 3) := by decide +kernel
theorem dX7_answerOf_15 : decode cX7_answerOf 15 = .ok (.aload_n 0, 1) := by decide +kernel
theorem dX7_answerOf_16 : decode cX7_answerOf 16 = .ok (.getfield 40, 3) := by decide +kernel
theorem dX7_answerOf_19 : decode cX7_answerOf 19 = .ok (.iload_n 3, 1) := by decide +kernel
theorem dX7_answerOf_20 : decode cX7_answerOf 20 = .ok (.invokevirtual 207, 3) := by decide +kernel
theorem dX7_answerOf_23 : decode cX7_answerOf 23 = .ok (.istore 4, 2) := by decide +kernel
theorem dX7_answerOf_25 : decode cX7_answerOf 25 = .ok (.aload_n 0, 1) := by decide +kernel
theorem dX7_answerOf_26 : decode cX7_answerOf 26 = .ok (.getfield 10, 3) := by decide +kernel
theorem dX7_answerOf_29 : decode cX7_answerOf 29 = .ok (.getfield 153, 3) := by decide +kernel
theorem dX7_answerOf_32 : decode cX7_answerOf 32 = .ok (.iload_n 1, 1) := by decide +kernel
theorem dX7_answerOf_33 : decode cX7_answerOf 33 = .ok (.iload 4, 2) := by decide +kernel
theorem dX7_answerOf_35 : decode cX7_answerOf 35 = .ok (.invokevirtual 247, 3) := by decide +kernel
theorem dX7_answerOf_38 : decode cX7_answerOf 38 = .ok (.ifCond .eq 18, 3) := by decide +kernel
theorem dX7_answerOf_41 : decode cX7_answerOf 41 = .ok (.iload_n 2, 1) := by decide +kernel
theorem dX7_answerOf_42 : decode cX7_answerOf 42 = .ok (.aload_n 0, 1) := by decide +kernel
theorem dX7_answerOf_43 : decode cX7_answerOf 43 = .ok (.getfield 10, 3) := by decide +kernel
theorem dX7_answerOf_46 : decode cX7_answerOf 46 = .ok (.getfield 112, 3) := by decide +kernel
theorem dX7_answerOf_49 : decode cX7_answerOf 49 = .ok (.iload 4, 2) := by decide +kernel
theorem dX7_answerOf_51 : decode cX7_answerOf 51 = .ok (.invokevirtual 133, 3) := by decide +kernel
theorem dX7_answerOf_54 : decode cX7_answerOf 54 = .ok (.iadd, 1) := by decide +kernel
theorem dX7_answerOf_55 : decode cX7_answerOf 55 = .ok (.istore_n 2, 1) := by decide +kernel
theorem dX7_answerOf_56 : decode cX7_answerOf 56 = .ok (.iinc 3 1, 3) := by decide +kernel
theorem dX7_answerOf_59 : decode cX7_answerOf 59 = .ok (.goto (-55), 3) := by decide +kernel
theorem dX7_answerOf_62 : decode cX7_answerOf 62 = .ok (.iload_n 2, 1) := by decide +kernel
theorem dX7_answerOf_63 : decode cX7_answerOf 63 = .ok (.ireturn, 1) := by decide +kernel
set_option maxHeartbeats 4000000 in
set_option maxRecDepth 100000 in
theorem tX7_answerOf_4 (l : Launch) {E : ET} (hE : Aj E) {p : Program} {e : Env} {s : State} {m : MethodId} {args : Array Value} {below : List Frame} {meth : Method} {c : Code} (X : Cx p (rmL 5) s m args c yX7_answerOf.cls cX7_answerOf 5 E (Aw E) 0 0) (hr : meth.sig.returnType = (some .int)) (hk : meth.locks = false) {r : Int32} (G : GT) (a1 : Int32) : ∀ (n : Nat) (a2 a3 : Int32), fX7_answerOf_4 G a1 n a2 a3 = some r → J p l e (rmL 5) s m args below meth c E (Aw E) s.heap 5 0 0 (MQ below (QI E r G) args s 0 0 (Aw E)) G 4 [(0, .ref (Ad E 20 0)), (1, .int a1), (2, .int a2), (3, .int a3)] [] := by
  intro n
  induction n with
  | zero =>
    intro a2 a3 h
    simp [fX7_answerOf_4] at h
  | succ n ih =>
    intro a2 a3 h
    rw [fX7_answerOf_4] at h
    refine j_iload_n (pc := 4) X dX7_answerOf_4 rfl 3 rfl ?_
    refine j_aload_n (pc := 5) X dX7_answerOf_5 rfl 0 rfl ?_
    refine j_get (pc := 6) (v := .ref (Ad E 16 0)) X gf_X7_40 (by decide) rfl rfl dX7_answerOf_6 ?_
    refine j_get (pc := 9) (v := .int (G 16 0 0)) X gf_X7_84 (by decide) rfl rfl dX7_answerOf_9 ?_
    refine j_icmp_ge (pc := 12) (tgt := 62) X dX7_answerOf_12 (by decide) (fun hc => ?_) (fun hc => ?_)
    · rw [if_pos hc] at h
      refine j_iload_n (pc := 62) X dX7_answerOf_62 rfl 2 rfl ?_
      exact j_ret (pc := 63) X hr hk (vp_nar_int _) (Option.some.inj h) rfl dX7_answerOf_63
    · rw [if_neg hc] at h
      refine j_aload_n (pc := 15) X dX7_answerOf_15 rfl 0 rfl ?_
      refine j_get (pc := 16) (v := .ref (Ad E 16 0)) X gf_X7_40 (by decide) rfl rfl dX7_answerOf_16 ?_
      refine j_iload_n (pc := 19) X dX7_answerOf_19 rfl 3 rfl ?_
      obtain ⟨r1, hc3, h⟩ := bd_s h
      refine j_callI (pc := 20) X (tX3_wordOf l hE G 0 (by decide) a3 hc3) muX3_wordOf (by decide) q421 rfl rfl (Nat.le_of_ble_eq_true rfl) ⟨Nat.le_of_ble_eq_true rfl, Nat.le_of_ble_eq_true rfl⟩ dX7_answerOf_20 ?_
      refine j_istore (pc := 23) (lv' := [(0, .ref (Ad E 20 0)), (1, .int a1), (2, .int a2), (3, .int a3), (4, .int r1)]) X dX7_answerOf_23 (by decide) rfl ?_
      refine j_aload_n (pc := 25) X dX7_answerOf_25 rfl 0 rfl ?_
      refine j_get (pc := 26) (v := .ref (Ad E 11 0)) X gf_X7_10 (by decide) rfl rfl dX7_answerOf_26 ?_
      refine j_get (pc := 29) (v := .ref (Ad E 7 0)) X gf_X7_153 (by decide) rfl rfl dX7_answerOf_29 ?_
      refine j_iload_n (pc := 32) X dX7_answerOf_32 rfl 1 rfl ?_
      refine j_iload (pc := 33) X dX7_answerOf_33 4 rfl ?_
      obtain ⟨r4, hc6, h⟩ := bd_s h
      refine j_callI (pc := 35) X (tX1_knows l hE G 0 (by decide) a1 r1 hc6) muX1_knows (by decide) q426 rfl rfl (Nat.le_of_ble_eq_true rfl) ⟨Nat.le_of_ble_eq_true rfl, Nat.le_of_ble_eq_true rfl⟩ dX7_answerOf_35 ?_
      refine j_if_eq (pc := 38) (tgt := 56) X dX7_answerOf_38 (by decide) (fun hc => ?_) (fun hc => ?_)
      · rw [if_pos hc] at h
        refine j_iinc (pc := 56) (q := 3) (v := (a3 + (1 : Int32))) (lv' := [(0, .ref (Ad E 20 0)), (1, .int a1), (2, .int a2), (3, .int (a3 + (1 : Int32))), (4, .int r1)]) X dX7_answerOf_56 rfl rfl (by decide) rfl ?_
        refine j_goto (pc := 59) (tgt := 4) X dX7_answerOf_59 (by decide) ?_
        refine j_lv (lv' := [(0, .ref (Ad E 20 0)), (1, .int a1), (2, .int a2), (3, .int (a3 + (1 : Int32)))]) [0, 1, 2, 3] rfl ?_
        exact ih a2 (a3 + (1 : Int32)) h
      · rw [if_neg hc] at h
        refine j_iload_n (pc := 41) X dX7_answerOf_41 rfl 2 rfl ?_
        refine j_aload_n (pc := 42) X dX7_answerOf_42 rfl 0 rfl ?_
        refine j_get (pc := 43) (v := .ref (Ad E 11 0)) X gf_X7_10 (by decide) rfl rfl dX7_answerOf_43 ?_
        refine j_get (pc := 46) (v := .ref (Ad E 3 0)) X gf_X7_112 (by decide) rfl rfl dX7_answerOf_46 ?_
        refine j_iload (pc := 49) X dX7_answerOf_49 4 rfl ?_
        obtain ⟨r7, hc9, h⟩ := bd_s h
        refine j_callI (pc := 51) X (tX6_ringsOf l hE G 0 (by decide) r1 hc9) muX6_ringsOf (by decide) q393 rfl rfl (Nat.le_of_ble_eq_true rfl) ⟨Nat.le_of_ble_eq_true rfl, Nat.le_of_ble_eq_true rfl⟩ dX7_answerOf_51 ?_
        refine j_iadd (pc := 54) X dX7_answerOf_54 ?_
        refine j_istore_n (pc := 55) (lv' := [(0, .ref (Ad E 20 0)), (1, .int a1), (2, .int (a2 + r7)), (3, .int a3), (4, .int r1)]) X dX7_answerOf_55 rfl (by decide) rfl ?_
        refine j_iinc (pc := 56) (q := 3) (v := (a3 + (1 : Int32))) (lv' := [(0, .ref (Ad E 20 0)), (1, .int a1), (2, .int (a2 + r7)), (3, .int (a3 + (1 : Int32))), (4, .int r1)]) X dX7_answerOf_56 rfl rfl (by decide) rfl ?_
        refine j_goto (pc := 59) (tgt := 4) X dX7_answerOf_59 (by decide) ?_
        refine j_lv (lv' := [(0, .ref (Ad E 20 0)), (1, .int a1), (2, .int (a2 + r7)), (3, .int (a3 + (1 : Int32)))]) [0, 1, 2, 3] rfl ?_
        exact ih (a2 + r7) (a3 + (1 : Int32)) h
set_option maxHeartbeats 4000000 in
set_option maxRecDepth 100000 in
theorem tX7_answerOf (l : Launch) {E : ET} (hE : Aj E) (G : GT) (a1 : Int32) {r : Int32} (h : fX7_answerOf G a1 = some r) : CI l E yX7_answerOf cX7_answerOf 5 (some .int) 5 [.ref (Ad E 20 0), .int a1] G r G := by
  refine Met_I (lv := [(0, .ref (Ad E 20 0)), (1, .int a1)]) (by decide +kernel) hE (Nat.le_of_ble_eq_true rfl) rfl ?_
  intro p e s m args below meth c X hr hk
  unfold fX7_answerOf at h
  refine j_iconst (pc := 0) (v := 0) X dX7_answerOf_0 (by decide) ?_
  refine j_istore_n (pc := 1) (lv' := [(0, .ref (Ad E 20 0)), (1, .int a1), (2, .int (0 : Int32))]) X dX7_answerOf_1 rfl (by decide) rfl ?_
  refine j_iconst (pc := 2) (v := 0) X dX7_answerOf_2 (by decide) ?_
  refine j_istore_n (pc := 3) (lv' := [(0, .ref (Ad E 20 0)), (1, .int a1), (2, .int (0 : Int32)), (3, .int (0 : Int32))]) X dX7_answerOf_3 rfl (by decide) rfl ?_
  exact tX7_answerOf_4 l hE X hr hk G a1 FU (0 : Int32) (0 : Int32) h
theorem dX7_hearRope_0 : decode cX7_hearRope 0 = .ok (.iconst 0, 1) := by decide +kernel
theorem dX7_hearRope_1 : decode cX7_hearRope 1 = .ok (.istore_n 2, 1) := by decide +kernel
theorem dX7_hearRope_2 : decode cX7_hearRope 2 = .ok (.iload_n 2, 1) := by decide +kernel
theorem dX7_hearRope_3 : decode cX7_hearRope 3 = .ok (.aload_n 0, 1) := by decide +kernel
theorem dX7_hearRope_4 : decode cX7_hearRope 4 = .ok (.getfield 40, 3) := by decide +kernel
theorem dX7_hearRope_7 : decode cX7_hearRope 7 = .ok (.getfield 84, 3) := by decide +kernel
theorem dX7_hearRope_10 : decode cX7_hearRope 10 = .ok (.if_icmp .ge 29, 3) := by decide +kernel
theorem dX7_hearRope_13 : decode cX7_hearRope 13 = .ok (.aload_n 0, 1) := by decide +kernel
theorem dX7_hearRope_14 : decode cX7_hearRope 14 = .ok (.getfield 10, 3) := by decide +kernel
theorem dX7_hearRope_17 : decode cX7_hearRope 17 = .ok (.getfield 153, 3) := by decide +kernel
theorem dX7_hearRope_20 : decode cX7_hearRope 20 = .ok (.iload_n 1, 1) := by decide +kernel
theorem dX7_hearRope_21 : decode cX7_hearRope 21 = .ok (.aload_n 0, 1) := by decide +kernel
theorem dX7_hearRope_22 : decode cX7_hearRope 22 = .ok (.getfield 40, 3) := by decide +kernel
theorem dX7_hearRope_25 : decode cX7_hearRope 25 = .ok (.iload_n 2, 1) := by decide +kernel
theorem dX7_hearRope_26 : decode cX7_hearRope 26 = .ok (.invokevirtual 207, 3) := by decide +kernel
theorem dX7_hearRope_29 : decode cX7_hearRope 29 = .ok (.iconst 1, 1) := by decide +kernel
theorem dX7_hearRope_30 : decode cX7_hearRope 30 = .ok (.invokevirtual 174, 3) := by decide +kernel
theorem dX7_hearRope_33 : decode cX7_hearRope 33 = .ok (.iinc 2 1, 3) := by decide +kernel
theorem dX7_hearRope_36 : decode cX7_hearRope 36 = .ok (.goto (-34), 3) := by decide +kernel
theorem dX7_hearRope_39 : decode cX7_hearRope 39 = .ok (.return_, 1) := by decide +kernel
set_option maxHeartbeats 4000000 in
set_option maxRecDepth 100000 in
theorem tX7_hearRope_2 (l : Launch) {E : ET} (hE : Aj E) {p : Program} {e : Env} {s : State} {m : MethodId} {args : Array Value} {below : List Frame} {meth : Method} {c : Code} (X : Cx p (rmL 4) s m args c yX7_hearRope.cls cX7_hearRope 3 E (Aw E) 0 0) (hr : meth.sig.returnType = none) (hk : meth.locks = false) {G' : GT} (a1 : Int32) : ∀ (n : Nat) (G : GT) (a2 : Int32), fX7_hearRope_2 a1 n G a2 = some G' → J p l e (rmL 4) s m args below meth c E (Aw E) s.heap 3 0 0 (MQ below (QV E G') args s 0 0 (Aw E)) G 2 [(0, .ref (Ad E 20 0)), (1, .int a1), (2, .int a2)] [] := by
  intro n
  induction n with
  | zero =>
    intro G a2 h
    simp [fX7_hearRope_2] at h
  | succ n ih =>
    intro G a2 h
    rw [fX7_hearRope_2] at h
    refine j_iload_n (pc := 2) X dX7_hearRope_2 rfl 2 rfl ?_
    refine j_aload_n (pc := 3) X dX7_hearRope_3 rfl 0 rfl ?_
    refine j_get (pc := 4) (v := .ref (Ad E 16 0)) X gf_X7_40 (by decide) rfl rfl dX7_hearRope_4 ?_
    refine j_get (pc := 7) (v := .int (G 16 0 0)) X gf_X7_84 (by decide) rfl rfl dX7_hearRope_7 ?_
    refine j_icmp_ge (pc := 10) (tgt := 39) X dX7_hearRope_10 (by decide) (fun hc => ?_) (fun hc => ?_)
    · rw [if_pos hc] at h
      exact j_vret (pc := 39) X hr hk (Option.some.inj h) dX7_hearRope_39
    · rw [if_neg hc] at h
      refine j_aload_n (pc := 13) X dX7_hearRope_13 rfl 0 rfl ?_
      refine j_get (pc := 14) (v := .ref (Ad E 11 0)) X gf_X7_10 (by decide) rfl rfl dX7_hearRope_14 ?_
      refine j_get (pc := 17) (v := .ref (Ad E 7 0)) X gf_X7_153 (by decide) rfl rfl dX7_hearRope_17 ?_
      refine j_iload_n (pc := 20) X dX7_hearRope_20 rfl 1 rfl ?_
      refine j_aload_n (pc := 21) X dX7_hearRope_21 rfl 0 rfl ?_
      refine j_get (pc := 22) (v := .ref (Ad E 16 0)) X gf_X7_40 (by decide) rfl rfl dX7_hearRope_22 ?_
      refine j_iload_n (pc := 25) X dX7_hearRope_25 rfl 2 rfl ?_
      obtain ⟨r1, hc3, h⟩ := bd_s h
      refine j_callI (pc := 26) X (tX3_wordOf l hE G 0 (by decide) a2 hc3) muX3_wordOf (by decide) q421 rfl rfl (Nat.le_of_ble_eq_true rfl) ⟨Nat.le_of_ble_eq_true rfl, Nat.le_of_ble_eq_true rfl⟩ dX7_hearRope_26 ?_
      refine j_iconst (pc := 29) (v := 1) X dX7_hearRope_29 (by decide) ?_
      obtain ⟨G5, hc6, h⟩ := bd_s h
      refine j_callV (pc := 30) X (tX1_hear l hE G 0 (by decide) a1 r1 (1 : Int32) hc6) muX1_hear (by decide) q449 rfl rfl (Nat.le_of_ble_eq_true rfl) ⟨Nat.le_of_ble_eq_true rfl, Nat.le_of_ble_eq_true rfl⟩ dX7_hearRope_30 ?_
      refine j_iinc (pc := 33) (q := 2) (v := (a2 + (1 : Int32))) (lv' := [(0, .ref (Ad E 20 0)), (1, .int a1), (2, .int (a2 + (1 : Int32)))]) X dX7_hearRope_33 rfl rfl (by decide) rfl ?_
      refine j_goto (pc := 36) (tgt := 2) X dX7_hearRope_36 (by decide) ?_
      exact ih G5 (a2 + (1 : Int32)) h
set_option maxHeartbeats 4000000 in
set_option maxRecDepth 100000 in
theorem tX7_hearRope (l : Launch) {E : ET} (hE : Aj E) (G : GT) (a1 : Int32) {G' : GT} (h : fX7_hearRope G a1 = some G') : CV l E yX7_hearRope cX7_hearRope 3 none 4 [.ref (Ad E 20 0), .int a1] G G' := by
  refine Met_V (lv := [(0, .ref (Ad E 20 0)), (1, .int a1)]) (by decide +kernel) hE (Nat.le_of_ble_eq_true rfl) rfl ?_
  intro p e s m args below meth c X hr hk
  unfold fX7_hearRope at h
  refine j_iconst (pc := 0) (v := 0) X dX7_hearRope_0 (by decide) ?_
  refine j_istore_n (pc := 1) (lv' := [(0, .ref (Ad E 20 0)), (1, .int a1), (2, .int (0 : Int32))]) X dX7_hearRope_1 rfl (by decide) rfl ?_
  exact tX7_hearRope_2 l hE X hr hk a1 FU G (0 : Int32) h
theorem dX7_ring_0 : decode cX7_ring 0 = .ok (.aload_n 0, 1) := by decide +kernel
theorem dX7_ring_1 : decode cX7_ring 1 = .ok (.invokevirtual 80, 3) := by decide +kernel
theorem dX7_ring_4 : decode cX7_ring 4 = .ok (.pop, 1) := by decide +kernel
theorem dX7_ring_5 : decode cX7_ring 5 = .ok (.aload_n 0, 1) := by decide +kernel
theorem dX7_ring_6 : decode cX7_ring 6 = .ok (.getfield 40, 3) := by decide +kernel
theorem dX7_ring_9 : decode cX7_ring 9 = .ok (.invokevirtual 140, 3) := by decide +kernel
theorem dX7_ring_12 : decode cX7_ring 12 = .ok (.ifCond .ne 6, 3) := by decide +kernel
theorem dX7_ring_15 : decode cX7_ring 15 = .ok (.bipush (-5), 2) := by decide +kernel
theorem dX7_ring_17 : decode cX7_ring 17 = .ok (.ireturn, 1) := by decide +kernel
theorem dX7_ring_18 : decode cX7_ring 18 = .ok (.aload_n 0, 1) := by decide +kernel
theorem dX7_ring_19 : decode cX7_ring 19 = .ok (.getfield 26, 3) := by decide +kernel
theorem dX7_ring_22 : decode cX7_ring 22 = .ok (.aload_n 0, 1) := by decide +kernel
theorem dX7_ring_23 : decode cX7_ring 23 = .ok (.getfield 10, 3) := by decide +kernel
theorem dX7_ring_26 : decode cX7_ring 26 = .ok (.invokevirtual 72, 3) := by decide +kernel
theorem dX7_ring_29 : decode cX7_ring 29 = .ok (.aload_n 0, 1) := by decide +kernel
theorem dX7_ring_30 : decode cX7_ring 30 = .ok (.getfield 10, 3) := by decide +kernel
theorem dX7_ring_33 : decode cX7_ring 33 = .ok (.dup, 1) := by decide +kernel
theorem dX7_ring_34 : decode cX7_ring 34 = .ok (.getfield 143, 3) := by decide +kernel
theorem dX7_ring_37 : decode cX7_ring 37 = .ok (.iconst 1, 1) := by decide +kernel
theorem dX7_ring_38 : decode cX7_ring 38 = .ok (.iadd, 1) := by decide +kernel
theorem dX7_ring_39 : decode cX7_ring 39 = .ok (.putfield 143, 3) := by decide +kernel
theorem dX7_ring_42 : decode cX7_ring 42 = .ok (.aload_n 0, 1) := by decide +kernel
theorem dX7_ring_43 : decode cX7_ring 43 = .ok (.aload_n 0, 1) := by decide +kernel
theorem dX7_ring_44 : decode cX7_ring 44 = .ok (.getfield 40, 3) := by decide +kernel
theorem dX7_ring_47 : decode cX7_ring 47 = .ok (.invokevirtual 146, 3) := by decide +kernel
theorem dX7_ring_50 : decode cX7_ring 50 = .ok (.istore_n 1, 1) := by decide +kernel
theorem dX7_ring_51 : decode cX7_ring 51 = .ok (.iconst 0, 1) := by decide +kernel
theorem dX7_ring_52 : decode cX7_ring 52 = .ok (.istore_n 2, 1) := by decide +kernel
theorem dX7_ring_53 : decode cX7_ring 53 = .ok (.iconst 0, 1) := by decide +kernel
theorem dX7_ring_54 : decode cX7_ring 54 = .ok (.istore_n 3, 1) := by decide +kernel
theorem dX7_ring_55 : decode cX7_ring 55 = .ok (.iload_n 3, 1) := by decide +kernel
theorem dX7_ring_56 : decode cX7_ring 56 = .ok (.bipush 6, 2) := by decide +kernel
theorem dX7_ring_58 : decode cX7_ring 58 = .ok (.if_icmp .ge 51, 3) := by decide +kernel
theorem dX7_ring_61 : decode cX7_ring 61 = .ok (.aload_n 0, 1) := by decide +kernel
theorem dX7_ring_62 : decode cX7_ring 62 = .ok (.iload_n 3, 1) := by decide +kernel
theorem dX7_ring_63 : decode cX7_ring 63 = .ok (.invokevirtual 150, 3) := by decide +kernel
theorem dX7_ring_66 : decode cX7_ring 66 = .ok (.iload_n 1, 1) := by decide +kernel
theorem dX7_ring_67 : decode cX7_ring 67 = .ok (.if_icmp .ne 7, 3) := by decide +kernel
theorem dX7_ring_70 : decode cX7_ring 70 = .ok (.iconst 1, 1) := by decide +kernel
theorem dX7_ring_71 : decode cX7_ring 71 = .ok (.goto 4, 3) := by decide +kernel
theorem dX7_ring_74 : decode cX7_ring 74 = .ok (.iconst 0, 1) := by decide +kernel
theorem dX7_ring_75 : decode cX7_ring 75 = .ok (.istore 4, 2) := by decide +kernel
theorem dX7_ring_77 : decode cX7_ring 77 = .ok (.iload 4, 2) := by decide +kernel
theorem dX7_ring_79 : decode cX7_ring 79 = .ok (.ifCond .eq 6, 3) := by decide +kernel
theorem dX7_ring_82 : decode cX7_ring 82 = .ok (.iinc 2 1, 3) := by decide +kernel
theorem dX7_ring_85 : decode cX7_ring 85 = .ok (.aload_n 0, 1) := by decide +kernel
theorem dX7_ring_86 : decode cX7_ring 86 = .ok (.getfield 10, 3) := by decide +kernel
theorem dX7_ring_89 : decode cX7_ring 89 = .ok (.getfield 153, 3) := by decide +kernel
theorem dX7_ring_92 : decode cX7_ring 92 = .ok (.iload_n 3, 1) := by decide +kernel
theorem dX7_ring_93 : decode cX7_ring 93 = .ok (.iload 4, 2) := by decide +kernel
theorem dX7_ring_95 : decode cX7_ring 95 = .ok (.invokevirtual 157, 3) := by decide +kernel
theorem dX7_ring_98 : decode cX7_ring 98 = .ok (.aload_n 0, 1) := by decide +kernel
theorem dX7_ring_99 : decode cX7_ring 99 = .ok (.iload_n 3, 1) := by decide +kernel
theorem dX7_ring_100 : decode cX7_ring 100 = .ok (.invokevirtual 163, 3) := by decide +kernel
theorem dX7_ring_103 : decode cX7_ring 103 = .ok (.iinc 3 1, 3) := by decide +kernel
theorem dX7_ring_106 : decode cX7_ring 106 = .ok (.goto (-51), 3) := by decide +kernel
theorem dX7_ring_109 : decode cX7_ring 109 = .ok (.iload_n 2, 1) := by decide +kernel
theorem dX7_ring_110 : decode cX7_ring 110 = .ok (.ireturn, 1) := by decide +kernel
set_option maxHeartbeats 4000000 in
set_option maxRecDepth 100000 in
theorem tX7_ring_85 (l : Launch) {E : ET} (hE : Aj E) {p : Program} {e : Env} {s : State} {m : MethodId} {args : Array Value} {below : List Frame} {meth : Method} {c : Code} (X : Cx p (rmL 6) s m args c yX7_ring.cls cX7_ring 5 E (Aw E) 0 0) (hr : meth.sig.returnType = (some .int)) (hk : meth.locks = false) {r : Int32} {G' : GT} (G : GT) (a1 : Int32) (a2 : Int32) (a3 : Int32) (a4 : Int32) (k55 : GT → Int32 → Int32 → Option (Int32 × GT)) (hk55 : ∀ (G : GT) (a2 a3 : Int32), k55 G a2 a3 = some (r, G') → J p l e (rmL 6) s m args below meth c E (Aw E) s.heap 5 0 0 (MQ below (QI E r G') args s 0 0 (Aw E)) G 55 [(0, .ref (Ad E 20 0)), (1, .int a1), (2, .int a2), (3, .int a3)] []) (h : fX7_ring_85 G a1 a2 a3 a4 k55 = some (r, G')) : J p l e (rmL 6) s m args below meth c E (Aw E) s.heap 5 0 0 (MQ below (QI E r G') args s 0 0 (Aw E)) G 85 [(0, .ref (Ad E 20 0)), (1, .int a1), (2, .int a2), (3, .int a3), (4, .int a4)] [] := by
  unfold fX7_ring_85 at h
  refine j_aload_n (pc := 85) X dX7_ring_85 rfl 0 rfl ?_
  refine j_get (pc := 86) (v := .ref (Ad E 11 0)) X gf_X7_10 (by decide) rfl rfl dX7_ring_86 ?_
  refine j_get (pc := 89) (v := .ref (Ad E 7 0)) X gf_X7_153 (by decide) rfl rfl dX7_ring_89 ?_
  refine j_iload_n (pc := 92) X dX7_ring_92 rfl 3 rfl ?_
  refine j_iload (pc := 93) X dX7_ring_93 4 rfl ?_
  obtain ⟨G2, hc3, h⟩ := bd_s h
  refine j_callV (pc := 95) X (tX1_account l hE G 0 (by decide) a3 a4 hc3) muX1_account (by decide) q441 rfl rfl (Nat.le_of_ble_eq_true rfl) ⟨Nat.le_of_ble_eq_true rfl, Nat.le_of_ble_eq_true rfl⟩ dX7_ring_95 ?_
  refine j_aload_n (pc := 98) X dX7_ring_98 rfl 0 rfl ?_
  refine j_iload_n (pc := 99) X dX7_ring_99 rfl 3 rfl ?_
  obtain ⟨G5, hc6, h⟩ := bd_s h
  refine j_callV (pc := 100) X (tX7_hearRope l hE G2 a3 hc6) muX7_hearRope (by decide) q445 rfl rfl (Nat.le_of_ble_eq_true rfl) ⟨Nat.le_of_ble_eq_true rfl, Nat.le_of_ble_eq_true rfl⟩ dX7_ring_100 ?_
  refine j_iinc (pc := 103) (q := 3) (v := (a3 + (1 : Int32))) (lv' := [(0, .ref (Ad E 20 0)), (1, .int a1), (2, .int a2), (3, .int (a3 + (1 : Int32))), (4, .int a4)]) X dX7_ring_103 rfl rfl (by decide) rfl ?_
  refine j_goto (pc := 106) (tgt := 55) X dX7_ring_106 (by decide) ?_
  refine j_lv (lv' := [(0, .ref (Ad E 20 0)), (1, .int a1), (2, .int a2), (3, .int (a3 + (1 : Int32)))]) [0, 1, 2, 3] rfl ?_
  exact hk55 G5 a2 (a3 + (1 : Int32)) h
set_option maxHeartbeats 4000000 in
set_option maxRecDepth 100000 in
theorem tX7_ring_75 (l : Launch) {E : ET} (hE : Aj E) {p : Program} {e : Env} {s : State} {m : MethodId} {args : Array Value} {below : List Frame} {meth : Method} {c : Code} (X : Cx p (rmL 6) s m args c yX7_ring.cls cX7_ring 5 E (Aw E) 0 0) (hr : meth.sig.returnType = (some .int)) (hk : meth.locks = false) {r : Int32} {G' : GT} (G : GT) (a1 : Int32) (a2 : Int32) (a3 : Int32) (s0 : Int32) (k55 : GT → Int32 → Int32 → Option (Int32 × GT)) (hk55 : ∀ (G : GT) (a2 a3 : Int32), k55 G a2 a3 = some (r, G') → J p l e (rmL 6) s m args below meth c E (Aw E) s.heap 5 0 0 (MQ below (QI E r G') args s 0 0 (Aw E)) G 55 [(0, .ref (Ad E 20 0)), (1, .int a1), (2, .int a2), (3, .int a3)] []) (h : fX7_ring_75 G a1 a2 a3 s0 k55 = some (r, G')) : J p l e (rmL 6) s m args below meth c E (Aw E) s.heap 5 0 0 (MQ below (QI E r G') args s 0 0 (Aw E)) G 75 [(0, .ref (Ad E 20 0)), (1, .int a1), (2, .int a2), (3, .int a3)] [.int s0] := by
  unfold fX7_ring_75 at h
  refine j_istore (pc := 75) (lv' := [(0, .ref (Ad E 20 0)), (1, .int a1), (2, .int a2), (3, .int a3), (4, .int s0)]) X dX7_ring_75 (by decide) rfl ?_
  refine j_iload (pc := 77) X dX7_ring_77 4 rfl ?_
  refine j_if_eq (pc := 79) (tgt := 85) X dX7_ring_79 (by decide) (fun hc => ?_) (fun hc => ?_)
  · rw [if_pos hc] at h
    exact tX7_ring_85 l hE X hr hk G a1 a2 a3 s0 k55 hk55 h
  · rw [if_neg hc] at h
    refine j_iinc (pc := 82) (q := 2) (v := (a2 + (1 : Int32))) (lv' := [(0, .ref (Ad E 20 0)), (1, .int a1), (2, .int (a2 + (1 : Int32))), (3, .int a3), (4, .int s0)]) X dX7_ring_82 rfl rfl (by decide) rfl ?_
    exact tX7_ring_85 l hE X hr hk G a1 (a2 + (1 : Int32)) a3 s0 k55 hk55 h
set_option maxHeartbeats 4000000 in
set_option maxRecDepth 100000 in
theorem tX7_ring_55 (l : Launch) {E : ET} (hE : Aj E) {p : Program} {e : Env} {s : State} {m : MethodId} {args : Array Value} {below : List Frame} {meth : Method} {c : Code} (X : Cx p (rmL 6) s m args c yX7_ring.cls cX7_ring 5 E (Aw E) 0 0) (hr : meth.sig.returnType = (some .int)) (hk : meth.locks = false) {r : Int32} {G' : GT} (a1 : Int32) : ∀ (n : Nat) (G : GT) (a2 a3 : Int32), fX7_ring_55 a1 n G a2 a3 = some (r, G') → J p l e (rmL 6) s m args below meth c E (Aw E) s.heap 5 0 0 (MQ below (QI E r G') args s 0 0 (Aw E)) G 55 [(0, .ref (Ad E 20 0)), (1, .int a1), (2, .int a2), (3, .int a3)] [] := by
  intro n
  induction n with
  | zero =>
    intro G a2 a3 h
    simp [fX7_ring_55] at h
  | succ n ih =>
    intro G a2 a3 h
    rw [fX7_ring_55] at h
    refine j_iload_n (pc := 55) X dX7_ring_55 rfl 3 rfl ?_
    refine j_bipush (pc := 56) (v := 6) X dX7_ring_56 (by decide) ?_
    refine j_icmp_ge (pc := 58) (tgt := 109) X dX7_ring_58 (by decide) (fun hc => ?_) (fun hc => ?_)
    · rw [if_pos hc] at h
      refine j_iload_n (pc := 109) X dX7_ring_109 rfl 2 rfl ?_
      exact j_ret (pc := 110) X hr hk (vp_nar_int _) (pr_s h).1 (pr_s h).2 dX7_ring_110
    · rw [if_neg hc] at h
      refine j_aload_n (pc := 61) X dX7_ring_61 rfl 0 rfl ?_
      refine j_iload_n (pc := 62) X dX7_ring_62 rfl 3 rfl ?_
      obtain ⟨r1, hc3, h⟩ := bd_s h
      refine j_callI (pc := 63) X (tX7_answerOf l hE G a3 hc3) muX7_answerOf (by decide) q422 rfl rfl (Nat.le_of_ble_eq_true rfl) ⟨Nat.le_of_ble_eq_true rfl, Nat.le_of_ble_eq_true rfl⟩ dX7_ring_63 ?_
      refine j_iload_n (pc := 66) X dX7_ring_66 rfl 1 rfl ?_
      refine j_icmp_ne (pc := 67) (tgt := 74) X dX7_ring_67 (by decide) (fun hc => ?_) (fun hc => ?_)
      · rw [if_neg hc] at h
        refine j_iconst (pc := 74) (v := 0) X dX7_ring_74 (by decide) ?_
        exact tX7_ring_75 l hE X hr hk G a1 a2 a3 (0 : Int32) (fX7_ring_55 a1 n) ih h
      · rw [if_pos hc] at h
        refine j_iconst (pc := 70) (v := 1) X dX7_ring_70 (by decide) ?_
        refine j_goto (pc := 71) (tgt := 75) X dX7_ring_71 (by decide) ?_
        exact tX7_ring_75 l hE X hr hk G a1 a2 a3 (1 : Int32) (fX7_ring_55 a1 n) ih h
set_option maxHeartbeats 4000000 in
set_option maxRecDepth 100000 in
theorem tX7_ring (l : Launch) {E : ET} (hE : Aj E) (G : GT) {r : Int32} {G' : GT} (h : fX7_ring G = some (r, G')) : CI l E yX7_ring cX7_ring 5 (some .int) 6 [.ref (Ad E 20 0)] G r G' := by
  refine Met_I (lv := [(0, .ref (Ad E 20 0))]) (by decide +kernel) hE (Nat.le_of_ble_eq_true rfl) rfl ?_
  intro p e s m args below meth c X hr hk
  unfold fX7_ring at h
  refine j_aload_n (pc := 0) X dX7_ring_0 rfl 0 rfl ?_
  obtain ⟨G2, hc3, h⟩ := bd_s h
  refine j_callR (pc := 1) X (tX7_readRuns l hE G  hc3) muX7_readRuns (by decide) q280 rfl rfl (Nat.le_of_ble_eq_true rfl) ⟨Nat.le_of_ble_eq_true rfl, Nat.le_of_ble_eq_true rfl⟩ dX7_ring_1 ?_
  refine j_pop (pc := 4) X dX7_ring_4 rfl ?_
  refine j_aload_n (pc := 5) X dX7_ring_5 rfl 0 rfl ?_
  refine j_get (pc := 6) (v := .ref (Ad E 16 0)) X gf_X7_40 (by decide) rfl rfl dX7_ring_6 ?_
  obtain ⟨r4, hc6, h⟩ := bd_s h
  refine j_callI (pc := 9) X (tX3_wordRuns l hE G2 0 (by decide) hc6) muX3_wordRuns (by decide) q405 rfl rfl (Nat.le_of_ble_eq_true rfl) ⟨Nat.le_of_ble_eq_true rfl, Nat.le_of_ble_eq_true rfl⟩ dX7_ring_9 ?_
  refine j_if_ne (pc := 12) (tgt := 18) X dX7_ring_12 (by decide) (fun hc => ?_) (fun hc => ?_)
  · rw [if_neg hc] at h
    refine j_aload_n (pc := 18) X dX7_ring_18 rfl 0 rfl ?_
    refine j_get (pc := 19) (v := .ref (Ad E 12 0)) X gf_X7_26 (by decide) rfl rfl dX7_ring_19 ?_
    refine j_aload_n (pc := 22) X dX7_ring_22 rfl 0 rfl ?_
    refine j_get (pc := 23) (v := .ref (Ad E 11 0)) X gf_X7_10 (by decide) rfl rfl dX7_ring_23 ?_
    obtain ⟨G8, hc9, h⟩ := bd_s h
    refine j_callV (pc := 26) X (tX0_remember l hE G2 0 (by decide) hc9) muX0_remember (by decide) q252 rfl rfl (Nat.le_of_ble_eq_true rfl) ⟨Nat.le_of_ble_eq_true rfl, Nat.le_of_ble_eq_true rfl⟩ dX7_ring_26 ?_
    refine j_aload_n (pc := 29) X dX7_ring_29 rfl 0 rfl ?_
    refine j_get (pc := 30) (v := .ref (Ad E 11 0)) X gf_X7_10 (by decide) rfl rfl dX7_ring_30 ?_
    refine j_dup (pc := 33) X dX7_ring_33 rfl ?_
    refine j_get (pc := 34) (v := .int (G8 11 0 5)) X gf_X7_143 (by decide) rfl rfl dX7_ring_34 ?_
    refine j_iconst (pc := 37) (v := 1) X dX7_ring_37 (by decide) ?_
    refine j_iadd (pc := 38) X dX7_ring_38 ?_
    obtain ⟨G10, hG10, h⟩ := st3_s h
    refine j_put (pc := 39) X hG10 gf_X7_143 tyX4 tyX4_ok nmX4 (by decide) rfl rfl (Nat.le_of_ble_eq_true rfl) rfl rfl rfl dX7_ring_39 ?_
    refine j_aload_n (pc := 42) X dX7_ring_42 rfl 0 rfl ?_
    refine j_aload_n (pc := 43) X dX7_ring_43 rfl 0 rfl ?_
    refine j_get (pc := 44) (v := .ref (Ad E 16 0)) X gf_X7_40 (by decide) rfl rfl dX7_ring_44 ?_
    obtain ⟨r11, hc13, h⟩ := bd_s h
    refine j_callI (pc := 47) X (tX7_rightAnswer l hE G10 0 (by decide) hc13) muX7_rightAnswer (by decide) q417 rfl rfl (Nat.le_of_ble_eq_true rfl) ⟨Nat.le_of_ble_eq_true rfl, Nat.le_of_ble_eq_true rfl⟩ dX7_ring_47 ?_
    refine j_istore_n (pc := 50) (lv' := [(0, .ref (Ad E 20 0)), (1, .int r11)]) X dX7_ring_50 rfl (by decide) rfl ?_
    refine j_iconst (pc := 51) (v := 0) X dX7_ring_51 (by decide) ?_
    refine j_istore_n (pc := 52) (lv' := [(0, .ref (Ad E 20 0)), (1, .int r11), (2, .int (0 : Int32))]) X dX7_ring_52 rfl (by decide) rfl ?_
    refine j_iconst (pc := 53) (v := 0) X dX7_ring_53 (by decide) ?_
    refine j_istore_n (pc := 54) (lv' := [(0, .ref (Ad E 20 0)), (1, .int r11), (2, .int (0 : Int32)), (3, .int (0 : Int32))]) X dX7_ring_54 rfl (by decide) rfl ?_
    exact tX7_ring_55 l hE X hr hk r11 FU G10 (0 : Int32) (0 : Int32) h
  · rw [if_pos hc] at h
    refine j_bipush (pc := 15) (v := (-5)) X dX7_ring_15 (by decide) ?_
    exact j_ret (pc := 17) X hr hk (vp_nar_int _) (pr_s h).1 (pr_s h).2 dX7_ring_17
theorem dX7_forget_0 : decode cX7_forget 0 = .ok (.iload_n 1, 1) := by decide +kernel
theorem dX7_forget_1 : decode cX7_forget 1 = .ok (.invokestatic 167, 3) := by decide +kernel
theorem dX7_forget_4 : decode cX7_forget 4 = .ok (.ifCond .eq 17, 3) := by decide +kernel
theorem dX7_forget_7 : decode cX7_forget 7 = .ok (.aload_n 0, 1) := by decide +kernel
theorem dX7_forget_8 : decode cX7_forget 8 = .ok (.getfield 10, 3) := by decide +kernel
theorem dX7_forget_11 : decode cX7_forget 11 = .ok (.getfield 112, 3) := by decide +kernel
theorem dX7_forget_14 : decode cX7_forget 14 = .ok (.iload_n 2, 1) := by decide +kernel
theorem dX7_forget_15 : decode cX7_forget 15 = .ok (.invokevirtual 129, 3) := by decide +kernel
theorem dX7_forget_18 : decode cX7_forget 18 = .ok (.ifCond .ne 5, 3) := by decide +kernel
theorem dX7_forget_21 : decode cX7_forget 21 = .ok (.iconst (-1), 1) := by decide +kernel
theorem dX7_forget_22 : decode cX7_forget 22 = .ok (.ireturn, 1) := by decide +kernel
theorem dX7_forget_23 : decode cX7_forget 23 = .ok (.aload_n 0, 1) := by decide +kernel
theorem dX7_forget_24 : decode cX7_forget 24 = .ok (.getfield 10, 3) := by decide +kernel
theorem dX7_forget_27 : decode cX7_forget 27 = .ok (.getfield 153, 3) := by decide +kernel
theorem dX7_forget_30 : decode cX7_forget 30 = .ok (.iload_n 1, 1) := by decide +kernel
theorem dX7_forget_31 : decode cX7_forget 31 = .ok (.iload_n 2, 1) := by decide +kernel
theorem dX7_forget_32 : decode cX7_forget 32 = .ok (.invokevirtual 170, 3) := by decide +kernel
theorem dX7_forget_35 : decode cX7_forget 35 = .ok (.istore_n 3, 1) := by decide +kernel
theorem dX7_forget_36 : decode cX7_forget 36 = .ok (.iload_n 3, 1) := by decide +kernel
theorem dX7_forget_37 : decode cX7_forget 37 = .ok (.ifCond .ne 6, 3) := by decide +kernel
theorem dX7_forget_40 : decode cX7_forget 40 = .ok (.bipush (-5), 2) := by decide +kernel
theorem dX7_forget_42 : decode cX7_forget 42 = .ok (.ireturn, 1) := by decide +kernel
theorem dX7_forget_43 : decode cX7_forget 43 = .ok (.aload_n 0, 1) := by decide +kernel
theorem dX7_forget_44 : decode cX7_forget 44 = .ok (.getfield 26, 3) := by decide +kernel
theorem dX7_forget_47 : decode cX7_forget 47 = .ok (.aload_n 0, 1) := by decide +kernel
theorem dX7_forget_48 : decode cX7_forget 48 = .ok (.getfield 10, 3) := by decide +kernel
theorem dX7_forget_51 : decode cX7_forget 51 = .ok (.invokevirtual 72, 3) := by decide +kernel
theorem dX7_forget_54 : decode cX7_forget 54 = .ok (.aload_n 0, 1) := by decide +kernel
theorem dX7_forget_55 : decode cX7_forget 55 = .ok (.getfield 10, 3) := by decide +kernel
theorem dX7_forget_58 : decode cX7_forget 58 = .ok (.getfield 153, 3) := by decide +kernel
theorem dX7_forget_61 : decode cX7_forget 61 = .ok (.iload_n 1, 1) := by decide +kernel
theorem dX7_forget_62 : decode cX7_forget 62 = .ok (.iload_n 2, 1) := by decide +kernel
theorem dX7_forget_63 : decode cX7_forget 63 = .ok (.iload_n 3, 1) := by decide +kernel
theorem dX7_forget_64 : decode cX7_forget 64 = .ok (.ineg, 1) := by decide +kernel
theorem dX7_forget_65 : decode cX7_forget 65 = .ok (.invokevirtual 174, 3) := by decide +kernel
theorem dX7_forget_68 : decode cX7_forget 68 = .ok (.iload_n 3, 1) := by decide +kernel
theorem dX7_forget_69 : decode cX7_forget 69 = .ok (.ireturn, 1) := by decide +kernel
set_option maxHeartbeats 4000000 in
set_option maxRecDepth 100000 in
theorem tX7_forget (l : Launch) {E : ET} (hE : Aj E) (G : GT) (a1 : Int32) (a2 : Int32) {r : Int32} {G' : GT} (h : fX7_forget G a1 a2 = some (r, G')) : CI l E yX7_forget cX7_forget 4 (some .int) 4 [.ref (Ad E 20 0), .int a1, .int a2] G r G' := by
  refine Met_I (lv := [(0, .ref (Ad E 20 0)), (1, .int a1), (2, .int a2)]) (by decide +kernel) hE (Nat.le_of_ble_eq_true rfl) rfl ?_
  intro p e s m args below meth c X hr hk
  unfold fX7_forget at h
  refine j_iload_n (pc := 0) X dX7_forget_0 rfl 1 rfl ?_
  obtain ⟨r1, hc3, h⟩ := bd_s h
  refine j_staI (pc := 1) X (tX7_isLearner l hE G a1 hc3) muX7_isLearner (Or.inl q457) rfl rfl (Nat.le_of_ble_eq_true rfl) ⟨Nat.le_of_ble_eq_true rfl, Nat.le_of_ble_eq_true rfl⟩ dX7_forget_1 ?_
  refine j_if_eq (pc := 4) (tgt := 21) X dX7_forget_4 (by decide) (fun hc => ?_) (fun hc => ?_)
  · rw [if_pos hc] at h
    refine j_iconst (pc := 21) (v := (-1)) X dX7_forget_21 (by decide) ?_
    exact j_ret (pc := 22) X hr hk (vp_nar_int _) (pr_s h).1 (pr_s h).2 dX7_forget_22
  · rw [if_neg hc] at h
    refine j_aload_n (pc := 7) X dX7_forget_7 rfl 0 rfl ?_
    refine j_get (pc := 8) (v := .ref (Ad E 11 0)) X gf_X7_10 (by decide) rfl rfl dX7_forget_8 ?_
    refine j_get (pc := 11) (v := .ref (Ad E 3 0)) X gf_X7_112 (by decide) rfl rfl dX7_forget_11 ?_
    refine j_iload_n (pc := 14) X dX7_forget_14 rfl 2 rfl ?_
    obtain ⟨r4, hc6, h⟩ := bd_s h
    refine j_callI (pc := 15) X (tX6_has l hE G 0 (by decide) a2 hc6) muX6_has (by decide) q392 rfl rfl (Nat.le_of_ble_eq_true rfl) ⟨Nat.le_of_ble_eq_true rfl, Nat.le_of_ble_eq_true rfl⟩ dX7_forget_15 ?_
    refine j_if_ne (pc := 18) (tgt := 23) X dX7_forget_18 (by decide) (fun hc => ?_) (fun hc => ?_)
    · rw [if_neg hc] at h
      refine j_aload_n (pc := 23) X dX7_forget_23 rfl 0 rfl ?_
      refine j_get (pc := 24) (v := .ref (Ad E 11 0)) X gf_X7_10 (by decide) rfl rfl dX7_forget_24 ?_
      refine j_get (pc := 27) (v := .ref (Ad E 7 0)) X gf_X7_153 (by decide) rfl rfl dX7_forget_27 ?_
      refine j_iload_n (pc := 30) X dX7_forget_30 rfl 1 rfl ?_
      refine j_iload_n (pc := 31) X dX7_forget_31 rfl 2 rfl ?_
      obtain ⟨r7, hc9, h⟩ := bd_s h
      refine j_callI (pc := 32) X (tX1_timesHeard l hE G 0 (by decide) a1 a2 hc9) muX1_timesHeard (by decide) q458 rfl rfl (Nat.le_of_ble_eq_true rfl) ⟨Nat.le_of_ble_eq_true rfl, Nat.le_of_ble_eq_true rfl⟩ dX7_forget_32 ?_
      refine j_istore_n (pc := 35) (lv' := [(0, .ref (Ad E 20 0)), (1, .int a1), (2, .int a2), (3, .int r7)]) X dX7_forget_35 rfl (by decide) rfl ?_
      refine j_iload_n (pc := 36) X dX7_forget_36 rfl 3 rfl ?_
      refine j_if_ne (pc := 37) (tgt := 43) X dX7_forget_37 (by decide) (fun hc => ?_) (fun hc => ?_)
      · rw [if_neg hc] at h
        refine j_aload_n (pc := 43) X dX7_forget_43 rfl 0 rfl ?_
        refine j_get (pc := 44) (v := .ref (Ad E 12 0)) X gf_X7_26 (by decide) rfl rfl dX7_forget_44 ?_
        refine j_aload_n (pc := 47) X dX7_forget_47 rfl 0 rfl ?_
        refine j_get (pc := 48) (v := .ref (Ad E 11 0)) X gf_X7_10 (by decide) rfl rfl dX7_forget_48 ?_
        obtain ⟨G11, hc12, h⟩ := bd_s h
        refine j_callV (pc := 51) X (tX0_remember l hE G 0 (by decide) hc12) muX0_remember (by decide) q252 rfl rfl (Nat.le_of_ble_eq_true rfl) ⟨Nat.le_of_ble_eq_true rfl, Nat.le_of_ble_eq_true rfl⟩ dX7_forget_51 ?_
        refine j_aload_n (pc := 54) X dX7_forget_54 rfl 0 rfl ?_
        refine j_get (pc := 55) (v := .ref (Ad E 11 0)) X gf_X7_10 (by decide) rfl rfl dX7_forget_55 ?_
        refine j_get (pc := 58) (v := .ref (Ad E 7 0)) X gf_X7_153 (by decide) rfl rfl dX7_forget_58 ?_
        refine j_iload_n (pc := 61) X dX7_forget_61 rfl 1 rfl ?_
        refine j_iload_n (pc := 62) X dX7_forget_62 rfl 2 rfl ?_
        refine j_iload_n (pc := 63) X dX7_forget_63 rfl 3 rfl ?_
        refine j_ineg (pc := 64) X dX7_forget_64 ?_
        obtain ⟨G14, hc15, h⟩ := bd_s h
        refine j_callV (pc := 65) X (tX1_hear l hE G11 0 (by decide) a1 a2 (-r7) hc15) muX1_hear (by decide) q449 rfl rfl (Nat.le_of_ble_eq_true rfl) ⟨Nat.le_of_ble_eq_true rfl, Nat.le_of_ble_eq_true rfl⟩ dX7_forget_65 ?_
        refine j_iload_n (pc := 68) X dX7_forget_68 rfl 3 rfl ?_
        exact j_ret (pc := 69) X hr hk (vp_nar_int _) (pr_s h).1 (pr_s h).2 dX7_forget_69
      · rw [if_pos hc] at h
        refine j_bipush (pc := 40) (v := (-5)) X dX7_forget_40 (by decide) ?_
        exact j_ret (pc := 42) X hr hk (vp_nar_int _) (pr_s h).1 (pr_s h).2 dX7_forget_42
    · rw [if_pos hc] at h
      refine j_iconst (pc := 21) (v := (-1)) X dX7_forget_21 (by decide) ?_
      exact j_ret (pc := 22) X hr hk (vp_nar_int _) (pr_s h).1 (pr_s h).2 dX7_forget_22
theorem dX7_tell_0 : decode cX7_tell 0 = .ok (.iload_n 1, 1) := by decide +kernel
theorem dX7_tell_1 : decode cX7_tell 1 = .ok (.invokestatic 167, 3) := by decide +kernel
theorem dX7_tell_4 : decode cX7_tell 4 = .ok (.ifCond .eq 17, 3) := by decide +kernel
theorem dX7_tell_7 : decode cX7_tell 7 = .ok (.aload_n 0, 1) := by decide +kernel
theorem dX7_tell_8 : decode cX7_tell 8 = .ok (.getfield 10, 3) := by decide +kernel
theorem dX7_tell_11 : decode cX7_tell 11 = .ok (.getfield 112, 3) := by decide +kernel
theorem dX7_tell_14 : decode cX7_tell 14 = .ok (.iload_n 2, 1) := by decide +kernel
theorem dX7_tell_15 : decode cX7_tell 15 = .ok (.invokevirtual 129, 3) := by decide +kernel
theorem dX7_tell_18 : decode cX7_tell 18 = .ok (.ifCond .ne 5, 3) := by decide +kernel
theorem dX7_tell_21 : decode cX7_tell 21 = .ok (.iconst (-1), 1) := by decide +kernel
theorem dX7_tell_22 : decode cX7_tell 22 = .ok (.ireturn, 1) := by decide +kernel
theorem dX7_tell_23 : decode cX7_tell 23 = .ok (.aload_n 0, 1) := by decide +kernel
theorem dX7_tell_24 : decode cX7_tell 24 = .ok (.getfield 10, 3) := by decide +kernel
theorem dX7_tell_27 : decode cX7_tell 27 = .ok (.getfield 153, 3) := by decide +kernel
theorem dX7_tell_30 : decode cX7_tell 30 = .ok (.iload_n 1, 1) := by decide +kernel
theorem dX7_tell_31 : decode cX7_tell 31 = .ok (.iload_n 2, 1) := by decide +kernel
theorem dX7_tell_32 : decode cX7_tell 32 = .ok (.invokevirtual 170, 3) := by decide +kernel
theorem dX7_tell_35 : decode cX7_tell 35 = .ok (.sipush 999, 3) := by decide +kernel
theorem dX7_tell_38 : decode cX7_tell 38 = .ok (.if_icmp .lt 6, 3) := by decide +kernel
theorem dX7_tell_41 : decode cX7_tell 41 = .ok (.bipush (-3), 2) := by decide +kernel
theorem dX7_tell_43 : decode cX7_tell 43 = .ok (.ireturn, 1) := by decide +kernel
theorem dX7_tell_44 : decode cX7_tell 44 = .ok (.aload_n 0, 1) := by decide +kernel
theorem dX7_tell_45 : decode cX7_tell 45 = .ok (.getfield 26, 3) := by decide +kernel
theorem dX7_tell_48 : decode cX7_tell 48 = .ok (.aload_n 0, 1) := by decide +kernel
theorem dX7_tell_49 : decode cX7_tell 49 = .ok (.getfield 10, 3) := by decide +kernel
theorem dX7_tell_52 : decode cX7_tell 52 = .ok (.invokevirtual 72, 3) := by decide +kernel
theorem dX7_tell_55 : decode cX7_tell 55 = .ok (.aload_n 0, 1) := by decide +kernel
theorem dX7_tell_56 : decode cX7_tell 56 = .ok (.getfield 10, 3) := by decide +kernel
theorem dX7_tell_59 : decode cX7_tell 59 = .ok (.getfield 153, 3) := by decide +kernel
theorem dX7_tell_62 : decode cX7_tell 62 = .ok (.iload_n 1, 1) := by decide +kernel
theorem dX7_tell_63 : decode cX7_tell 63 = .ok (.iload_n 2, 1) := by decide +kernel
theorem dX7_tell_64 : decode cX7_tell 64 = .ok (.iconst 1, 1) := by decide +kernel
theorem dX7_tell_65 : decode cX7_tell 65 = .ok (.invokevirtual 174, 3) := by decide +kernel
theorem dX7_tell_68 : decode cX7_tell 68 = .ok (.aload_n 0, 1) := by decide +kernel
theorem dX7_tell_69 : decode cX7_tell 69 = .ok (.getfield 10, 3) := by decide +kernel
theorem dX7_tell_72 : decode cX7_tell 72 = .ok (.getfield 153, 3) := by decide +kernel
theorem dX7_tell_75 : decode cX7_tell 75 = .ok (.iload_n 1, 1) := by decide +kernel
theorem dX7_tell_76 : decode cX7_tell 76 = .ok (.iload_n 2, 1) := by decide +kernel
theorem dX7_tell_77 : decode cX7_tell 77 = .ok (.invokevirtual 170, 3) := by decide +kernel
theorem dX7_tell_80 : decode cX7_tell 80 = .ok (.ireturn, 1) := by decide +kernel
set_option maxHeartbeats 4000000 in
set_option maxRecDepth 100000 in
theorem tX7_tell (l : Launch) {E : ET} (hE : Aj E) (G : GT) (a1 : Int32) (a2 : Int32) {r : Int32} {G' : GT} (h : fX7_tell G a1 a2 = some (r, G')) : CI l E yX7_tell cX7_tell 3 (some .int) 4 [.ref (Ad E 20 0), .int a1, .int a2] G r G' := by
  refine Met_I (lv := [(0, .ref (Ad E 20 0)), (1, .int a1), (2, .int a2)]) (by decide +kernel) hE (Nat.le_of_ble_eq_true rfl) rfl ?_
  intro p e s m args below meth c X hr hk
  unfold fX7_tell at h
  refine j_iload_n (pc := 0) X dX7_tell_0 rfl 1 rfl ?_
  obtain ⟨r1, hc3, h⟩ := bd_s h
  refine j_staI (pc := 1) X (tX7_isLearner l hE G a1 hc3) muX7_isLearner (Or.inl q457) rfl rfl (Nat.le_of_ble_eq_true rfl) ⟨Nat.le_of_ble_eq_true rfl, Nat.le_of_ble_eq_true rfl⟩ dX7_tell_1 ?_
  refine j_if_eq (pc := 4) (tgt := 21) X dX7_tell_4 (by decide) (fun hc => ?_) (fun hc => ?_)
  · rw [if_pos hc] at h
    refine j_iconst (pc := 21) (v := (-1)) X dX7_tell_21 (by decide) ?_
    exact j_ret (pc := 22) X hr hk (vp_nar_int _) (pr_s h).1 (pr_s h).2 dX7_tell_22
  · rw [if_neg hc] at h
    refine j_aload_n (pc := 7) X dX7_tell_7 rfl 0 rfl ?_
    refine j_get (pc := 8) (v := .ref (Ad E 11 0)) X gf_X7_10 (by decide) rfl rfl dX7_tell_8 ?_
    refine j_get (pc := 11) (v := .ref (Ad E 3 0)) X gf_X7_112 (by decide) rfl rfl dX7_tell_11 ?_
    refine j_iload_n (pc := 14) X dX7_tell_14 rfl 2 rfl ?_
    obtain ⟨r4, hc6, h⟩ := bd_s h
    refine j_callI (pc := 15) X (tX6_has l hE G 0 (by decide) a2 hc6) muX6_has (by decide) q392 rfl rfl (Nat.le_of_ble_eq_true rfl) ⟨Nat.le_of_ble_eq_true rfl, Nat.le_of_ble_eq_true rfl⟩ dX7_tell_15 ?_
    refine j_if_ne (pc := 18) (tgt := 23) X dX7_tell_18 (by decide) (fun hc => ?_) (fun hc => ?_)
    · rw [if_neg hc] at h
      refine j_aload_n (pc := 23) X dX7_tell_23 rfl 0 rfl ?_
      refine j_get (pc := 24) (v := .ref (Ad E 11 0)) X gf_X7_10 (by decide) rfl rfl dX7_tell_24 ?_
      refine j_get (pc := 27) (v := .ref (Ad E 7 0)) X gf_X7_153 (by decide) rfl rfl dX7_tell_27 ?_
      refine j_iload_n (pc := 30) X dX7_tell_30 rfl 1 rfl ?_
      refine j_iload_n (pc := 31) X dX7_tell_31 rfl 2 rfl ?_
      obtain ⟨r7, hc9, h⟩ := bd_s h
      refine j_callI (pc := 32) X (tX1_timesHeard l hE G 0 (by decide) a1 a2 hc9) muX1_timesHeard (by decide) q458 rfl rfl (Nat.le_of_ble_eq_true rfl) ⟨Nat.le_of_ble_eq_true rfl, Nat.le_of_ble_eq_true rfl⟩ dX7_tell_32 ?_
      refine j_sipush (pc := 35) (v := 999) X dX7_tell_35 (by decide) ?_
      refine j_icmp_lt (pc := 38) (tgt := 44) X dX7_tell_38 (by decide) (fun hc => ?_) (fun hc => ?_)
      · rw [if_pos hc] at h
        refine j_aload_n (pc := 44) X dX7_tell_44 rfl 0 rfl ?_
        refine j_get (pc := 45) (v := .ref (Ad E 12 0)) X gf_X7_26 (by decide) rfl rfl dX7_tell_45 ?_
        refine j_aload_n (pc := 48) X dX7_tell_48 rfl 0 rfl ?_
        refine j_get (pc := 49) (v := .ref (Ad E 11 0)) X gf_X7_10 (by decide) rfl rfl dX7_tell_49 ?_
        obtain ⟨G11, hc12, h⟩ := bd_s h
        refine j_callV (pc := 52) X (tX0_remember l hE G 0 (by decide) hc12) muX0_remember (by decide) q252 rfl rfl (Nat.le_of_ble_eq_true rfl) ⟨Nat.le_of_ble_eq_true rfl, Nat.le_of_ble_eq_true rfl⟩ dX7_tell_52 ?_
        refine j_aload_n (pc := 55) X dX7_tell_55 rfl 0 rfl ?_
        refine j_get (pc := 56) (v := .ref (Ad E 11 0)) X gf_X7_10 (by decide) rfl rfl dX7_tell_56 ?_
        refine j_get (pc := 59) (v := .ref (Ad E 7 0)) X gf_X7_153 (by decide) rfl rfl dX7_tell_59 ?_
        refine j_iload_n (pc := 62) X dX7_tell_62 rfl 1 rfl ?_
        refine j_iload_n (pc := 63) X dX7_tell_63 rfl 2 rfl ?_
        refine j_iconst (pc := 64) (v := 1) X dX7_tell_64 (by decide) ?_
        obtain ⟨G14, hc15, h⟩ := bd_s h
        refine j_callV (pc := 65) X (tX1_hear l hE G11 0 (by decide) a1 a2 (1 : Int32) hc15) muX1_hear (by decide) q449 rfl rfl (Nat.le_of_ble_eq_true rfl) ⟨Nat.le_of_ble_eq_true rfl, Nat.le_of_ble_eq_true rfl⟩ dX7_tell_65 ?_
        refine j_aload_n (pc := 68) X dX7_tell_68 rfl 0 rfl ?_
        refine j_get (pc := 69) (v := .ref (Ad E 11 0)) X gf_X7_10 (by decide) rfl rfl dX7_tell_69 ?_
        refine j_get (pc := 72) (v := .ref (Ad E 7 0)) X gf_X7_153 (by decide) rfl rfl dX7_tell_72 ?_
        refine j_iload_n (pc := 75) X dX7_tell_75 rfl 1 rfl ?_
        refine j_iload_n (pc := 76) X dX7_tell_76 rfl 2 rfl ?_
        obtain ⟨r16, hc18, h⟩ := bd_s h
        refine j_callI (pc := 77) X (tX1_timesHeard l hE G14 0 (by decide) a1 a2 hc18) muX1_timesHeard (by decide) q458 rfl rfl (Nat.le_of_ble_eq_true rfl) ⟨Nat.le_of_ble_eq_true rfl, Nat.le_of_ble_eq_true rfl⟩ dX7_tell_77 ?_
        exact j_ret (pc := 80) X hr hk (vp_nar_int _) (pr_s h).1 (pr_s h).2 dX7_tell_80
      · rw [if_neg hc] at h
        refine j_bipush (pc := 41) (v := (-3)) X dX7_tell_41 (by decide) ?_
        exact j_ret (pc := 43) X hr hk (vp_nar_int _) (pr_s h).1 (pr_s h).2 dX7_tell_43
    · rw [if_pos hc] at h
      refine j_iconst (pc := 21) (v := (-1)) X dX7_tell_21 (by decide) ?_
      exact j_ret (pc := 22) X hr hk (vp_nar_int _) (pr_s h).1 (pr_s h).2 dX7_tell_22
theorem dX7_set_0 : decode cX7_set 0 = .ok (.iload_n 1, 1) := by decide +kernel
theorem dX7_set_1 : decode cX7_set 1 = .ok (.iconst 1, 1) := by decide +kernel
theorem dX7_set_2 : decode cX7_set 2 = .ok (.bipush 9, 2) := by decide +kernel
theorem dX7_set_4 : decode cX7_set 4 = .ok (.invokestatic 58, 3) := by decide +kernel
theorem dX7_set_7 : decode cX7_set 7 = .ok (.ifCond .ne 6, 3) := by decide +kernel
theorem dX7_set_10 : decode cX7_set 10 = .ok (.bipush (-2), 2) := by decide +kernel
theorem dX7_set_12 : decode cX7_set 12 = .ok (.ireturn, 1) := by decide +kernel
theorem dX7_set_13 : decode cX7_set 13 = .ok (.aload_n 0, 1) := by decide +kernel
theorem dX7_set_14 : decode cX7_set 14 = .ok (.getfield 10, 3) := by decide +kernel
theorem dX7_set_17 : decode cX7_set 17 = .ok (.getfield 153, 3) := by decide +kernel
theorem dX7_set_20 : decode cX7_set 20 = .ok (.getfield 177, 3) := by decide +kernel
theorem dX7_set_23 : decode cX7_set 23 = .ok (.istore_n 2, 1) := by decide +kernel
theorem dX7_set_24 : decode cX7_set 24 = .ok (.iload_n 2, 1) := by decide +kernel
theorem dX7_set_25 : decode cX7_set 25 = .ok (.iload_n 1, 1) := by decide +kernel
theorem dX7_set_26 : decode cX7_set 26 = .ok (.if_icmp .ne 6, 3) := by decide +kernel
theorem dX7_set_29 : decode cX7_set 29 = .ok (.bipush (-5), 2) := by decide +kernel
theorem dX7_set_31 : decode cX7_set 31 = .ok (.ireturn, 1) := by decide +kernel
theorem dX7_set_32 : decode cX7_set 32 = .ok (.aload_n 0, 1) := by decide +kernel
theorem dX7_set_33 : decode cX7_set 33 = .ok (.getfield 26, 3) := by decide +kernel
theorem dX7_set_36 : decode cX7_set 36 = .ok (.aload_n 0, 1) := by decide +kernel
theorem dX7_set_37 : decode cX7_set 37 = .ok (.getfield 10, 3) := by decide +kernel
theorem dX7_set_40 : decode cX7_set 40 = .ok (.invokevirtual 72, 3) := by decide +kernel
theorem dX7_set_43 : decode cX7_set 43 = .ok (.aload_n 0, 1) := by decide +kernel
theorem dX7_set_44 : decode cX7_set 44 = .ok (.getfield 10, 3) := by decide +kernel
theorem dX7_set_47 : decode cX7_set 47 = .ok (.getfield 153, 3) := by decide +kernel
theorem dX7_set_50 : decode cX7_set 50 = .ok (.iload_n 1, 1) := by decide +kernel
theorem dX7_set_51 : decode cX7_set 51 = .ok (.putfield 177, 3) := by decide +kernel
theorem dX7_set_54 : decode cX7_set 54 = .ok (.iload_n 2, 1) := by decide +kernel
theorem dX7_set_55 : decode cX7_set 55 = .ok (.ireturn, 1) := by decide +kernel
set_option maxHeartbeats 4000000 in
set_option maxRecDepth 100000 in
theorem tX7_set (l : Launch) {E : ET} (hE : Aj E) (G : GT) (a1 : Int32) {r : Int32} {G' : GT} (h : fX7_set G a1 = some (r, G')) : CI l E yX7_set cX7_set 3 (some .int) 3 [.ref (Ad E 20 0), .int a1] G r G' := by
  refine Met_I (lv := [(0, .ref (Ad E 20 0)), (1, .int a1)]) (by decide +kernel) hE (Nat.le_of_ble_eq_true rfl) rfl ?_
  intro p e s m args below meth c X hr hk
  unfold fX7_set at h
  refine j_iload_n (pc := 0) X dX7_set_0 rfl 1 rfl ?_
  refine j_iconst (pc := 1) (v := 1) X dX7_set_1 (by decide) ?_
  refine j_bipush (pc := 2) (v := 9) X dX7_set_2 (by decide) ?_
  obtain ⟨r1, hc3, h⟩ := bd_s h
  refine j_staI (pc := 4) X (tX7_isWithin l hE G a1 (1 : Int32) (9 : Int32) hc3) muX7_isWithin (Or.inl q240) rfl rfl (Nat.le_of_ble_eq_true rfl) ⟨Nat.le_of_ble_eq_true rfl, Nat.le_of_ble_eq_true rfl⟩ dX7_set_4 ?_
  refine j_if_ne (pc := 7) (tgt := 13) X dX7_set_7 (by decide) (fun hc => ?_) (fun hc => ?_)
  · rw [if_neg hc] at h
    refine j_aload_n (pc := 13) X dX7_set_13 rfl 0 rfl ?_
    refine j_get (pc := 14) (v := .ref (Ad E 11 0)) X gf_X7_10 (by decide) rfl rfl dX7_set_14 ?_
    refine j_get (pc := 17) (v := .ref (Ad E 7 0)) X gf_X7_153 (by decide) rfl rfl dX7_set_17 ?_
    refine j_get (pc := 20) (v := .int (G 7 0 0)) X gf_X7_177 (by decide) rfl rfl dX7_set_20 ?_
    refine j_istore_n (pc := 23) (lv' := [(0, .ref (Ad E 20 0)), (1, .int a1), (2, .int (G 7 0 0))]) X dX7_set_23 rfl (by decide) rfl ?_
    refine j_iload_n (pc := 24) X dX7_set_24 rfl 2 rfl ?_
    refine j_iload_n (pc := 25) X dX7_set_25 rfl 1 rfl ?_
    refine j_icmp_ne (pc := 26) (tgt := 32) X dX7_set_26 (by decide) (fun hc => ?_) (fun hc => ?_)
    · rw [if_neg hc] at h
      refine j_aload_n (pc := 32) X dX7_set_32 rfl 0 rfl ?_
      refine j_get (pc := 33) (v := .ref (Ad E 12 0)) X gf_X7_26 (by decide) rfl rfl dX7_set_33 ?_
      refine j_aload_n (pc := 36) X dX7_set_36 rfl 0 rfl ?_
      refine j_get (pc := 37) (v := .ref (Ad E 11 0)) X gf_X7_10 (by decide) rfl rfl dX7_set_37 ?_
      obtain ⟨G5, hc6, h⟩ := bd_s h
      refine j_callV (pc := 40) X (tX0_remember l hE G 0 (by decide) hc6) muX0_remember (by decide) q252 rfl rfl (Nat.le_of_ble_eq_true rfl) ⟨Nat.le_of_ble_eq_true rfl, Nat.le_of_ble_eq_true rfl⟩ dX7_set_40 ?_
      refine j_aload_n (pc := 43) X dX7_set_43 rfl 0 rfl ?_
      refine j_get (pc := 44) (v := .ref (Ad E 11 0)) X gf_X7_10 (by decide) rfl rfl dX7_set_44 ?_
      refine j_get (pc := 47) (v := .ref (Ad E 7 0)) X gf_X7_153 (by decide) rfl rfl dX7_set_47 ?_
      refine j_iload_n (pc := 50) X dX7_set_50 rfl 1 rfl ?_
      obtain ⟨G7, hG7, h⟩ := st3_s h
      refine j_put (pc := 51) X hG7 gf_X7_177 tyX1 tyX1_ok nmX1 (by decide) rfl rfl (Nat.le_of_ble_eq_true rfl) rfl rfl rfl dX7_set_51 ?_
      refine j_iload_n (pc := 54) X dX7_set_54 rfl 2 rfl ?_
      exact j_ret (pc := 55) X hr hk (vp_nar_int _) (pr_s h).1 (pr_s h).2 dX7_set_55
    · rw [if_pos hc] at h
      refine j_bipush (pc := 29) (v := (-5)) X dX7_set_29 (by decide) ?_
      exact j_ret (pc := 31) X hr hk (vp_nar_int _) (pr_s h).1 (pr_s h).2 dX7_set_31
  · rw [if_pos hc] at h
    refine j_bipush (pc := 10) (v := (-2)) X dX7_set_10 (by decide) ?_
    exact j_ret (pc := 12) X hr hk (vp_nar_int _) (pr_s h).1 (pr_s h).2 dX7_set_12
theorem dX7_type_0 : decode cX7_type 0 = .ok (.aload_n 0, 1) := by decide +kernel
theorem dX7_type_1 : decode cX7_type 1 = .ok (.getfield 33, 3) := by decide +kernel
theorem dX7_type_4 : decode cX7_type 4 = .ok (.getfield 116, 3) := by decide +kernel
theorem dX7_type_7 : decode cX7_type 7 = .ok (.bipush 50, 2) := by decide +kernel
theorem dX7_type_9 : decode cX7_type 9 = .ok (.if_icmp .lt 6, 3) := by decide +kernel
theorem dX7_type_12 : decode cX7_type 12 = .ok (.bipush (-3), 2) := by decide +kernel
theorem dX7_type_14 : decode cX7_type 14 = .ok (.ireturn, 1) := by decide +kernel
theorem dX7_type_15 : decode cX7_type 15 = .ok (.aload_n 0, 1) := by decide +kernel
theorem dX7_type_16 : decode cX7_type 16 = .ok (.getfield 33, 3) := by decide +kernel
theorem dX7_type_19 : decode cX7_type 19 = .ok (.iload_n 1, 1) := by decide +kernel
theorem dX7_type_20 : decode cX7_type 20 = .ok (.invokevirtual 180, 3) := by decide +kernel
theorem dX7_type_23 : decode cX7_type 23 = .ok (.aload_n 0, 1) := by decide +kernel
theorem dX7_type_24 : decode cX7_type 24 = .ok (.getfield 33, 3) := by decide +kernel
theorem dX7_type_27 : decode cX7_type 27 = .ok (.getfield 116, 3) := by decide +kernel
theorem dX7_type_30 : decode cX7_type 30 = .ok (.ireturn, 1) := by decide +kernel
set_option maxHeartbeats 4000000 in
set_option maxRecDepth 100000 in
theorem tX7_type (l : Launch) {E : ET} (hE : Aj E) (G : GT) (a1 : Int32) {r : Int32} {G' : GT} (h : fX7_type G a1 = some (r, G')) : CI l E yX7_type cX7_type 2 (some .int) 2 [.ref (Ad E 20 0), .int a1] G r G' := by
  refine Met_I (lv := [(0, .ref (Ad E 20 0)), (1, .int a1)]) (by decide +kernel) hE (Nat.le_of_ble_eq_true rfl) rfl ?_
  intro p e s m args below meth c X hr hk
  unfold fX7_type at h
  refine j_aload_n (pc := 0) X dX7_type_0 rfl 0 rfl ?_
  refine j_get (pc := 1) (v := .ref (Ad E 14 0)) X gf_X7_33 (by decide) rfl rfl dX7_type_1 ?_
  refine j_get (pc := 4) (v := .int (G 14 0 1)) X gf_X7_116 (by decide) rfl rfl dX7_type_4 ?_
  refine j_bipush (pc := 7) (v := 50) X dX7_type_7 (by decide) ?_
  refine j_icmp_lt (pc := 9) (tgt := 15) X dX7_type_9 (by decide) (fun hc => ?_) (fun hc => ?_)
  · rw [if_pos hc] at h
    refine j_aload_n (pc := 15) X dX7_type_15 rfl 0 rfl ?_
    refine j_get (pc := 16) (v := .ref (Ad E 14 0)) X gf_X7_33 (by decide) rfl rfl dX7_type_16 ?_
    refine j_iload_n (pc := 19) X dX7_type_19 rfl 1 rfl ?_
    obtain ⟨G2, hc3, h⟩ := bd_s h
    refine j_callV (pc := 20) X (tX5_append l hE G a1 hc3) muX5_append (by decide) q471 rfl rfl (Nat.le_of_ble_eq_true rfl) ⟨Nat.le_of_ble_eq_true rfl, Nat.le_of_ble_eq_true rfl⟩ dX7_type_20 ?_
    refine j_aload_n (pc := 23) X dX7_type_23 rfl 0 rfl ?_
    refine j_get (pc := 24) (v := .ref (Ad E 14 0)) X gf_X7_33 (by decide) rfl rfl dX7_type_24 ?_
    refine j_get (pc := 27) (v := .int (G2 14 0 1)) X gf_X7_116 (by decide) rfl rfl dX7_type_27 ?_
    exact j_ret (pc := 30) X hr hk (vp_nar_int _) (pr_s h).1 (pr_s h).2 dX7_type_30
  · rw [if_neg hc] at h
    refine j_bipush (pc := 12) (v := (-3)) X dX7_type_12 (by decide) ?_
    exact j_ret (pc := 14) X hr hk (vp_nar_int _) (pr_s h).1 (pr_s h).2 dX7_type_14
theorem dX7_clearText_0 : decode cX7_clearText 0 = .ok (.aload_n 0, 1) := by decide +kernel
theorem dX7_clearText_1 : decode cX7_clearText 1 = .ok (.getfield 33, 3) := by decide +kernel
theorem dX7_clearText_4 : decode cX7_clearText 4 = .ok (.getfield 116, 3) := by decide +kernel
theorem dX7_clearText_7 : decode cX7_clearText 7 = .ok (.istore_n 1, 1) := by decide +kernel
theorem dX7_clearText_8 : decode cX7_clearText 8 = .ok (.aload_n 0, 1) := by decide +kernel
theorem dX7_clearText_9 : decode cX7_clearText 9 = .ok (.getfield 33, 3) := by decide +kernel
theorem dX7_clearText_12 : decode cX7_clearText 12 = .ok (.invokevirtual 184, 3) := by decide +kernel
theorem dX7_clearText_15 : decode cX7_clearText 15 = .ok (.iload_n 1, 1) := by decide +kernel
theorem dX7_clearText_16 : decode cX7_clearText 16 = .ok (.ireturn, 1) := by decide +kernel
set_option maxHeartbeats 4000000 in
set_option maxRecDepth 100000 in
theorem tX7_clearText (l : Launch) {E : ET} (hE : Aj E) (G : GT) {r : Int32} {G' : GT} (h : fX7_clearText G = some (r, G')) : CI l E yX7_clearText cX7_clearText 2 (some .int) 1 [.ref (Ad E 20 0)] G r G' := by
  refine Met_I (lv := [(0, .ref (Ad E 20 0))]) (by decide +kernel) hE (Nat.le_of_ble_eq_true rfl) rfl ?_
  intro p e s m args below meth c X hr hk
  unfold fX7_clearText at h
  refine j_aload_n (pc := 0) X dX7_clearText_0 rfl 0 rfl ?_
  refine j_get (pc := 1) (v := .ref (Ad E 14 0)) X gf_X7_33 (by decide) rfl rfl dX7_clearText_1 ?_
  refine j_get (pc := 4) (v := .int (G 14 0 1)) X gf_X7_116 (by decide) rfl rfl dX7_clearText_4 ?_
  refine j_istore_n (pc := 7) (lv' := [(0, .ref (Ad E 20 0)), (1, .int (G 14 0 1))]) X dX7_clearText_7 rfl (by decide) rfl ?_
  refine j_aload_n (pc := 8) X dX7_clearText_8 rfl 0 rfl ?_
  refine j_get (pc := 9) (v := .ref (Ad E 14 0)) X gf_X7_33 (by decide) rfl rfl dX7_clearText_9 ?_
  obtain ⟨G2, hc3, h⟩ := bd_s h
  refine j_callV (pc := 12) X (tX5_clear l hE G  hc3) muX5_clear (by decide) q479 rfl rfl (Nat.le_of_ble_eq_true rfl) ⟨Nat.le_of_ble_eq_true rfl, Nat.le_of_ble_eq_true rfl⟩ dX7_clearText_12 ?_
  refine j_iload_n (pc := 15) X dX7_clearText_15 rfl 1 rfl ?_
  exact j_ret (pc := 16) X hr hk (vp_nar_int _) (pr_s h).1 (pr_s h).2 dX7_clearText_16
theorem dX7_fault_0 : decode cX7_fault 0 = .ok (.iload_n 2, 1) := by decide +kernel
theorem dX7_fault_1 : decode cX7_fault 1 = .ok (.iconst 0, 1) := by decide +kernel
theorem dX7_fault_2 : decode cX7_fault 2 = .ok (.iconst 1, 1) := by decide +kernel
theorem dX7_fault_3 : decode cX7_fault 3 = .ok (.invokestatic 58, 3) := by decide +kernel
theorem dX7_fault_6 : decode cX7_fault 6 = .ok (.ifCond .ne 6, 3) := by decide +kernel
theorem dX7_fault_9 : decode cX7_fault 9 = .ok (.bipush (-2), 2) := by decide +kernel
theorem dX7_fault_11 : decode cX7_fault 11 = .ok (.ireturn, 1) := by decide +kernel
theorem dX7_fault_12 : decode cX7_fault 12 = .ok (.aload_n 0, 1) := by decide +kernel
theorem dX7_fault_13 : decode cX7_fault 13 = .ok (.getfield 33, 3) := by decide +kernel
theorem dX7_fault_16 : decode cX7_fault 16 = .ok (.iload_n 1, 1) := by decide +kernel
theorem dX7_fault_17 : decode cX7_fault 17 = .ok (.invokevirtual 101, 3) := by decide +kernel
theorem dX7_fault_20 : decode cX7_fault 20 = .ok (.istore_n 3, 1) := by decide +kernel
theorem dX7_fault_21 : decode cX7_fault 21 = .ok (.iload_n 3, 1) := by decide +kernel
theorem dX7_fault_22 : decode cX7_fault 22 = .ok (.bipush (-5), 2) := by decide +kernel
theorem dX7_fault_24 : decode cX7_fault 24 = .ok (.if_icmp .eq 7, 3) := by decide +kernel
theorem dX7_fault_27 : decode cX7_fault 27 = .ok (.iload_n 2, 1) := by decide +kernel
theorem dX7_fault_28 : decode cX7_fault 28 = .ok (.ifCond .ne 5, 3) := by decide +kernel
theorem dX7_fault_31 : decode cX7_fault 31 = .ok (.iload_n 3, 1) := by decide +kernel
theorem dX7_fault_32 : decode cX7_fault 32 = .ok (.ireturn, 1) := by decide +kernel
theorem dX7_fault_33 : decode cX7_fault 33 = .ok (.aload_n 0, 1) := by decide +kernel
theorem dX7_fault_34 : decode cX7_fault 34 = .ok (.getfield 33, 3) := by decide +kernel
theorem dX7_fault_37 : decode cX7_fault 37 = .ok (.iload_n 1, 1) := by decide +kernel
theorem dX7_fault_38 : decode cX7_fault 38 = .ok (.iload_n 3, 1) := by decide +kernel
theorem dX7_fault_39 : decode cX7_fault 39 = .ok (.invokevirtual 187, 3) := by decide +kernel
theorem dX7_fault_42 : decode cX7_fault 42 = .ok (.ireturn, 1) := by decide +kernel
set_option maxHeartbeats 4000000 in
set_option maxRecDepth 100000 in
theorem tX7_fault (l : Launch) {E : ET} (hE : Aj E) (G : GT) (a1 : Int32) (a2 : Int32) {r : Int32} (h : fX7_fault G a1 a2 = some r) : CI l E yX7_fault cX7_fault 4 (some .int) 4 [.ref (Ad E 20 0), .int a1, .int a2] G r G := by
  refine Met_I (lv := [(0, .ref (Ad E 20 0)), (1, .int a1), (2, .int a2)]) (by decide +kernel) hE (Nat.le_of_ble_eq_true rfl) rfl ?_
  intro p e s m args below meth c X hr hk
  unfold fX7_fault at h
  refine j_iload_n (pc := 0) X dX7_fault_0 rfl 2 rfl ?_
  refine j_iconst (pc := 1) (v := 0) X dX7_fault_1 (by decide) ?_
  refine j_iconst (pc := 2) (v := 1) X dX7_fault_2 (by decide) ?_
  obtain ⟨r1, hc3, h⟩ := bd_s h
  refine j_staI (pc := 3) X (tX7_isWithin l hE G a2 (0 : Int32) (1 : Int32) hc3) muX7_isWithin (Or.inl q240) rfl rfl (Nat.le_of_ble_eq_true rfl) ⟨Nat.le_of_ble_eq_true rfl, Nat.le_of_ble_eq_true rfl⟩ dX7_fault_3 ?_
  refine j_if_ne (pc := 6) (tgt := 12) X dX7_fault_6 (by decide) (fun hc => ?_) (fun hc => ?_)
  · rw [if_neg hc] at h
    refine j_aload_n (pc := 12) X dX7_fault_12 rfl 0 rfl ?_
    refine j_get (pc := 13) (v := .ref (Ad E 14 0)) X gf_X7_33 (by decide) rfl rfl dX7_fault_13 ?_
    refine j_iload_n (pc := 16) X dX7_fault_16 rfl 1 rfl ?_
    obtain ⟨r4, hc6, h⟩ := bd_s h
    refine j_callI (pc := 17) X (tX5_faultIndex l hE G a1 hc6) muX5_faultIndex (by decide) q342 rfl rfl (Nat.le_of_ble_eq_true rfl) ⟨Nat.le_of_ble_eq_true rfl, Nat.le_of_ble_eq_true rfl⟩ dX7_fault_17 ?_
    refine j_istore_n (pc := 20) (lv' := [(0, .ref (Ad E 20 0)), (1, .int a1), (2, .int a2), (3, .int r4)]) X dX7_fault_20 rfl (by decide) rfl ?_
    refine j_iload_n (pc := 21) X dX7_fault_21 rfl 3 rfl ?_
    refine j_bipush (pc := 22) (v := (-5)) X dX7_fault_22 (by decide) ?_
    refine j_icmp_eq (pc := 24) (tgt := 31) X dX7_fault_24 (by decide) (fun hc => ?_) (fun hc => ?_)
    · rw [if_pos hc] at h
      refine j_iload_n (pc := 31) X dX7_fault_31 rfl 3 rfl ?_
      exact j_ret (pc := 32) X hr hk (vp_nar_int _) (Option.some.inj h) rfl dX7_fault_32
    · rw [if_neg hc] at h
      refine j_iload_n (pc := 27) X dX7_fault_27 rfl 2 rfl ?_
      refine j_if_ne (pc := 28) (tgt := 33) X dX7_fault_28 (by decide) (fun hc => ?_) (fun hc => ?_)
      · rw [if_neg hc] at h
        refine j_aload_n (pc := 33) X dX7_fault_33 rfl 0 rfl ?_
        refine j_get (pc := 34) (v := .ref (Ad E 14 0)) X gf_X7_33 (by decide) rfl rfl dX7_fault_34 ?_
        refine j_iload_n (pc := 37) X dX7_fault_37 rfl 1 rfl ?_
        refine j_iload_n (pc := 38) X dX7_fault_38 rfl 3 rfl ?_
        obtain ⟨r7, hc9, h⟩ := bd_s h
        refine j_callI (pc := 39) X (tX5_faultKind l hE G a1 r4 hc9) muX5_faultKind (by decide) q487 rfl rfl (Nat.le_of_ble_eq_true rfl) ⟨Nat.le_of_ble_eq_true rfl, Nat.le_of_ble_eq_true rfl⟩ dX7_fault_39 ?_
        exact j_ret (pc := 42) X hr hk (vp_nar_int _) (Option.some.inj h) rfl dX7_fault_42
      · rw [if_pos hc] at h
        refine j_iload_n (pc := 31) X dX7_fault_31 rfl 3 rfl ?_
        exact j_ret (pc := 32) X hr hk (vp_nar_int _) (Option.some.inj h) rfl dX7_fault_32
  · rw [if_pos hc] at h
    refine j_bipush (pc := 9) (v := (-2)) X dX7_fault_9 (by decide) ?_
    exact j_ret (pc := 11) X hr hk (vp_nar_int _) (Option.some.inj h) rfl dX7_fault_11
theorem dX7_undo_0 : decode cX7_undo 0 = .ok (.aload_n 0, 1) := by decide +kernel
theorem dX7_undo_1 : decode cX7_undo 1 = .ok (.getfield 26, 3) := by decide +kernel
theorem dX7_undo_4 : decode cX7_undo 4 = .ok (.getfield 191, 3) := by decide +kernel
theorem dX7_undo_7 : decode cX7_undo 7 = .ok (.ifCond .ne 6, 3) := by decide +kernel
theorem dX7_undo_10 : decode cX7_undo 10 = .ok (.bipush (-5), 2) := by decide +kernel
theorem dX7_undo_12 : decode cX7_undo 12 = .ok (.ireturn, 1) := by decide +kernel
theorem dX7_undo_13 : decode cX7_undo 13 = .ok (.aload_n 0, 1) := by decide +kernel
theorem dX7_undo_14 : decode cX7_undo 14 = .ok (.getfield 26, 3) := by decide +kernel
theorem dX7_undo_17 : decode cX7_undo 17 = .ok (.aload_n 0, 1) := by decide +kernel
theorem dX7_undo_18 : decode cX7_undo 18 = .ok (.getfield 10, 3) := by decide +kernel
theorem dX7_undo_21 : decode cX7_undo 21 = .ok (.invokevirtual 192, 3) := by decide +kernel
theorem dX7_undo_24 : decode cX7_undo 24 = .ok (.aload_n 0, 1) := by decide +kernel
theorem dX7_undo_25 : decode cX7_undo 25 = .ok (.getfield 26, 3) := by decide +kernel
theorem dX7_undo_28 : decode cX7_undo 28 = .ok (.getfield 191, 3) := by decide +kernel
theorem dX7_undo_31 : decode cX7_undo 31 = .ok (.ireturn, 1) := by decide +kernel
set_option maxHeartbeats 4000000 in
set_option maxRecDepth 100000 in
theorem tX7_undo (l : Launch) {E : ET} (hE : Aj E) (G : GT) {r : Int32} {G' : GT} (h : fX7_undo G = some (r, G')) : CI l E yX7_undo cX7_undo 1 (some .int) 3 [.ref (Ad E 20 0)] G r G' := by
  refine Met_I (lv := [(0, .ref (Ad E 20 0))]) (by decide +kernel) hE (Nat.le_of_ble_eq_true rfl) rfl ?_
  intro p e s m args below meth c X hr hk
  unfold fX7_undo at h
  refine j_aload_n (pc := 0) X dX7_undo_0 rfl 0 rfl ?_
  refine j_get (pc := 1) (v := .ref (Ad E 12 0)) X gf_X7_26 (by decide) rfl rfl dX7_undo_1 ?_
  refine j_get (pc := 4) (v := .int (G 12 0 1)) X gf_X7_191 (by decide) rfl rfl dX7_undo_4 ?_
  refine j_if_ne (pc := 7) (tgt := 13) X dX7_undo_7 (by decide) (fun hc => ?_) (fun hc => ?_)
  · rw [if_neg hc] at h
    refine j_aload_n (pc := 13) X dX7_undo_13 rfl 0 rfl ?_
    refine j_get (pc := 14) (v := .ref (Ad E 12 0)) X gf_X7_26 (by decide) rfl rfl dX7_undo_14 ?_
    refine j_aload_n (pc := 17) X dX7_undo_17 rfl 0 rfl ?_
    refine j_get (pc := 18) (v := .ref (Ad E 11 0)) X gf_X7_10 (by decide) rfl rfl dX7_undo_18 ?_
    obtain ⟨G2, hc3, h⟩ := bd_s h
    refine j_callV (pc := 21) X (tX0_takeBack l hE G 0 (by decide) hc3) muX0_takeBack (by decide) q498 rfl rfl (Nat.le_of_ble_eq_true rfl) ⟨Nat.le_of_ble_eq_true rfl, Nat.le_of_ble_eq_true rfl⟩ dX7_undo_21 ?_
    refine j_aload_n (pc := 24) X dX7_undo_24 rfl 0 rfl ?_
    refine j_get (pc := 25) (v := .ref (Ad E 12 0)) X gf_X7_26 (by decide) rfl rfl dX7_undo_25 ?_
    refine j_get (pc := 28) (v := .int (G2 12 0 1)) X gf_X7_191 (by decide) rfl rfl dX7_undo_28 ?_
    exact j_ret (pc := 31) X hr hk (vp_nar_int _) (pr_s h).1 (pr_s h).2 dX7_undo_31
  · rw [if_pos hc] at h
    refine j_bipush (pc := 10) (v := (-5)) X dX7_undo_10 (by decide) ?_
    exact j_ret (pc := 12) X hr hk (vp_nar_int _) (pr_s h).1 (pr_s h).2 dX7_undo_12
theorem dX7_keep_0 : decode cX7_keep 0 = .ok (.aload_n 0, 1) := by decide +kernel
theorem dX7_keep_1 : decode cX7_keep 1 = .ok (.getfield 16, 3) := by decide +kernel
theorem dX7_keep_4 : decode cX7_keep 4 = .ok (.aload_n 0, 1) := by decide +kernel
theorem dX7_keep_5 : decode cX7_keep 5 = .ok (.getfield 10, 3) := by decide +kernel
theorem dX7_keep_8 : decode cX7_keep 8 = .ok (.invokevirtual 195, 3) := by decide +kernel
theorem dX7_keep_11 : decode cX7_keep 11 = .ok (.aload_n 0, 1) := by decide +kernel
theorem dX7_keep_12 : decode cX7_keep 12 = .ok (.iconst 1, 1) := by decide +kernel
theorem dX7_keep_13 : decode cX7_keep 13 = .ok (.putfield 19, 3) := by decide +kernel
theorem dX7_keep_16 : decode cX7_keep 16 = .ok (.aload_n 0, 1) := by decide +kernel
theorem dX7_keep_17 : decode cX7_keep 17 = .ok (.getfield 10, 3) := by decide +kernel
theorem dX7_keep_20 : decode cX7_keep 20 = .ok (.getfield 62, 3) := by decide +kernel
theorem dX7_keep_23 : decode cX7_keep 23 = .ok (.invokevirtual 108, 3) := by decide +kernel
theorem dX7_keep_26 : decode cX7_keep 26 = .ok (.ireturn, 1) := by decide +kernel
set_option maxHeartbeats 4000000 in
set_option maxRecDepth 100000 in
theorem tX7_keep (l : Launch) {E : ET} (hE : Aj E) (G : GT) {r : Int32} {G' : GT} (h : fX7_keep G = some (r, G')) : CI l E yX7_keep cX7_keep 1 (some .int) 3 [.ref (Ad E 20 0)] G r G' := by
  refine Met_I (lv := [(0, .ref (Ad E 20 0))]) (by decide +kernel) hE (Nat.le_of_ble_eq_true rfl) rfl ?_
  intro p e s m args below meth c X hr hk
  unfold fX7_keep at h
  refine j_aload_n (pc := 0) X dX7_keep_0 rfl 0 rfl ?_
  refine j_get (pc := 1) (v := .ref (Ad E 11 1)) X gf_X7_16 (by decide) rfl rfl dX7_keep_1 ?_
  refine j_aload_n (pc := 4) X dX7_keep_4 rfl 0 rfl ?_
  refine j_get (pc := 5) (v := .ref (Ad E 11 0)) X gf_X7_10 (by decide) rfl rfl dX7_keep_5 ?_
  obtain ⟨G2, hc3, h⟩ := bd_s h
  refine j_callV (pc := 8) X (tX4_copyFrom l hE G 1 (by decide) 0 (by decide) hc3) muX4_copyFrom (by decide) q506 rfl rfl (Nat.le_of_ble_eq_true rfl) ⟨Nat.le_of_ble_eq_true rfl, Nat.le_of_ble_eq_true rfl⟩ dX7_keep_8 ?_
  refine j_aload_n (pc := 11) X dX7_keep_11 rfl 0 rfl ?_
  refine j_iconst (pc := 12) (v := 1) X dX7_keep_12 (by decide) ?_
  obtain ⟨G4, hG4, h⟩ := st3_s h
  refine j_put (pc := 13) X hG4 gf_X7_19 tyX7 tyX7_ok nmX7 (by decide) rfl rfl (Nat.le_of_ble_eq_true rfl) rfl rfl rfl dX7_keep_13 ?_
  refine j_aload_n (pc := 16) X dX7_keep_16 rfl 0 rfl ?_
  refine j_get (pc := 17) (v := .ref (Ad E 11 0)) X gf_X7_10 (by decide) rfl rfl dX7_keep_17 ?_
  refine j_get (pc := 20) (v := .ref (Ad E 0 0)) X gf_X7_62 (by decide) rfl rfl dX7_keep_20 ?_
  obtain ⟨r5, hc7, h⟩ := bd_s h
  refine j_callI (pc := 23) X (tX2_knotCount l hE G4 0 (by decide) hc7) muX2_knotCount (by decide) q375 rfl rfl (Nat.le_of_ble_eq_true rfl) ⟨Nat.le_of_ble_eq_true rfl, Nat.le_of_ble_eq_true rfl⟩ dX7_keep_23 ?_
  exact j_ret (pc := 26) X hr hk (vp_nar_int _) (pr_s h).1 (pr_s h).2 dX7_keep_26
theorem dX7_restore_0 : decode cX7_restore 0 = .ok (.aload_n 0, 1) := by decide +kernel
theorem dX7_restore_1 : decode cX7_restore 1 = .ok (.getfield 19, 3) := by decide +kernel
theorem dX7_restore_4 : decode cX7_restore 4 = .ok (.ifCond .ne 6, 3) := by decide +kernel
theorem dX7_restore_7 : decode cX7_restore 7 = .ok (.bipush (-5), 2) := by decide +kernel
theorem dX7_restore_9 : decode cX7_restore 9 = .ok (.ireturn, 1) := by decide +kernel
theorem dX7_restore_10 : decode cX7_restore 10 = .ok (.aload_n 0, 1) := by decide +kernel
theorem dX7_restore_11 : decode cX7_restore 11 = .ok (.getfield 26, 3) := by decide +kernel
theorem dX7_restore_14 : decode cX7_restore 14 = .ok (.aload_n 0, 1) := by decide +kernel
theorem dX7_restore_15 : decode cX7_restore 15 = .ok (.getfield 10, 3) := by decide +kernel
theorem dX7_restore_18 : decode cX7_restore 18 = .ok (.invokevirtual 72, 3) := by decide +kernel
theorem dX7_restore_21 : decode cX7_restore 21 = .ok (.aload_n 0, 1) := by decide +kernel
theorem dX7_restore_22 : decode cX7_restore 22 = .ok (.getfield 10, 3) := by decide +kernel
theorem dX7_restore_25 : decode cX7_restore 25 = .ok (.aload_n 0, 1) := by decide +kernel
theorem dX7_restore_26 : decode cX7_restore 26 = .ok (.getfield 16, 3) := by decide +kernel
theorem dX7_restore_29 : decode cX7_restore 29 = .ok (.invokevirtual 195, 3) := by decide +kernel
theorem dX7_restore_32 : decode cX7_restore 32 = .ok (.aload_n 0, 1) := by decide +kernel
theorem dX7_restore_33 : decode cX7_restore 33 = .ok (.getfield 10, 3) := by decide +kernel
theorem dX7_restore_36 : decode cX7_restore 36 = .ok (.getfield 62, 3) := by decide +kernel
theorem dX7_restore_39 : decode cX7_restore 39 = .ok (.invokevirtual 108, 3) := by decide +kernel
theorem dX7_restore_42 : decode cX7_restore 42 = .ok (.ireturn, 1) := by decide +kernel
set_option maxHeartbeats 4000000 in
set_option maxRecDepth 100000 in
theorem tX7_restore (l : Launch) {E : ET} (hE : Aj E) (G : GT) {r : Int32} {G' : GT} (h : fX7_restore G = some (r, G')) : CI l E yX7_restore cX7_restore 1 (some .int) 3 [.ref (Ad E 20 0)] G r G' := by
  refine Met_I (lv := [(0, .ref (Ad E 20 0))]) (by decide +kernel) hE (Nat.le_of_ble_eq_true rfl) rfl ?_
  intro p e s m args below meth c X hr hk
  unfold fX7_restore at h
  refine j_aload_n (pc := 0) X dX7_restore_0 rfl 0 rfl ?_
  refine j_get (pc := 1) (v := .int (G 20 0 2)) X gf_X7_19 (by decide) rfl rfl dX7_restore_1 ?_
  refine j_if_ne (pc := 4) (tgt := 10) X dX7_restore_4 (by decide) (fun hc => ?_) (fun hc => ?_)
  · rw [if_neg hc] at h
    refine j_aload_n (pc := 10) X dX7_restore_10 rfl 0 rfl ?_
    refine j_get (pc := 11) (v := .ref (Ad E 12 0)) X gf_X7_26 (by decide) rfl rfl dX7_restore_11 ?_
    refine j_aload_n (pc := 14) X dX7_restore_14 rfl 0 rfl ?_
    refine j_get (pc := 15) (v := .ref (Ad E 11 0)) X gf_X7_10 (by decide) rfl rfl dX7_restore_15 ?_
    obtain ⟨G2, hc3, h⟩ := bd_s h
    refine j_callV (pc := 18) X (tX0_remember l hE G 0 (by decide) hc3) muX0_remember (by decide) q252 rfl rfl (Nat.le_of_ble_eq_true rfl) ⟨Nat.le_of_ble_eq_true rfl, Nat.le_of_ble_eq_true rfl⟩ dX7_restore_18 ?_
    refine j_aload_n (pc := 21) X dX7_restore_21 rfl 0 rfl ?_
    refine j_get (pc := 22) (v := .ref (Ad E 11 0)) X gf_X7_10 (by decide) rfl rfl dX7_restore_22 ?_
    refine j_aload_n (pc := 25) X dX7_restore_25 rfl 0 rfl ?_
    refine j_get (pc := 26) (v := .ref (Ad E 11 1)) X gf_X7_16 (by decide) rfl rfl dX7_restore_26 ?_
    obtain ⟨G5, hc6, h⟩ := bd_s h
    refine j_callV (pc := 29) X (tX4_copyFrom l hE G2 0 (by decide) 1 (by decide) hc6) muX4_copyFrom (by decide) q506 rfl rfl (Nat.le_of_ble_eq_true rfl) ⟨Nat.le_of_ble_eq_true rfl, Nat.le_of_ble_eq_true rfl⟩ dX7_restore_29 ?_
    refine j_aload_n (pc := 32) X dX7_restore_32 rfl 0 rfl ?_
    refine j_get (pc := 33) (v := .ref (Ad E 11 0)) X gf_X7_10 (by decide) rfl rfl dX7_restore_33 ?_
    refine j_get (pc := 36) (v := .ref (Ad E 0 0)) X gf_X7_62 (by decide) rfl rfl dX7_restore_36 ?_
    obtain ⟨r7, hc9, h⟩ := bd_s h
    refine j_callI (pc := 39) X (tX2_knotCount l hE G5 0 (by decide) hc9) muX2_knotCount (by decide) q375 rfl rfl (Nat.le_of_ble_eq_true rfl) ⟨Nat.le_of_ble_eq_true rfl, Nat.le_of_ble_eq_true rfl⟩ dX7_restore_39 ?_
    exact j_ret (pc := 42) X hr hk (vp_nar_int _) (pr_s h).1 (pr_s h).2 dX7_restore_42
  · rw [if_pos hc] at h
    refine j_bipush (pc := 7) (v := (-5)) X dX7_restore_7 (by decide) ?_
    exact j_ret (pc := 9) X hr hk (vp_nar_int _) (pr_s h).1 (pr_s h).2 dX7_restore_9
theorem dX7_knot_0 : decode cX7_knot 0 = .ok (.iload_n 1, 1) := by decide +kernel
theorem dX7_knot_1 : decode cX7_knot 1 = .ok (.iconst 0, 1) := by decide +kernel
theorem dX7_knot_2 : decode cX7_knot 2 = .ok (.bipush 39, 2) := by decide +kernel
theorem dX7_knot_4 : decode cX7_knot 4 = .ok (.invokestatic 58, 3) := by decide +kernel
theorem dX7_knot_7 : decode cX7_knot 7 = .ok (.ifCond .ne 5, 3) := by decide +kernel
theorem dX7_knot_10 : decode cX7_knot 10 = .ok (.iconst (-1), 1) := by decide +kernel
theorem dX7_knot_11 : decode cX7_knot 11 = .ok (.ireturn, 1) := by decide +kernel
theorem dX7_knot_12 : decode cX7_knot 12 = .ok (.iload_n 2, 1) := by decide +kernel
theorem dX7_knot_13 : decode cX7_knot 13 = .ok (.tableswitch 63 0 2 #[27, 39, 51], 27) := by decide +kernel
theorem dX7_knot_40 : decode cX7_knot 40 = .ok (.aload_n 0, 1) := by decide +kernel
theorem dX7_knot_41 : decode cX7_knot 41 = .ok (.getfield 10, 3) := by decide +kernel
theorem dX7_knot_44 : decode cX7_knot 44 = .ok (.getfield 62, 3) := by decide +kernel
theorem dX7_knot_47 : decode cX7_knot 47 = .ok (.iload_n 1, 1) := by decide +kernel
theorem dX7_knot_48 : decode cX7_knot 48 = .ok (.invokevirtual 65, 3) := by decide +kernel
theorem dX7_knot_51 : decode cX7_knot 51 = .ok (.ireturn, 1) := by decide +kernel
theorem dX7_knot_52 : decode cX7_knot 52 = .ok (.aload_n 0, 1) := by decide +kernel
theorem dX7_knot_53 : decode cX7_knot 53 = .ok (.getfield 10, 3) := by decide +kernel
theorem dX7_knot_56 : decode cX7_knot 56 = .ok (.getfield 62, 3) := by decide +kernel
theorem dX7_knot_59 : decode cX7_knot 59 = .ok (.iload_n 1, 1) := by decide +kernel
theorem dX7_knot_60 : decode cX7_knot 60 = .ok (.invokevirtual 69, 3) := by decide +kernel
theorem dX7_knot_63 : decode cX7_knot 63 = .ok (.ireturn, 1) := by decide +kernel
theorem dX7_knot_64 : decode cX7_knot 64 = .ok (.aload_n 0, 1) := by decide +kernel
theorem dX7_knot_65 : decode cX7_knot 65 = .ok (.getfield 10, 3) := by decide +kernel
theorem dX7_knot_68 : decode cX7_knot 68 = .ok (.getfield 62, 3) := by decide +kernel
theorem dX7_knot_71 : decode cX7_knot 71 = .ok (.iload_n 1, 1) := by decide +kernel
theorem dX7_knot_72 : decode cX7_knot 72 = .ok (.invokevirtual 197, 3) := by decide +kernel
theorem dX7_knot_75 : decode cX7_knot 75 = .ok (.ireturn, 1) := by decide +kernel
theorem dX7_knot_76 : decode cX7_knot 76 = .ok (.bipush (-2), 2) := by decide +kernel
theorem dX7_knot_78 : decode cX7_knot 78 = .ok (.ireturn, 1) := by decide +kernel
set_option maxHeartbeats 4000000 in
set_option maxRecDepth 100000 in
theorem tX7_knot (l : Launch) {E : ET} (hE : Aj E) (G : GT) (a1 : Int32) (a2 : Int32) {r : Int32} (h : fX7_knot G a1 a2 = some r) : CI l E yX7_knot cX7_knot 3 (some .int) 4 [.ref (Ad E 20 0), .int a1, .int a2] G r G := by
  refine Met_I (lv := [(0, .ref (Ad E 20 0)), (1, .int a1), (2, .int a2)]) (by decide +kernel) hE (Nat.le_of_ble_eq_true rfl) rfl ?_
  intro p e s m args below meth c X hr hk
  unfold fX7_knot at h
  refine j_iload_n (pc := 0) X dX7_knot_0 rfl 1 rfl ?_
  refine j_iconst (pc := 1) (v := 0) X dX7_knot_1 (by decide) ?_
  refine j_bipush (pc := 2) (v := 39) X dX7_knot_2 (by decide) ?_
  obtain ⟨r1, hc3, h⟩ := bd_s h
  refine j_staI (pc := 4) X (tX7_isWithin l hE G a1 (0 : Int32) (39 : Int32) hc3) muX7_isWithin (Or.inl q240) rfl rfl (Nat.le_of_ble_eq_true rfl) ⟨Nat.le_of_ble_eq_true rfl, Nat.le_of_ble_eq_true rfl⟩ dX7_knot_4 ?_
  refine j_if_ne (pc := 7) (tgt := 12) X dX7_knot_7 (by decide) (fun hc => ?_) (fun hc => ?_)
  · rw [if_neg hc] at h
    refine j_iload_n (pc := 12) X dX7_knot_12 rfl 2 rfl ?_
    by_cases hx4 : a2 = 0
    · rw [if_pos hx4] at h
      refine j_tabIn (pc := 13) (tgt := 40) (off := 27) X dX7_knot_13 (by rw [hx4]; decide) (by rw [hx4]; decide) (by rw [hx4]; decide) (by decide) ?_
      refine j_aload_n (pc := 40) X dX7_knot_40 rfl 0 rfl ?_
      refine j_get (pc := 41) (v := .ref (Ad E 11 0)) X gf_X7_10 (by decide) rfl rfl dX7_knot_41 ?_
      refine j_get (pc := 44) (v := .ref (Ad E 0 0)) X gf_X7_62 (by decide) rfl rfl dX7_knot_44 ?_
      refine j_iload_n (pc := 47) X dX7_knot_47 rfl 1 rfl ?_
      obtain ⟨r5, hc7, h⟩ := bd_s h
      refine j_callI (pc := 48) X (tX2_kindAt l hE G 0 (by decide) a1 hc7) muX2_kindAt (by decide) q243 rfl rfl (Nat.le_of_ble_eq_true rfl) ⟨Nat.le_of_ble_eq_true rfl, Nat.le_of_ble_eq_true rfl⟩ dX7_knot_48 ?_
      exact j_ret (pc := 51) X hr hk (vp_nar_int _) (Option.some.inj h) rfl dX7_knot_51
    rw [if_neg hx4] at h
    by_cases hx8 : a2 = 1
    · rw [if_pos hx8] at h
      refine j_tabIn (pc := 13) (tgt := 52) (off := 39) X dX7_knot_13 (by rw [hx8]; decide) (by rw [hx8]; decide) (by rw [hx8]; decide) (by decide) ?_
      refine j_aload_n (pc := 52) X dX7_knot_52 rfl 0 rfl ?_
      refine j_get (pc := 53) (v := .ref (Ad E 11 0)) X gf_X7_10 (by decide) rfl rfl dX7_knot_53 ?_
      refine j_get (pc := 56) (v := .ref (Ad E 0 0)) X gf_X7_62 (by decide) rfl rfl dX7_knot_56 ?_
      refine j_iload_n (pc := 59) X dX7_knot_59 rfl 1 rfl ?_
      obtain ⟨r9, hc11, h⟩ := bd_s h
      refine j_callI (pc := 60) X (tX2_tightAt l hE G 0 (by decide) a1 hc11) muX2_tightAt (by decide) q248 rfl rfl (Nat.le_of_ble_eq_true rfl) ⟨Nat.le_of_ble_eq_true rfl, Nat.le_of_ble_eq_true rfl⟩ dX7_knot_60 ?_
      exact j_ret (pc := 63) X hr hk (vp_nar_int _) (Option.some.inj h) rfl dX7_knot_63
    rw [if_neg hx8] at h
    by_cases hx12 : a2 = 2
    · rw [if_pos hx12] at h
      refine j_tabIn (pc := 13) (tgt := 64) (off := 51) X dX7_knot_13 (by rw [hx12]; decide) (by rw [hx12]; decide) (by rw [hx12]; decide) (by decide) ?_
      refine j_aload_n (pc := 64) X dX7_knot_64 rfl 0 rfl ?_
      refine j_get (pc := 65) (v := .ref (Ad E 11 0)) X gf_X7_10 (by decide) rfl rfl dX7_knot_65 ?_
      refine j_get (pc := 68) (v := .ref (Ad E 0 0)) X gf_X7_62 (by decide) rfl rfl dX7_knot_68 ?_
      refine j_iload_n (pc := 71) X dX7_knot_71 rfl 1 rfl ?_
      obtain ⟨r13, hc15, h⟩ := bd_s h
      refine j_callI (pc := 72) X (tX2_runAt l hE G 0 (by decide) a1 hc15) muX2_runAt (by decide) q515 rfl rfl (Nat.le_of_ble_eq_true rfl) ⟨Nat.le_of_ble_eq_true rfl, Nat.le_of_ble_eq_true rfl⟩ dX7_knot_72 ?_
      exact j_ret (pc := 75) X hr hk (vp_nar_int _) (Option.some.inj h) rfl dX7_knot_75
    rw [if_neg hx12] at h
    refine j_tabOut (pc := 13) (tgt := 76) X dX7_knot_13 (tab_out 2 (by decide) (fun j hj => by match j, hj with | 0, _ => exact hx4 | 1, _ => exact hx8 | 2, _ => exact hx12 | j + 3, hj => omega)) (by decide) ?_
    refine j_bipush (pc := 76) (v := (-2)) X dX7_knot_76 (by decide) ?_
    exact j_ret (pc := 78) X hr hk (vp_nar_int _) (Option.some.inj h) rfl dX7_knot_78
  · rw [if_pos hc] at h
    refine j_iconst (pc := 10) (v := (-1)) X dX7_knot_10 (by decide) ?_
    exact j_ret (pc := 11) X hr hk (vp_nar_int _) (Option.some.inj h) rfl dX7_knot_11
theorem dX7_run_0 : decode cX7_run 0 = .ok (.aload_n 0, 1) := by decide +kernel
theorem dX7_run_1 : decode cX7_run 1 = .ok (.invokevirtual 80, 3) := by decide +kernel
theorem dX7_run_4 : decode cX7_run 4 = .ok (.iload_n 1, 1) := by decide +kernel
theorem dX7_run_5 : decode cX7_run 5 = .ok (.invokevirtual 200, 3) := by decide +kernel
theorem dX7_run_8 : decode cX7_run 8 = .ok (.ifCond .ne 5, 3) := by decide +kernel
theorem dX7_run_11 : decode cX7_run 11 = .ok (.iconst (-1), 1) := by decide +kernel
theorem dX7_run_12 : decode cX7_run 12 = .ok (.ireturn, 1) := by decide +kernel
theorem dX7_run_13 : decode cX7_run 13 = .ok (.iload_n 2, 1) := by decide +kernel
theorem dX7_run_14 : decode cX7_run 14 = .ok (.tableswitch 76 0 3 #[30, 39, 48, 57], 30) := by decide +kernel
theorem dX7_run_44 : decode cX7_run 44 = .ok (.aload_n 0, 1) := by decide +kernel
theorem dX7_run_45 : decode cX7_run 45 = .ok (.getfield 40, 3) := by decide +kernel
theorem dX7_run_48 : decode cX7_run 48 = .ok (.iload_n 1, 1) := by decide +kernel
theorem dX7_run_49 : decode cX7_run 49 = .ok (.invokevirtual 201, 3) := by decide +kernel
theorem dX7_run_52 : decode cX7_run 52 = .ok (.ireturn, 1) := by decide +kernel
theorem dX7_run_53 : decode cX7_run 53 = .ok (.aload_n 0, 1) := by decide +kernel
theorem dX7_run_54 : decode cX7_run 54 = .ok (.getfield 40, 3) := by decide +kernel
theorem dX7_run_57 : decode cX7_run 57 = .ok (.iload_n 1, 1) := by decide +kernel
theorem dX7_run_58 : decode cX7_run 58 = .ok (.invokevirtual 204, 3) := by decide +kernel
theorem dX7_run_61 : decode cX7_run 61 = .ok (.ireturn, 1) := by decide +kernel
theorem dX7_run_62 : decode cX7_run 62 = .ok (.aload_n 0, 1) := by decide +kernel
theorem dX7_run_63 : decode cX7_run 63 = .ok (.getfield 40, 3) := by decide +kernel
theorem dX7_run_66 : decode cX7_run 66 = .ok (.iload_n 1, 1) := by decide +kernel
theorem dX7_run_67 : decode cX7_run 67 = .ok (.invokevirtual 207, 3) := by decide +kernel
theorem dX7_run_70 : decode cX7_run 70 = .ok (.ireturn, 1) := by decide +kernel
theorem dX7_run_71 : decode cX7_run 71 = .ok (.aload_n 0, 1) := by decide +kernel
theorem dX7_run_72 : decode cX7_run 72 = .ok (.getfield 10, 3) := by decide +kernel
theorem dX7_run_75 : decode cX7_run 75 = .ok (.getfield 62, 3) := by decide +kernel
theorem dX7_run_78 : decode cX7_run 78 = .ok (.aload_n 0, 1) := by decide +kernel
theorem dX7_run_79 : decode cX7_run 79 = .ok (.getfield 40, 3) := by decide +kernel
theorem dX7_run_82 : decode cX7_run 82 = .ok (.iload_n 1, 1) := by decide +kernel
theorem dX7_run_83 : decode cX7_run 83 = .ok (.invokevirtual 201, 3) := by decide +kernel
theorem dX7_run_86 : decode cX7_run 86 = .ok (.invokevirtual 210, 3) := by decide +kernel
theorem dX7_run_89 : decode cX7_run 89 = .ok (.ireturn, 1) := by decide +kernel
theorem dX7_run_90 : decode cX7_run 90 = .ok (.bipush (-2), 2) := by decide +kernel
theorem dX7_run_92 : decode cX7_run 92 = .ok (.ireturn, 1) := by decide +kernel
set_option maxHeartbeats 4000000 in
set_option maxRecDepth 100000 in
theorem tX7_run (l : Launch) {E : ET} (hE : Aj E) (G : GT) (a1 : Int32) (a2 : Int32) {r : Int32} {G' : GT} (h : fX7_run G a1 a2 = some (r, G')) : CI l E yX7_run cX7_run 3 (some .int) 6 [.ref (Ad E 20 0), .int a1, .int a2] G r G' := by
  refine Met_I (lv := [(0, .ref (Ad E 20 0)), (1, .int a1), (2, .int a2)]) (by decide +kernel) hE (Nat.le_of_ble_eq_true rfl) rfl ?_
  intro p e s m args below meth c X hr hk
  unfold fX7_run at h
  refine j_aload_n (pc := 0) X dX7_run_0 rfl 0 rfl ?_
  obtain ⟨G2, hc3, h⟩ := bd_s h
  refine j_callR (pc := 1) X (tX7_readRuns l hE G  hc3) muX7_readRuns (by decide) q280 rfl rfl (Nat.le_of_ble_eq_true rfl) ⟨Nat.le_of_ble_eq_true rfl, Nat.le_of_ble_eq_true rfl⟩ dX7_run_1 ?_
  refine j_iload_n (pc := 4) X dX7_run_4 rfl 1 rfl ?_
  obtain ⟨r4, hc6, h⟩ := bd_s h
  refine j_callI (pc := 5) X (tX3_has l hE G2 0 (by decide) a1 hc6) muX3_has (by decide) q524 rfl rfl (Nat.le_of_ble_eq_true rfl) ⟨Nat.le_of_ble_eq_true rfl, Nat.le_of_ble_eq_true rfl⟩ dX7_run_5 ?_
  refine j_if_ne (pc := 8) (tgt := 13) X dX7_run_8 (by decide) (fun hc => ?_) (fun hc => ?_)
  · rw [if_neg hc] at h
    refine j_iload_n (pc := 13) X dX7_run_13 rfl 2 rfl ?_
    by_cases hx7 : a2 = 0
    · rw [if_pos hx7] at h
      refine j_tabIn (pc := 14) (tgt := 44) (off := 30) X dX7_run_14 (by rw [hx7]; decide) (by rw [hx7]; decide) (by rw [hx7]; decide) (by decide) ?_
      refine j_aload_n (pc := 44) X dX7_run_44 rfl 0 rfl ?_
      refine j_get (pc := 45) (v := .ref (Ad E 16 0)) X gf_X7_40 (by decide) rfl rfl dX7_run_45 ?_
      refine j_iload_n (pc := 48) X dX7_run_48 rfl 1 rfl ?_
      obtain ⟨r8, hc10, h⟩ := bd_s h
      refine j_callI (pc := 49) X (tX3_firstOf l hE G2 0 (by decide) a1 hc10) muX3_firstOf (by decide) q525 rfl rfl (Nat.le_of_ble_eq_true rfl) ⟨Nat.le_of_ble_eq_true rfl, Nat.le_of_ble_eq_true rfl⟩ dX7_run_49 ?_
      exact j_ret (pc := 52) X hr hk (vp_nar_int _) (pr_s h).1 (pr_s h).2 dX7_run_52
    rw [if_neg hx7] at h
    by_cases hx11 : a2 = 1
    · rw [if_pos hx11] at h
      refine j_tabIn (pc := 14) (tgt := 53) (off := 39) X dX7_run_14 (by rw [hx11]; decide) (by rw [hx11]; decide) (by rw [hx11]; decide) (by decide) ?_
      refine j_aload_n (pc := 53) X dX7_run_53 rfl 0 rfl ?_
      refine j_get (pc := 54) (v := .ref (Ad E 16 0)) X gf_X7_40 (by decide) rfl rfl dX7_run_54 ?_
      refine j_iload_n (pc := 57) X dX7_run_57 rfl 1 rfl ?_
      obtain ⟨r12, hc14, h⟩ := bd_s h
      refine j_callI (pc := 58) X (tX3_lengthOf l hE G2 0 (by decide) a1 hc14) muX3_lengthOf (by decide) q529 rfl rfl (Nat.le_of_ble_eq_true rfl) ⟨Nat.le_of_ble_eq_true rfl, Nat.le_of_ble_eq_true rfl⟩ dX7_run_58 ?_
      exact j_ret (pc := 61) X hr hk (vp_nar_int _) (pr_s h).1 (pr_s h).2 dX7_run_61
    rw [if_neg hx11] at h
    by_cases hx15 : a2 = 2
    · rw [if_pos hx15] at h
      refine j_tabIn (pc := 14) (tgt := 62) (off := 48) X dX7_run_14 (by rw [hx15]; decide) (by rw [hx15]; decide) (by rw [hx15]; decide) (by decide) ?_
      refine j_aload_n (pc := 62) X dX7_run_62 rfl 0 rfl ?_
      refine j_get (pc := 63) (v := .ref (Ad E 16 0)) X gf_X7_40 (by decide) rfl rfl dX7_run_63 ?_
      refine j_iload_n (pc := 66) X dX7_run_66 rfl 1 rfl ?_
      obtain ⟨r16, hc18, h⟩ := bd_s h
      refine j_callI (pc := 67) X (tX3_wordOf l hE G2 0 (by decide) a1 hc18) muX3_wordOf (by decide) q421 rfl rfl (Nat.le_of_ble_eq_true rfl) ⟨Nat.le_of_ble_eq_true rfl, Nat.le_of_ble_eq_true rfl⟩ dX7_run_67 ?_
      exact j_ret (pc := 70) X hr hk (vp_nar_int _) (pr_s h).1 (pr_s h).2 dX7_run_70
    rw [if_neg hx15] at h
    by_cases hx19 : a2 = 3
    · rw [if_pos hx19] at h
      refine j_tabIn (pc := 14) (tgt := 71) (off := 57) X dX7_run_14 (by rw [hx19]; decide) (by rw [hx19]; decide) (by rw [hx19]; decide) (by decide) ?_
      refine j_aload_n (pc := 71) X dX7_run_71 rfl 0 rfl ?_
      refine j_get (pc := 72) (v := .ref (Ad E 11 0)) X gf_X7_10 (by decide) rfl rfl dX7_run_72 ?_
      refine j_get (pc := 75) (v := .ref (Ad E 0 0)) X gf_X7_62 (by decide) rfl rfl dX7_run_75 ?_
      refine j_aload_n (pc := 78) X dX7_run_78 rfl 0 rfl ?_
      refine j_get (pc := 79) (v := .ref (Ad E 16 0)) X gf_X7_40 (by decide) rfl rfl dX7_run_79 ?_
      refine j_iload_n (pc := 82) X dX7_run_82 rfl 1 rfl ?_
      obtain ⟨r20, hc22, h⟩ := bd_s h
      refine j_callI (pc := 83) X (tX3_firstOf l hE G2 0 (by decide) a1 hc22) muX3_firstOf (by decide) q525 rfl rfl (Nat.le_of_ble_eq_true rfl) ⟨Nat.le_of_ble_eq_true rfl, Nat.le_of_ble_eq_true rfl⟩ dX7_run_83 ?_
      obtain ⟨r23, hc25, h⟩ := bd_s h
      refine j_callI (pc := 86) X (tX2_loosenessFrom l hE G2 0 (by decide) r20 hc25) muX2_loosenessFrom (by decide) q533 rfl rfl (Nat.le_of_ble_eq_true rfl) ⟨Nat.le_of_ble_eq_true rfl, Nat.le_of_ble_eq_true rfl⟩ dX7_run_86 ?_
      exact j_ret (pc := 89) X hr hk (vp_nar_int _) (pr_s h).1 (pr_s h).2 dX7_run_89
    rw [if_neg hx19] at h
    refine j_tabOut (pc := 14) (tgt := 90) X dX7_run_14 (tab_out 3 (by decide) (fun j hj => by match j, hj with | 0, _ => exact hx7 | 1, _ => exact hx11 | 2, _ => exact hx15 | 3, _ => exact hx19 | j + 4, hj => omega)) (by decide) ?_
    refine j_bipush (pc := 90) (v := (-2)) X dX7_run_90 (by decide) ?_
    exact j_ret (pc := 92) X hr hk (vp_nar_int _) (pr_s h).1 (pr_s h).2 dX7_run_92
  · rw [if_pos hc] at h
    refine j_iconst (pc := 11) (v := (-1)) X dX7_run_11 (by decide) ?_
    exact j_ret (pc := 12) X hr hk (vp_nar_int _) (pr_s h).1 (pr_s h).2 dX7_run_12
theorem dX7_waysFrom_0 : decode cX7_waysFrom 0 = .ok (.iconst 0, 1) := by decide +kernel
theorem dX7_waysFrom_1 : decode cX7_waysFrom 1 = .ok (.istore 4, 2) := by decide +kernel
theorem dX7_waysFrom_3 : decode cX7_waysFrom 3 = .ok (.iconst 0, 1) := by decide +kernel
theorem dX7_waysFrom_4 : decode cX7_waysFrom 4 = .ok (.istore 5, 2) := by decide +kernel
theorem dX7_waysFrom_6 : decode cX7_waysFrom 6 = .ok (.iload 5, 2) := by decide +kernel
theorem dX7_waysFrom_8 : decode cX7_waysFrom 8 = .ok (.aload_n 0, 1) := by decide +kernel
theorem dX7_waysFrom_9 : decode cX7_waysFrom 9 = .ok (.getfield 10, 3) := by decide +kernel
theorem dX7_waysFrom_12 : decode cX7_waysFrom 12 = .ok (.getfield 112, 3) := by decide +kernel
theorem dX7_waysFrom_15 : decode cX7_waysFrom 15 = .ok (.getfield 125, 3) := by decide +kernel
theorem dX7_waysFrom_18 : decode cX7_waysFrom 18 = .ok (.if_icmp .ge 80, 3) := by decide +kernel
theorem dX7_waysFrom_21 : decode cX7_waysFrom 21 = .ok (.iload_n 2, 1) := by decide +kernel
theorem dX7_waysFrom_22 : decode cX7_waysFrom 22 = .ok (.aload_n 0, 1) := by decide +kernel
theorem dX7_waysFrom_23 : decode cX7_waysFrom 23 = .ok (.getfield 10, 3) := by decide +kernel
theorem dX7_waysFrom_26 : decode cX7_waysFrom 26 = .ok (.getfield 112, 3) := by decide +kernel
theorem dX7_waysFrom_29 : decode cX7_waysFrom 29 = .ok (.iload 5, 2) := by decide +kernel
theorem dX7_waysFrom_31 : decode cX7_waysFrom 31 = .ok (.invokevirtual 229, 3) := by decide +kernel
theorem dX7_waysFrom_34 : decode cX7_waysFrom 34 = .ok (.iadd, 1) := by decide +kernel
theorem dX7_waysFrom_35 : decode cX7_waysFrom 35 = .ok (.istore 6, 2) := by decide +kernel
theorem dX7_waysFrom_37 : decode cX7_waysFrom 37 = .ok (.iload 6, 2) := by decide +kernel
theorem dX7_waysFrom_39 : decode cX7_waysFrom 39 = .ok (.iload_n 2, 1) := by decide +kernel
theorem dX7_waysFrom_40 : decode cX7_waysFrom 40 = .ok (.iconst 1, 1) := by decide +kernel
theorem dX7_waysFrom_41 : decode cX7_waysFrom 41 = .ok (.iadd, 1) := by decide +kernel
theorem dX7_waysFrom_42 : decode cX7_waysFrom 42 = .ok (.iload_n 3, 1) := by decide +kernel
theorem dX7_waysFrom_43 : decode cX7_waysFrom 43 = .ok (.invokestatic 58, 3) := by decide +kernel
theorem dX7_waysFrom_46 : decode cX7_waysFrom 46 = .ok (.ifCond .eq 46, 3) := by decide +kernel
theorem dX7_waysFrom_49 : decode cX7_waysFrom 49 = .ok (.aload_n 0, 1) := by decide +kernel
theorem dX7_waysFrom_50 : decode cX7_waysFrom 50 = .ok (.getfield 10, 3) := by decide +kernel
theorem dX7_waysFrom_53 : decode cX7_waysFrom 53 = .ok (.getfield 112, 3) := by decide +kernel
theorem dX7_waysFrom_56 : decode cX7_waysFrom 56 = .ok (.iload 5, 2) := by decide +kernel
theorem dX7_waysFrom_58 : decode cX7_waysFrom 58 = .ok (.aload_n 0, 1) := by decide +kernel
theorem dX7_waysFrom_59 : decode cX7_waysFrom 59 = .ok (.getfield 10, 3) := by decide +kernel
theorem dX7_waysFrom_62 : decode cX7_waysFrom 62 = .ok (.getfield 62, 3) := by decide +kernel
theorem dX7_waysFrom_65 : decode cX7_waysFrom 65 = .ok (.iload_n 1, 1) := by decide +kernel
theorem dX7_waysFrom_66 : decode cX7_waysFrom 66 = .ok (.iload_n 2, 1) := by decide +kernel
theorem dX7_waysFrom_67 : decode cX7_waysFrom 67 = .ok (.iadd, 1) := by decide +kernel
theorem dX7_waysFrom_68 : decode cX7_waysFrom 68 = .ok (.invokevirtual 277, 3) := by decide +kernel
theorem dX7_waysFrom_71 : decode cX7_waysFrom 71 = .ok (.ifCond .eq 21, 3) := by decide +kernel
theorem dX7_waysFrom_74 : decode cX7_waysFrom 74 = .ok (.sipush 9999, 3) := by decide +kernel
theorem dX7_waysFrom_77 : decode cX7_waysFrom 77 = .ok (.iload 4, 2) := by decide +kernel
theorem dX7_waysFrom_79 : decode cX7_waysFrom 79 = .ok (.aload_n 0, 1) := by decide +kernel
theorem dX7_waysFrom_80 : decode cX7_waysFrom 80 = .ok (.getfield 54, 3) := by decide +kernel
theorem dX7_waysFrom_83 : decode cX7_waysFrom 83 = .ok (.iload 6, 2) := by decide +kernel
theorem dX7_waysFrom_85 : decode cX7_waysFrom 85 = .ok (.iaload, 1) := by decide +kernel
theorem dX7_waysFrom_86 : decode cX7_waysFrom 86 = .ok (.iadd, 1) := by decide +kernel
theorem dX7_waysFrom_87 : decode cX7_waysFrom 87 = .ok (.invokestatic 213, 3) := by decide +kernel
theorem dX7_waysFrom_90 : decode cX7_waysFrom 90 = .ok (.istore 4, 2) := by decide +kernel
theorem dX7_waysFrom_92 : decode cX7_waysFrom 92 = .ok (.iinc 5 1, 3) := by decide +kernel
theorem dX7_waysFrom_95 : decode cX7_waysFrom 95 = .ok (.goto (-89), 3) := by decide +kernel
theorem dX7_waysFrom_98 : decode cX7_waysFrom 98 = .ok (.iload 4, 2) := by decide +kernel
theorem dX7_waysFrom_100 : decode cX7_waysFrom 100 = .ok (.ireturn, 1) := by decide +kernel
set_option maxHeartbeats 4000000 in
set_option maxRecDepth 100000 in
theorem tX7_waysFrom_6 (l : Launch) {E : ET} (hE : Aj E) {p : Program} {e : Env} {s : State} {m : MethodId} {args : Array Value} {below : List Frame} {meth : Method} {c : Code} (X : Cx p (rmL 3) s m args c yX7_waysFrom.cls cX7_waysFrom 7 E (Aw E) 0 0) (hr : meth.sig.returnType = (some .int)) (hk : meth.locks = false) {r : Int32} (G : GT) (a1 : Int32) (a2 : Int32) (a3 : Int32) : ∀ (n : Nat) (a4 a5 : Int32), fX7_waysFrom_6 G a1 a2 a3 n a4 a5 = some r → J p l e (rmL 3) s m args below meth c E (Aw E) s.heap 7 0 0 (MQ below (QI E r G) args s 0 0 (Aw E)) G 6 [(0, .ref (Ad E 20 0)), (1, .int a1), (2, .int a2), (3, .int a3), (4, .int a4), (5, .int a5)] [] := by
  intro n
  induction n with
  | zero =>
    intro a4 a5 h
    simp [fX7_waysFrom_6] at h
  | succ n ih =>
    intro a4 a5 h
    rw [fX7_waysFrom_6] at h
    refine j_iload (pc := 6) X dX7_waysFrom_6 5 rfl ?_
    refine j_aload_n (pc := 8) X dX7_waysFrom_8 rfl 0 rfl ?_
    refine j_get (pc := 9) (v := .ref (Ad E 11 0)) X gf_X7_10 (by decide) rfl rfl dX7_waysFrom_9 ?_
    refine j_get (pc := 12) (v := .ref (Ad E 3 0)) X gf_X7_112 (by decide) rfl rfl dX7_waysFrom_12 ?_
    refine j_get (pc := 15) (v := .int (G 3 0 0)) X gf_X7_125 (by decide) rfl rfl dX7_waysFrom_15 ?_
    refine j_icmp_ge (pc := 18) (tgt := 98) X dX7_waysFrom_18 (by decide) (fun hc => ?_) (fun hc => ?_)
    · rw [if_pos hc] at h
      refine j_iload (pc := 98) X dX7_waysFrom_98 4 rfl ?_
      exact j_ret (pc := 100) X hr hk (vp_nar_int _) (Option.some.inj h) rfl dX7_waysFrom_100
    · rw [if_neg hc] at h
      refine j_iload_n (pc := 21) X dX7_waysFrom_21 rfl 2 rfl ?_
      refine j_aload_n (pc := 22) X dX7_waysFrom_22 rfl 0 rfl ?_
      refine j_get (pc := 23) (v := .ref (Ad E 11 0)) X gf_X7_10 (by decide) rfl rfl dX7_waysFrom_23 ?_
      refine j_get (pc := 26) (v := .ref (Ad E 3 0)) X gf_X7_112 (by decide) rfl rfl dX7_waysFrom_26 ?_
      refine j_iload (pc := 29) X dX7_waysFrom_29 5 rfl ?_
      obtain ⟨r1, hc3, h⟩ := bd_s h
      refine j_callI (pc := 31) X (tX6_lengthOf l hE G 0 (by decide) a5 hc3) muX6_lengthOf (by decide) q547 rfl rfl (Nat.le_of_ble_eq_true rfl) ⟨Nat.le_of_ble_eq_true rfl, Nat.le_of_ble_eq_true rfl⟩ dX7_waysFrom_31 ?_
      refine j_iadd (pc := 34) X dX7_waysFrom_34 ?_
      refine j_istore (pc := 35) (lv' := [(0, .ref (Ad E 20 0)), (1, .int a1), (2, .int a2), (3, .int a3), (4, .int a4), (5, .int a5), (6, .int (a2 + r1))]) X dX7_waysFrom_35 (by decide) rfl ?_
      refine j_iload (pc := 37) X dX7_waysFrom_37 6 rfl ?_
      refine j_iload_n (pc := 39) X dX7_waysFrom_39 rfl 2 rfl ?_
      refine j_iconst (pc := 40) (v := 1) X dX7_waysFrom_40 (by decide) ?_
      refine j_iadd (pc := 41) X dX7_waysFrom_41 ?_
      refine j_iload_n (pc := 42) X dX7_waysFrom_42 rfl 3 rfl ?_
      obtain ⟨r4, hc6, h⟩ := bd_s h
      refine j_staI (pc := 43) X (tX7_isWithin l hE G (a2 + r1) (a2 + (1 : Int32)) a3 hc6) muX7_isWithin (Or.inl q240) rfl rfl (Nat.le_of_ble_eq_true rfl) ⟨Nat.le_of_ble_eq_true rfl, Nat.le_of_ble_eq_true rfl⟩ dX7_waysFrom_43 ?_
      refine j_if_eq (pc := 46) (tgt := 92) X dX7_waysFrom_46 (by decide) (fun hc => ?_) (fun hc => ?_)
      · rw [if_pos hc] at h
        refine j_iinc (pc := 92) (q := 5) (v := (a5 + (1 : Int32))) (lv' := [(0, .ref (Ad E 20 0)), (1, .int a1), (2, .int a2), (3, .int a3), (4, .int a4), (5, .int (a5 + (1 : Int32))), (6, .int (a2 + r1))]) X dX7_waysFrom_92 rfl rfl (by decide) rfl ?_
        refine j_goto (pc := 95) (tgt := 6) X dX7_waysFrom_95 (by decide) ?_
        refine j_lv (lv' := [(0, .ref (Ad E 20 0)), (1, .int a1), (2, .int a2), (3, .int a3), (4, .int a4), (5, .int (a5 + (1 : Int32)))]) [0, 1, 2, 3, 4, 5] rfl ?_
        exact ih a4 (a5 + (1 : Int32)) h
      · rw [if_neg hc] at h
        refine j_aload_n (pc := 49) X dX7_waysFrom_49 rfl 0 rfl ?_
        refine j_get (pc := 50) (v := .ref (Ad E 11 0)) X gf_X7_10 (by decide) rfl rfl dX7_waysFrom_50 ?_
        refine j_get (pc := 53) (v := .ref (Ad E 3 0)) X gf_X7_112 (by decide) rfl rfl dX7_waysFrom_53 ?_
        refine j_iload (pc := 56) X dX7_waysFrom_56 5 rfl ?_
        refine j_aload_n (pc := 58) X dX7_waysFrom_58 rfl 0 rfl ?_
        refine j_get (pc := 59) (v := .ref (Ad E 11 0)) X gf_X7_10 (by decide) rfl rfl dX7_waysFrom_59 ?_
        refine j_get (pc := 62) (v := .ref (Ad E 0 0)) X gf_X7_62 (by decide) rfl rfl dX7_waysFrom_62 ?_
        refine j_iload_n (pc := 65) X dX7_waysFrom_65 rfl 1 rfl ?_
        refine j_iload_n (pc := 66) X dX7_waysFrom_66 rfl 2 rfl ?_
        refine j_iadd (pc := 67) X dX7_waysFrom_67 ?_
        obtain ⟨r7, hc9, h⟩ := bd_s h
        refine j_callI (pc := 68) X (tX6_standsAt l hE G 0 (by decide) a5 0 (by decide) (a1 + a2) hc9) muX6_standsAt (by decide) q548 rfl rfl (Nat.le_of_ble_eq_true rfl) ⟨Nat.le_of_ble_eq_true rfl, Nat.le_of_ble_eq_true rfl⟩ dX7_waysFrom_68 ?_
        refine j_if_eq (pc := 71) (tgt := 92) X dX7_waysFrom_71 (by decide) (fun hc => ?_) (fun hc => ?_)
        · rw [if_pos hc] at h
          refine j_iinc (pc := 92) (q := 5) (v := (a5 + (1 : Int32))) (lv' := [(0, .ref (Ad E 20 0)), (1, .int a1), (2, .int a2), (3, .int a3), (4, .int a4), (5, .int (a5 + (1 : Int32))), (6, .int (a2 + r1))]) X dX7_waysFrom_92 rfl rfl (by decide) rfl ?_
          refine j_goto (pc := 95) (tgt := 6) X dX7_waysFrom_95 (by decide) ?_
          refine j_lv (lv' := [(0, .ref (Ad E 20 0)), (1, .int a1), (2, .int a2), (3, .int a3), (4, .int a4), (5, .int (a5 + (1 : Int32)))]) [0, 1, 2, 3, 4, 5] rfl ?_
          exact ih a4 (a5 + (1 : Int32)) h
        · rw [if_neg hc] at h
          refine j_sipush (pc := 74) (v := 9999) X dX7_waysFrom_74 (by decide) ?_
          refine j_iload (pc := 77) X dX7_waysFrom_77 4 rfl ?_
          refine j_aload_n (pc := 79) X dX7_waysFrom_79 rfl 0 rfl ?_
          refine j_get (pc := 80) (v := .ref (Ad E 21 0)) X gf_X7_54 (by decide) rfl rfl dX7_waysFrom_80 ?_
          refine j_iload (pc := 83) X dX7_waysFrom_83 6 rfl ?_
          obtain ⟨hg10, h⟩ := gd_s h
          refine j_iald (pc := 85) (n := 41) X (by decide) rfl hg10 dX7_waysFrom_85 ?_
          refine j_iadd (pc := 86) X dX7_waysFrom_86 ?_
          refine j_mmin (pc := 87) X (q542) ⟨Nat.le_of_ble_eq_true rfl, Nat.le_of_ble_eq_true rfl⟩ dX7_waysFrom_87 ?_
          refine j_istore (pc := 90) (lv' := [(0, .ref (Ad E 20 0)), (1, .int a1), (2, .int a2), (3, .int a3), (4, .int (imin (9999 : Int32) (a4 + (G 21 0 (a2 + r1).toNatClampNeg)))), (5, .int a5), (6, .int (a2 + r1))]) X dX7_waysFrom_90 (by decide) rfl ?_
          refine j_iinc (pc := 92) (q := 5) (v := (a5 + (1 : Int32))) (lv' := [(0, .ref (Ad E 20 0)), (1, .int a1), (2, .int a2), (3, .int a3), (4, .int (imin (9999 : Int32) (a4 + (G 21 0 (a2 + r1).toNatClampNeg)))), (5, .int (a5 + (1 : Int32))), (6, .int (a2 + r1))]) X dX7_waysFrom_92 rfl rfl (by decide) rfl ?_
          refine j_goto (pc := 95) (tgt := 6) X dX7_waysFrom_95 (by decide) ?_
          refine j_lv (lv' := [(0, .ref (Ad E 20 0)), (1, .int a1), (2, .int a2), (3, .int a3), (4, .int (imin (9999 : Int32) (a4 + (G 21 0 (a2 + r1).toNatClampNeg)))), (5, .int (a5 + (1 : Int32)))]) [0, 1, 2, 3, 4, 5] rfl ?_
          exact ih (imin (9999 : Int32) (a4 + (G 21 0 (a2 + r1).toNatClampNeg))) (a5 + (1 : Int32)) h
set_option maxHeartbeats 4000000 in
set_option maxRecDepth 100000 in
theorem tX7_waysFrom (l : Launch) {E : ET} (hE : Aj E) (G : GT) (a1 : Int32) (a2 : Int32) (a3 : Int32) {r : Int32} (h : fX7_waysFrom G a1 a2 a3 = some r) : CI l E yX7_waysFrom cX7_waysFrom 7 (some .int) 3 [.ref (Ad E 20 0), .int a1, .int a2, .int a3] G r G := by
  refine Met_I (lv := [(0, .ref (Ad E 20 0)), (1, .int a1), (2, .int a2), (3, .int a3)]) (by decide +kernel) hE (Nat.le_of_ble_eq_true rfl) rfl ?_
  intro p e s m args below meth c X hr hk
  unfold fX7_waysFrom at h
  refine j_iconst (pc := 0) (v := 0) X dX7_waysFrom_0 (by decide) ?_
  refine j_istore (pc := 1) (lv' := [(0, .ref (Ad E 20 0)), (1, .int a1), (2, .int a2), (3, .int a3), (4, .int (0 : Int32))]) X dX7_waysFrom_1 (by decide) rfl ?_
  refine j_iconst (pc := 3) (v := 0) X dX7_waysFrom_3 (by decide) ?_
  refine j_istore (pc := 4) (lv' := [(0, .ref (Ad E 20 0)), (1, .int a1), (2, .int a2), (3, .int a3), (4, .int (0 : Int32)), (5, .int (0 : Int32))]) X dX7_waysFrom_4 (by decide) rfl ?_
  exact tX7_waysFrom_6 l hE X hr hk G a1 a2 a3 FU (0 : Int32) (0 : Int32) h
theorem dX7_splits_0 : decode cX7_splits 0 = .ok (.aload_n 0, 1) := by decide +kernel
theorem dX7_splits_1 : decode cX7_splits 1 = .ok (.invokevirtual 80, 3) := by decide +kernel
theorem dX7_splits_4 : decode cX7_splits 4 = .ok (.iload_n 1, 1) := by decide +kernel
theorem dX7_splits_5 : decode cX7_splits 5 = .ok (.invokevirtual 200, 3) := by decide +kernel
theorem dX7_splits_8 : decode cX7_splits 8 = .ok (.ifCond .ne 5, 3) := by decide +kernel
theorem dX7_splits_11 : decode cX7_splits 11 = .ok (.iconst (-1), 1) := by decide +kernel
theorem dX7_splits_12 : decode cX7_splits 12 = .ok (.ireturn, 1) := by decide +kernel
theorem dX7_splits_13 : decode cX7_splits 13 = .ok (.aload_n 0, 1) := by decide +kernel
theorem dX7_splits_14 : decode cX7_splits 14 = .ok (.getfield 40, 3) := by decide +kernel
theorem dX7_splits_17 : decode cX7_splits 17 = .ok (.iload_n 1, 1) := by decide +kernel
theorem dX7_splits_18 : decode cX7_splits 18 = .ok (.invokevirtual 201, 3) := by decide +kernel
theorem dX7_splits_21 : decode cX7_splits 21 = .ok (.istore_n 2, 1) := by decide +kernel
theorem dX7_splits_22 : decode cX7_splits 22 = .ok (.bipush 40, 2) := by decide +kernel
theorem dX7_splits_24 : decode cX7_splits 24 = .ok (.aload_n 0, 1) := by decide +kernel
theorem dX7_splits_25 : decode cX7_splits 25 = .ok (.getfield 40, 3) := by decide +kernel
theorem dX7_splits_28 : decode cX7_splits 28 = .ok (.iload_n 1, 1) := by decide +kernel
theorem dX7_splits_29 : decode cX7_splits 29 = .ok (.invokevirtual 204, 3) := by decide +kernel
theorem dX7_splits_32 : decode cX7_splits 32 = .ok (.invokestatic 213, 3) := by decide +kernel
theorem dX7_splits_35 : decode cX7_splits 35 = .ok (.istore_n 3, 1) := by decide +kernel
theorem dX7_splits_36 : decode cX7_splits 36 = .ok (.aload_n 0, 1) := by decide +kernel
theorem dX7_splits_37 : decode cX7_splits 37 = .ok (.getfield 54, 3) := by decide +kernel
theorem dX7_splits_40 : decode cX7_splits 40 = .ok (.iload_n 3, 1) := by decide +kernel
theorem dX7_splits_41 : decode cX7_splits 41 = .ok (.iconst 1, 1) := by decide +kernel
theorem dX7_splits_42 : decode cX7_splits 42 = .ok (.iastore, 1) := by decide +kernel
theorem dX7_splits_43 : decode cX7_splits 43 = .ok (.iload_n 3, 1) := by decide +kernel
theorem dX7_splits_44 : decode cX7_splits 44 = .ok (.iconst 1, 1) := by decide +kernel
theorem dX7_splits_45 : decode cX7_splits 45 = .ok (.isub, 1) := by decide +kernel
theorem dX7_splits_46 : decode cX7_splits 46 = .ok (.istore 4, 2) := by decide +kernel
theorem dX7_splits_48 : decode cX7_splits 48 = .ok (.iload 4, 2) := by decide +kernel
theorem dX7_splits_50 : decode cX7_splits 50 = .ok (.ifCond .lt 24, 3) := by decide +kernel
theorem dX7_splits_53 : decode cX7_splits 53 = .ok (.aload_n 0, 1) := by decide +kernel
theorem dX7_splits_54 : decode cX7_splits 54 = .ok (.getfield 54, 3) := by decide +kernel
theorem dX7_splits_57 : decode cX7_splits 57 = .ok (.iload 4, 2) := by decide +kernel
theorem dX7_splits_59 : decode cX7_splits 59 = .ok (.aload_n 0, 1) := by decide +kernel
theorem dX7_splits_60 : decode cX7_splits 60 = .ok (.iload_n 2, 1) := by decide +kernel
theorem dX7_splits_61 : decode cX7_splits 61 = .ok (.iload 4, 2) := by decide +kernel
theorem dX7_splits_63 : decode cX7_splits 63 = .ok (.iload_n 3, 1) := by decide +kernel
theorem dX7_splits_64 : decode cX7_splits 64 = .ok (.invokevirtual 218, 3) := by decide +kernel
theorem dX7_splits_67 : decode cX7_splits 67 = .ok (.iastore, 1) := by decide +kernel
theorem dX7_splits_68 : decode cX7_splits 68 = .ok (.iinc 4 (-1), 3) := by decide +kernel
theorem dX7_splits_71 : decode cX7_splits 71 = .ok (.goto (-23), 3) := by decide +kernel
theorem dX7_splits_74 : decode cX7_splits 74 = .ok (.aload_n 0, 1) := by decide +kernel
theorem dX7_splits_75 : decode cX7_splits 75 = .ok (.getfield 54, 3) := by decide +kernel
theorem dX7_splits_78 : decode cX7_splits 78 = .ok (.iconst 0, 1) := by decide +kernel
theorem dX7_splits_79 : decode cX7_splits 79 = .ok (.iaload, 1) := by decide +kernel
theorem dX7_splits_80 : decode cX7_splits 80 = .ok (.ireturn, 1) := by decide +kernel
set_option maxHeartbeats 4000000 in
set_option maxRecDepth 100000 in
theorem tX7_splits_48 (l : Launch) {E : ET} (hE : Aj E) {p : Program} {e : Env} {s : State} {m : MethodId} {args : Array Value} {below : List Frame} {meth : Method} {c : Code} (X : Cx p (rmL 6) s m args c yX7_splits.cls cX7_splits 5 E (Aw E) 0 0) (hr : meth.sig.returnType = (some .int)) (hk : meth.locks = false) {r : Int32} {G' : GT} (a2 : Int32) (a3 : Int32) : ∀ (n : Nat) (G : GT) (a4 : Int32), fX7_splits_48 a2 a3 n G a4 = some (r, G') → J p l e (rmL 6) s m args below meth c E (Aw E) s.heap 5 0 0 (MQ below (QI E r G') args s 0 0 (Aw E)) G 48 [(0, .ref (Ad E 20 0)), (2, .int a2), (3, .int a3), (4, .int a4)] [] := by
  intro n
  induction n with
  | zero =>
    intro G a4 h
    simp [fX7_splits_48] at h
  | succ n ih =>
    intro G a4 h
    rw [fX7_splits_48] at h
    refine j_iload (pc := 48) X dX7_splits_48 3 rfl ?_
    refine j_if_lt (pc := 50) (tgt := 74) X dX7_splits_50 (by decide) (fun hc => ?_) (fun hc => ?_)
    · rw [if_pos hc] at h
      refine j_aload_n (pc := 74) X dX7_splits_74 rfl 0 rfl ?_
      refine j_get (pc := 75) (v := .ref (Ad E 21 0)) X gf_X7_54 (by decide) rfl rfl dX7_splits_75 ?_
      refine j_iconst (pc := 78) (v := 0) X dX7_splits_78 (by decide) ?_
      obtain ⟨hg1, h⟩ := gd_s h
      refine j_iald (pc := 79) (n := 41) X (by decide) rfl hg1 dX7_splits_79 ?_
      exact j_ret (pc := 80) X hr hk (vp_nar_int _) (pr_s h).1 (pr_s h).2 dX7_splits_80
    · rw [if_neg hc] at h
      refine j_aload_n (pc := 53) X dX7_splits_53 rfl 0 rfl ?_
      refine j_get (pc := 54) (v := .ref (Ad E 21 0)) X gf_X7_54 (by decide) rfl rfl dX7_splits_54 ?_
      refine j_iload (pc := 57) X dX7_splits_57 3 rfl ?_
      refine j_aload_n (pc := 59) X dX7_splits_59 rfl 0 rfl ?_
      refine j_iload_n (pc := 60) X dX7_splits_60 rfl 1 rfl ?_
      refine j_iload (pc := 61) X dX7_splits_61 3 rfl ?_
      refine j_iload_n (pc := 63) X dX7_splits_63 rfl 2 rfl ?_
      obtain ⟨r2, hc4, h⟩ := bd_s h
      refine j_callI (pc := 64) X (tX7_waysFrom l hE G a2 a4 a3 hc4) muX7_waysFrom (by decide) q543 rfl rfl (Nat.le_of_ble_eq_true rfl) ⟨Nat.le_of_ble_eq_true rfl, Nat.le_of_ble_eq_true rfl⟩ dX7_splits_64 ?_
      obtain ⟨hg5, h⟩ := gd_s h
      obtain ⟨G6, hG6, h⟩ := st3_s h
      refine j_iast (pc := 67) (n := 41) X hG6 (by decide) (fun _ => rfl) hg5 dX7_splits_67 ?_
      refine j_iinc (pc := 68) (q := 3) (v := (a4 + (-1 : Int32))) (lv' := [(0, .ref (Ad E 20 0)), (2, .int a2), (3, .int a3), (4, .int (a4 + (-1 : Int32)))]) X dX7_splits_68 rfl rfl (by decide) rfl ?_
      refine j_goto (pc := 71) (tgt := 48) X dX7_splits_71 (by decide) ?_
      exact ih G6 (a4 + (-1 : Int32)) h
set_option maxHeartbeats 4000000 in
set_option maxRecDepth 100000 in
theorem tX7_splits (l : Launch) {E : ET} (hE : Aj E) (G : GT) (a1 : Int32) {r : Int32} {G' : GT} (h : fX7_splits G a1 = some (r, G')) : CI l E yX7_splits cX7_splits 5 (some .int) 6 [.ref (Ad E 20 0), .int a1] G r G' := by
  refine Met_I (lv := [(0, .ref (Ad E 20 0)), (1, .int a1)]) (by decide +kernel) hE (Nat.le_of_ble_eq_true rfl) rfl ?_
  intro p e s m args below meth c X hr hk
  unfold fX7_splits at h
  refine j_aload_n (pc := 0) X dX7_splits_0 rfl 0 rfl ?_
  obtain ⟨G2, hc3, h⟩ := bd_s h
  refine j_callR (pc := 1) X (tX7_readRuns l hE G  hc3) muX7_readRuns (by decide) q280 rfl rfl (Nat.le_of_ble_eq_true rfl) ⟨Nat.le_of_ble_eq_true rfl, Nat.le_of_ble_eq_true rfl⟩ dX7_splits_1 ?_
  refine j_iload_n (pc := 4) X dX7_splits_4 rfl 1 rfl ?_
  obtain ⟨r4, hc6, h⟩ := bd_s h
  refine j_callI (pc := 5) X (tX3_has l hE G2 0 (by decide) a1 hc6) muX3_has (by decide) q524 rfl rfl (Nat.le_of_ble_eq_true rfl) ⟨Nat.le_of_ble_eq_true rfl, Nat.le_of_ble_eq_true rfl⟩ dX7_splits_5 ?_
  refine j_if_ne (pc := 8) (tgt := 13) X dX7_splits_8 (by decide) (fun hc => ?_) (fun hc => ?_)
  · rw [if_neg hc] at h
    refine j_aload_n (pc := 13) X dX7_splits_13 rfl 0 rfl ?_
    refine j_get (pc := 14) (v := .ref (Ad E 16 0)) X gf_X7_40 (by decide) rfl rfl dX7_splits_14 ?_
    refine j_iload_n (pc := 17) X dX7_splits_17 rfl 1 rfl ?_
    obtain ⟨r7, hc9, h⟩ := bd_s h
    refine j_callI (pc := 18) X (tX3_firstOf l hE G2 0 (by decide) a1 hc9) muX3_firstOf (by decide) q525 rfl rfl (Nat.le_of_ble_eq_true rfl) ⟨Nat.le_of_ble_eq_true rfl, Nat.le_of_ble_eq_true rfl⟩ dX7_splits_18 ?_
    refine j_istore_n (pc := 21) (lv' := [(0, .ref (Ad E 20 0)), (1, .int a1), (2, .int r7)]) X dX7_splits_21 rfl (by decide) rfl ?_
    refine j_bipush (pc := 22) (v := 40) X dX7_splits_22 (by decide) ?_
    refine j_aload_n (pc := 24) X dX7_splits_24 rfl 0 rfl ?_
    refine j_get (pc := 25) (v := .ref (Ad E 16 0)) X gf_X7_40 (by decide) rfl rfl dX7_splits_25 ?_
    refine j_iload_n (pc := 28) X dX7_splits_28 rfl 1 rfl ?_
    obtain ⟨r10, hc12, h⟩ := bd_s h
    refine j_callI (pc := 29) X (tX3_lengthOf l hE G2 0 (by decide) a1 hc12) muX3_lengthOf (by decide) q529 rfl rfl (Nat.le_of_ble_eq_true rfl) ⟨Nat.le_of_ble_eq_true rfl, Nat.le_of_ble_eq_true rfl⟩ dX7_splits_29 ?_
    refine j_mmin (pc := 32) X (q542) ⟨Nat.le_of_ble_eq_true rfl, Nat.le_of_ble_eq_true rfl⟩ dX7_splits_32 ?_
    refine j_istore_n (pc := 35) (lv' := [(0, .ref (Ad E 20 0)), (1, .int a1), (2, .int r7), (3, .int (imin (40 : Int32) r10))]) X dX7_splits_35 rfl (by decide) rfl ?_
    refine j_aload_n (pc := 36) X dX7_splits_36 rfl 0 rfl ?_
    refine j_get (pc := 37) (v := .ref (Ad E 21 0)) X gf_X7_54 (by decide) rfl rfl dX7_splits_37 ?_
    refine j_iload_n (pc := 40) X dX7_splits_40 rfl 3 rfl ?_
    refine j_iconst (pc := 41) (v := 1) X dX7_splits_41 (by decide) ?_
    obtain ⟨hg13, h⟩ := gd_s h
    obtain ⟨G14, hG14, h⟩ := st3_s h
    refine j_iast (pc := 42) (n := 41) X hG14 (by decide) (fun _ => rfl) hg13 dX7_splits_42 ?_
    refine j_iload_n (pc := 43) X dX7_splits_43 rfl 3 rfl ?_
    refine j_iconst (pc := 44) (v := 1) X dX7_splits_44 (by decide) ?_
    refine j_isub (pc := 45) X dX7_splits_45 ?_
    refine j_istore (pc := 46) (lv' := [(0, .ref (Ad E 20 0)), (1, .int a1), (2, .int r7), (3, .int (imin (40 : Int32) r10)), (4, .int ((imin (40 : Int32) r10) - (1 : Int32)))]) X dX7_splits_46 (by decide) rfl ?_
    refine j_lv (lv' := [(0, .ref (Ad E 20 0)), (2, .int r7), (3, .int (imin (40 : Int32) r10)), (4, .int ((imin (40 : Int32) r10) - (1 : Int32)))]) [0, 2, 3, 4] rfl ?_
    exact tX7_splits_48 l hE X hr hk r7 (imin (40 : Int32) r10) FU G14 ((imin (40 : Int32) r10) - (1 : Int32)) h
  · rw [if_pos hc] at h
    refine j_iconst (pc := 11) (v := (-1)) X dX7_splits_11 (by decide) ?_
    exact j_ret (pc := 12) X hr hk (vp_nar_int _) (pr_s h).1 (pr_s h).2 dX7_splits_12
theorem dX7_waysUpTo_0 : decode cX7_waysUpTo 0 = .ok (.iconst 0, 1) := by decide +kernel
theorem dX7_waysUpTo_1 : decode cX7_waysUpTo 1 = .ok (.istore_n 3, 1) := by decide +kernel
theorem dX7_waysUpTo_2 : decode cX7_waysUpTo 2 = .ok (.iconst 0, 1) := by decide +kernel
theorem dX7_waysUpTo_3 : decode cX7_waysUpTo 3 = .ok (.istore 4, 2) := by decide +kernel
theorem dX7_waysUpTo_5 : decode cX7_waysUpTo 5 = .ok (.iload 4, 2) := by decide +kernel
theorem dX7_waysUpTo_7 : decode cX7_waysUpTo 7 = .ok (.aload_n 0, 1) := by decide +kernel
theorem dX7_waysUpTo_8 : decode cX7_waysUpTo 8 = .ok (.getfield 10, 3) := by decide +kernel
theorem dX7_waysUpTo_11 : decode cX7_waysUpTo 11 = .ok (.getfield 112, 3) := by decide +kernel
theorem dX7_waysUpTo_14 : decode cX7_waysUpTo 14 = .ok (.getfield 125, 3) := by decide +kernel
theorem dX7_waysUpTo_17 : decode cX7_waysUpTo 17 = .ok (.if_icmp .ge 79, 3) := by decide +kernel
theorem dX7_waysUpTo_20 : decode cX7_waysUpTo 20 = .ok (.iload_n 2, 1) := by decide +kernel
theorem dX7_waysUpTo_21 : decode cX7_waysUpTo 21 = .ok (.aload_n 0, 1) := by decide +kernel
theorem dX7_waysUpTo_22 : decode cX7_waysUpTo 22 = .ok (.getfield 10, 3) := by decide +kernel
theorem dX7_waysUpTo_25 : decode cX7_waysUpTo 25 = .ok (.getfield 112, 3) := by decide +kernel
theorem dX7_waysUpTo_28 : decode cX7_waysUpTo 28 = .ok (.iload 4, 2) := by decide +kernel
theorem dX7_waysUpTo_30 : decode cX7_waysUpTo 30 = .ok (.invokevirtual 229, 3) := by decide +kernel
theorem dX7_waysUpTo_33 : decode cX7_waysUpTo 33 = .ok (.isub, 1) := by decide +kernel
theorem dX7_waysUpTo_34 : decode cX7_waysUpTo 34 = .ok (.istore 5, 2) := by decide +kernel
theorem dX7_waysUpTo_36 : decode cX7_waysUpTo 36 = .ok (.iload 5, 2) := by decide +kernel
theorem dX7_waysUpTo_38 : decode cX7_waysUpTo 38 = .ok (.iconst 0, 1) := by decide +kernel
theorem dX7_waysUpTo_39 : decode cX7_waysUpTo 39 = .ok (.iload_n 2, 1) := by decide +kernel
theorem dX7_waysUpTo_40 : decode cX7_waysUpTo 40 = .ok (.iconst 1, 1) := by decide +kernel
theorem dX7_waysUpTo_41 : decode cX7_waysUpTo 41 = .ok (.isub, 1) := by decide +kernel
theorem dX7_waysUpTo_42 : decode cX7_waysUpTo 42 = .ok (.invokestatic 58, 3) := by decide +kernel
theorem dX7_waysUpTo_45 : decode cX7_waysUpTo 45 = .ok (.ifCond .eq 45, 3) := by decide +kernel
theorem dX7_waysUpTo_48 : decode cX7_waysUpTo 48 = .ok (.aload_n 0, 1) := by decide +kernel
theorem dX7_waysUpTo_49 : decode cX7_waysUpTo 49 = .ok (.getfield 10, 3) := by decide +kernel
theorem dX7_waysUpTo_52 : decode cX7_waysUpTo 52 = .ok (.getfield 112, 3) := by decide +kernel
theorem dX7_waysUpTo_55 : decode cX7_waysUpTo 55 = .ok (.iload 4, 2) := by decide +kernel
theorem dX7_waysUpTo_57 : decode cX7_waysUpTo 57 = .ok (.aload_n 0, 1) := by decide +kernel
theorem dX7_waysUpTo_58 : decode cX7_waysUpTo 58 = .ok (.getfield 10, 3) := by decide +kernel
theorem dX7_waysUpTo_61 : decode cX7_waysUpTo 61 = .ok (.getfield 62, 3) := by decide +kernel
theorem dX7_waysUpTo_64 : decode cX7_waysUpTo 64 = .ok (.iload_n 1, 1) := by decide +kernel
theorem dX7_waysUpTo_65 : decode cX7_waysUpTo 65 = .ok (.iload 5, 2) := by decide +kernel
theorem dX7_waysUpTo_67 : decode cX7_waysUpTo 67 = .ok (.iadd, 1) := by decide +kernel
theorem dX7_waysUpTo_68 : decode cX7_waysUpTo 68 = .ok (.invokevirtual 277, 3) := by decide +kernel
theorem dX7_waysUpTo_71 : decode cX7_waysUpTo 71 = .ok (.ifCond .eq 19, 3) := by decide +kernel
theorem dX7_waysUpTo_74 : decode cX7_waysUpTo 74 = .ok (.sipush 9999, 3) := by decide +kernel
theorem dX7_waysUpTo_77 : decode cX7_waysUpTo 77 = .ok (.iload_n 3, 1) := by decide +kernel
theorem dX7_waysUpTo_78 : decode cX7_waysUpTo 78 = .ok (.aload_n 0, 1) := by decide +kernel
theorem dX7_waysUpTo_79 : decode cX7_waysUpTo 79 = .ok (.getfield 54, 3) := by decide +kernel
theorem dX7_waysUpTo_82 : decode cX7_waysUpTo 82 = .ok (.iload 5, 2) := by decide +kernel
theorem dX7_waysUpTo_84 : decode cX7_waysUpTo 84 = .ok (.iaload, 1) := by decide +kernel
theorem dX7_waysUpTo_85 : decode cX7_waysUpTo 85 = .ok (.iadd, 1) := by decide +kernel
theorem dX7_waysUpTo_86 : decode cX7_waysUpTo 86 = .ok (.invokestatic 213, 3) := by decide +kernel
theorem dX7_waysUpTo_89 : decode cX7_waysUpTo 89 = .ok (.istore_n 3, 1) := by decide +kernel
theorem dX7_waysUpTo_90 : decode cX7_waysUpTo 90 = .ok (.iinc 4 1, 3) := by decide +kernel
theorem dX7_waysUpTo_93 : decode cX7_waysUpTo 93 = .ok (.goto (-88), 3) := by decide +kernel
theorem dX7_waysUpTo_96 : decode cX7_waysUpTo 96 = .ok (.iload_n 3, 1) := by decide +kernel
theorem dX7_waysUpTo_97 : decode cX7_waysUpTo 97 = .ok (.ireturn, 1) := by decide +kernel
set_option maxHeartbeats 4000000 in
set_option maxRecDepth 100000 in
theorem tX7_waysUpTo_5 (l : Launch) {E : ET} (hE : Aj E) {p : Program} {e : Env} {s : State} {m : MethodId} {args : Array Value} {below : List Frame} {meth : Method} {c : Code} (X : Cx p (rmL 3) s m args c yX7_waysUpTo.cls cX7_waysUpTo 6 E (Aw E) 0 0) (hr : meth.sig.returnType = (some .int)) (hk : meth.locks = false) {r : Int32} (G : GT) (a1 : Int32) (a2 : Int32) : ∀ (n : Nat) (a3 a4 : Int32), fX7_waysUpTo_5 G a1 a2 n a3 a4 = some r → J p l e (rmL 3) s m args below meth c E (Aw E) s.heap 6 0 0 (MQ below (QI E r G) args s 0 0 (Aw E)) G 5 [(0, .ref (Ad E 20 0)), (1, .int a1), (2, .int a2), (3, .int a3), (4, .int a4)] [] := by
  intro n
  induction n with
  | zero =>
    intro a3 a4 h
    simp [fX7_waysUpTo_5] at h
  | succ n ih =>
    intro a3 a4 h
    rw [fX7_waysUpTo_5] at h
    refine j_iload (pc := 5) X dX7_waysUpTo_5 4 rfl ?_
    refine j_aload_n (pc := 7) X dX7_waysUpTo_7 rfl 0 rfl ?_
    refine j_get (pc := 8) (v := .ref (Ad E 11 0)) X gf_X7_10 (by decide) rfl rfl dX7_waysUpTo_8 ?_
    refine j_get (pc := 11) (v := .ref (Ad E 3 0)) X gf_X7_112 (by decide) rfl rfl dX7_waysUpTo_11 ?_
    refine j_get (pc := 14) (v := .int (G 3 0 0)) X gf_X7_125 (by decide) rfl rfl dX7_waysUpTo_14 ?_
    refine j_icmp_ge (pc := 17) (tgt := 96) X dX7_waysUpTo_17 (by decide) (fun hc => ?_) (fun hc => ?_)
    · rw [if_pos hc] at h
      refine j_iload_n (pc := 96) X dX7_waysUpTo_96 rfl 3 rfl ?_
      exact j_ret (pc := 97) X hr hk (vp_nar_int _) (Option.some.inj h) rfl dX7_waysUpTo_97
    · rw [if_neg hc] at h
      refine j_iload_n (pc := 20) X dX7_waysUpTo_20 rfl 2 rfl ?_
      refine j_aload_n (pc := 21) X dX7_waysUpTo_21 rfl 0 rfl ?_
      refine j_get (pc := 22) (v := .ref (Ad E 11 0)) X gf_X7_10 (by decide) rfl rfl dX7_waysUpTo_22 ?_
      refine j_get (pc := 25) (v := .ref (Ad E 3 0)) X gf_X7_112 (by decide) rfl rfl dX7_waysUpTo_25 ?_
      refine j_iload (pc := 28) X dX7_waysUpTo_28 4 rfl ?_
      obtain ⟨r1, hc3, h⟩ := bd_s h
      refine j_callI (pc := 30) X (tX6_lengthOf l hE G 0 (by decide) a4 hc3) muX6_lengthOf (by decide) q547 rfl rfl (Nat.le_of_ble_eq_true rfl) ⟨Nat.le_of_ble_eq_true rfl, Nat.le_of_ble_eq_true rfl⟩ dX7_waysUpTo_30 ?_
      refine j_isub (pc := 33) X dX7_waysUpTo_33 ?_
      refine j_istore (pc := 34) (lv' := [(0, .ref (Ad E 20 0)), (1, .int a1), (2, .int a2), (3, .int a3), (4, .int a4), (5, .int (a2 - r1))]) X dX7_waysUpTo_34 (by decide) rfl ?_
      refine j_iload (pc := 36) X dX7_waysUpTo_36 5 rfl ?_
      refine j_iconst (pc := 38) (v := 0) X dX7_waysUpTo_38 (by decide) ?_
      refine j_iload_n (pc := 39) X dX7_waysUpTo_39 rfl 2 rfl ?_
      refine j_iconst (pc := 40) (v := 1) X dX7_waysUpTo_40 (by decide) ?_
      refine j_isub (pc := 41) X dX7_waysUpTo_41 ?_
      obtain ⟨r4, hc6, h⟩ := bd_s h
      refine j_staI (pc := 42) X (tX7_isWithin l hE G (a2 - r1) (0 : Int32) (a2 - (1 : Int32)) hc6) muX7_isWithin (Or.inl q240) rfl rfl (Nat.le_of_ble_eq_true rfl) ⟨Nat.le_of_ble_eq_true rfl, Nat.le_of_ble_eq_true rfl⟩ dX7_waysUpTo_42 ?_
      refine j_if_eq (pc := 45) (tgt := 90) X dX7_waysUpTo_45 (by decide) (fun hc => ?_) (fun hc => ?_)
      · rw [if_pos hc] at h
        refine j_iinc (pc := 90) (q := 4) (v := (a4 + (1 : Int32))) (lv' := [(0, .ref (Ad E 20 0)), (1, .int a1), (2, .int a2), (3, .int a3), (4, .int (a4 + (1 : Int32))), (5, .int (a2 - r1))]) X dX7_waysUpTo_90 rfl rfl (by decide) rfl ?_
        refine j_goto (pc := 93) (tgt := 5) X dX7_waysUpTo_93 (by decide) ?_
        refine j_lv (lv' := [(0, .ref (Ad E 20 0)), (1, .int a1), (2, .int a2), (3, .int a3), (4, .int (a4 + (1 : Int32)))]) [0, 1, 2, 3, 4] rfl ?_
        exact ih a3 (a4 + (1 : Int32)) h
      · rw [if_neg hc] at h
        refine j_aload_n (pc := 48) X dX7_waysUpTo_48 rfl 0 rfl ?_
        refine j_get (pc := 49) (v := .ref (Ad E 11 0)) X gf_X7_10 (by decide) rfl rfl dX7_waysUpTo_49 ?_
        refine j_get (pc := 52) (v := .ref (Ad E 3 0)) X gf_X7_112 (by decide) rfl rfl dX7_waysUpTo_52 ?_
        refine j_iload (pc := 55) X dX7_waysUpTo_55 4 rfl ?_
        refine j_aload_n (pc := 57) X dX7_waysUpTo_57 rfl 0 rfl ?_
        refine j_get (pc := 58) (v := .ref (Ad E 11 0)) X gf_X7_10 (by decide) rfl rfl dX7_waysUpTo_58 ?_
        refine j_get (pc := 61) (v := .ref (Ad E 0 0)) X gf_X7_62 (by decide) rfl rfl dX7_waysUpTo_61 ?_
        refine j_iload_n (pc := 64) X dX7_waysUpTo_64 rfl 1 rfl ?_
        refine j_iload (pc := 65) X dX7_waysUpTo_65 5 rfl ?_
        refine j_iadd (pc := 67) X dX7_waysUpTo_67 ?_
        obtain ⟨r7, hc9, h⟩ := bd_s h
        refine j_callI (pc := 68) X (tX6_standsAt l hE G 0 (by decide) a4 0 (by decide) (a1 + (a2 - r1)) hc9) muX6_standsAt (by decide) q548 rfl rfl (Nat.le_of_ble_eq_true rfl) ⟨Nat.le_of_ble_eq_true rfl, Nat.le_of_ble_eq_true rfl⟩ dX7_waysUpTo_68 ?_
        refine j_if_eq (pc := 71) (tgt := 90) X dX7_waysUpTo_71 (by decide) (fun hc => ?_) (fun hc => ?_)
        · rw [if_pos hc] at h
          refine j_iinc (pc := 90) (q := 4) (v := (a4 + (1 : Int32))) (lv' := [(0, .ref (Ad E 20 0)), (1, .int a1), (2, .int a2), (3, .int a3), (4, .int (a4 + (1 : Int32))), (5, .int (a2 - r1))]) X dX7_waysUpTo_90 rfl rfl (by decide) rfl ?_
          refine j_goto (pc := 93) (tgt := 5) X dX7_waysUpTo_93 (by decide) ?_
          refine j_lv (lv' := [(0, .ref (Ad E 20 0)), (1, .int a1), (2, .int a2), (3, .int a3), (4, .int (a4 + (1 : Int32)))]) [0, 1, 2, 3, 4] rfl ?_
          exact ih a3 (a4 + (1 : Int32)) h
        · rw [if_neg hc] at h
          refine j_sipush (pc := 74) (v := 9999) X dX7_waysUpTo_74 (by decide) ?_
          refine j_iload_n (pc := 77) X dX7_waysUpTo_77 rfl 3 rfl ?_
          refine j_aload_n (pc := 78) X dX7_waysUpTo_78 rfl 0 rfl ?_
          refine j_get (pc := 79) (v := .ref (Ad E 21 0)) X gf_X7_54 (by decide) rfl rfl dX7_waysUpTo_79 ?_
          refine j_iload (pc := 82) X dX7_waysUpTo_82 5 rfl ?_
          obtain ⟨hg10, h⟩ := gd_s h
          refine j_iald (pc := 84) (n := 41) X (by decide) rfl hg10 dX7_waysUpTo_84 ?_
          refine j_iadd (pc := 85) X dX7_waysUpTo_85 ?_
          refine j_mmin (pc := 86) X (q542) ⟨Nat.le_of_ble_eq_true rfl, Nat.le_of_ble_eq_true rfl⟩ dX7_waysUpTo_86 ?_
          refine j_istore_n (pc := 89) (lv' := [(0, .ref (Ad E 20 0)), (1, .int a1), (2, .int a2), (3, .int (imin (9999 : Int32) (a3 + (G 21 0 (a2 - r1).toNatClampNeg)))), (4, .int a4), (5, .int (a2 - r1))]) X dX7_waysUpTo_89 rfl (by decide) rfl ?_
          refine j_iinc (pc := 90) (q := 4) (v := (a4 + (1 : Int32))) (lv' := [(0, .ref (Ad E 20 0)), (1, .int a1), (2, .int a2), (3, .int (imin (9999 : Int32) (a3 + (G 21 0 (a2 - r1).toNatClampNeg)))), (4, .int (a4 + (1 : Int32))), (5, .int (a2 - r1))]) X dX7_waysUpTo_90 rfl rfl (by decide) rfl ?_
          refine j_goto (pc := 93) (tgt := 5) X dX7_waysUpTo_93 (by decide) ?_
          refine j_lv (lv' := [(0, .ref (Ad E 20 0)), (1, .int a1), (2, .int a2), (3, .int (imin (9999 : Int32) (a3 + (G 21 0 (a2 - r1).toNatClampNeg)))), (4, .int (a4 + (1 : Int32)))]) [0, 1, 2, 3, 4] rfl ?_
          exact ih (imin (9999 : Int32) (a3 + (G 21 0 (a2 - r1).toNatClampNeg))) (a4 + (1 : Int32)) h
set_option maxHeartbeats 4000000 in
set_option maxRecDepth 100000 in
theorem tX7_waysUpTo (l : Launch) {E : ET} (hE : Aj E) (G : GT) (a1 : Int32) (a2 : Int32) {r : Int32} (h : fX7_waysUpTo G a1 a2 = some r) : CI l E yX7_waysUpTo cX7_waysUpTo 6 (some .int) 3 [.ref (Ad E 20 0), .int a1, .int a2] G r G := by
  refine Met_I (lv := [(0, .ref (Ad E 20 0)), (1, .int a1), (2, .int a2)]) (by decide +kernel) hE (Nat.le_of_ble_eq_true rfl) rfl ?_
  intro p e s m args below meth c X hr hk
  unfold fX7_waysUpTo at h
  refine j_iconst (pc := 0) (v := 0) X dX7_waysUpTo_0 (by decide) ?_
  refine j_istore_n (pc := 1) (lv' := [(0, .ref (Ad E 20 0)), (1, .int a1), (2, .int a2), (3, .int (0 : Int32))]) X dX7_waysUpTo_1 rfl (by decide) rfl ?_
  refine j_iconst (pc := 2) (v := 0) X dX7_waysUpTo_2 (by decide) ?_
  refine j_istore (pc := 3) (lv' := [(0, .ref (Ad E 20 0)), (1, .int a1), (2, .int a2), (3, .int (0 : Int32)), (4, .int (0 : Int32))]) X dX7_waysUpTo_3 (by decide) rfl ?_
  exact tX7_waysUpTo_5 l hE X hr hk G a1 a2 FU (0 : Int32) (0 : Int32) h
theorem dX7_splitsBack_0 : decode cX7_splitsBack 0 = .ok (.aload_n 0, 1) := by decide +kernel
theorem dX7_splitsBack_1 : decode cX7_splitsBack 1 = .ok (.invokevirtual 80, 3) := by decide +kernel
theorem dX7_splitsBack_4 : decode cX7_splitsBack 4 = .ok (.iload_n 1, 1) := by decide +kernel
theorem dX7_splitsBack_5 : decode cX7_splitsBack 5 = .ok (.invokevirtual 200, 3) := by decide +kernel
theorem dX7_splitsBack_8 : decode cX7_splitsBack 8 = .ok (.ifCond .ne 5, 3) := by decide +kernel
theorem dX7_splitsBack_11 : decode cX7_splitsBack 11 = .ok (.iconst (-1), 1) := by decide +kernel
theorem dX7_splitsBack_12 : decode cX7_splitsBack 12 = .ok (.ireturn, 1) := by decide +kernel
theorem dX7_splitsBack_13 : decode cX7_splitsBack 13 = .ok (.aload_n 0, 1) := by decide +kernel
theorem dX7_splitsBack_14 : decode cX7_splitsBack 14 = .ok (.getfield 40, 3) := by decide +kernel
theorem dX7_splitsBack_17 : decode cX7_splitsBack 17 = .ok (.iload_n 1, 1) := by decide +kernel
theorem dX7_splitsBack_18 : decode cX7_splitsBack 18 = .ok (.invokevirtual 201, 3) := by decide +kernel
theorem dX7_splitsBack_21 : decode cX7_splitsBack 21 = .ok (.istore_n 2, 1) := by decide +kernel
theorem dX7_splitsBack_22 : decode cX7_splitsBack 22 = .ok (.bipush 40, 2) := by decide +kernel
theorem dX7_splitsBack_24 : decode cX7_splitsBack 24 = .ok (.aload_n 0, 1) := by decide +kernel
theorem dX7_splitsBack_25 : decode cX7_splitsBack 25 = .ok (.getfield 40, 3) := by decide +kernel
theorem dX7_splitsBack_28 : decode cX7_splitsBack 28 = .ok (.iload_n 1, 1) := by decide +kernel
theorem dX7_splitsBack_29 : decode cX7_splitsBack 29 = .ok (.invokevirtual 204, 3) := by decide +kernel
theorem dX7_splitsBack_32 : decode cX7_splitsBack 32 = .ok (.invokestatic 213, 3) := by decide +kernel
theorem dX7_splitsBack_35 : decode cX7_splitsBack 35 = .ok (.istore_n 3, 1) := by decide +kernel
theorem dX7_splitsBack_36 : decode cX7_splitsBack 36 = .ok (.aload_n 0, 1) := by decide +kernel
theorem dX7_splitsBack_37 : decode cX7_splitsBack 37 = .ok (.getfield 54, 3) := by decide +kernel
theorem dX7_splitsBack_40 : decode cX7_splitsBack 40 = .ok (.iconst 0, 1) := by decide +kernel
theorem dX7_splitsBack_41 : decode cX7_splitsBack 41 = .ok (.iconst 1, 1) := by decide +kernel
theorem dX7_splitsBack_42 : decode cX7_splitsBack 42 = .ok (.iastore, 1) := by decide +kernel
theorem dX7_splitsBack_43 : decode cX7_splitsBack 43 = .ok (.iconst 1, 1) := by decide +kernel
theorem dX7_splitsBack_44 : decode cX7_splitsBack 44 = .ok (.istore 4, 2) := by decide +kernel
theorem dX7_splitsBack_46 : decode cX7_splitsBack 46 = .ok (.iload 4, 2) := by decide +kernel
theorem dX7_splitsBack_48 : decode cX7_splitsBack 48 = .ok (.iload_n 3, 1) := by decide +kernel
theorem dX7_splitsBack_49 : decode cX7_splitsBack 49 = .ok (.if_icmp .gt 23, 3) := by decide +kernel
theorem dX7_splitsBack_52 : decode cX7_splitsBack 52 = .ok (.aload_n 0, 1) := by decide +kernel
theorem dX7_splitsBack_53 : decode cX7_splitsBack 53 = .ok (.getfield 54, 3) := by decide +kernel
theorem dX7_splitsBack_56 : decode cX7_splitsBack 56 = .ok (.iload 4, 2) := by decide +kernel
theorem dX7_splitsBack_58 : decode cX7_splitsBack 58 = .ok (.aload_n 0, 1) := by decide +kernel
theorem dX7_splitsBack_59 : decode cX7_splitsBack 59 = .ok (.iload_n 2, 1) := by decide +kernel
theorem dX7_splitsBack_60 : decode cX7_splitsBack 60 = .ok (.iload 4, 2) := by decide +kernel
theorem dX7_splitsBack_62 : decode cX7_splitsBack 62 = .ok (.invokevirtual 222, 3) := by decide +kernel
theorem dX7_splitsBack_65 : decode cX7_splitsBack 65 = .ok (.iastore, 1) := by decide +kernel
theorem dX7_splitsBack_66 : decode cX7_splitsBack 66 = .ok (.iinc 4 1, 3) := by decide +kernel
theorem dX7_splitsBack_69 : decode cX7_splitsBack 69 = .ok (.goto (-23), 3) := by decide +kernel
theorem dX7_splitsBack_72 : decode cX7_splitsBack 72 = .ok (.aload_n 0, 1) := by decide +kernel
theorem dX7_splitsBack_73 : decode cX7_splitsBack 73 = .ok (.getfield 54, 3) := by decide +kernel
theorem dX7_splitsBack_76 : decode cX7_splitsBack 76 = .ok (.iload_n 3, 1) := by decide +kernel
theorem dX7_splitsBack_77 : decode cX7_splitsBack 77 = .ok (.iaload, 1) := by decide +kernel
theorem dX7_splitsBack_78 : decode cX7_splitsBack 78 = .ok (.ireturn, 1) := by decide +kernel
set_option maxHeartbeats 4000000 in
set_option maxRecDepth 100000 in
theorem tX7_splitsBack_46 (l : Launch) {E : ET} (hE : Aj E) {p : Program} {e : Env} {s : State} {m : MethodId} {args : Array Value} {below : List Frame} {meth : Method} {c : Code} (X : Cx p (rmL 6) s m args c yX7_splitsBack.cls cX7_splitsBack 5 E (Aw E) 0 0) (hr : meth.sig.returnType = (some .int)) (hk : meth.locks = false) {r : Int32} {G' : GT} (a2 : Int32) (a3 : Int32) : ∀ (n : Nat) (G : GT) (a4 : Int32), fX7_splitsBack_46 a2 a3 n G a4 = some (r, G') → J p l e (rmL 6) s m args below meth c E (Aw E) s.heap 5 0 0 (MQ below (QI E r G') args s 0 0 (Aw E)) G 46 [(0, .ref (Ad E 20 0)), (2, .int a2), (3, .int a3), (4, .int a4)] [] := by
  intro n
  induction n with
  | zero =>
    intro G a4 h
    simp [fX7_splitsBack_46] at h
  | succ n ih =>
    intro G a4 h
    rw [fX7_splitsBack_46] at h
    refine j_iload (pc := 46) X dX7_splitsBack_46 3 rfl ?_
    refine j_iload_n (pc := 48) X dX7_splitsBack_48 rfl 2 rfl ?_
    refine j_icmp_gt (pc := 49) (tgt := 72) X dX7_splitsBack_49 (by decide) (fun hc => ?_) (fun hc => ?_)
    · rw [if_pos hc] at h
      refine j_aload_n (pc := 72) X dX7_splitsBack_72 rfl 0 rfl ?_
      refine j_get (pc := 73) (v := .ref (Ad E 21 0)) X gf_X7_54 (by decide) rfl rfl dX7_splitsBack_73 ?_
      refine j_iload_n (pc := 76) X dX7_splitsBack_76 rfl 2 rfl ?_
      obtain ⟨hg1, h⟩ := gd_s h
      refine j_iald (pc := 77) (n := 41) X (by decide) rfl hg1 dX7_splitsBack_77 ?_
      exact j_ret (pc := 78) X hr hk (vp_nar_int _) (pr_s h).1 (pr_s h).2 dX7_splitsBack_78
    · rw [if_neg hc] at h
      refine j_aload_n (pc := 52) X dX7_splitsBack_52 rfl 0 rfl ?_
      refine j_get (pc := 53) (v := .ref (Ad E 21 0)) X gf_X7_54 (by decide) rfl rfl dX7_splitsBack_53 ?_
      refine j_iload (pc := 56) X dX7_splitsBack_56 3 rfl ?_
      refine j_aload_n (pc := 58) X dX7_splitsBack_58 rfl 0 rfl ?_
      refine j_iload_n (pc := 59) X dX7_splitsBack_59 rfl 1 rfl ?_
      refine j_iload (pc := 60) X dX7_splitsBack_60 3 rfl ?_
      obtain ⟨r2, hc4, h⟩ := bd_s h
      refine j_callI (pc := 62) X (tX7_waysUpTo l hE G a2 a4 hc4) muX7_waysUpTo (by decide) q553 rfl rfl (Nat.le_of_ble_eq_true rfl) ⟨Nat.le_of_ble_eq_true rfl, Nat.le_of_ble_eq_true rfl⟩ dX7_splitsBack_62 ?_
      obtain ⟨hg5, h⟩ := gd_s h
      obtain ⟨G6, hG6, h⟩ := st3_s h
      refine j_iast (pc := 65) (n := 41) X hG6 (by decide) (fun _ => rfl) hg5 dX7_splitsBack_65 ?_
      refine j_iinc (pc := 66) (q := 3) (v := (a4 + (1 : Int32))) (lv' := [(0, .ref (Ad E 20 0)), (2, .int a2), (3, .int a3), (4, .int (a4 + (1 : Int32)))]) X dX7_splitsBack_66 rfl rfl (by decide) rfl ?_
      refine j_goto (pc := 69) (tgt := 46) X dX7_splitsBack_69 (by decide) ?_
      exact ih G6 (a4 + (1 : Int32)) h
set_option maxHeartbeats 4000000 in
set_option maxRecDepth 100000 in
theorem tX7_splitsBack (l : Launch) {E : ET} (hE : Aj E) (G : GT) (a1 : Int32) {r : Int32} {G' : GT} (h : fX7_splitsBack G a1 = some (r, G')) : CI l E yX7_splitsBack cX7_splitsBack 5 (some .int) 6 [.ref (Ad E 20 0), .int a1] G r G' := by
  refine Met_I (lv := [(0, .ref (Ad E 20 0)), (1, .int a1)]) (by decide +kernel) hE (Nat.le_of_ble_eq_true rfl) rfl ?_
  intro p e s m args below meth c X hr hk
  unfold fX7_splitsBack at h
  refine j_aload_n (pc := 0) X dX7_splitsBack_0 rfl 0 rfl ?_
  obtain ⟨G2, hc3, h⟩ := bd_s h
  refine j_callR (pc := 1) X (tX7_readRuns l hE G  hc3) muX7_readRuns (by decide) q280 rfl rfl (Nat.le_of_ble_eq_true rfl) ⟨Nat.le_of_ble_eq_true rfl, Nat.le_of_ble_eq_true rfl⟩ dX7_splitsBack_1 ?_
  refine j_iload_n (pc := 4) X dX7_splitsBack_4 rfl 1 rfl ?_
  obtain ⟨r4, hc6, h⟩ := bd_s h
  refine j_callI (pc := 5) X (tX3_has l hE G2 0 (by decide) a1 hc6) muX3_has (by decide) q524 rfl rfl (Nat.le_of_ble_eq_true rfl) ⟨Nat.le_of_ble_eq_true rfl, Nat.le_of_ble_eq_true rfl⟩ dX7_splitsBack_5 ?_
  refine j_if_ne (pc := 8) (tgt := 13) X dX7_splitsBack_8 (by decide) (fun hc => ?_) (fun hc => ?_)
  · rw [if_neg hc] at h
    refine j_aload_n (pc := 13) X dX7_splitsBack_13 rfl 0 rfl ?_
    refine j_get (pc := 14) (v := .ref (Ad E 16 0)) X gf_X7_40 (by decide) rfl rfl dX7_splitsBack_14 ?_
    refine j_iload_n (pc := 17) X dX7_splitsBack_17 rfl 1 rfl ?_
    obtain ⟨r7, hc9, h⟩ := bd_s h
    refine j_callI (pc := 18) X (tX3_firstOf l hE G2 0 (by decide) a1 hc9) muX3_firstOf (by decide) q525 rfl rfl (Nat.le_of_ble_eq_true rfl) ⟨Nat.le_of_ble_eq_true rfl, Nat.le_of_ble_eq_true rfl⟩ dX7_splitsBack_18 ?_
    refine j_istore_n (pc := 21) (lv' := [(0, .ref (Ad E 20 0)), (1, .int a1), (2, .int r7)]) X dX7_splitsBack_21 rfl (by decide) rfl ?_
    refine j_bipush (pc := 22) (v := 40) X dX7_splitsBack_22 (by decide) ?_
    refine j_aload_n (pc := 24) X dX7_splitsBack_24 rfl 0 rfl ?_
    refine j_get (pc := 25) (v := .ref (Ad E 16 0)) X gf_X7_40 (by decide) rfl rfl dX7_splitsBack_25 ?_
    refine j_iload_n (pc := 28) X dX7_splitsBack_28 rfl 1 rfl ?_
    obtain ⟨r10, hc12, h⟩ := bd_s h
    refine j_callI (pc := 29) X (tX3_lengthOf l hE G2 0 (by decide) a1 hc12) muX3_lengthOf (by decide) q529 rfl rfl (Nat.le_of_ble_eq_true rfl) ⟨Nat.le_of_ble_eq_true rfl, Nat.le_of_ble_eq_true rfl⟩ dX7_splitsBack_29 ?_
    refine j_mmin (pc := 32) X (q542) ⟨Nat.le_of_ble_eq_true rfl, Nat.le_of_ble_eq_true rfl⟩ dX7_splitsBack_32 ?_
    refine j_istore_n (pc := 35) (lv' := [(0, .ref (Ad E 20 0)), (1, .int a1), (2, .int r7), (3, .int (imin (40 : Int32) r10))]) X dX7_splitsBack_35 rfl (by decide) rfl ?_
    refine j_aload_n (pc := 36) X dX7_splitsBack_36 rfl 0 rfl ?_
    refine j_get (pc := 37) (v := .ref (Ad E 21 0)) X gf_X7_54 (by decide) rfl rfl dX7_splitsBack_37 ?_
    refine j_iconst (pc := 40) (v := 0) X dX7_splitsBack_40 (by decide) ?_
    refine j_iconst (pc := 41) (v := 1) X dX7_splitsBack_41 (by decide) ?_
    obtain ⟨hg13, h⟩ := gd_s h
    obtain ⟨G14, hG14, h⟩ := st3_s h
    refine j_iast (pc := 42) (n := 41) X hG14 (by decide) (fun _ => rfl) hg13 dX7_splitsBack_42 ?_
    refine j_iconst (pc := 43) (v := 1) X dX7_splitsBack_43 (by decide) ?_
    refine j_istore (pc := 44) (lv' := [(0, .ref (Ad E 20 0)), (1, .int a1), (2, .int r7), (3, .int (imin (40 : Int32) r10)), (4, .int (1 : Int32))]) X dX7_splitsBack_44 (by decide) rfl ?_
    refine j_lv (lv' := [(0, .ref (Ad E 20 0)), (2, .int r7), (3, .int (imin (40 : Int32) r10)), (4, .int (1 : Int32))]) [0, 2, 3, 4] rfl ?_
    exact tX7_splitsBack_46 l hE X hr hk r7 (imin (40 : Int32) r10) FU G14 (1 : Int32) h
  · rw [if_pos hc] at h
    refine j_iconst (pc := 11) (v := (-1)) X dX7_splitsBack_11 (by decide) ?_
    exact j_ret (pc := 12) X hr hk (vp_nar_int _) (pr_s h).1 (pr_s h).2 dX7_splitsBack_12
theorem dX7_nearest_0 : decode cX7_nearest 0 = .ok (.aload_n 0, 1) := by decide +kernel
theorem dX7_nearest_1 : decode cX7_nearest 1 = .ok (.invokevirtual 80, 3) := by decide +kernel
theorem dX7_nearest_4 : decode cX7_nearest 4 = .ok (.iload_n 1, 1) := by decide +kernel
theorem dX7_nearest_5 : decode cX7_nearest 5 = .ok (.invokevirtual 200, 3) := by decide +kernel
theorem dX7_nearest_8 : decode cX7_nearest 8 = .ok (.ifCond .ne 5, 3) := by decide +kernel
theorem dX7_nearest_11 : decode cX7_nearest 11 = .ok (.iconst (-1), 1) := by decide +kernel
theorem dX7_nearest_12 : decode cX7_nearest 12 = .ok (.ireturn, 1) := by decide +kernel
theorem dX7_nearest_13 : decode cX7_nearest 13 = .ok (.iload_n 2, 1) := by decide +kernel
theorem dX7_nearest_14 : decode cX7_nearest 14 = .ok (.iconst 0, 1) := by decide +kernel
theorem dX7_nearest_15 : decode cX7_nearest 15 = .ok (.iconst 1, 1) := by decide +kernel
theorem dX7_nearest_16 : decode cX7_nearest 16 = .ok (.invokestatic 58, 3) := by decide +kernel
theorem dX7_nearest_19 : decode cX7_nearest 19 = .ok (.ifCond .ne 6, 3) := by decide +kernel
theorem dX7_nearest_22 : decode cX7_nearest 22 = .ok (.bipush (-2), 2) := by decide +kernel
theorem dX7_nearest_24 : decode cX7_nearest 24 = .ok (.ireturn, 1) := by decide +kernel
theorem dX7_nearest_25 : decode cX7_nearest 25 = .ok (.bipush (-5), 2) := by decide +kernel
theorem dX7_nearest_27 : decode cX7_nearest 27 = .ok (.istore_n 3, 1) := by decide +kernel
theorem dX7_nearest_28 : decode cX7_nearest 28 = .ok (.bipush (-5), 2) := by decide +kernel
theorem dX7_nearest_30 : decode cX7_nearest 30 = .ok (.istore 4, 2) := by decide +kernel
theorem dX7_nearest_32 : decode cX7_nearest 32 = .ok (.iconst 0, 1) := by decide +kernel
theorem dX7_nearest_33 : decode cX7_nearest 33 = .ok (.istore 5, 2) := by decide +kernel
theorem dX7_nearest_35 : decode cX7_nearest 35 = .ok (.iload 5, 2) := by decide +kernel
theorem dX7_nearest_37 : decode cX7_nearest 37 = .ok (.aload_n 0, 1) := by decide +kernel
theorem dX7_nearest_38 : decode cX7_nearest 38 = .ok (.getfield 10, 3) := by decide +kernel
theorem dX7_nearest_41 : decode cX7_nearest 41 = .ok (.getfield 112, 3) := by decide +kernel
theorem dX7_nearest_44 : decode cX7_nearest 44 = .ok (.getfield 125, 3) := by decide +kernel
theorem dX7_nearest_47 : decode cX7_nearest 47 = .ok (.if_icmp .ge 66, 3) := by decide +kernel
theorem dX7_nearest_50 : decode cX7_nearest 50 = .ok (.aload_n 0, 1) := by decide +kernel
theorem dX7_nearest_51 : decode cX7_nearest 51 = .ok (.getfield 10, 3) := by decide +kernel
theorem dX7_nearest_54 : decode cX7_nearest 54 = .ok (.getfield 112, 3) := by decide +kernel
theorem dX7_nearest_57 : decode cX7_nearest 57 = .ok (.iload 5, 2) := by decide +kernel
theorem dX7_nearest_59 : decode cX7_nearest 59 = .ok (.aload_n 0, 1) := by decide +kernel
theorem dX7_nearest_60 : decode cX7_nearest 60 = .ok (.getfield 10, 3) := by decide +kernel
theorem dX7_nearest_63 : decode cX7_nearest 63 = .ok (.getfield 62, 3) := by decide +kernel
theorem dX7_nearest_66 : decode cX7_nearest 66 = .ok (.aload_n 0, 1) := by decide +kernel
theorem dX7_nearest_67 : decode cX7_nearest 67 = .ok (.getfield 40, 3) := by decide +kernel
theorem dX7_nearest_70 : decode cX7_nearest 70 = .ok (.iload_n 1, 1) := by decide +kernel
theorem dX7_nearest_71 : decode cX7_nearest 71 = .ok (.invokevirtual 201, 3) := by decide +kernel
theorem dX7_nearest_74 : decode cX7_nearest 74 = .ok (.aload_n 0, 1) := by decide +kernel
theorem dX7_nearest_75 : decode cX7_nearest 75 = .ok (.getfield 40, 3) := by decide +kernel
theorem dX7_nearest_78 : decode cX7_nearest 78 = .ok (.iload_n 1, 1) := by decide +kernel
theorem dX7_nearest_79 : decode cX7_nearest 79 = .ok (.invokevirtual 204, 3) := by decide +kernel
theorem dX7_nearest_82 : decode cX7_nearest 82 = .ok (.invokevirtual 225, 3) := by decide +kernel
theorem dX7_nearest_85 : decode cX7_nearest 85 = .ok (.istore 6, 2) := by decide +kernel
theorem dX7_nearest_87 : decode cX7_nearest 87 = .ok (.iload_n 3, 1) := by decide +kernel
theorem dX7_nearest_88 : decode cX7_nearest 88 = .ok (.bipush (-5), 2) := by decide +kernel
theorem dX7_nearest_90 : decode cX7_nearest 90 = .ok (.if_icmp .eq 10, 3) := by decide +kernel
theorem dX7_nearest_93 : decode cX7_nearest 93 = .ok (.iload 6, 2) := by decide +kernel
theorem dX7_nearest_95 : decode cX7_nearest 95 = .ok (.iload 4, 2) := by decide +kernel
theorem dX7_nearest_97 : decode cX7_nearest 97 = .ok (.if_icmp .ge 10, 3) := by decide +kernel
theorem dX7_nearest_100 : decode cX7_nearest 100 = .ok (.iload 5, 2) := by decide +kernel
theorem dX7_nearest_102 : decode cX7_nearest 102 = .ok (.istore_n 3, 1) := by decide +kernel
theorem dX7_nearest_103 : decode cX7_nearest 103 = .ok (.iload 6, 2) := by decide +kernel
theorem dX7_nearest_105 : decode cX7_nearest 105 = .ok (.istore 4, 2) := by decide +kernel
theorem dX7_nearest_107 : decode cX7_nearest 107 = .ok (.iinc 5 1, 3) := by decide +kernel
theorem dX7_nearest_110 : decode cX7_nearest 110 = .ok (.goto (-75), 3) := by decide +kernel
theorem dX7_nearest_113 : decode cX7_nearest 113 = .ok (.iload_n 2, 1) := by decide +kernel
theorem dX7_nearest_114 : decode cX7_nearest 114 = .ok (.ifCond .ne 7, 3) := by decide +kernel
theorem dX7_nearest_117 : decode cX7_nearest 117 = .ok (.iload_n 3, 1) := by decide +kernel
theorem dX7_nearest_118 : decode cX7_nearest 118 = .ok (.goto 5, 3) := by decide +kernel
theorem dX7_nearest_121 : decode cX7_nearest 121 = .ok (.iload 4, 2) := by decide +kernel
theorem dX7_nearest_123 : decode cX7_nearest 123 = .ok (.ireturn, 1) := by decide +kernel
set_option maxHeartbeats 4000000 in
set_option maxRecDepth 100000 in
theorem tX7_nearest_35 (l : Launch) {E : ET} (hE : Aj E) {p : Program} {e : Env} {s : State} {m : MethodId} {args : Array Value} {below : List Frame} {meth : Method} {c : Code} (X : Cx p (rmL 6) s m args c yX7_nearest.cls cX7_nearest 7 E (Aw E) 0 0) (hr : meth.sig.returnType = (some .int)) (hk : meth.locks = false) {r : Int32} {G' : GT} (G : GT) (a1 : Int32) (a2 : Int32) : ∀ (n : Nat) (a3 a4 a5 : Int32), fX7_nearest_35 G a1 a2 n a3 a4 a5 = some (r, G') → J p l e (rmL 6) s m args below meth c E (Aw E) s.heap 7 0 0 (MQ below (QI E r G') args s 0 0 (Aw E)) G 35 [(0, .ref (Ad E 20 0)), (1, .int a1), (2, .int a2), (3, .int a3), (4, .int a4), (5, .int a5)] [] := by
  intro n
  induction n with
  | zero =>
    intro a3 a4 a5 h
    simp [fX7_nearest_35] at h
  | succ n ih =>
    intro a3 a4 a5 h
    rw [fX7_nearest_35] at h
    refine j_iload (pc := 35) X dX7_nearest_35 5 rfl ?_
    refine j_aload_n (pc := 37) X dX7_nearest_37 rfl 0 rfl ?_
    refine j_get (pc := 38) (v := .ref (Ad E 11 0)) X gf_X7_10 (by decide) rfl rfl dX7_nearest_38 ?_
    refine j_get (pc := 41) (v := .ref (Ad E 3 0)) X gf_X7_112 (by decide) rfl rfl dX7_nearest_41 ?_
    refine j_get (pc := 44) (v := .int (G 3 0 0)) X gf_X7_125 (by decide) rfl rfl dX7_nearest_44 ?_
    refine j_icmp_ge (pc := 47) (tgt := 113) X dX7_nearest_47 (by decide) (fun hc => ?_) (fun hc => ?_)
    · rw [if_pos hc] at h
      refine j_iload_n (pc := 113) X dX7_nearest_113 rfl 2 rfl ?_
      refine j_if_ne (pc := 114) (tgt := 121) X dX7_nearest_114 (by decide) (fun hc => ?_) (fun hc => ?_)
      · rw [if_neg hc] at h
        refine j_iload (pc := 121) X dX7_nearest_121 4 rfl ?_
        exact j_ret (pc := 123) X hr hk (vp_nar_int _) (pr_s h).1 (pr_s h).2 dX7_nearest_123
      · rw [if_pos hc] at h
        refine j_iload_n (pc := 117) X dX7_nearest_117 rfl 3 rfl ?_
        refine j_goto (pc := 118) (tgt := 123) X dX7_nearest_118 (by decide) ?_
        exact j_ret (pc := 123) X hr hk (vp_nar_int _) (pr_s h).1 (pr_s h).2 dX7_nearest_123
    · rw [if_neg hc] at h
      refine j_aload_n (pc := 50) X dX7_nearest_50 rfl 0 rfl ?_
      refine j_get (pc := 51) (v := .ref (Ad E 11 0)) X gf_X7_10 (by decide) rfl rfl dX7_nearest_51 ?_
      refine j_get (pc := 54) (v := .ref (Ad E 3 0)) X gf_X7_112 (by decide) rfl rfl dX7_nearest_54 ?_
      refine j_iload (pc := 57) X dX7_nearest_57 5 rfl ?_
      refine j_aload_n (pc := 59) X dX7_nearest_59 rfl 0 rfl ?_
      refine j_get (pc := 60) (v := .ref (Ad E 11 0)) X gf_X7_10 (by decide) rfl rfl dX7_nearest_60 ?_
      refine j_get (pc := 63) (v := .ref (Ad E 0 0)) X gf_X7_62 (by decide) rfl rfl dX7_nearest_63 ?_
      refine j_aload_n (pc := 66) X dX7_nearest_66 rfl 0 rfl ?_
      refine j_get (pc := 67) (v := .ref (Ad E 16 0)) X gf_X7_40 (by decide) rfl rfl dX7_nearest_67 ?_
      refine j_iload_n (pc := 70) X dX7_nearest_70 rfl 1 rfl ?_
      obtain ⟨r1, hc3, h⟩ := bd_s h
      refine j_callI (pc := 71) X (tX3_firstOf l hE G 0 (by decide) a1 hc3) muX3_firstOf (by decide) q525 rfl rfl (Nat.le_of_ble_eq_true rfl) ⟨Nat.le_of_ble_eq_true rfl, Nat.le_of_ble_eq_true rfl⟩ dX7_nearest_71 ?_
      refine j_aload_n (pc := 74) X dX7_nearest_74 rfl 0 rfl ?_
      refine j_get (pc := 75) (v := .ref (Ad E 16 0)) X gf_X7_40 (by decide) rfl rfl dX7_nearest_75 ?_
      refine j_iload_n (pc := 78) X dX7_nearest_78 rfl 1 rfl ?_
      obtain ⟨r4, hc6, h⟩ := bd_s h
      refine j_callI (pc := 79) X (tX3_lengthOf l hE G 0 (by decide) a1 hc6) muX3_lengthOf (by decide) q529 rfl rfl (Nat.le_of_ble_eq_true rfl) ⟨Nat.le_of_ble_eq_true rfl, Nat.le_of_ble_eq_true rfl⟩ dX7_nearest_79 ?_
      obtain ⟨r7, hc9, h⟩ := bd_s h
      refine j_callI (pc := 82) X (tX6_differing l hE G 0 (by decide) a5 0 (by decide) r1 r4 hc9) muX6_differing (by decide) q561 rfl rfl (Nat.le_of_ble_eq_true rfl) ⟨Nat.le_of_ble_eq_true rfl, Nat.le_of_ble_eq_true rfl⟩ dX7_nearest_82 ?_
      refine j_istore (pc := 85) (lv' := [(0, .ref (Ad E 20 0)), (1, .int a1), (2, .int a2), (3, .int a3), (4, .int a4), (5, .int a5), (6, .int r7)]) X dX7_nearest_85 (by decide) rfl ?_
      refine j_iload_n (pc := 87) X dX7_nearest_87 rfl 3 rfl ?_
      refine j_bipush (pc := 88) (v := (-5)) X dX7_nearest_88 (by decide) ?_
      refine j_icmp_eq (pc := 90) (tgt := 100) X dX7_nearest_90 (by decide) (fun hc => ?_) (fun hc => ?_)
      · rw [if_pos hc] at h
        refine j_iload (pc := 100) X dX7_nearest_100 5 rfl ?_
        refine j_istore_n (pc := 102) (lv' := [(0, .ref (Ad E 20 0)), (1, .int a1), (2, .int a2), (3, .int a5), (4, .int a4), (5, .int a5), (6, .int r7)]) X dX7_nearest_102 rfl (by decide) rfl ?_
        refine j_iload (pc := 103) X dX7_nearest_103 6 rfl ?_
        refine j_istore (pc := 105) (lv' := [(0, .ref (Ad E 20 0)), (1, .int a1), (2, .int a2), (3, .int a5), (4, .int r7), (5, .int a5), (6, .int r7)]) X dX7_nearest_105 (by decide) rfl ?_
        refine j_iinc (pc := 107) (q := 5) (v := (a5 + (1 : Int32))) (lv' := [(0, .ref (Ad E 20 0)), (1, .int a1), (2, .int a2), (3, .int a5), (4, .int r7), (5, .int (a5 + (1 : Int32))), (6, .int r7)]) X dX7_nearest_107 rfl rfl (by decide) rfl ?_
        refine j_goto (pc := 110) (tgt := 35) X dX7_nearest_110 (by decide) ?_
        refine j_lv (lv' := [(0, .ref (Ad E 20 0)), (1, .int a1), (2, .int a2), (3, .int a5), (4, .int r7), (5, .int (a5 + (1 : Int32)))]) [0, 1, 2, 3, 4, 5] rfl ?_
        exact ih a5 r7 (a5 + (1 : Int32)) h
      · rw [if_neg hc] at h
        refine j_iload (pc := 93) X dX7_nearest_93 6 rfl ?_
        refine j_iload (pc := 95) X dX7_nearest_95 4 rfl ?_
        refine j_icmp_ge (pc := 97) (tgt := 107) X dX7_nearest_97 (by decide) (fun hc => ?_) (fun hc => ?_)
        · rw [if_pos hc] at h
          refine j_iinc (pc := 107) (q := 5) (v := (a5 + (1 : Int32))) (lv' := [(0, .ref (Ad E 20 0)), (1, .int a1), (2, .int a2), (3, .int a3), (4, .int a4), (5, .int (a5 + (1 : Int32))), (6, .int r7)]) X dX7_nearest_107 rfl rfl (by decide) rfl ?_
          refine j_goto (pc := 110) (tgt := 35) X dX7_nearest_110 (by decide) ?_
          refine j_lv (lv' := [(0, .ref (Ad E 20 0)), (1, .int a1), (2, .int a2), (3, .int a3), (4, .int a4), (5, .int (a5 + (1 : Int32)))]) [0, 1, 2, 3, 4, 5] rfl ?_
          exact ih a3 a4 (a5 + (1 : Int32)) h
        · rw [if_neg hc] at h
          refine j_iload (pc := 100) X dX7_nearest_100 5 rfl ?_
          refine j_istore_n (pc := 102) (lv' := [(0, .ref (Ad E 20 0)), (1, .int a1), (2, .int a2), (3, .int a5), (4, .int a4), (5, .int a5), (6, .int r7)]) X dX7_nearest_102 rfl (by decide) rfl ?_
          refine j_iload (pc := 103) X dX7_nearest_103 6 rfl ?_
          refine j_istore (pc := 105) (lv' := [(0, .ref (Ad E 20 0)), (1, .int a1), (2, .int a2), (3, .int a5), (4, .int r7), (5, .int a5), (6, .int r7)]) X dX7_nearest_105 (by decide) rfl ?_
          refine j_iinc (pc := 107) (q := 5) (v := (a5 + (1 : Int32))) (lv' := [(0, .ref (Ad E 20 0)), (1, .int a1), (2, .int a2), (3, .int a5), (4, .int r7), (5, .int (a5 + (1 : Int32))), (6, .int r7)]) X dX7_nearest_107 rfl rfl (by decide) rfl ?_
          refine j_goto (pc := 110) (tgt := 35) X dX7_nearest_110 (by decide) ?_
          refine j_lv (lv' := [(0, .ref (Ad E 20 0)), (1, .int a1), (2, .int a2), (3, .int a5), (4, .int r7), (5, .int (a5 + (1 : Int32)))]) [0, 1, 2, 3, 4, 5] rfl ?_
          exact ih a5 r7 (a5 + (1 : Int32)) h
set_option maxHeartbeats 4000000 in
set_option maxRecDepth 100000 in
theorem tX7_nearest (l : Launch) {E : ET} (hE : Aj E) (G : GT) (a1 : Int32) (a2 : Int32) {r : Int32} {G' : GT} (h : fX7_nearest G a1 a2 = some (r, G')) : CI l E yX7_nearest cX7_nearest 7 (some .int) 6 [.ref (Ad E 20 0), .int a1, .int a2] G r G' := by
  refine Met_I (lv := [(0, .ref (Ad E 20 0)), (1, .int a1), (2, .int a2)]) (by decide +kernel) hE (Nat.le_of_ble_eq_true rfl) rfl ?_
  intro p e s m args below meth c X hr hk
  unfold fX7_nearest at h
  refine j_aload_n (pc := 0) X dX7_nearest_0 rfl 0 rfl ?_
  obtain ⟨G2, hc3, h⟩ := bd_s h
  refine j_callR (pc := 1) X (tX7_readRuns l hE G  hc3) muX7_readRuns (by decide) q280 rfl rfl (Nat.le_of_ble_eq_true rfl) ⟨Nat.le_of_ble_eq_true rfl, Nat.le_of_ble_eq_true rfl⟩ dX7_nearest_1 ?_
  refine j_iload_n (pc := 4) X dX7_nearest_4 rfl 1 rfl ?_
  obtain ⟨r4, hc6, h⟩ := bd_s h
  refine j_callI (pc := 5) X (tX3_has l hE G2 0 (by decide) a1 hc6) muX3_has (by decide) q524 rfl rfl (Nat.le_of_ble_eq_true rfl) ⟨Nat.le_of_ble_eq_true rfl, Nat.le_of_ble_eq_true rfl⟩ dX7_nearest_5 ?_
  refine j_if_ne (pc := 8) (tgt := 13) X dX7_nearest_8 (by decide) (fun hc => ?_) (fun hc => ?_)
  · rw [if_neg hc] at h
    refine j_iload_n (pc := 13) X dX7_nearest_13 rfl 2 rfl ?_
    refine j_iconst (pc := 14) (v := 0) X dX7_nearest_14 (by decide) ?_
    refine j_iconst (pc := 15) (v := 1) X dX7_nearest_15 (by decide) ?_
    obtain ⟨r7, hc9, h⟩ := bd_s h
    refine j_staI (pc := 16) X (tX7_isWithin l hE G2 a2 (0 : Int32) (1 : Int32) hc9) muX7_isWithin (Or.inl q240) rfl rfl (Nat.le_of_ble_eq_true rfl) ⟨Nat.le_of_ble_eq_true rfl, Nat.le_of_ble_eq_true rfl⟩ dX7_nearest_16 ?_
    refine j_if_ne (pc := 19) (tgt := 25) X dX7_nearest_19 (by decide) (fun hc => ?_) (fun hc => ?_)
    · rw [if_neg hc] at h
      refine j_bipush (pc := 25) (v := (-5)) X dX7_nearest_25 (by decide) ?_
      refine j_istore_n (pc := 27) (lv' := [(0, .ref (Ad E 20 0)), (1, .int a1), (2, .int a2), (3, .int (-5 : Int32))]) X dX7_nearest_27 rfl (by decide) rfl ?_
      refine j_bipush (pc := 28) (v := (-5)) X dX7_nearest_28 (by decide) ?_
      refine j_istore (pc := 30) (lv' := [(0, .ref (Ad E 20 0)), (1, .int a1), (2, .int a2), (3, .int (-5 : Int32)), (4, .int (-5 : Int32))]) X dX7_nearest_30 (by decide) rfl ?_
      refine j_iconst (pc := 32) (v := 0) X dX7_nearest_32 (by decide) ?_
      refine j_istore (pc := 33) (lv' := [(0, .ref (Ad E 20 0)), (1, .int a1), (2, .int a2), (3, .int (-5 : Int32)), (4, .int (-5 : Int32)), (5, .int (0 : Int32))]) X dX7_nearest_33 (by decide) rfl ?_
      exact tX7_nearest_35 l hE X hr hk G2 a1 a2 FU (-5 : Int32) (-5 : Int32) (0 : Int32) h
    · rw [if_pos hc] at h
      refine j_bipush (pc := 22) (v := (-2)) X dX7_nearest_22 (by decide) ?_
      exact j_ret (pc := 24) X hr hk (vp_nar_int _) (pr_s h).1 (pr_s h).2 dX7_nearest_24
  · rw [if_pos hc] at h
    refine j_iconst (pc := 11) (v := (-1)) X dX7_nearest_11 (by decide) ?_
    exact j_ret (pc := 12) X hr hk (vp_nar_int _) (pr_s h).1 (pr_s h).2 dX7_nearest_12
theorem dX7_word_0 : decode cX7_word 0 = .ok (.aload_n 0, 1) := by decide +kernel
theorem dX7_word_1 : decode cX7_word 1 = .ok (.getfield 10, 3) := by decide +kernel
theorem dX7_word_4 : decode cX7_word 4 = .ok (.getfield 112, 3) := by decide +kernel
theorem dX7_word_7 : decode cX7_word 7 = .ok (.iload_n 1, 1) := by decide +kernel
theorem dX7_word_8 : decode cX7_word 8 = .ok (.invokevirtual 129, 3) := by decide +kernel
theorem dX7_word_11 : decode cX7_word 11 = .ok (.ifCond .ne 5, 3) := by decide +kernel
theorem dX7_word_14 : decode cX7_word 14 = .ok (.iconst (-1), 1) := by decide +kernel
theorem dX7_word_15 : decode cX7_word 15 = .ok (.ireturn, 1) := by decide +kernel
theorem dX7_word_16 : decode cX7_word 16 = .ok (.iload_n 2, 1) := by decide +kernel
theorem dX7_word_17 : decode cX7_word 17 = .ok (.tableswitch 76 0 3 #[31, 43, 55, 64], 31) := by decide +kernel
theorem dX7_word_48 : decode cX7_word 48 = .ok (.aload_n 0, 1) := by decide +kernel
theorem dX7_word_49 : decode cX7_word 49 = .ok (.getfield 10, 3) := by decide +kernel
theorem dX7_word_52 : decode cX7_word 52 = .ok (.getfield 112, 3) := by decide +kernel
theorem dX7_word_55 : decode cX7_word 55 = .ok (.iload_n 1, 1) := by decide +kernel
theorem dX7_word_56 : decode cX7_word 56 = .ok (.invokevirtual 229, 3) := by decide +kernel
theorem dX7_word_59 : decode cX7_word 59 = .ok (.ireturn, 1) := by decide +kernel
theorem dX7_word_60 : decode cX7_word 60 = .ok (.aload_n 0, 1) := by decide +kernel
theorem dX7_word_61 : decode cX7_word 61 = .ok (.getfield 10, 3) := by decide +kernel
theorem dX7_word_64 : decode cX7_word 64 = .ok (.getfield 112, 3) := by decide +kernel
theorem dX7_word_67 : decode cX7_word 67 = .ok (.iload_n 1, 1) := by decide +kernel
theorem dX7_word_68 : decode cX7_word 68 = .ok (.invokevirtual 133, 3) := by decide +kernel
theorem dX7_word_71 : decode cX7_word 71 = .ok (.ireturn, 1) := by decide +kernel
theorem dX7_word_72 : decode cX7_word 72 = .ok (.aload_n 0, 1) := by decide +kernel
theorem dX7_word_73 : decode cX7_word 73 = .ok (.invokevirtual 80, 3) := by decide +kernel
theorem dX7_word_76 : decode cX7_word 76 = .ok (.iload_n 1, 1) := by decide +kernel
theorem dX7_word_77 : decode cX7_word 77 = .ok (.invokevirtual 230, 3) := by decide +kernel
theorem dX7_word_80 : decode cX7_word 80 = .ok (.ireturn, 1) := by decide +kernel
theorem dX7_word_81 : decode cX7_word 81 = .ok (.aload_n 0, 1) := by decide +kernel
theorem dX7_word_82 : decode cX7_word 82 = .ok (.getfield 10, 3) := by decide +kernel
theorem dX7_word_85 : decode cX7_word 85 = .ok (.getfield 153, 3) := by decide +kernel
theorem dX7_word_88 : decode cX7_word 88 = .ok (.iload_n 1, 1) := by decide +kernel
theorem dX7_word_89 : decode cX7_word 89 = .ok (.invokevirtual 233, 3) := by decide +kernel
theorem dX7_word_92 : decode cX7_word 92 = .ok (.ireturn, 1) := by decide +kernel
theorem dX7_word_93 : decode cX7_word 93 = .ok (.iload_n 2, 1) := by decide +kernel
theorem dX7_word_94 : decode cX7_word 94 = .ok (.iconst 4, 1) := by decide +kernel
theorem dX7_word_95 : decode cX7_word 95 = .ok (.bipush 8, 2) := by decide +kernel
theorem dX7_word_97 : decode cX7_word 97 = .ok (.invokestatic 58, 3) := by decide +kernel
theorem dX7_word_100 : decode cX7_word 100 = .ok (.ifCond .eq 20, 3) := by decide +kernel
theorem dX7_word_103 : decode cX7_word 103 = .ok (.aload_n 0, 1) := by decide +kernel
theorem dX7_word_104 : decode cX7_word 104 = .ok (.getfield 10, 3) := by decide +kernel
theorem dX7_word_107 : decode cX7_word 107 = .ok (.getfield 112, 3) := by decide +kernel
theorem dX7_word_110 : decode cX7_word 110 = .ok (.iload_n 1, 1) := by decide +kernel
theorem dX7_word_111 : decode cX7_word 111 = .ok (.iload_n 2, 1) := by decide +kernel
theorem dX7_word_112 : decode cX7_word 112 = .ok (.iconst 4, 1) := by decide +kernel
theorem dX7_word_113 : decode cX7_word 113 = .ok (.isub, 1) := by decide +kernel
theorem dX7_word_114 : decode cX7_word 114 = .ok (.invokevirtual 236, 3) := by decide +kernel
theorem dX7_word_117 : decode cX7_word 117 = .ok (.goto 5, 3) := by decide +kernel
theorem dX7_word_120 : decode cX7_word 120 = .ok (.bipush (-2), 2) := by decide +kernel
theorem dX7_word_122 : decode cX7_word 122 = .ok (.ireturn, 1) := by decide +kernel
set_option maxHeartbeats 4000000 in
set_option maxRecDepth 100000 in
theorem tX7_word (l : Launch) {E : ET} (hE : Aj E) (G : GT) (a1 : Int32) (a2 : Int32) {r : Int32} {G' : GT} (h : fX7_word G a1 a2 = some (r, G')) : CI l E yX7_word cX7_word 3 (some .int) 6 [.ref (Ad E 20 0), .int a1, .int a2] G r G' := by
  refine Met_I (lv := [(0, .ref (Ad E 20 0)), (1, .int a1), (2, .int a2)]) (by decide +kernel) hE (Nat.le_of_ble_eq_true rfl) rfl ?_
  intro p e s m args below meth c X hr hk
  unfold fX7_word at h
  refine j_aload_n (pc := 0) X dX7_word_0 rfl 0 rfl ?_
  refine j_get (pc := 1) (v := .ref (Ad E 11 0)) X gf_X7_10 (by decide) rfl rfl dX7_word_1 ?_
  refine j_get (pc := 4) (v := .ref (Ad E 3 0)) X gf_X7_112 (by decide) rfl rfl dX7_word_4 ?_
  refine j_iload_n (pc := 7) X dX7_word_7 rfl 1 rfl ?_
  obtain ⟨r1, hc3, h⟩ := bd_s h
  refine j_callI (pc := 8) X (tX6_has l hE G 0 (by decide) a1 hc3) muX6_has (by decide) q392 rfl rfl (Nat.le_of_ble_eq_true rfl) ⟨Nat.le_of_ble_eq_true rfl, Nat.le_of_ble_eq_true rfl⟩ dX7_word_8 ?_
  refine j_if_ne (pc := 11) (tgt := 16) X dX7_word_11 (by decide) (fun hc => ?_) (fun hc => ?_)
  · rw [if_neg hc] at h
    refine j_iload_n (pc := 16) X dX7_word_16 rfl 2 rfl ?_
    by_cases hx4 : a2 = 0
    · rw [if_pos hx4] at h
      refine j_tabIn (pc := 17) (tgt := 48) (off := 31) X dX7_word_17 (by rw [hx4]; decide) (by rw [hx4]; decide) (by rw [hx4]; decide) (by decide) ?_
      refine j_aload_n (pc := 48) X dX7_word_48 rfl 0 rfl ?_
      refine j_get (pc := 49) (v := .ref (Ad E 11 0)) X gf_X7_10 (by decide) rfl rfl dX7_word_49 ?_
      refine j_get (pc := 52) (v := .ref (Ad E 3 0)) X gf_X7_112 (by decide) rfl rfl dX7_word_52 ?_
      refine j_iload_n (pc := 55) X dX7_word_55 rfl 1 rfl ?_
      obtain ⟨r5, hc7, h⟩ := bd_s h
      refine j_callI (pc := 56) X (tX6_lengthOf l hE G 0 (by decide) a1 hc7) muX6_lengthOf (by decide) q547 rfl rfl (Nat.le_of_ble_eq_true rfl) ⟨Nat.le_of_ble_eq_true rfl, Nat.le_of_ble_eq_true rfl⟩ dX7_word_56 ?_
      exact j_ret (pc := 59) X hr hk (vp_nar_int _) (pr_s h).1 (pr_s h).2 dX7_word_59
    rw [if_neg hx4] at h
    by_cases hx8 : a2 = 1
    · rw [if_pos hx8] at h
      refine j_tabIn (pc := 17) (tgt := 60) (off := 43) X dX7_word_17 (by rw [hx8]; decide) (by rw [hx8]; decide) (by rw [hx8]; decide) (by decide) ?_
      refine j_aload_n (pc := 60) X dX7_word_60 rfl 0 rfl ?_
      refine j_get (pc := 61) (v := .ref (Ad E 11 0)) X gf_X7_10 (by decide) rfl rfl dX7_word_61 ?_
      refine j_get (pc := 64) (v := .ref (Ad E 3 0)) X gf_X7_112 (by decide) rfl rfl dX7_word_64 ?_
      refine j_iload_n (pc := 67) X dX7_word_67 rfl 1 rfl ?_
      obtain ⟨r9, hc11, h⟩ := bd_s h
      refine j_callI (pc := 68) X (tX6_ringsOf l hE G 0 (by decide) a1 hc11) muX6_ringsOf (by decide) q393 rfl rfl (Nat.le_of_ble_eq_true rfl) ⟨Nat.le_of_ble_eq_true rfl, Nat.le_of_ble_eq_true rfl⟩ dX7_word_68 ?_
      exact j_ret (pc := 71) X hr hk (vp_nar_int _) (pr_s h).1 (pr_s h).2 dX7_word_71
    rw [if_neg hx8] at h
    by_cases hx12 : a2 = 2
    · rw [if_pos hx12] at h
      refine j_tabIn (pc := 17) (tgt := 72) (off := 55) X dX7_word_17 (by rw [hx12]; decide) (by rw [hx12]; decide) (by rw [hx12]; decide) (by decide) ?_
      refine j_aload_n (pc := 72) X dX7_word_72 rfl 0 rfl ?_
      obtain ⟨G14, hc15, h⟩ := bd_s h
      refine j_callR (pc := 73) X (tX7_readRuns l hE G  hc15) muX7_readRuns (by decide) q280 rfl rfl (Nat.le_of_ble_eq_true rfl) ⟨Nat.le_of_ble_eq_true rfl, Nat.le_of_ble_eq_true rfl⟩ dX7_word_73 ?_
      refine j_iload_n (pc := 76) X dX7_word_76 rfl 1 rfl ?_
      obtain ⟨r16, hc18, h⟩ := bd_s h
      refine j_callI (pc := 77) X (tX3_countOf l hE G14 0 (by decide) a1 hc18) muX3_countOf (by decide) q573 rfl rfl (Nat.le_of_ble_eq_true rfl) ⟨Nat.le_of_ble_eq_true rfl, Nat.le_of_ble_eq_true rfl⟩ dX7_word_77 ?_
      exact j_ret (pc := 80) X hr hk (vp_nar_int _) (pr_s h).1 (pr_s h).2 dX7_word_80
    rw [if_neg hx12] at h
    by_cases hx19 : a2 = 3
    · rw [if_pos hx19] at h
      refine j_tabIn (pc := 17) (tgt := 81) (off := 64) X dX7_word_17 (by rw [hx19]; decide) (by rw [hx19]; decide) (by rw [hx19]; decide) (by decide) ?_
      refine j_aload_n (pc := 81) X dX7_word_81 rfl 0 rfl ?_
      refine j_get (pc := 82) (v := .ref (Ad E 11 0)) X gf_X7_10 (by decide) rfl rfl dX7_word_82 ?_
      refine j_get (pc := 85) (v := .ref (Ad E 7 0)) X gf_X7_153 (by decide) rfl rfl dX7_word_85 ?_
      refine j_iload_n (pc := 88) X dX7_word_88 rfl 1 rfl ?_
      obtain ⟨r20, hc22, h⟩ := bd_s h
      refine j_callI (pc := 89) X (tX1_whoKnow l hE G 0 (by decide) a1 hc22) muX1_whoKnow (by decide) q577 rfl rfl (Nat.le_of_ble_eq_true rfl) ⟨Nat.le_of_ble_eq_true rfl, Nat.le_of_ble_eq_true rfl⟩ dX7_word_89 ?_
      exact j_ret (pc := 92) X hr hk (vp_nar_int _) (pr_s h).1 (pr_s h).2 dX7_word_92
    rw [if_neg hx19] at h
    refine j_tabOut (pc := 17) (tgt := 93) X dX7_word_17 (tab_out 3 (by decide) (fun j hj => by match j, hj with | 0, _ => exact hx4 | 1, _ => exact hx8 | 2, _ => exact hx12 | 3, _ => exact hx19 | j + 4, hj => omega)) (by decide) ?_
    refine j_iload_n (pc := 93) X dX7_word_93 rfl 2 rfl ?_
    refine j_iconst (pc := 94) (v := 4) X dX7_word_94 (by decide) ?_
    refine j_bipush (pc := 95) (v := 8) X dX7_word_95 (by decide) ?_
    obtain ⟨r23, hc25, h⟩ := bd_s h
    refine j_staI (pc := 97) X (tX7_isWithin l hE G a2 (4 : Int32) (8 : Int32) hc25) muX7_isWithin (Or.inl q240) rfl rfl (Nat.le_of_ble_eq_true rfl) ⟨Nat.le_of_ble_eq_true rfl, Nat.le_of_ble_eq_true rfl⟩ dX7_word_97 ?_
    refine j_if_eq (pc := 100) (tgt := 120) X dX7_word_100 (by decide) (fun hc => ?_) (fun hc => ?_)
    · rw [if_pos hc] at h
      refine j_bipush (pc := 120) (v := (-2)) X dX7_word_120 (by decide) ?_
      exact j_ret (pc := 122) X hr hk (vp_nar_int _) (pr_s h).1 (pr_s h).2 dX7_word_122
    · rw [if_neg hc] at h
      refine j_aload_n (pc := 103) X dX7_word_103 rfl 0 rfl ?_
      refine j_get (pc := 104) (v := .ref (Ad E 11 0)) X gf_X7_10 (by decide) rfl rfl dX7_word_104 ?_
      refine j_get (pc := 107) (v := .ref (Ad E 3 0)) X gf_X7_112 (by decide) rfl rfl dX7_word_107 ?_
      refine j_iload_n (pc := 110) X dX7_word_110 rfl 1 rfl ?_
      refine j_iload_n (pc := 111) X dX7_word_111 rfl 2 rfl ?_
      refine j_iconst (pc := 112) (v := 4) X dX7_word_112 (by decide) ?_
      refine j_isub (pc := 113) X dX7_word_113 ?_
      obtain ⟨r26, hc28, h⟩ := bd_s h
      refine j_callI (pc := 114) X (tX6_kindAt l hE G 0 (by decide) a1 (a2 - (4 : Int32)) hc28) muX6_kindAt (by decide) q582 rfl rfl (Nat.le_of_ble_eq_true rfl) ⟨Nat.le_of_ble_eq_true rfl, Nat.le_of_ble_eq_true rfl⟩ dX7_word_114 ?_
      refine j_goto (pc := 117) (tgt := 122) X dX7_word_117 (by decide) ?_
      exact j_ret (pc := 122) X hr hk (vp_nar_int _) (pr_s h).1 (pr_s h).2 dX7_word_122
  · rw [if_pos hc] at h
    refine j_iconst (pc := 14) (v := (-1)) X dX7_word_14 (by decide) ?_
    exact j_ret (pc := 15) X hr hk (vp_nar_int _) (pr_s h).1 (pr_s h).2 dX7_word_15
