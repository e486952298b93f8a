theorem dX7_learner_0 : decode cX7_learner 0 = .ok (.iload_n 1, 1) := by decide +kernel
theorem dX7_learner_1 : decode cX7_learner 1 = .ok (.invokestatic 167, 3) := by decide +kernel
theorem dX7_learner_4 : decode cX7_learner 4 = .ok (.ifCond .ne 5, 3) := by decide +kernel
theorem dX7_learner_7 : decode cX7_learner 7 = .ok (.iconst (-1), 1) := by decide +kernel
theorem dX7_learner_8 : decode cX7_learner 8 = .ok (.ireturn, 1) := by decide +kernel
theorem dX7_learner_9 : decode cX7_learner 9 = .ok (.iload_n 2, 1) := by decide +kernel
theorem dX7_learner_10 : decode cX7_learner 10 = .ok (.tableswitch 87 0 3 #[30, 52, 63, 75], 30) := by decide +kernel
theorem dX7_learner_40 : decode cX7_learner 40 = .ok (.aload_n 0, 1) := by decide +kernel
theorem dX7_learner_41 : decode cX7_learner 41 = .ok (.getfield 10, 3) := by decide +kernel
theorem dX7_learner_44 : decode cX7_learner 44 = .ok (.getfield 153, 3) := by decide +kernel
theorem dX7_learner_47 : decode cX7_learner 47 = .ok (.iload_n 1, 1) := by decide +kernel
theorem dX7_learner_48 : decode cX7_learner 48 = .ok (.aload_n 0, 1) := by decide +kernel
theorem dX7_learner_49 : decode cX7_learner 49 = .ok (.getfield 10, 3) := by decide +kernel
theorem dX7_learner_52 : decode cX7_learner 52 = .ok (.getfield 112, 3) := by decide +kernel
theorem dX7_learner_55 : decode cX7_learner 55 = .ok (.getfield 125, 3) := by decide +kernel
theorem dX7_learner_58 : decode cX7_learner 58 = .ok (.invokevirtual 238, 3) := by decide +kernel
theorem dX7_learner_61 : decode cX7_learner 61 = .ok (.ireturn, 1) := by decide +kernel
theorem dX7_learner_62 : decode cX7_learner 62 = .ok (.aload_n 0, 1) := by decide +kernel
theorem dX7_learner_63 : decode cX7_learner 63 = .ok (.invokevirtual 80, 3) := by decide +kernel
theorem dX7_learner_66 : decode cX7_learner 66 = .ok (.pop, 1) := by decide +kernel
theorem dX7_learner_67 : decode cX7_learner 67 = .ok (.aload_n 0, 1) := by decide +kernel
theorem dX7_learner_68 : decode cX7_learner 68 = .ok (.iload_n 1, 1) := by decide +kernel
theorem dX7_learner_69 : decode cX7_learner 69 = .ok (.invokevirtual 150, 3) := by decide +kernel
theorem dX7_learner_72 : decode cX7_learner 72 = .ok (.ireturn, 1) := by decide +kernel
theorem dX7_learner_73 : decode cX7_learner 73 = .ok (.aload_n 0, 1) := by decide +kernel
theorem dX7_learner_74 : decode cX7_learner 74 = .ok (.getfield 10, 3) := by decide +kernel
theorem dX7_learner_77 : decode cX7_learner 77 = .ok (.getfield 153, 3) := by decide +kernel
theorem dX7_learner_80 : decode cX7_learner 80 = .ok (.iload_n 1, 1) := by decide +kernel
theorem dX7_learner_81 : decode cX7_learner 81 = .ok (.invokevirtual 241, 3) := by decide +kernel
theorem dX7_learner_84 : decode cX7_learner 84 = .ok (.ireturn, 1) := by decide +kernel
theorem dX7_learner_85 : decode cX7_learner 85 = .ok (.aload_n 0, 1) := by decide +kernel
theorem dX7_learner_86 : decode cX7_learner 86 = .ok (.getfield 10, 3) := by decide +kernel
theorem dX7_learner_89 : decode cX7_learner 89 = .ok (.getfield 153, 3) := by decide +kernel
theorem dX7_learner_92 : decode cX7_learner 92 = .ok (.iload_n 1, 1) := by decide +kernel
theorem dX7_learner_93 : decode cX7_learner 93 = .ok (.invokevirtual 244, 3) := by decide +kernel
theorem dX7_learner_96 : decode cX7_learner 96 = .ok (.ireturn, 1) := by decide +kernel
theorem dX7_learner_97 : decode cX7_learner 97 = .ok (.bipush (-2), 2) := by decide +kernel
theorem dX7_learner_99 : decode cX7_learner 99 = .ok (.ireturn, 1) := by decide +kernel
set_option maxHeartbeats 4000000 in
set_option maxRecDepth 100000 in
theorem tX7_learner (l : Launch) {E : ET} (hE : Aj E) (G : GT) (a1 : Int32) (a2 : Int32) {r : Int32} {G' : GT} (h : fX7_learner G a1 a2 = some (r, G')) : CI l E yX7_learner cX7_learner 3 (some .int) 6 [.ref (Ad E 20 0), .int a1, .int a2] G r G' := by
  refine Met_I (lv := [(0, .ref (Ad E 20 0)), (1, .int a1), (2, .int a2)]) (by decide +kernel) hE (Nat.le_of_ble_eq_true rfl) rfl ?_
  intro p e s m args below meth c X hr hk
  unfold fX7_learner at h
  refine j_iload_n (pc := 0) X dX7_learner_0 rfl 1 rfl ?_
  obtain ⟨r1, hc3, h⟩ := bd_s h
  refine j_staI (pc := 1) X (tX7_isLearner l hE G a1 hc3) muX7_isLearner (Or.inl q457) rfl rfl (Nat.le_of_ble_eq_true rfl) ⟨Nat.le_of_ble_eq_true rfl, Nat.le_of_ble_eq_true rfl⟩ dX7_learner_1 ?_
  refine j_if_ne (pc := 4) (tgt := 9) X dX7_learner_4 (by decide) (fun hc => ?_) (fun hc => ?_)
  · rw [if_neg hc] at h
    refine j_iload_n (pc := 9) X dX7_learner_9 rfl 2 rfl ?_
    by_cases hx4 : a2 = 0
    · rw [if_pos hx4] at h
      refine j_tabIn (pc := 10) (tgt := 40) (off := 30) X dX7_learner_10 (by rw [hx4]; decide) (by rw [hx4]; decide) (by rw [hx4]; decide) (by decide) ?_
      refine j_aload_n (pc := 40) X dX7_learner_40 rfl 0 rfl ?_
      refine j_get (pc := 41) (v := .ref (Ad E 11 0)) X gf_X7_10 (by decide) rfl rfl dX7_learner_41 ?_
      refine j_get (pc := 44) (v := .ref (Ad E 7 0)) X gf_X7_153 (by decide) rfl rfl dX7_learner_44 ?_
      refine j_iload_n (pc := 47) X dX7_learner_47 rfl 1 rfl ?_
      refine j_aload_n (pc := 48) X dX7_learner_48 rfl 0 rfl ?_
      refine j_get (pc := 49) (v := .ref (Ad E 11 0)) X gf_X7_10 (by decide) rfl rfl dX7_learner_49 ?_
      refine j_get (pc := 52) (v := .ref (Ad E 3 0)) X gf_X7_112 (by decide) rfl rfl dX7_learner_52 ?_
      refine j_get (pc := 55) (v := .int (G 3 0 0)) X gf_X7_125 (by decide) rfl rfl dX7_learner_55 ?_
      obtain ⟨r5, hc7, h⟩ := bd_s h
      refine j_callI (pc := 58) X (tX1_knownBy l hE G 0 (by decide) a1 (G 3 0 0) hc7) muX1_knownBy (by decide) q587 rfl rfl (Nat.le_of_ble_eq_true rfl) ⟨Nat.le_of_ble_eq_true rfl, Nat.le_of_ble_eq_true rfl⟩ dX7_learner_58 ?_
      exact j_ret (pc := 61) X hr hk (vp_nar_int _) (pr_s h).1 (pr_s h).2 dX7_learner_61
    rw [if_neg hx4] at h
    by_cases hx8 : a2 = 1
    · rw [if_pos hx8] at h
      refine j_tabIn (pc := 10) (tgt := 62) (off := 52) X dX7_learner_10 (by rw [hx8]; decide) (by rw [hx8]; decide) (by rw [hx8]; decide) (by decide) ?_
      refine j_aload_n (pc := 62) X dX7_learner_62 rfl 0 rfl ?_
      obtain ⟨G10, hc11, h⟩ := bd_s h
      refine j_callR (pc := 63) X (tX7_readRuns l hE G  hc11) muX7_readRuns (by decide) q280 rfl rfl (Nat.le_of_ble_eq_true rfl) ⟨Nat.le_of_ble_eq_true rfl, Nat.le_of_ble_eq_true rfl⟩ dX7_learner_63 ?_
      refine j_pop (pc := 66) X dX7_learner_66 rfl ?_
      refine j_aload_n (pc := 67) X dX7_learner_67 rfl 0 rfl ?_
      refine j_iload_n (pc := 68) X dX7_learner_68 rfl 1 rfl ?_
      obtain ⟨r12, hc14, h⟩ := bd_s h
      refine j_callI (pc := 69) X (tX7_answerOf l hE G10 a1 hc14) muX7_answerOf (by decide) q422 rfl rfl (Nat.le_of_ble_eq_true rfl) ⟨Nat.le_of_ble_eq_true rfl, Nat.le_of_ble_eq_true rfl⟩ dX7_learner_69 ?_
      exact j_ret (pc := 72) X hr hk (vp_nar_int _) (pr_s h).1 (pr_s h).2 dX7_learner_72
    rw [if_neg hx8] at h
    by_cases hx15 : a2 = 2
    · rw [if_pos hx15] at h
      refine j_tabIn (pc := 10) (tgt := 73) (off := 63) X dX7_learner_10 (by rw [hx15]; decide) (by rw [hx15]; decide) (by rw [hx15]; decide) (by decide) ?_
      refine j_aload_n (pc := 73) X dX7_learner_73 rfl 0 rfl ?_
      refine j_get (pc := 74) (v := .ref (Ad E 11 0)) X gf_X7_10 (by decide) rfl rfl dX7_learner_74 ?_
      refine j_get (pc := 77) (v := .ref (Ad E 7 0)) X gf_X7_153 (by decide) rfl rfl dX7_learner_77 ?_
      refine j_iload_n (pc := 80) X dX7_learner_80 rfl 1 rfl ?_
      obtain ⟨r16, hc18, h⟩ := bd_s h
      refine j_callI (pc := 81) X (tX1_rightOf l hE G 0 (by decide) a1 hc18) muX1_rightOf (by decide) q591 rfl rfl (Nat.le_of_ble_eq_true rfl) ⟨Nat.le_of_ble_eq_true rfl, Nat.le_of_ble_eq_true rfl⟩ dX7_learner_81 ?_
      exact j_ret (pc := 84) X hr hk (vp_nar_int _) (pr_s h).1 (pr_s h).2 dX7_learner_84
    rw [if_neg hx15] at h
    by_cases hx19 : a2 = 3
    · rw [if_pos hx19] at h
      refine j_tabIn (pc := 10) (tgt := 85) (off := 75) X dX7_learner_10 (by rw [hx19]; decide) (by rw [hx19]; decide) (by rw [hx19]; decide) (by decide) ?_
      refine j_aload_n (pc := 85) X dX7_learner_85 rfl 0 rfl ?_
      refine j_get (pc := 86) (v := .ref (Ad E 11 0)) X gf_X7_10 (by decide) rfl rfl dX7_learner_86 ?_
      refine j_get (pc := 89) (v := .ref (Ad E 7 0)) X gf_X7_153 (by decide) rfl rfl dX7_learner_89 ?_
      refine j_iload_n (pc := 92) X dX7_learner_92 rfl 1 rfl ?_
      obtain ⟨r20, hc22, h⟩ := bd_s h
      refine j_callI (pc := 93) X (tX1_wrongOf l hE G 0 (by decide) a1 hc22) muX1_wrongOf (by decide) q595 rfl rfl (Nat.le_of_ble_eq_true rfl) ⟨Nat.le_of_ble_eq_true rfl, Nat.le_of_ble_eq_true rfl⟩ dX7_learner_93 ?_
      exact j_ret (pc := 96) X hr hk (vp_nar_int _) (pr_s h).1 (pr_s h).2 dX7_learner_96
    rw [if_neg hx19] at h
    refine j_tabOut (pc := 10) (tgt := 97) X dX7_learner_10 (tab_out 3 (by decide) (fun j hj => by match j, hj with | 0, _ => exact hx4 | 1, _ => exact hx8 | 2, _ => exact hx15 | 3, _ => exact hx19 | j + 4, hj => omega)) (by decide) ?_
    refine j_bipush (pc := 97) (v := (-2)) X dX7_learner_97 (by decide) ?_
    exact j_ret (pc := 99) X hr hk (vp_nar_int _) (pr_s h).1 (pr_s h).2 dX7_learner_99
  · rw [if_pos hc] at h
    refine j_iconst (pc := 7) (v := (-1)) X dX7_learner_7 (by decide) ?_
    exact j_ret (pc := 8) X hr hk (vp_nar_int _) (pr_s h).1 (pr_s h).2 dX7_learner_8
theorem dX7_heard_0 : decode cX7_heard 0 = .ok (.iload_n 1, 1) := by decide +kernel
theorem dX7_heard_1 : decode cX7_heard 1 = .ok (.invokestatic 167, 3) := by decide +kernel
theorem dX7_heard_4 : decode cX7_heard 4 = .ok (.ifCond .eq 17, 3) := by decide +kernel
theorem dX7_heard_7 : decode cX7_heard 7 = .ok (.aload_n 0, 1) := by decide +kernel
theorem dX7_heard_8 : decode cX7_heard 8 = .ok (.getfield 10, 3) := by decide +kernel
theorem dX7_heard_11 : decode cX7_heard 11 = .ok (.getfield 112, 3) := by decide +kernel
theorem dX7_heard_14 : decode cX7_heard 14 = .ok (.iload_n 2, 1) := by decide +kernel
theorem dX7_heard_15 : decode cX7_heard 15 = .ok (.invokevirtual 129, 3) := by decide +kernel
theorem dX7_heard_18 : decode cX7_heard 18 = .ok (.ifCond .ne 5, 3) := by decide +kernel
theorem dX7_heard_21 : decode cX7_heard 21 = .ok (.iconst (-1), 1) := by decide +kernel
theorem dX7_heard_22 : decode cX7_heard 22 = .ok (.ireturn, 1) := by decide +kernel
theorem dX7_heard_23 : decode cX7_heard 23 = .ok (.aload_n 0, 1) := by decide +kernel
theorem dX7_heard_24 : decode cX7_heard 24 = .ok (.getfield 10, 3) := by decide +kernel
theorem dX7_heard_27 : decode cX7_heard 27 = .ok (.getfield 153, 3) := by decide +kernel
theorem dX7_heard_30 : decode cX7_heard 30 = .ok (.iload_n 1, 1) := by decide +kernel
theorem dX7_heard_31 : decode cX7_heard 31 = .ok (.iload_n 2, 1) := by decide +kernel
theorem dX7_heard_32 : decode cX7_heard 32 = .ok (.invokevirtual 170, 3) := by decide +kernel
theorem dX7_heard_35 : decode cX7_heard 35 = .ok (.ireturn, 1) := by decide +kernel
set_option maxHeartbeats 4000000 in
set_option maxRecDepth 100000 in
theorem tX7_heard (l : Launch) {E : ET} (hE : Aj E) (G : GT) (a1 : Int32) (a2 : Int32) {r : Int32} (h : fX7_heard G a1 a2 = some r) : CI l E yX7_heard cX7_heard 3 (some .int) 4 [.ref (Ad E 20 0), .int a1, .int a2] G r G := by
  refine Met_I (lv := [(0, .ref (Ad E 20 0)), (1, .int a1), (2, .int a2)]) (by decide +kernel) hE (Nat.le_of_ble_eq_true rfl) rfl ?_
  intro p e s m args below meth c X hr hk
  unfold fX7_heard at h
  refine j_iload_n (pc := 0) X dX7_heard_0 rfl 1 rfl ?_
  obtain ⟨r1, hc3, h⟩ := bd_s h
  refine j_staI (pc := 1) X (tX7_isLearner l hE G a1 hc3) muX7_isLearner (Or.inl q457) rfl rfl (Nat.le_of_ble_eq_true rfl) ⟨Nat.le_of_ble_eq_true rfl, Nat.le_of_ble_eq_true rfl⟩ dX7_heard_1 ?_
  refine j_if_eq (pc := 4) (tgt := 21) X dX7_heard_4 (by decide) (fun hc => ?_) (fun hc => ?_)
  · rw [if_pos hc] at h
    refine j_iconst (pc := 21) (v := (-1)) X dX7_heard_21 (by decide) ?_
    exact j_ret (pc := 22) X hr hk (vp_nar_int _) (Option.some.inj h) rfl dX7_heard_22
  · rw [if_neg hc] at h
    refine j_aload_n (pc := 7) X dX7_heard_7 rfl 0 rfl ?_
    refine j_get (pc := 8) (v := .ref (Ad E 11 0)) X gf_X7_10 (by decide) rfl rfl dX7_heard_8 ?_
    refine j_get (pc := 11) (v := .ref (Ad E 3 0)) X gf_X7_112 (by decide) rfl rfl dX7_heard_11 ?_
    refine j_iload_n (pc := 14) X dX7_heard_14 rfl 2 rfl ?_
    obtain ⟨r4, hc6, h⟩ := bd_s h
    refine j_callI (pc := 15) X (tX6_has l hE G 0 (by decide) a2 hc6) muX6_has (by decide) q392 rfl rfl (Nat.le_of_ble_eq_true rfl) ⟨Nat.le_of_ble_eq_true rfl, Nat.le_of_ble_eq_true rfl⟩ dX7_heard_15 ?_
    refine j_if_ne (pc := 18) (tgt := 23) X dX7_heard_18 (by decide) (fun hc => ?_) (fun hc => ?_)
    · rw [if_neg hc] at h
      refine j_aload_n (pc := 23) X dX7_heard_23 rfl 0 rfl ?_
      refine j_get (pc := 24) (v := .ref (Ad E 11 0)) X gf_X7_10 (by decide) rfl rfl dX7_heard_24 ?_
      refine j_get (pc := 27) (v := .ref (Ad E 7 0)) X gf_X7_153 (by decide) rfl rfl dX7_heard_27 ?_
      refine j_iload_n (pc := 30) X dX7_heard_30 rfl 1 rfl ?_
      refine j_iload_n (pc := 31) X dX7_heard_31 rfl 2 rfl ?_
      obtain ⟨r7, hc9, h⟩ := bd_s h
      refine j_callI (pc := 32) X (tX1_timesHeard l hE G 0 (by decide) a1 a2 hc9) muX1_timesHeard (by decide) q458 rfl rfl (Nat.le_of_ble_eq_true rfl) ⟨Nat.le_of_ble_eq_true rfl, Nat.le_of_ble_eq_true rfl⟩ dX7_heard_32 ?_
      exact j_ret (pc := 35) X hr hk (vp_nar_int _) (Option.some.inj h) rfl dX7_heard_35
    · rw [if_pos hc] at h
      refine j_iconst (pc := 21) (v := (-1)) X dX7_heard_21 (by decide) ?_
      exact j_ret (pc := 22) X hr hk (vp_nar_int _) (Option.some.inj h) rfl dX7_heard_22
theorem dX7_reason_0 : decode cX7_reason 0 = .ok (.iload_n 1, 1) := by decide +kernel
theorem dX7_reason_1 : decode cX7_reason 1 = .ok (.invokestatic 167, 3) := by decide +kernel
theorem dX7_reason_4 : decode cX7_reason 4 = .ok (.ifCond .ne 5, 3) := by decide +kernel
theorem dX7_reason_7 : decode cX7_reason 7 = .ok (.iconst (-1), 1) := by decide +kernel
theorem dX7_reason_8 : decode cX7_reason 8 = .ok (.ireturn, 1) := by decide +kernel
theorem dX7_reason_9 : decode cX7_reason 9 = .ok (.aload_n 0, 1) := by decide +kernel
theorem dX7_reason_10 : decode cX7_reason 10 = .ok (.invokevirtual 80, 3) := by decide +kernel
theorem dX7_reason_13 : decode cX7_reason 13 = .ok (.invokevirtual 140, 3) := by decide +kernel
theorem dX7_reason_16 : decode cX7_reason 16 = .ok (.ifCond .ne 6, 3) := by decide +kernel
theorem dX7_reason_19 : decode cX7_reason 19 = .ok (.bipush (-5), 2) := by decide +kernel
theorem dX7_reason_21 : decode cX7_reason 21 = .ok (.ireturn, 1) := by decide +kernel
theorem dX7_reason_22 : decode cX7_reason 22 = .ok (.iconst 0, 1) := by decide +kernel
theorem dX7_reason_23 : decode cX7_reason 23 = .ok (.istore_n 2, 1) := by decide +kernel
theorem dX7_reason_24 : decode cX7_reason 24 = .ok (.iload_n 2, 1) := by decide +kernel
theorem dX7_reason_25 : decode cX7_reason 25 = .ok (.aload_n 0, 1) := by decide +kernel
theorem dX7_reason_26 : decode cX7_reason 26 = .ok (.getfield 40, 3) := by decide +kernel
theorem dX7_reason_29 : decode cX7_reason 29 = .ok (.getfield 84, 3) := by decide +kernel
theorem dX7_reason_32 : decode cX7_reason 32 = .ok (.if_icmp .ge 44, 3) := by decide +kernel
theorem dX7_reason_35 : decode cX7_reason 35 = .ok (.aload_n 0, 1) := by decide +kernel
theorem dX7_reason_36 : decode cX7_reason 36 = .ok (.getfield 40, 3) := by decide +kernel
theorem dX7_reason_39 : decode cX7_reason 39 = .ok (.iload_n 2, 1) := by decide +kernel
theorem dX7_reason_40 : decode cX7_reason 40 = .ok (.invokevirtual 207, 3) := by decide +kernel
theorem dX7_reason_43 : decode cX7_reason 43 = .ok (.istore_n 3, 1) := by decide +kernel
theorem dX7_reason_44 : decode cX7_reason 44 = .ok (.iload_n 3, 1) := by decide +kernel
theorem dX7_reason_45 : decode cX7_reason 45 = .ok (.bipush (-5), 2) := by decide +kernel
theorem dX7_reason_47 : decode cX7_reason 47 = .ok (.if_icmp .eq 23, 3) := by decide +kernel
theorem dX7_reason_50 : decode cX7_reason 50 = .ok (.aload_n 0, 1) := by decide +kernel
theorem dX7_reason_51 : decode cX7_reason 51 = .ok (.getfield 10, 3) := by decide +kernel
theorem dX7_reason_54 : decode cX7_reason 54 = .ok (.getfield 153, 3) := by decide +kernel
theorem dX7_reason_57 : decode cX7_reason 57 = .ok (.iload_n 1, 1) := by decide +kernel
theorem dX7_reason_58 : decode cX7_reason 58 = .ok (.iload_n 3, 1) := by decide +kernel
theorem dX7_reason_59 : decode cX7_reason 59 = .ok (.invokevirtual 247, 3) := by decide +kernel
theorem dX7_reason_62 : decode cX7_reason 62 = .ok (.ifCond .ne 8, 3) := by decide +kernel
theorem dX7_reason_65 : decode cX7_reason 65 = .ok (.bipush 100, 2) := by decide +kernel
theorem dX7_reason_67 : decode cX7_reason 67 = .ok (.iload_n 2, 1) := by decide +kernel
theorem dX7_reason_68 : decode cX7_reason 68 = .ok (.iadd, 1) := by decide +kernel
theorem dX7_reason_69 : decode cX7_reason 69 = .ok (.ireturn, 1) := by decide +kernel
theorem dX7_reason_70 : decode cX7_reason 70 = .ok (.iinc 2 1, 3) := by decide +kernel
theorem dX7_reason_73 : decode cX7_reason 73 = .ok (.goto (-49), 3) := by decide +kernel
theorem dX7_reason_76 : decode cX7_reason 76 = .ok (.iconst 0, 1) := by decide +kernel
theorem dX7_reason_77 : decode cX7_reason 77 = .ok (.ireturn, 1) := by decide +kernel
set_option maxHeartbeats 4000000 in
set_option maxRecDepth 100000 in
theorem tX7_reason_24 (l : Launch) {E : ET} (hE : Aj E) {p : Program} {e : Env} {s : State} {m : MethodId} {args : Array Value} {below : List Frame} {meth : Method} {c : Code} (X : Cx p (rmL 6) s m args c yX7_reason.cls cX7_reason 4 E (Aw E) 0 0) (hr : meth.sig.returnType = (some .int)) (hk : meth.locks = false) {r : Int32} {G' : GT} (G : GT) (a1 : Int32) : ∀ (n : Nat) (a2 : Int32), fX7_reason_24 G a1 n a2 = some (r, G') → J p l e (rmL 6) s m args below meth c E (Aw E) s.heap 4 0 0 (MQ below (QI E r G') args s 0 0 (Aw E)) G 24 [(0, .ref (Ad E 20 0)), (1, .int a1), (2, .int a2)] [] := by
  intro n
  induction n with
  | zero =>
    intro a2 h
    simp [fX7_reason_24] at h
  | succ n ih =>
    intro a2 h
    rw [fX7_reason_24] at h
    refine j_iload_n (pc := 24) X dX7_reason_24 rfl 2 rfl ?_
    refine j_aload_n (pc := 25) X dX7_reason_25 rfl 0 rfl ?_
    refine j_get (pc := 26) (v := .ref (Ad E 16 0)) X gf_X7_40 (by decide) rfl rfl dX7_reason_26 ?_
    refine j_get (pc := 29) (v := .int (G 16 0 0)) X gf_X7_84 (by decide) rfl rfl dX7_reason_29 ?_
    refine j_icmp_ge (pc := 32) (tgt := 76) X dX7_reason_32 (by decide) (fun hc => ?_) (fun hc => ?_)
    · rw [if_pos hc] at h
      refine j_iconst (pc := 76) (v := 0) X dX7_reason_76 (by decide) ?_
      exact j_ret (pc := 77) X hr hk (vp_nar_int _) (pr_s h).1 (pr_s h).2 dX7_reason_77
    · rw [if_neg hc] at h
      refine j_aload_n (pc := 35) X dX7_reason_35 rfl 0 rfl ?_
      refine j_get (pc := 36) (v := .ref (Ad E 16 0)) X gf_X7_40 (by decide) rfl rfl dX7_reason_36 ?_
      refine j_iload_n (pc := 39) X dX7_reason_39 rfl 2 rfl ?_
      obtain ⟨r1, hc3, h⟩ := bd_s h
      refine j_callI (pc := 40) X (tX3_wordOf l hE G 0 (by decide) a2 hc3) muX3_wordOf (by decide) q421 rfl rfl (Nat.le_of_ble_eq_true rfl) ⟨Nat.le_of_ble_eq_true rfl, Nat.le_of_ble_eq_true rfl⟩ dX7_reason_40 ?_
      refine j_istore_n (pc := 43) (lv' := [(0, .ref (Ad E 20 0)), (1, .int a1), (2, .int a2), (3, .int r1)]) X dX7_reason_43 rfl (by decide) rfl ?_
      refine j_iload_n (pc := 44) X dX7_reason_44 rfl 3 rfl ?_
      refine j_bipush (pc := 45) (v := (-5)) X dX7_reason_45 (by decide) ?_
      refine j_icmp_eq (pc := 47) (tgt := 70) X dX7_reason_47 (by decide) (fun hc => ?_) (fun hc => ?_)
      · rw [if_pos hc] at h
        refine j_iinc (pc := 70) (q := 2) (v := (a2 + (1 : Int32))) (lv' := [(0, .ref (Ad E 20 0)), (1, .int a1), (2, .int (a2 + (1 : Int32))), (3, .int r1)]) X dX7_reason_70 rfl rfl (by decide) rfl ?_
        refine j_goto (pc := 73) (tgt := 24) X dX7_reason_73 (by decide) ?_
        refine j_lv (lv' := [(0, .ref (Ad E 20 0)), (1, .int a1), (2, .int (a2 + (1 : Int32)))]) [0, 1, 2] rfl ?_
        exact ih (a2 + (1 : Int32)) h
      · rw [if_neg hc] at h
        refine j_aload_n (pc := 50) X dX7_reason_50 rfl 0 rfl ?_
        refine j_get (pc := 51) (v := .ref (Ad E 11 0)) X gf_X7_10 (by decide) rfl rfl dX7_reason_51 ?_
        refine j_get (pc := 54) (v := .ref (Ad E 7 0)) X gf_X7_153 (by decide) rfl rfl dX7_reason_54 ?_
        refine j_iload_n (pc := 57) X dX7_reason_57 rfl 1 rfl ?_
        refine j_iload_n (pc := 58) X dX7_reason_58 rfl 3 rfl ?_
        obtain ⟨r4, hc6, h⟩ := bd_s h
        refine j_callI (pc := 59) X (tX1_knows l hE G 0 (by decide) a1 r1 hc6) muX1_knows (by decide) q426 rfl rfl (Nat.le_of_ble_eq_true rfl) ⟨Nat.le_of_ble_eq_true rfl, Nat.le_of_ble_eq_true rfl⟩ dX7_reason_59 ?_
        refine j_if_ne (pc := 62) (tgt := 70) X dX7_reason_62 (by decide) (fun hc => ?_) (fun hc => ?_)
        · rw [if_neg hc] at h
          refine j_iinc (pc := 70) (q := 2) (v := (a2 + (1 : Int32))) (lv' := [(0, .ref (Ad E 20 0)), (1, .int a1), (2, .int (a2 + (1 : Int32))), (3, .int r1)]) X dX7_reason_70 rfl rfl (by decide) rfl ?_
          refine j_goto (pc := 73) (tgt := 24) X dX7_reason_73 (by decide) ?_
          refine j_lv (lv' := [(0, .ref (Ad E 20 0)), (1, .int a1), (2, .int (a2 + (1 : Int32)))]) [0, 1, 2] rfl ?_
          exact ih (a2 + (1 : Int32)) h
        · rw [if_pos hc] at h
          refine j_bipush (pc := 65) (v := 100) X dX7_reason_65 (by decide) ?_
          refine j_iload_n (pc := 67) X dX7_reason_67 rfl 2 rfl ?_
          refine j_iadd (pc := 68) X dX7_reason_68 ?_
          exact j_ret (pc := 69) X hr hk (vp_nar_int _) (pr_s h).1 (pr_s h).2 dX7_reason_69
set_option maxHeartbeats 4000000 in
set_option maxRecDepth 100000 in
theorem tX7_reason (l : Launch) {E : ET} (hE : Aj E) (G : GT) (a1 : Int32) {r : Int32} {G' : GT} (h : fX7_reason G a1 = some (r, G')) : CI l E yX7_reason cX7_reason 4 (some .int) 6 [.ref (Ad E 20 0), .int a1] G r G' := by
  refine Met_I (lv := [(0, .ref (Ad E 20 0)), (1, .int a1)]) (by decide +kernel) hE (Nat.le_of_ble_eq_true rfl) rfl ?_
  intro p e s m args below meth c X hr hk
  unfold fX7_reason at h
  refine j_iload_n (pc := 0) X dX7_reason_0 rfl 1 rfl ?_
  obtain ⟨r1, hc3, h⟩ := bd_s h
  refine j_staI (pc := 1) X (tX7_isLearner l hE G a1 hc3) muX7_isLearner (Or.inl q457) rfl rfl (Nat.le_of_ble_eq_true rfl) ⟨Nat.le_of_ble_eq_true rfl, Nat.le_of_ble_eq_true rfl⟩ dX7_reason_1 ?_
  refine j_if_ne (pc := 4) (tgt := 9) X dX7_reason_4 (by decide) (fun hc => ?_) (fun hc => ?_)
  · rw [if_neg hc] at h
    refine j_aload_n (pc := 9) X dX7_reason_9 rfl 0 rfl ?_
    obtain ⟨G5, hc6, h⟩ := bd_s h
    refine j_callR (pc := 10) X (tX7_readRuns l hE G  hc6) muX7_readRuns (by decide) q280 rfl rfl (Nat.le_of_ble_eq_true rfl) ⟨Nat.le_of_ble_eq_true rfl, Nat.le_of_ble_eq_true rfl⟩ dX7_reason_10 ?_
    obtain ⟨r7, hc9, h⟩ := bd_s h
    refine j_callI (pc := 13) X (tX3_wordRuns l hE G5 0 (by decide) hc9) muX3_wordRuns (by decide) q405 rfl rfl (Nat.le_of_ble_eq_true rfl) ⟨Nat.le_of_ble_eq_true rfl, Nat.le_of_ble_eq_true rfl⟩ dX7_reason_13 ?_
    refine j_if_ne (pc := 16) (tgt := 22) X dX7_reason_16 (by decide) (fun hc => ?_) (fun hc => ?_)
    · rw [if_neg hc] at h
      refine j_iconst (pc := 22) (v := 0) X dX7_reason_22 (by decide) ?_
      refine j_istore_n (pc := 23) (lv' := [(0, .ref (Ad E 20 0)), (1, .int a1), (2, .int (0 : Int32))]) X dX7_reason_23 rfl (by decide) rfl ?_
      exact tX7_reason_24 l hE X hr hk G5 a1 FU (0 : Int32) h
    · rw [if_pos hc] at h
      refine j_bipush (pc := 19) (v := (-5)) X dX7_reason_19 (by decide) ?_
      exact j_ret (pc := 21) X hr hk (vp_nar_int _) (pr_s h).1 (pr_s h).2 dX7_reason_21
  · rw [if_pos hc] at h
    refine j_iconst (pc := 7) (v := (-1)) X dX7_reason_7 (by decide) ?_
    exact j_ret (pc := 8) X hr hk (vp_nar_int _) (pr_s h).1 (pr_s h).2 dX7_reason_8
theorem dX7_ifPulled_0 : decode cX7_ifPulled 0 = .ok (.iload_n 1, 1) := by decide +kernel
theorem dX7_ifPulled_1 : decode cX7_ifPulled 1 = .ok (.iconst 1, 1) := by decide +kernel
theorem dX7_ifPulled_2 : decode cX7_ifPulled 2 = .ok (.bipush 9, 2) := by decide +kernel
theorem dX7_ifPulled_4 : decode cX7_ifPulled 4 = .ok (.invokestatic 58, 3) := by decide +kernel
theorem dX7_ifPulled_7 : decode cX7_ifPulled 7 = .ok (.ifCond .ne 6, 3) := by decide +kernel
theorem dX7_ifPulled_10 : decode cX7_ifPulled 10 = .ok (.bipush (-2), 2) := by decide +kernel
theorem dX7_ifPulled_12 : decode cX7_ifPulled 12 = .ok (.ireturn, 1) := by decide +kernel
theorem dX7_ifPulled_13 : decode cX7_ifPulled 13 = .ok (.aload_n 0, 1) := by decide +kernel
theorem dX7_ifPulled_14 : decode cX7_ifPulled 14 = .ok (.iload_n 1, 1) := by decide +kernel
theorem dX7_ifPulled_15 : decode cX7_ifPulled 15 = .ok (.invokevirtual 88, 3) := by decide +kernel
theorem dX7_ifPulled_18 : decode cX7_ifPulled 18 = .ok (.istore_n 3, 1) := by decide +kernel
theorem dX7_ifPulled_19 : decode cX7_ifPulled 19 = .ok (.aload_n 0, 1) := by decide +kernel
theorem dX7_ifPulled_20 : decode cX7_ifPulled 20 = .ok (.getfield 51, 3) := by decide +kernel
theorem dX7_ifPulled_23 : decode cX7_ifPulled 23 = .ok (.aload_n 0, 1) := by decide +kernel
theorem dX7_ifPulled_24 : decode cX7_ifPulled 24 = .ok (.getfield 47, 3) := by decide +kernel
theorem dX7_ifPulled_27 : decode cX7_ifPulled 27 = .ok (.aload_n 0, 1) := by decide +kernel
theorem dX7_ifPulled_28 : decode cX7_ifPulled 28 = .ok (.getfield 10, 3) := by decide +kernel
theorem dX7_ifPulled_31 : decode cX7_ifPulled 31 = .ok (.getfield 112, 3) := by decide +kernel
theorem dX7_ifPulled_34 : decode cX7_ifPulled 34 = .ok (.invokevirtual 251, 3) := by decide +kernel
theorem dX7_ifPulled_37 : decode cX7_ifPulled 37 = .ok (.iload_n 2, 1) := by decide +kernel
theorem dX7_ifPulled_38 : decode cX7_ifPulled 38 = .ok (.tableswitch 57 0 3 #[30, 32, 40, 48], 30) := by decide +kernel
theorem dX7_ifPulled_68 : decode cX7_ifPulled 68 = .ok (.iload_n 3, 1) := by decide +kernel
theorem dX7_ifPulled_69 : decode cX7_ifPulled 69 = .ok (.ireturn, 1) := by decide +kernel
theorem dX7_ifPulled_70 : decode cX7_ifPulled 70 = .ok (.aload_n 0, 1) := by decide +kernel
theorem dX7_ifPulled_71 : decode cX7_ifPulled 71 = .ok (.getfield 51, 3) := by decide +kernel
theorem dX7_ifPulled_74 : decode cX7_ifPulled 74 = .ok (.getfield 84, 3) := by decide +kernel
theorem dX7_ifPulled_77 : decode cX7_ifPulled 77 = .ok (.ireturn, 1) := by decide +kernel
theorem dX7_ifPulled_78 : decode cX7_ifPulled 78 = .ok (.aload_n 0, 1) := by decide +kernel
theorem dX7_ifPulled_79 : decode cX7_ifPulled 79 = .ok (.getfield 51, 3) := by decide +kernel
theorem dX7_ifPulled_82 : decode cX7_ifPulled 82 = .ok (.invokevirtual 140, 3) := by decide +kernel
theorem dX7_ifPulled_85 : decode cX7_ifPulled 85 = .ok (.ireturn, 1) := by decide +kernel
theorem dX7_ifPulled_86 : decode cX7_ifPulled 86 = .ok (.aload_n 0, 1) := by decide +kernel
theorem dX7_ifPulled_87 : decode cX7_ifPulled 87 = .ok (.aload_n 0, 1) := by decide +kernel
theorem dX7_ifPulled_88 : decode cX7_ifPulled 88 = .ok (.getfield 51, 3) := by decide +kernel
theorem dX7_ifPulled_91 : decode cX7_ifPulled 91 = .ok (.invokevirtual 146, 3) := by decide +kernel
theorem dX7_ifPulled_94 : decode cX7_ifPulled 94 = .ok (.ireturn, 1) := by decide +kernel
theorem dX7_ifPulled_95 : decode cX7_ifPulled 95 = .ok (.bipush (-2), 2) := by decide +kernel
theorem dX7_ifPulled_97 : decode cX7_ifPulled 97 = .ok (.ireturn, 1) := by decide +kernel
set_option maxHeartbeats 4000000 in
set_option maxRecDepth 100000 in
theorem tX7_ifPulled (l : Launch) {E : ET} (hE : Aj E) (G : GT) (a1 : Int32) (a2 : Int32) {r : Int32} {G' : GT} (h : fX7_ifPulled G a1 a2 = some (r, G')) : CI l E yX7_ifPulled cX7_ifPulled 4 (some .int) 5 [.ref (Ad E 20 0), .int a1, .int a2] G r G' := by
  refine Met_I (lv := [(0, .ref (Ad E 20 0)), (1, .int a1), (2, .int a2)]) (by decide +kernel) hE (Nat.le_of_ble_eq_true rfl) rfl ?_
  intro p e s m args below meth c X hr hk
  unfold fX7_ifPulled at h
  refine j_iload_n (pc := 0) X dX7_ifPulled_0 rfl 1 rfl ?_
  refine j_iconst (pc := 1) (v := 1) X dX7_ifPulled_1 (by decide) ?_
  refine j_bipush (pc := 2) (v := 9) X dX7_ifPulled_2 (by decide) ?_
  obtain ⟨r1, hc3, h⟩ := bd_s h
  refine j_staI (pc := 4) X (tX7_isWithin l hE G a1 (1 : Int32) (9 : Int32) hc3) muX7_isWithin (Or.inl q240) rfl rfl (Nat.le_of_ble_eq_true rfl) ⟨Nat.le_of_ble_eq_true rfl, Nat.le_of_ble_eq_true rfl⟩ dX7_ifPulled_4 ?_
  refine j_if_ne (pc := 7) (tgt := 13) X dX7_ifPulled_7 (by decide) (fun hc => ?_) (fun hc => ?_)
  · rw [if_neg hc] at h
    refine j_aload_n (pc := 13) X dX7_ifPulled_13 rfl 0 rfl ?_
    refine j_iload_n (pc := 14) X dX7_ifPulled_14 rfl 1 rfl ?_
    obtain ⟨r4, G5, hc6, h⟩ := bd2_s h
    refine j_callI (pc := 15) X (tX7_tryPull l hE G a1 hc6) muX7_tryPull (by decide) q327 rfl rfl (Nat.le_of_ble_eq_true rfl) ⟨Nat.le_of_ble_eq_true rfl, Nat.le_of_ble_eq_true rfl⟩ dX7_ifPulled_15 ?_
    refine j_istore_n (pc := 18) (lv' := [(0, .ref (Ad E 20 0)), (1, .int a1), (2, .int a2), (3, .int r4)]) X dX7_ifPulled_18 rfl (by decide) rfl ?_
    refine j_aload_n (pc := 19) X dX7_ifPulled_19 rfl 0 rfl ?_
    refine j_get (pc := 20) (v := .ref (Ad E 16 1)) X gf_X7_51 (by decide) rfl rfl dX7_ifPulled_20 ?_
    refine j_aload_n (pc := 23) X dX7_ifPulled_23 rfl 0 rfl ?_
    refine j_get (pc := 24) (v := .ref (Ad E 0 6)) X gf_X7_47 (by decide) rfl rfl dX7_ifPulled_24 ?_
    refine j_aload_n (pc := 27) X dX7_ifPulled_27 rfl 0 rfl ?_
    refine j_get (pc := 28) (v := .ref (Ad E 11 0)) X gf_X7_10 (by decide) rfl rfl dX7_ifPulled_28 ?_
    refine j_get (pc := 31) (v := .ref (Ad E 3 0)) X gf_X7_112 (by decide) rfl rfl dX7_ifPulled_31 ?_
    obtain ⟨G8, hc9, h⟩ := bd_s h
    refine j_callV (pc := 34) X (tX3_read l hE G5 1 (by decide) 6 (by decide) 0 (by decide) hc9) muX3_read (by decide) q284 rfl rfl (Nat.le_of_ble_eq_true rfl) ⟨Nat.le_of_ble_eq_true rfl, Nat.le_of_ble_eq_true rfl⟩ dX7_ifPulled_34 ?_
    refine j_iload_n (pc := 37) X dX7_ifPulled_37 rfl 2 rfl ?_
    by_cases hx10 : a2 = 0
    · rw [if_pos hx10] at h
      refine j_tabIn (pc := 38) (tgt := 68) (off := 30) X dX7_ifPulled_38 (by rw [hx10]; decide) (by rw [hx10]; decide) (by rw [hx10]; decide) (by decide) ?_
      refine j_iload_n (pc := 68) X dX7_ifPulled_68 rfl 3 rfl ?_
      exact j_ret (pc := 69) X hr hk (vp_nar_int _) (pr_s h).1 (pr_s h).2 dX7_ifPulled_69
    rw [if_neg hx10] at h
    by_cases hx11 : a2 = 1
    · rw [if_pos hx11] at h
      refine j_tabIn (pc := 38) (tgt := 70) (off := 32) X dX7_ifPulled_38 (by rw [hx11]; decide) (by rw [hx11]; decide) (by rw [hx11]; decide) (by decide) ?_
      refine j_aload_n (pc := 70) X dX7_ifPulled_70 rfl 0 rfl ?_
      refine j_get (pc := 71) (v := .ref (Ad E 16 1)) X gf_X7_51 (by decide) rfl rfl dX7_ifPulled_71 ?_
      refine j_get (pc := 74) (v := .int (G8 16 1 0)) X gf_X7_84 (by decide) rfl rfl dX7_ifPulled_74 ?_
      exact j_ret (pc := 77) X hr hk (vp_nar_int _) (pr_s h).1 (pr_s h).2 dX7_ifPulled_77
    rw [if_neg hx11] at h
    by_cases hx12 : a2 = 2
    · rw [if_pos hx12] at h
      refine j_tabIn (pc := 38) (tgt := 78) (off := 40) X dX7_ifPulled_38 (by rw [hx12]; decide) (by rw [hx12]; decide) (by rw [hx12]; decide) (by decide) ?_
      refine j_aload_n (pc := 78) X dX7_ifPulled_78 rfl 0 rfl ?_
      refine j_get (pc := 79) (v := .ref (Ad E 16 1)) X gf_X7_51 (by decide) rfl rfl dX7_ifPulled_79 ?_
      obtain ⟨r13, hc15, h⟩ := bd_s h
      refine j_callI (pc := 82) X (tX3_wordRuns l hE G8 1 (by decide) hc15) muX3_wordRuns (by decide) q405 rfl rfl (Nat.le_of_ble_eq_true rfl) ⟨Nat.le_of_ble_eq_true rfl, Nat.le_of_ble_eq_true rfl⟩ dX7_ifPulled_82 ?_
      exact j_ret (pc := 85) X hr hk (vp_nar_int _) (pr_s h).1 (pr_s h).2 dX7_ifPulled_85
    rw [if_neg hx12] at h
    by_cases hx16 : a2 = 3
    · rw [if_pos hx16] at h
      refine j_tabIn (pc := 38) (tgt := 86) (off := 48) X dX7_ifPulled_38 (by rw [hx16]; decide) (by rw [hx16]; decide) (by rw [hx16]; decide) (by decide) ?_
      refine j_aload_n (pc := 86) X dX7_ifPulled_86 rfl 0 rfl ?_
      refine j_aload_n (pc := 87) X dX7_ifPulled_87 rfl 0 rfl ?_
      refine j_get (pc := 88) (v := .ref (Ad E 16 1)) X gf_X7_51 (by decide) rfl rfl dX7_ifPulled_88 ?_
      obtain ⟨r17, hc19, h⟩ := bd_s h
      refine j_callI (pc := 91) X (tX7_rightAnswer l hE G8 1 (by decide) hc19) muX7_rightAnswer (by decide) q417 rfl rfl (Nat.le_of_ble_eq_true rfl) ⟨Nat.le_of_ble_eq_true rfl, Nat.le_of_ble_eq_true rfl⟩ dX7_ifPulled_91 ?_
      exact j_ret (pc := 94) X hr hk (vp_nar_int _) (pr_s h).1 (pr_s h).2 dX7_ifPulled_94
    rw [if_neg hx16] at h
    refine j_tabOut (pc := 38) (tgt := 95) X dX7_ifPulled_38 (tab_out 3 (by decide) (fun j hj => by match j, hj with | 0, _ => exact hx10 | 1, _ => exact hx11 | 2, _ => exact hx12 | 3, _ => exact hx16 | j + 4, hj => omega)) (by decide) ?_
    refine j_bipush (pc := 95) (v := (-2)) X dX7_ifPulled_95 (by decide) ?_
    exact j_ret (pc := 97) X hr hk (vp_nar_int _) (pr_s h).1 (pr_s h).2 dX7_ifPulled_97
  · rw [if_pos hc] at h
    refine j_bipush (pc := 10) (v := (-2)) X dX7_ifPulled_10 (by decide) ?_
    exact j_ret (pc := 12) X hr hk (vp_nar_int _) (pr_s h).1 (pr_s h).2 dX7_ifPulled_12
theorem dX7_safePull_0 : decode cX7_safePull 0 = .ok (.aload_n 0, 1) := by decide +kernel
theorem dX7_safePull_1 : decode cX7_safePull 1 = .ok (.invokevirtual 80, 3) := by decide +kernel
theorem dX7_safePull_4 : decode cX7_safePull 4 = .ok (.pop, 1) := by decide +kernel
theorem dX7_safePull_5 : decode cX7_safePull 5 = .ok (.bipush 9, 2) := by decide +kernel
theorem dX7_safePull_7 : decode cX7_safePull 7 = .ok (.istore_n 1, 1) := by decide +kernel
theorem dX7_safePull_8 : decode cX7_safePull 8 = .ok (.iload_n 1, 1) := by decide +kernel
theorem dX7_safePull_9 : decode cX7_safePull 9 = .ok (.iconst 1, 1) := by decide +kernel
theorem dX7_safePull_10 : decode cX7_safePull 10 = .ok (.if_icmp .le 49, 3) := by decide +kernel
theorem dX7_safePull_13 : decode cX7_safePull 13 = .ok (.aload_n 0, 1) := by decide +kernel
theorem dX7_safePull_14 : decode cX7_safePull 14 = .ok (.iload_n 1, 1) := by decide +kernel
theorem dX7_safePull_15 : decode cX7_safePull 15 = .ok (.invokevirtual 88, 3) := by decide +kernel
theorem dX7_safePull_18 : decode cX7_safePull 18 = .ok (.pop, 1) := by decide +kernel
theorem dX7_safePull_19 : decode cX7_safePull 19 = .ok (.aload_n 0, 1) := by decide +kernel
theorem dX7_safePull_20 : decode cX7_safePull 20 = .ok (.getfield 51, 3) := by decide +kernel
theorem dX7_safePull_23 : decode cX7_safePull 23 = .ok (.aload_n 0, 1) := by decide +kernel
theorem dX7_safePull_24 : decode cX7_safePull 24 = .ok (.getfield 47, 3) := by decide +kernel
theorem dX7_safePull_27 : decode cX7_safePull 27 = .ok (.aload_n 0, 1) := by decide +kernel
theorem dX7_safePull_28 : decode cX7_safePull 28 = .ok (.getfield 10, 3) := by decide +kernel
theorem dX7_safePull_31 : decode cX7_safePull 31 = .ok (.getfield 112, 3) := by decide +kernel
theorem dX7_safePull_34 : decode cX7_safePull 34 = .ok (.invokevirtual 251, 3) := by decide +kernel
theorem dX7_safePull_37 : decode cX7_safePull 37 = .ok (.aload_n 0, 1) := by decide +kernel
theorem dX7_safePull_38 : decode cX7_safePull 38 = .ok (.getfield 51, 3) := by decide +kernel
theorem dX7_safePull_41 : decode cX7_safePull 41 = .ok (.aload_n 0, 1) := by decide +kernel
theorem dX7_safePull_42 : decode cX7_safePull 42 = .ok (.getfield 40, 3) := by decide +kernel
theorem dX7_safePull_45 : decode cX7_safePull 45 = .ok (.invokevirtual 255, 3) := by decide +kernel
theorem dX7_safePull_48 : decode cX7_safePull 48 = .ok (.ifCond .eq 5, 3) := by decide +kernel
theorem dX7_safePull_51 : decode cX7_safePull 51 = .ok (.iload_n 1, 1) := by decide +kernel
theorem dX7_safePull_52 : decode cX7_safePull 52 = .ok (.ireturn, 1) := by decide +kernel
theorem dX7_safePull_53 : decode cX7_safePull 53 = .ok (.iinc 1 (-1), 3) := by decide +kernel
theorem dX7_safePull_56 : decode cX7_safePull 56 = .ok (.goto (-48), 3) := by decide +kernel
theorem dX7_safePull_59 : decode cX7_safePull 59 = .ok (.iconst 1, 1) := by decide +kernel
theorem dX7_safePull_60 : decode cX7_safePull 60 = .ok (.ireturn, 1) := by decide +kernel
set_option maxHeartbeats 4000000 in
set_option maxRecDepth 100000 in
theorem tX7_safePull_8 (l : Launch) {E : ET} (hE : Aj E) {p : Program} {e : Env} {s : State} {m : MethodId} {args : Array Value} {below : List Frame} {meth : Method} {c : Code} (X : Cx p (rmL 6) s m args c yX7_safePull.cls cX7_safePull 2 E (Aw E) 0 0) (hr : meth.sig.returnType = (some .int)) (hk : meth.locks = false) {r : Int32} {G' : GT}  : ∀ (n : Nat) (G : GT) (a1 : Int32), fX7_safePull_8  n G a1 = some (r, G') → J p l e (rmL 6) s m args below meth c E (Aw E) s.heap 2 0 0 (MQ below (QI E r G') args s 0 0 (Aw E)) G 8 [(0, .ref (Ad E 20 0)), (1, .int a1)] [] := by
  intro n
  induction n with
  | zero =>
    intro G a1 h
    simp [fX7_safePull_8] at h
  | succ n ih =>
    intro G a1 h
    rw [fX7_safePull_8] at h
    refine j_iload_n (pc := 8) X dX7_safePull_8 rfl 1 rfl ?_
    refine j_iconst (pc := 9) (v := 1) X dX7_safePull_9 (by decide) ?_
    refine j_icmp_le (pc := 10) (tgt := 59) X dX7_safePull_10 (by decide) (fun hc => ?_) (fun hc => ?_)
    · rw [if_pos hc] at h
      refine j_iconst (pc := 59) (v := 1) X dX7_safePull_59 (by decide) ?_
      exact j_ret (pc := 60) X hr hk (vp_nar_int _) (pr_s h).1 (pr_s h).2 dX7_safePull_60
    · rw [if_neg hc] at h
      refine j_aload_n (pc := 13) X dX7_safePull_13 rfl 0 rfl ?_
      refine j_iload_n (pc := 14) X dX7_safePull_14 rfl 1 rfl ?_
      obtain ⟨r1, G2, hc3, h⟩ := bd2_s h
      refine j_callI (pc := 15) X (tX7_tryPull l hE G a1 hc3) muX7_tryPull (by decide) q327 rfl rfl (Nat.le_of_ble_eq_true rfl) ⟨Nat.le_of_ble_eq_true rfl, Nat.le_of_ble_eq_true rfl⟩ dX7_safePull_15 ?_
      refine j_pop (pc := 18) X dX7_safePull_18 rfl ?_
      refine j_aload_n (pc := 19) X dX7_safePull_19 rfl 0 rfl ?_
      refine j_get (pc := 20) (v := .ref (Ad E 16 1)) X gf_X7_51 (by decide) rfl rfl dX7_safePull_20 ?_
      refine j_aload_n (pc := 23) X dX7_safePull_23 rfl 0 rfl ?_
      refine j_get (pc := 24) (v := .ref (Ad E 0 6)) X gf_X7_47 (by decide) rfl rfl dX7_safePull_24 ?_
      refine j_aload_n (pc := 27) X dX7_safePull_27 rfl 0 rfl ?_
      refine j_get (pc := 28) (v := .ref (Ad E 11 0)) X gf_X7_10 (by decide) rfl rfl dX7_safePull_28 ?_
      refine j_get (pc := 31) (v := .ref (Ad E 3 0)) X gf_X7_112 (by decide) rfl rfl dX7_safePull_31 ?_
      obtain ⟨G5, hc6, h⟩ := bd_s h
      refine j_callV (pc := 34) X (tX3_read l hE G2 1 (by decide) 6 (by decide) 0 (by decide) hc6) muX3_read (by decide) q284 rfl rfl (Nat.le_of_ble_eq_true rfl) ⟨Nat.le_of_ble_eq_true rfl, Nat.le_of_ble_eq_true rfl⟩ dX7_safePull_34 ?_
      refine j_aload_n (pc := 37) X dX7_safePull_37 rfl 0 rfl ?_
      refine j_get (pc := 38) (v := .ref (Ad E 16 1)) X gf_X7_51 (by decide) rfl rfl dX7_safePull_38 ?_
      refine j_aload_n (pc := 41) X dX7_safePull_41 rfl 0 rfl ?_
      refine j_get (pc := 42) (v := .ref (Ad E 16 0)) X gf_X7_40 (by decide) rfl rfl dX7_safePull_42 ?_
      obtain ⟨r7, hc9, h⟩ := bd_s h
      refine j_callI (pc := 45) X (tX3_sameWordsAs l hE G5 1 (by decide) 0 (by decide) hc9) muX3_sameWordsAs (by decide) q615 rfl rfl (Nat.le_of_ble_eq_true rfl) ⟨Nat.le_of_ble_eq_true rfl, Nat.le_of_ble_eq_true rfl⟩ dX7_safePull_45 ?_
      refine j_if_eq (pc := 48) (tgt := 53) X dX7_safePull_48 (by decide) (fun hc => ?_) (fun hc => ?_)
      · rw [if_pos hc] at h
        refine j_iinc (pc := 53) (q := 1) (v := (a1 + (-1 : Int32))) (lv' := [(0, .ref (Ad E 20 0)), (1, .int (a1 + (-1 : Int32)))]) X dX7_safePull_53 rfl rfl (by decide) rfl ?_
        refine j_goto (pc := 56) (tgt := 8) X dX7_safePull_56 (by decide) ?_
        exact ih G5 (a1 + (-1 : Int32)) h
      · rw [if_neg hc] at h
        refine j_iload_n (pc := 51) X dX7_safePull_51 rfl 1 rfl ?_
        exact j_ret (pc := 52) X hr hk (vp_nar_int _) (pr_s h).1 (pr_s h).2 dX7_safePull_52
set_option maxHeartbeats 4000000 in
set_option maxRecDepth 100000 in
theorem tX7_safePull (l : Launch) {E : ET} (hE : Aj E) (G : GT) {r : Int32} {G' : GT} (h : fX7_safePull G = some (r, G')) : CI l E yX7_safePull cX7_safePull 2 (some .int) 6 [.ref (Ad E 20 0)] G r G' := by
  refine Met_I (lv := [(0, .ref (Ad E 20 0))]) (by decide +kernel) hE (Nat.le_of_ble_eq_true rfl) rfl ?_
  intro p e s m args below meth c X hr hk
  unfold fX7_safePull at h
  refine j_aload_n (pc := 0) X dX7_safePull_0 rfl 0 rfl ?_
  obtain ⟨G2, hc3, h⟩ := bd_s h
  refine j_callR (pc := 1) X (tX7_readRuns l hE G  hc3) muX7_readRuns (by decide) q280 rfl rfl (Nat.le_of_ble_eq_true rfl) ⟨Nat.le_of_ble_eq_true rfl, Nat.le_of_ble_eq_true rfl⟩ dX7_safePull_1 ?_
  refine j_pop (pc := 4) X dX7_safePull_4 rfl ?_
  refine j_bipush (pc := 5) (v := 9) X dX7_safePull_5 (by decide) ?_
  refine j_istore_n (pc := 7) (lv' := [(0, .ref (Ad E 20 0)), (1, .int (9 : Int32))]) X dX7_safePull_7 rfl (by decide) rfl ?_
  exact tX7_safePull_8 l hE X hr hk  FU G2 (9 : Int32) h
theorem dX7_ringsUntilAllKnow_0 : decode cX7_ringsUntilAllKnow 0 = .ok (.iload_n 2, 1) := by decide +kernel
theorem dX7_ringsUntilAllKnow_1 : decode cX7_ringsUntilAllKnow 1 = .ok (.ifCond .gt 5, 3) := by decide +kernel
theorem dX7_ringsUntilAllKnow_4 : decode cX7_ringsUntilAllKnow 4 = .ok (.iconst 0, 1) := by decide +kernel
theorem dX7_ringsUntilAllKnow_5 : decode cX7_ringsUntilAllKnow 5 = .ok (.ireturn, 1) := by decide +kernel
theorem dX7_ringsUntilAllKnow_6 : decode cX7_ringsUntilAllKnow 6 = .ok (.aload_n 0, 1) := by decide +kernel
theorem dX7_ringsUntilAllKnow_7 : decode cX7_ringsUntilAllKnow 7 = .ok (.getfield 10, 3) := by decide +kernel
theorem dX7_ringsUntilAllKnow_10 : decode cX7_ringsUntilAllKnow 10 = .ok (.getfield 153, 3) := by decide +kernel
theorem dX7_ringsUntilAllKnow_13 : decode cX7_ringsUntilAllKnow 13 = .ok (.iload_n 1, 1) := by decide +kernel
theorem dX7_ringsUntilAllKnow_14 : decode cX7_ringsUntilAllKnow 14 = .ok (.invokevirtual 274, 3) := by decide +kernel
theorem dX7_ringsUntilAllKnow_17 : decode cX7_ringsUntilAllKnow 17 = .ok (.istore_n 3, 1) := by decide +kernel
theorem dX7_ringsUntilAllKnow_18 : decode cX7_ringsUntilAllKnow 18 = .ok (.iload_n 3, 1) := by decide +kernel
theorem dX7_ringsUntilAllKnow_19 : decode cX7_ringsUntilAllKnow 19 = .ok (.iload_n 2, 1) := by decide +kernel
theorem dX7_ringsUntilAllKnow_20 : decode cX7_ringsUntilAllKnow 20 = .ok (.iadd, 1) := by decide +kernel
theorem dX7_ringsUntilAllKnow_21 : decode cX7_ringsUntilAllKnow 21 = .ok (.iconst 1, 1) := by decide +kernel
theorem dX7_ringsUntilAllKnow_22 : decode cX7_ringsUntilAllKnow 22 = .ok (.isub, 1) := by decide +kernel
theorem dX7_ringsUntilAllKnow_23 : decode cX7_ringsUntilAllKnow 23 = .ok (.iload_n 2, 1) := by decide +kernel
theorem dX7_ringsUntilAllKnow_24 : decode cX7_ringsUntilAllKnow 24 = .ok (.idiv, 1) := by decide +kernel
theorem dX7_ringsUntilAllKnow_25 : decode cX7_ringsUntilAllKnow 25 = .ok (.ireturn, 1) := by decide +kernel
set_option maxHeartbeats 4000000 in
set_option maxRecDepth 100000 in
theorem tX7_ringsUntilAllKnow (l : Launch) {E : ET} (hE : Aj E) (G : GT) (a1 : Int32) (a2 : Int32) {r : Int32} (h : fX7_ringsUntilAllKnow G a1 a2 = some r) : CI l E yX7_ringsUntilAllKnow cX7_ringsUntilAllKnow 4 (some .int) 5 [.ref (Ad E 20 0), .int a1, .int a2] G r G := by
  refine Met_I (lv := [(0, .ref (Ad E 20 0)), (1, .int a1), (2, .int a2)]) (by decide +kernel) hE (Nat.le_of_ble_eq_true rfl) rfl ?_
  intro p e s m args below meth c X hr hk
  unfold fX7_ringsUntilAllKnow at h
  refine j_iload_n (pc := 0) X dX7_ringsUntilAllKnow_0 rfl 2 rfl ?_
  refine j_if_gt (pc := 1) (tgt := 6) X dX7_ringsUntilAllKnow_1 (by decide) (fun hc => ?_) (fun hc => ?_)
  · rw [if_pos hc] at h
    refine j_aload_n (pc := 6) X dX7_ringsUntilAllKnow_6 rfl 0 rfl ?_
    refine j_get (pc := 7) (v := .ref (Ad E 11 0)) X gf_X7_10 (by decide) rfl rfl dX7_ringsUntilAllKnow_7 ?_
    refine j_get (pc := 10) (v := .ref (Ad E 7 0)) X gf_X7_153 (by decide) rfl rfl dX7_ringsUntilAllKnow_10 ?_
    refine j_iload_n (pc := 13) X dX7_ringsUntilAllKnow_13 rfl 1 rfl ?_
    obtain ⟨r1, hc3, h⟩ := bd_s h
    refine j_callI (pc := 14) X (tX1_mostMissing l hE G 0 (by decide) a1 hc3) muX1_mostMissing (by decide) q632 rfl rfl (Nat.le_of_ble_eq_true rfl) ⟨Nat.le_of_ble_eq_true rfl, Nat.le_of_ble_eq_true rfl⟩ dX7_ringsUntilAllKnow_14 ?_
    refine j_istore_n (pc := 17) (lv' := [(0, .ref (Ad E 20 0)), (1, .int a1), (2, .int a2), (3, .int r1)]) X dX7_ringsUntilAllKnow_17 rfl (by decide) rfl ?_
    refine j_iload_n (pc := 18) X dX7_ringsUntilAllKnow_18 rfl 3 rfl ?_
    refine j_iload_n (pc := 19) X dX7_ringsUntilAllKnow_19 rfl 2 rfl ?_
    refine j_iadd (pc := 20) X dX7_ringsUntilAllKnow_20 ?_
    refine j_iconst (pc := 21) (v := 1) X dX7_ringsUntilAllKnow_21 (by decide) ?_
    refine j_isub (pc := 22) X dX7_ringsUntilAllKnow_22 ?_
    refine j_iload_n (pc := 23) X dX7_ringsUntilAllKnow_23 rfl 2 rfl ?_
    obtain ⟨hg4, h⟩ := gd_s h
    refine j_idiv (pc := 24) X dX7_ringsUntilAllKnow_24 hg4 ?_
    exact j_ret (pc := 25) X hr hk (vp_nar_int _) (Option.some.inj h) rfl dX7_ringsUntilAllKnow_25
  · rw [if_neg hc] at h
    refine j_iconst (pc := 4) (v := 0) X dX7_ringsUntilAllKnow_4 (by decide) ?_
    exact j_ret (pc := 5) X hr hk (vp_nar_int _) (Option.some.inj h) rfl dX7_ringsUntilAllKnow_5
theorem dX7_allRightIn_0 : decode cX7_allRightIn 0 = .ok (.aload_n 0, 1) := by decide +kernel
theorem dX7_allRightIn_1 : decode cX7_allRightIn 1 = .ok (.invokevirtual 80, 3) := by decide +kernel
theorem dX7_allRightIn_4 : decode cX7_allRightIn 4 = .ok (.invokevirtual 140, 3) := by decide +kernel
theorem dX7_allRightIn_7 : decode cX7_allRightIn 7 = .ok (.ifCond .ne 6, 3) := by decide +kernel
theorem dX7_allRightIn_10 : decode cX7_allRightIn 10 = .ok (.bipush (-5), 2) := by decide +kernel
theorem dX7_allRightIn_12 : decode cX7_allRightIn 12 = .ok (.ireturn, 1) := by decide +kernel
theorem dX7_allRightIn_13 : decode cX7_allRightIn 13 = .ok (.iconst 0, 1) := by decide +kernel
theorem dX7_allRightIn_14 : decode cX7_allRightIn 14 = .ok (.istore_n 1, 1) := by decide +kernel
theorem dX7_allRightIn_15 : decode cX7_allRightIn 15 = .ok (.iconst 0, 1) := by decide +kernel
theorem dX7_allRightIn_16 : decode cX7_allRightIn 16 = .ok (.istore_n 2, 1) := by decide +kernel
theorem dX7_allRightIn_17 : decode cX7_allRightIn 17 = .ok (.iload_n 2, 1) := by decide +kernel
theorem dX7_allRightIn_18 : decode cX7_allRightIn 18 = .ok (.aload_n 0, 1) := by decide +kernel
theorem dX7_allRightIn_19 : decode cX7_allRightIn 19 = .ok (.getfield 10, 3) := by decide +kernel
theorem dX7_allRightIn_22 : decode cX7_allRightIn 22 = .ok (.getfield 112, 3) := by decide +kernel
theorem dX7_allRightIn_25 : decode cX7_allRightIn 25 = .ok (.getfield 125, 3) := by decide +kernel
theorem dX7_allRightIn_28 : decode cX7_allRightIn 28 = .ok (.if_icmp .ge 27, 3) := by decide +kernel
theorem dX7_allRightIn_31 : decode cX7_allRightIn 31 = .ok (.iload_n 1, 1) := by decide +kernel
theorem dX7_allRightIn_32 : decode cX7_allRightIn 32 = .ok (.aload_n 0, 1) := by decide +kernel
theorem dX7_allRightIn_33 : decode cX7_allRightIn 33 = .ok (.iload_n 2, 1) := by decide +kernel
theorem dX7_allRightIn_34 : decode cX7_allRightIn 34 = .ok (.aload_n 0, 1) := by decide +kernel
theorem dX7_allRightIn_35 : decode cX7_allRightIn 35 = .ok (.getfield 40, 3) := by decide +kernel
theorem dX7_allRightIn_38 : decode cX7_allRightIn 38 = .ok (.iload_n 2, 1) := by decide +kernel
theorem dX7_allRightIn_39 : decode cX7_allRightIn 39 = .ok (.invokevirtual 230, 3) := by decide +kernel
theorem dX7_allRightIn_42 : decode cX7_allRightIn 42 = .ok (.invokevirtual 259, 3) := by decide +kernel
theorem dX7_allRightIn_45 : decode cX7_allRightIn 45 = .ok (.invokestatic 262, 3) := by decide +kernel
theorem dX7_allRightIn_48 : decode cX7_allRightIn 48 = .ok (.istore_n 1, 1) := by decide +kernel
theorem dX7_allRightIn_49 : decode cX7_allRightIn 49 = .ok (.iinc 2 1, 3) := by decide +kernel
theorem dX7_allRightIn_52 : decode cX7_allRightIn 52 = .ok (.goto (-35), 3) := by decide +kernel
theorem dX7_allRightIn_55 : decode cX7_allRightIn 55 = .ok (.iload_n 1, 1) := by decide +kernel
theorem dX7_allRightIn_56 : decode cX7_allRightIn 56 = .ok (.ireturn, 1) := by decide +kernel
set_option maxHeartbeats 4000000 in
set_option maxRecDepth 100000 in
theorem tX7_allRightIn_17 (l : Launch) {E : ET} (hE : Aj E) {p : Program} {e : Env} {s : State} {m : MethodId} {args : Array Value} {below : List Frame} {meth : Method} {c : Code} (X : Cx p (rmL 6) s m args c yX7_allRightIn.cls cX7_allRightIn 3 E (Aw E) 0 0) (hr : meth.sig.returnType = (some .int)) (hk : meth.locks = false) {r : Int32} {G' : GT} (G : GT) : ∀ (n : Nat) (a1 a2 : Int32), fX7_allRightIn_17 G n a1 a2 = some (r, G') → J p l e (rmL 6) s m args below meth c E (Aw E) s.heap 3 0 0 (MQ below (QI E r G') args s 0 0 (Aw E)) G 17 [(0, .ref (Ad E 20 0)), (1, .int a1), (2, .int a2)] [] := by
  intro n
  induction n with
  | zero =>
    intro a1 a2 h
    simp [fX7_allRightIn_17] at h
  | succ n ih =>
    intro a1 a2 h
    rw [fX7_allRightIn_17] at h
    refine j_iload_n (pc := 17) X dX7_allRightIn_17 rfl 2 rfl ?_
    refine j_aload_n (pc := 18) X dX7_allRightIn_18 rfl 0 rfl ?_
    refine j_get (pc := 19) (v := .ref (Ad E 11 0)) X gf_X7_10 (by decide) rfl rfl dX7_allRightIn_19 ?_
    refine j_get (pc := 22) (v := .ref (Ad E 3 0)) X gf_X7_112 (by decide) rfl rfl dX7_allRightIn_22 ?_
    refine j_get (pc := 25) (v := .int (G 3 0 0)) X gf_X7_125 (by decide) rfl rfl dX7_allRightIn_25 ?_
    refine j_icmp_ge (pc := 28) (tgt := 55) X dX7_allRightIn_28 (by decide) (fun hc => ?_) (fun hc => ?_)
    · rw [if_pos hc] at h
      refine j_iload_n (pc := 55) X dX7_allRightIn_55 rfl 1 rfl ?_
      exact j_ret (pc := 56) X hr hk (vp_nar_int _) (pr_s h).1 (pr_s h).2 dX7_allRightIn_56
    · rw [if_neg hc] at h
      refine j_iload_n (pc := 31) X dX7_allRightIn_31 rfl 1 rfl ?_
      refine j_aload_n (pc := 32) X dX7_allRightIn_32 rfl 0 rfl ?_
      refine j_iload_n (pc := 33) X dX7_allRightIn_33 rfl 2 rfl ?_
      refine j_aload_n (pc := 34) X dX7_allRightIn_34 rfl 0 rfl ?_
      refine j_get (pc := 35) (v := .ref (Ad E 16 0)) X gf_X7_40 (by decide) rfl rfl dX7_allRightIn_35 ?_
      refine j_iload_n (pc := 38) X dX7_allRightIn_38 rfl 2 rfl ?_
      obtain ⟨r1, hc3, h⟩ := bd_s h
      refine j_callI (pc := 39) X (tX3_countOf l hE G 0 (by decide) a2 hc3) muX3_countOf (by decide) q573 rfl rfl (Nat.le_of_ble_eq_true rfl) ⟨Nat.le_of_ble_eq_true rfl, Nat.le_of_ble_eq_true rfl⟩ dX7_allRightIn_39 ?_
      obtain ⟨r4, hc6, h⟩ := bd_s h
      refine j_callI (pc := 42) X (tX7_ringsUntilAllKnow l hE G a2 r1 hc6) muX7_ringsUntilAllKnow (by decide) q628 rfl rfl (Nat.le_of_ble_eq_true rfl) ⟨Nat.le_of_ble_eq_true rfl, Nat.le_of_ble_eq_true rfl⟩ dX7_allRightIn_42 ?_
      refine j_mmax (pc := 45) X (q637) ⟨Nat.le_of_ble_eq_true rfl, Nat.le_of_ble_eq_true rfl⟩ dX7_allRightIn_45 ?_
      refine j_istore_n (pc := 48) (lv' := [(0, .ref (Ad E 20 0)), (1, .int (imax a1 r4)), (2, .int a2)]) X dX7_allRightIn_48 rfl (by decide) rfl ?_
      refine j_iinc (pc := 49) (q := 2) (v := (a2 + (1 : Int32))) (lv' := [(0, .ref (Ad E 20 0)), (1, .int (imax a1 r4)), (2, .int (a2 + (1 : Int32)))]) X dX7_allRightIn_49 rfl rfl (by decide) rfl ?_
      refine j_goto (pc := 52) (tgt := 17) X dX7_allRightIn_52 (by decide) ?_
      exact ih (imax a1 r4) (a2 + (1 : Int32)) h
set_option maxHeartbeats 4000000 in
set_option maxRecDepth 100000 in
theorem tX7_allRightIn (l : Launch) {E : ET} (hE : Aj E) (G : GT) {r : Int32} {G' : GT} (h : fX7_allRightIn G = some (r, G')) : CI l E yX7_allRightIn cX7_allRightIn 3 (some .int) 6 [.ref (Ad E 20 0)] G r G' := by
  refine Met_I (lv := [(0, .ref (Ad E 20 0))]) (by decide +kernel) hE (Nat.le_of_ble_eq_true rfl) rfl ?_
  intro p e s m args below meth c X hr hk
  unfold fX7_allRightIn at h
  refine j_aload_n (pc := 0) X dX7_allRightIn_0 rfl 0 rfl ?_
  obtain ⟨G2, hc3, h⟩ := bd_s h
  refine j_callR (pc := 1) X (tX7_readRuns l hE G  hc3) muX7_readRuns (by decide) q280 rfl rfl (Nat.le_of_ble_eq_true rfl) ⟨Nat.le_of_ble_eq_true rfl, Nat.le_of_ble_eq_true rfl⟩ dX7_allRightIn_1 ?_
  obtain ⟨r4, hc6, h⟩ := bd_s h
  refine j_callI (pc := 4) X (tX3_wordRuns l hE G2 0 (by decide) hc6) muX3_wordRuns (by decide) q405 rfl rfl (Nat.le_of_ble_eq_true rfl) ⟨Nat.le_of_ble_eq_true rfl, Nat.le_of_ble_eq_true rfl⟩ dX7_allRightIn_4 ?_
  refine j_if_ne (pc := 7) (tgt := 13) X dX7_allRightIn_7 (by decide) (fun hc => ?_) (fun hc => ?_)
  · rw [if_neg hc] at h
    refine j_iconst (pc := 13) (v := 0) X dX7_allRightIn_13 (by decide) ?_
    refine j_istore_n (pc := 14) (lv' := [(0, .ref (Ad E 20 0)), (1, .int (0 : Int32))]) X dX7_allRightIn_14 rfl (by decide) rfl ?_
    refine j_iconst (pc := 15) (v := 0) X dX7_allRightIn_15 (by decide) ?_
    refine j_istore_n (pc := 16) (lv' := [(0, .ref (Ad E 20 0)), (1, .int (0 : Int32)), (2, .int (0 : Int32))]) X dX7_allRightIn_16 rfl (by decide) rfl ?_
    exact tX7_allRightIn_17 l hE X hr hk G2 FU (0 : Int32) (0 : Int32) h
  · rw [if_pos hc] at h
    refine j_bipush (pc := 10) (v := (-5)) X dX7_allRightIn_10 (by decide) ?_
    exact j_ret (pc := 12) X hr hk (vp_nar_int _) (pr_s h).1 (pr_s h).2 dX7_allRightIn_12
theorem dX7_count_0 : decode cX7_count 0 = .ok (.iload_n 1, 1) := by decide +kernel
theorem dX7_count_1 : decode cX7_count 1 = .ok (.tableswitch 187 0 12 #[67, 78, 86, 94, 103, 114, 122, 130, 138, 149, 160, 171, 179], 67) := by decide +kernel
theorem dX7_count_68 : decode cX7_count 68 = .ok (.aload_n 0, 1) := by decide +kernel
theorem dX7_count_69 : decode cX7_count 69 = .ok (.getfield 10, 3) := by decide +kernel
theorem dX7_count_72 : decode cX7_count 72 = .ok (.getfield 62, 3) := by decide +kernel
theorem dX7_count_75 : decode cX7_count 75 = .ok (.invokevirtual 108, 3) := by decide +kernel
theorem dX7_count_78 : decode cX7_count 78 = .ok (.ireturn, 1) := by decide +kernel
theorem dX7_count_79 : decode cX7_count 79 = .ok (.aload_n 0, 1) := by decide +kernel
theorem dX7_count_80 : decode cX7_count 80 = .ok (.invokevirtual 80, 3) := by decide +kernel
theorem dX7_count_83 : decode cX7_count 83 = .ok (.getfield 84, 3) := by decide +kernel
theorem dX7_count_86 : decode cX7_count 86 = .ok (.ireturn, 1) := by decide +kernel
theorem dX7_count_87 : decode cX7_count 87 = .ok (.aload_n 0, 1) := by decide +kernel
theorem dX7_count_88 : decode cX7_count 88 = .ok (.invokevirtual 80, 3) := by decide +kernel
theorem dX7_count_91 : decode cX7_count 91 = .ok (.invokevirtual 140, 3) := by decide +kernel
theorem dX7_count_94 : decode cX7_count 94 = .ok (.ireturn, 1) := by decide +kernel
theorem dX7_count_95 : decode cX7_count 95 = .ok (.aload_n 0, 1) := by decide +kernel
theorem dX7_count_96 : decode cX7_count 96 = .ok (.aload_n 0, 1) := by decide +kernel
theorem dX7_count_97 : decode cX7_count 97 = .ok (.invokevirtual 80, 3) := by decide +kernel
theorem dX7_count_100 : decode cX7_count 100 = .ok (.invokevirtual 146, 3) := by decide +kernel
theorem dX7_count_103 : decode cX7_count 103 = .ok (.ireturn, 1) := by decide +kernel
theorem dX7_count_104 : decode cX7_count 104 = .ok (.aload_n 0, 1) := by decide +kernel
theorem dX7_count_105 : decode cX7_count 105 = .ok (.getfield 10, 3) := by decide +kernel
theorem dX7_count_108 : decode cX7_count 108 = .ok (.getfield 112, 3) := by decide +kernel
theorem dX7_count_111 : decode cX7_count 111 = .ok (.getfield 125, 3) := by decide +kernel
theorem dX7_count_114 : decode cX7_count 114 = .ok (.ireturn, 1) := by decide +kernel
theorem dX7_count_115 : decode cX7_count 115 = .ok (.aload_n 0, 1) := by decide +kernel
theorem dX7_count_116 : decode cX7_count 116 = .ok (.getfield 10, 3) := by decide +kernel
theorem dX7_count_119 : decode cX7_count 119 = .ok (.getfield 95, 3) := by decide +kernel
theorem dX7_count_122 : decode cX7_count 122 = .ok (.ireturn, 1) := by decide +kernel
theorem dX7_count_123 : decode cX7_count 123 = .ok (.aload_n 0, 1) := by decide +kernel
theorem dX7_count_124 : decode cX7_count 124 = .ok (.getfield 10, 3) := by decide +kernel
theorem dX7_count_127 : decode cX7_count 127 = .ok (.getfield 98, 3) := by decide +kernel
theorem dX7_count_130 : decode cX7_count 130 = .ok (.ireturn, 1) := by decide +kernel
theorem dX7_count_131 : decode cX7_count 131 = .ok (.aload_n 0, 1) := by decide +kernel
theorem dX7_count_132 : decode cX7_count 132 = .ok (.getfield 10, 3) := by decide +kernel
theorem dX7_count_135 : decode cX7_count 135 = .ok (.getfield 143, 3) := by decide +kernel
theorem dX7_count_138 : decode cX7_count 138 = .ok (.ireturn, 1) := by decide +kernel
theorem dX7_count_139 : decode cX7_count 139 = .ok (.aload_n 0, 1) := by decide +kernel
theorem dX7_count_140 : decode cX7_count 140 = .ok (.getfield 10, 3) := by decide +kernel
theorem dX7_count_143 : decode cX7_count 143 = .ok (.getfield 153, 3) := by decide +kernel
theorem dX7_count_146 : decode cX7_count 146 = .ok (.invokevirtual 265, 3) := by decide +kernel
theorem dX7_count_149 : decode cX7_count 149 = .ok (.ireturn, 1) := by decide +kernel
theorem dX7_count_150 : decode cX7_count 150 = .ok (.aload_n 0, 1) := by decide +kernel
theorem dX7_count_151 : decode cX7_count 151 = .ok (.getfield 10, 3) := by decide +kernel
theorem dX7_count_154 : decode cX7_count 154 = .ok (.getfield 153, 3) := by decide +kernel
theorem dX7_count_157 : decode cX7_count 157 = .ok (.invokevirtual 268, 3) := by decide +kernel
theorem dX7_count_160 : decode cX7_count 160 = .ok (.ireturn, 1) := by decide +kernel
theorem dX7_count_161 : decode cX7_count 161 = .ok (.aload_n 0, 1) := by decide +kernel
theorem dX7_count_162 : decode cX7_count 162 = .ok (.getfield 10, 3) := by decide +kernel
theorem dX7_count_165 : decode cX7_count 165 = .ok (.getfield 153, 3) := by decide +kernel
theorem dX7_count_168 : decode cX7_count 168 = .ok (.getfield 177, 3) := by decide +kernel
theorem dX7_count_171 : decode cX7_count 171 = .ok (.ireturn, 1) := by decide +kernel
theorem dX7_count_172 : decode cX7_count 172 = .ok (.aload_n 0, 1) := by decide +kernel
theorem dX7_count_173 : decode cX7_count 173 = .ok (.getfield 26, 3) := by decide +kernel
theorem dX7_count_176 : decode cX7_count 176 = .ok (.getfield 191, 3) := by decide +kernel
theorem dX7_count_179 : decode cX7_count 179 = .ok (.ireturn, 1) := by decide +kernel
theorem dX7_count_180 : decode cX7_count 180 = .ok (.aload_n 0, 1) := by decide +kernel
theorem dX7_count_181 : decode cX7_count 181 = .ok (.getfield 33, 3) := by decide +kernel
theorem dX7_count_184 : decode cX7_count 184 = .ok (.getfield 116, 3) := by decide +kernel
theorem dX7_count_187 : decode cX7_count 187 = .ok (.ireturn, 1) := by decide +kernel
theorem dX7_count_188 : decode cX7_count 188 = .ok (.bipush (-2), 2) := by decide +kernel
theorem dX7_count_190 : decode cX7_count 190 = .ok (.ireturn, 1) := by decide +kernel
set_option maxHeartbeats 4000000 in
set_option maxRecDepth 100000 in
theorem tX7_count (l : Launch) {E : ET} (hE : Aj E) (G : GT) (a1 : Int32) {r : Int32} {G' : GT} (h : fX7_count G a1 = some (r, G')) : CI l E yX7_count cX7_count 2 (some .int) 6 [.ref (Ad E 20 0), .int a1] G r G' := by
  refine Met_I (lv := [(0, .ref (Ad E 20 0)), (1, .int a1)]) (by decide +kernel) hE (Nat.le_of_ble_eq_true rfl) rfl ?_
  intro p e s m args below meth c X hr hk
  unfold fX7_count at h
  refine j_iload_n (pc := 0) X dX7_count_0 rfl 1 rfl ?_
  by_cases hx1 : a1 = 0
  · rw [if_pos hx1] at h
    refine j_tabIn (pc := 1) (tgt := 68) (off := 67) X dX7_count_1 (by rw [hx1]; decide) (by rw [hx1]; decide) (by rw [hx1]; decide) (by decide) ?_
    refine j_aload_n (pc := 68) X dX7_count_68 rfl 0 rfl ?_
    refine j_get (pc := 69) (v := .ref (Ad E 11 0)) X gf_X7_10 (by decide) rfl rfl dX7_count_69 ?_
    refine j_get (pc := 72) (v := .ref (Ad E 0 0)) X gf_X7_62 (by decide) rfl rfl dX7_count_72 ?_
    obtain ⟨r2, hc4, h⟩ := bd_s h
    refine j_callI (pc := 75) X (tX2_knotCount l hE G 0 (by decide) hc4) muX2_knotCount (by decide) q375 rfl rfl (Nat.le_of_ble_eq_true rfl) ⟨Nat.le_of_ble_eq_true rfl, Nat.le_of_ble_eq_true rfl⟩ dX7_count_75 ?_
    exact j_ret (pc := 78) X hr hk (vp_nar_int _) (pr_s h).1 (pr_s h).2 dX7_count_78
  rw [if_neg hx1] at h
  by_cases hx5 : a1 = 1
  · rw [if_pos hx5] at h
    refine j_tabIn (pc := 1) (tgt := 79) (off := 78) X dX7_count_1 (by rw [hx5]; decide) (by rw [hx5]; decide) (by rw [hx5]; decide) (by decide) ?_
    refine j_aload_n (pc := 79) X dX7_count_79 rfl 0 rfl ?_
    obtain ⟨G7, hc8, h⟩ := bd_s h
    refine j_callR (pc := 80) X (tX7_readRuns l hE G  hc8) muX7_readRuns (by decide) q280 rfl rfl (Nat.le_of_ble_eq_true rfl) ⟨Nat.le_of_ble_eq_true rfl, Nat.le_of_ble_eq_true rfl⟩ dX7_count_80 ?_
    refine j_get (pc := 83) (v := .int (G7 16 0 0)) X gf_X7_84 (by decide) rfl rfl dX7_count_83 ?_
    exact j_ret (pc := 86) X hr hk (vp_nar_int _) (pr_s h).1 (pr_s h).2 dX7_count_86
  rw [if_neg hx5] at h
  by_cases hx9 : a1 = 2
  · rw [if_pos hx9] at h
    refine j_tabIn (pc := 1) (tgt := 87) (off := 86) X dX7_count_1 (by rw [hx9]; decide) (by rw [hx9]; decide) (by rw [hx9]; decide) (by decide) ?_
    refine j_aload_n (pc := 87) X dX7_count_87 rfl 0 rfl ?_
    obtain ⟨G11, hc12, h⟩ := bd_s h
    refine j_callR (pc := 88) X (tX7_readRuns l hE G  hc12) muX7_readRuns (by decide) q280 rfl rfl (Nat.le_of_ble_eq_true rfl) ⟨Nat.le_of_ble_eq_true rfl, Nat.le_of_ble_eq_true rfl⟩ dX7_count_88 ?_
    obtain ⟨r13, hc15, h⟩ := bd_s h
    refine j_callI (pc := 91) X (tX3_wordRuns l hE G11 0 (by decide) hc15) muX3_wordRuns (by decide) q405 rfl rfl (Nat.le_of_ble_eq_true rfl) ⟨Nat.le_of_ble_eq_true rfl, Nat.le_of_ble_eq_true rfl⟩ dX7_count_91 ?_
    exact j_ret (pc := 94) X hr hk (vp_nar_int _) (pr_s h).1 (pr_s h).2 dX7_count_94
  rw [if_neg hx9] at h
  by_cases hx16 : a1 = 3
  · rw [if_pos hx16] at h
    refine j_tabIn (pc := 1) (tgt := 95) (off := 94) X dX7_count_1 (by rw [hx16]; decide) (by rw [hx16]; decide) (by rw [hx16]; decide) (by decide) ?_
    refine j_aload_n (pc := 95) X dX7_count_95 rfl 0 rfl ?_
    refine j_aload_n (pc := 96) X dX7_count_96 rfl 0 rfl ?_
    obtain ⟨G18, hc19, h⟩ := bd_s h
    refine j_callR (pc := 97) X (tX7_readRuns l hE G  hc19) muX7_readRuns (by decide) q280 rfl rfl (Nat.le_of_ble_eq_true rfl) ⟨Nat.le_of_ble_eq_true rfl, Nat.le_of_ble_eq_true rfl⟩ dX7_count_97 ?_
    obtain ⟨r20, hc22, h⟩ := bd_s h
    refine j_callI (pc := 100) X (tX7_rightAnswer l hE G18 0 (by decide) hc22) muX7_rightAnswer (by decide) q417 rfl rfl (Nat.le_of_ble_eq_true rfl) ⟨Nat.le_of_ble_eq_true rfl, Nat.le_of_ble_eq_true rfl⟩ dX7_count_100 ?_
    exact j_ret (pc := 103) X hr hk (vp_nar_int _) (pr_s h).1 (pr_s h).2 dX7_count_103
  rw [if_neg hx16] at h
  by_cases hx23 : a1 = 4
  · rw [if_pos hx23] at h
    refine j_tabIn (pc := 1) (tgt := 104) (off := 103) X dX7_count_1 (by rw [hx23]; decide) (by rw [hx23]; decide) (by rw [hx23]; decide) (by decide) ?_
    refine j_aload_n (pc := 104) X dX7_count_104 rfl 0 rfl ?_
    refine j_get (pc := 105) (v := .ref (Ad E 11 0)) X gf_X7_10 (by decide) rfl rfl dX7_count_105 ?_
    refine j_get (pc := 108) (v := .ref (Ad E 3 0)) X gf_X7_112 (by decide) rfl rfl dX7_count_108 ?_
    refine j_get (pc := 111) (v := .int (G 3 0 0)) X gf_X7_125 (by decide) rfl rfl dX7_count_111 ?_
    exact j_ret (pc := 114) X hr hk (vp_nar_int _) (pr_s h).1 (pr_s h).2 dX7_count_114
  rw [if_neg hx23] at h
  by_cases hx24 : a1 = 5
  · rw [if_pos hx24] at h
    refine j_tabIn (pc := 1) (tgt := 115) (off := 114) X dX7_count_1 (by rw [hx24]; decide) (by rw [hx24]; decide) (by rw [hx24]; decide) (by decide) ?_
    refine j_aload_n (pc := 115) X dX7_count_115 rfl 0 rfl ?_
    refine j_get (pc := 116) (v := .ref (Ad E 11 0)) X gf_X7_10 (by decide) rfl rfl dX7_count_116 ?_
    refine j_get (pc := 119) (v := .int (G 11 0 3)) X gf_X7_95 (by decide) rfl rfl dX7_count_119 ?_
    exact j_ret (pc := 122) X hr hk (vp_nar_int _) (pr_s h).1 (pr_s h).2 dX7_count_122
  rw [if_neg hx24] at h
  by_cases hx25 : a1 = 6
  · rw [if_pos hx25] at h
    refine j_tabIn (pc := 1) (tgt := 123) (off := 122) X dX7_count_1 (by rw [hx25]; decide) (by rw [hx25]; decide) (by rw [hx25]; decide) (by decide) ?_
    refine j_aload_n (pc := 123) X dX7_count_123 rfl 0 rfl ?_
    refine j_get (pc := 124) (v := .ref (Ad E 11 0)) X gf_X7_10 (by decide) rfl rfl dX7_count_124 ?_
    refine j_get (pc := 127) (v := .int (G 11 0 4)) X gf_X7_98 (by decide) rfl rfl dX7_count_127 ?_
    exact j_ret (pc := 130) X hr hk (vp_nar_int _) (pr_s h).1 (pr_s h).2 dX7_count_130
  rw [if_neg hx25] at h
  by_cases hx26 : a1 = 7
  · rw [if_pos hx26] at h
    refine j_tabIn (pc := 1) (tgt := 131) (off := 130) X dX7_count_1 (by rw [hx26]; decide) (by rw [hx26]; decide) (by rw [hx26]; decide) (by decide) ?_
    refine j_aload_n (pc := 131) X dX7_count_131 rfl 0 rfl ?_
    refine j_get (pc := 132) (v := .ref (Ad E 11 0)) X gf_X7_10 (by decide) rfl rfl dX7_count_132 ?_
    refine j_get (pc := 135) (v := .int (G 11 0 5)) X gf_X7_143 (by decide) rfl rfl dX7_count_135 ?_
    exact j_ret (pc := 138) X hr hk (vp_nar_int _) (pr_s h).1 (pr_s h).2 dX7_count_138
  rw [if_neg hx26] at h
  by_cases hx27 : a1 = 8
  · rw [if_pos hx27] at h
    refine j_tabIn (pc := 1) (tgt := 139) (off := 138) X dX7_count_1 (by rw [hx27]; decide) (by rw [hx27]; decide) (by rw [hx27]; decide) (by decide) ?_
    refine j_aload_n (pc := 139) X dX7_count_139 rfl 0 rfl ?_
    refine j_get (pc := 140) (v := .ref (Ad E 11 0)) X gf_X7_10 (by decide) rfl rfl dX7_count_140 ?_
    refine j_get (pc := 143) (v := .ref (Ad E 7 0)) X gf_X7_153 (by decide) rfl rfl dX7_count_143 ?_
    obtain ⟨r28, hc30, h⟩ := bd_s h
    refine j_callI (pc := 146) X (tX1_allRight l hE G 0 (by decide) hc30) muX1_allRight (by decide) q642 rfl rfl (Nat.le_of_ble_eq_true rfl) ⟨Nat.le_of_ble_eq_true rfl, Nat.le_of_ble_eq_true rfl⟩ dX7_count_146 ?_
    exact j_ret (pc := 149) X hr hk (vp_nar_int _) (pr_s h).1 (pr_s h).2 dX7_count_149
  rw [if_neg hx27] at h
  by_cases hx31 : a1 = 9
  · rw [if_pos hx31] at h
    refine j_tabIn (pc := 1) (tgt := 150) (off := 149) X dX7_count_1 (by rw [hx31]; decide) (by rw [hx31]; decide) (by rw [hx31]; decide) (by decide) ?_
    refine j_aload_n (pc := 150) X dX7_count_150 rfl 0 rfl ?_
    refine j_get (pc := 151) (v := .ref (Ad E 11 0)) X gf_X7_10 (by decide) rfl rfl dX7_count_151 ?_
    refine j_get (pc := 154) (v := .ref (Ad E 7 0)) X gf_X7_153 (by decide) rfl rfl dX7_count_154 ?_
    obtain ⟨r32, hc34, h⟩ := bd_s h
    refine j_callI (pc := 157) X (tX1_allWrong l hE G 0 (by decide) hc34) muX1_allWrong (by decide) q646 rfl rfl (Nat.le_of_ble_eq_true rfl) ⟨Nat.le_of_ble_eq_true rfl, Nat.le_of_ble_eq_true rfl⟩ dX7_count_157 ?_
    exact j_ret (pc := 160) X hr hk (vp_nar_int _) (pr_s h).1 (pr_s h).2 dX7_count_160
  rw [if_neg hx31] at h
  by_cases hx35 : a1 = 10
  · rw [if_pos hx35] at h
    refine j_tabIn (pc := 1) (tgt := 161) (off := 160) X dX7_count_1 (by rw [hx35]; decide) (by rw [hx35]; decide) (by rw [hx35]; decide) (by decide) ?_
    refine j_aload_n (pc := 161) X dX7_count_161 rfl 0 rfl ?_
    refine j_get (pc := 162) (v := .ref (Ad E 11 0)) X gf_X7_10 (by decide) rfl rfl dX7_count_162 ?_
    refine j_get (pc := 165) (v := .ref (Ad E 7 0)) X gf_X7_153 (by decide) rfl rfl dX7_count_165 ?_
    refine j_get (pc := 168) (v := .int (G 7 0 0)) X gf_X7_177 (by decide) rfl rfl dX7_count_168 ?_
    exact j_ret (pc := 171) X hr hk (vp_nar_int _) (pr_s h).1 (pr_s h).2 dX7_count_171
  rw [if_neg hx35] at h
  by_cases hx36 : a1 = 11
  · rw [if_pos hx36] at h
    refine j_tabIn (pc := 1) (tgt := 172) (off := 171) X dX7_count_1 (by rw [hx36]; decide) (by rw [hx36]; decide) (by rw [hx36]; decide) (by decide) ?_
    refine j_aload_n (pc := 172) X dX7_count_172 rfl 0 rfl ?_
    refine j_get (pc := 173) (v := .ref (Ad E 12 0)) X gf_X7_26 (by decide) rfl rfl dX7_count_173 ?_
    refine j_get (pc := 176) (v := .int (G 12 0 1)) X gf_X7_191 (by decide) rfl rfl dX7_count_176 ?_
    exact j_ret (pc := 179) X hr hk (vp_nar_int _) (pr_s h).1 (pr_s h).2 dX7_count_179
  rw [if_neg hx36] at h
  by_cases hx37 : a1 = 12
  · rw [if_pos hx37] at h
    refine j_tabIn (pc := 1) (tgt := 180) (off := 179) X dX7_count_1 (by rw [hx37]; decide) (by rw [hx37]; decide) (by rw [hx37]; decide) (by decide) ?_
    refine j_aload_n (pc := 180) X dX7_count_180 rfl 0 rfl ?_
    refine j_get (pc := 181) (v := .ref (Ad E 14 0)) X gf_X7_33 (by decide) rfl rfl dX7_count_181 ?_
    refine j_get (pc := 184) (v := .int (G 14 0 1)) X gf_X7_116 (by decide) rfl rfl dX7_count_184 ?_
    exact j_ret (pc := 187) X hr hk (vp_nar_int _) (pr_s h).1 (pr_s h).2 dX7_count_187
  rw [if_neg hx37] at h
  refine j_tabOut (pc := 1) (tgt := 188) X dX7_count_1 (tab_out 12 (by decide) (fun j hj => by match j, hj with | 0, _ => exact hx1 | 1, _ => exact hx5 | 2, _ => exact hx9 | 3, _ => exact hx16 | 4, _ => exact hx23 | 5, _ => exact hx24 | 6, _ => exact hx25 | 7, _ => exact hx26 | 8, _ => exact hx27 | 9, _ => exact hx31 | 10, _ => exact hx35 | 11, _ => exact hx36 | 12, _ => exact hx37 | j + 13, hj => omega)) (by decide) ?_
  refine j_bipush (pc := 188) (v := (-2)) X dX7_count_188 (by decide) ?_
  exact j_ret (pc := 190) X hr hk (vp_nar_int _) (pr_s h).1 (pr_s h).2 dX7_count_190
theorem dX8_in_0 : decode cX8_in 0 = .ok (.iload_n 0, 1) := by decide +kernel
theorem dX8_in_1 : decode cX8_in 1 = .ok (.iload_n 1, 1) := by decide +kernel
theorem dX8_in_2 : decode cX8_in 2 = .ok (.if_icmp .lt 12, 3) := by decide +kernel
theorem dX8_in_5 : decode cX8_in 5 = .ok (.iload_n 0, 1) := by decide +kernel
theorem dX8_in_6 : decode cX8_in 6 = .ok (.iload_n 2, 1) := by decide +kernel
theorem dX8_in_7 : decode cX8_in 7 = .ok (.if_icmp .gt 7, 3) := by decide +kernel
theorem dX8_in_10 : decode cX8_in 10 = .ok (.iconst 1, 1) := by decide +kernel
theorem dX8_in_11 : decode cX8_in 11 = .ok (.goto 4, 3) := by decide +kernel
theorem dX8_in_14 : decode cX8_in 14 = .ok (.iconst 0, 1) := by decide +kernel
theorem dX8_in_15 : decode cX8_in 15 = .ok (.ireturn, 1) := by decide +kernel
set_option maxHeartbeats 4000000 in
set_option maxRecDepth 100000 in
theorem tX8_in (l : Launch) {E : ET} (hE : Aj E) (G : GT) (a0 : Int32) (a1 : Int32) (a2 : Int32) {r : Int32} (h : fX8_in a0 a1 a2 = some r) : CI l E yX8_in cX8_in 3 (some .boolean) 0 [.int a0, .int a1, .int a2] G r G := by
  refine Met_I (lv := [(0, .int a0), (1, .int a1), (2, .int a2)]) (by decide +kernel) hE (Nat.le_of_ble_eq_true rfl) rfl ?_
  intro p e s m args below meth c X hr hk
  unfold fX8_in at h
  refine j_iload_n (pc := 0) X dX8_in_0 rfl 0 rfl ?_
  refine j_iload_n (pc := 1) X dX8_in_1 rfl 1 rfl ?_
  refine j_icmp_lt (pc := 2) (tgt := 14) X dX8_in_2 (by decide) (fun hc => ?_) (fun hc => ?_)
  · rw [if_pos hc] at h
    refine j_iconst (pc := 14) (v := 0) X dX8_in_14 (by decide) ?_
    exact j_ret (pc := 15) X hr hk rfl (Option.some.inj h) rfl dX8_in_15
  · rw [if_neg hc] at h
    refine j_iload_n (pc := 5) X dX8_in_5 rfl 0 rfl ?_
    refine j_iload_n (pc := 6) X dX8_in_6 rfl 2 rfl ?_
    refine j_icmp_gt (pc := 7) (tgt := 14) X dX8_in_7 (by decide) (fun hc => ?_) (fun hc => ?_)
    · rw [if_pos hc] at h
      refine j_iconst (pc := 14) (v := 0) X dX8_in_14 (by decide) ?_
      exact j_ret (pc := 15) X hr hk rfl (Option.some.inj h) rfl dX8_in_15
    · rw [if_neg hc] at h
      refine j_iconst (pc := 10) (v := 1) X dX8_in_10 (by decide) ?_
      refine j_goto (pc := 11) (tgt := 15) X dX8_in_11 (by decide) ?_
      exact j_ret (pc := 15) X hr hk rfl (Option.some.inj h) rfl dX8_in_15
theorem dX8_isPlace_0 : decode cX8_isPlace 0 = .ok (.iload_n 0, 1) := by decide +kernel
theorem dX8_isPlace_1 : decode cX8_isPlace 1 = .ok (.iconst 0, 1) := by decide +kernel
theorem dX8_isPlace_2 : decode cX8_isPlace 2 = .ok (.bipush 39, 2) := by decide +kernel
theorem dX8_isPlace_4 : decode cX8_isPlace 4 = .ok (.invokestatic 28, 3) := by decide +kernel
theorem dX8_isPlace_7 : decode cX8_isPlace 7 = .ok (.ireturn, 1) := by decide +kernel
set_option maxHeartbeats 4000000 in
set_option maxRecDepth 100000 in
theorem tX8_isPlace (l : Launch) {E : ET} (hE : Aj E) (G : GT) (a0 : Int32) {r : Int32} (h : fX8_isPlace a0 = some r) : CI l E yX8_isPlace cX8_isPlace 1 (some .boolean) 1 [.int a0] G r G := by
  refine Met_I (lv := [(0, .int a0)]) (by decide +kernel) hE (Nat.le_of_ble_eq_true rfl) rfl ?_
  intro p e s m args below meth c X hr hk
  unfold fX8_isPlace at h
  refine j_iload_n (pc := 0) X dX8_isPlace_0 rfl 0 rfl ?_
  refine j_iconst (pc := 1) (v := 0) X dX8_isPlace_1 (by decide) ?_
  refine j_bipush (pc := 2) (v := 39) X dX8_isPlace_2 (by decide) ?_
  obtain ⟨r1, hc3, h⟩ := bd_s h
  refine j_staI (pc := 4) X (tX8_in l hE G a0 (0 : Int32) (39 : Int32) hc3) muX8_in (Or.inl q714) rfl rfl (Nat.le_of_ble_eq_true rfl) ⟨Nat.le_of_ble_eq_true rfl, Nat.le_of_ble_eq_true rfl⟩ dX8_isPlace_4 ?_
  obtain ⟨hg4, h⟩ := gd_s h
  exact j_ret (pc := 7) X hr hk (of_decide_eq_true hg4) (Option.some.inj h) rfl dX8_isPlace_7
theorem dX8_isWord_0 : decode cX8_isWord 0 = .ok (.iload_n 1, 1) := by decide +kernel
theorem dX8_isWord_1 : decode cX8_isWord 1 = .ok (.iconst 0, 1) := by decide +kernel
theorem dX8_isWord_2 : decode cX8_isWord 2 = .ok (.aload_n 0, 1) := by decide +kernel
theorem dX8_isWord_3 : decode cX8_isWord 3 = .ok (.getfield 7, 3) := by decide +kernel
theorem dX8_isWord_6 : decode cX8_isWord 6 = .ok (.bipush 80, 2) := by decide +kernel
theorem dX8_isWord_8 : decode cX8_isWord 8 = .ok (.iaload, 1) := by decide +kernel
theorem dX8_isWord_9 : decode cX8_isWord 9 = .ok (.iconst 1, 1) := by decide +kernel
theorem dX8_isWord_10 : decode cX8_isWord 10 = .ok (.isub, 1) := by decide +kernel
theorem dX8_isWord_11 : decode cX8_isWord 11 = .ok (.invokestatic 28, 3) := by decide +kernel
theorem dX8_isWord_14 : decode cX8_isWord 14 = .ok (.ireturn, 1) := by decide +kernel
set_option maxHeartbeats 4000000 in
set_option maxRecDepth 100000 in
theorem tX8_isWord (l : Launch) {E : ET} (hE : Aj E) (G : GT) (a1 : Int32) {r : Int32} (h : fX8_isWord G a1 = some r) : CI l E yX8_isWord cX8_isWord 2 (some .boolean) 1 [.ref (Ad E 22 0), .int a1] G r G := by
  refine Met_I (lv := [(0, .ref (Ad E 22 0)), (1, .int a1)]) (by decide +kernel) hE (Nat.le_of_ble_eq_true rfl) rfl ?_
  intro p e s m args below meth c X hr hk
  unfold fX8_isWord at h
  refine j_iload_n (pc := 0) X dX8_isWord_0 rfl 1 rfl ?_
  refine j_iconst (pc := 1) (v := 0) X dX8_isWord_1 (by decide) ?_
  refine j_aload_n (pc := 2) X dX8_isWord_2 rfl 0 rfl ?_
  refine j_get (pc := 3) (v := .ref (Ad E 23 0)) X gf_X8_7 (by decide) rfl rfl dX8_isWord_3 ?_
  refine j_bipush (pc := 6) (v := 80) X dX8_isWord_6 (by decide) ?_
  obtain ⟨hg1, h⟩ := gd_s h
  refine j_iald (pc := 8) (n := 289) X (by decide) rfl hg1 dX8_isWord_8 ?_
  refine j_iconst (pc := 9) (v := 1) X dX8_isWord_9 (by decide) ?_
  refine j_isub (pc := 10) X dX8_isWord_10 ?_
  obtain ⟨r2, hc4, h⟩ := bd_s h
  refine j_staI (pc := 11) X (tX8_in l hE G a1 (0 : Int32) ((G 23 0 (80 : Int32).toNatClampNeg) - (1 : Int32)) hc4) muX8_in (Or.inl q714) rfl rfl (Nat.le_of_ble_eq_true rfl) ⟨Nat.le_of_ble_eq_true rfl, Nat.le_of_ble_eq_true rfl⟩ dX8_isWord_11 ?_
  obtain ⟨hg5, h⟩ := gd_s h
  exact j_ret (pc := 14) X hr hk (of_decide_eq_true hg5) (Option.some.inj h) rfl dX8_isWord_14
theorem dX8_isLearner_0 : decode cX8_isLearner 0 = .ok (.iload_n 0, 1) := by decide +kernel
theorem dX8_isLearner_1 : decode cX8_isLearner 1 = .ok (.iconst 0, 1) := by decide +kernel
theorem dX8_isLearner_2 : decode cX8_isLearner 2 = .ok (.iconst 5, 1) := by decide +kernel
theorem dX8_isLearner_3 : decode cX8_isLearner 3 = .ok (.invokestatic 28, 3) := by decide +kernel
theorem dX8_isLearner_6 : decode cX8_isLearner 6 = .ok (.ireturn, 1) := by decide +kernel
set_option maxHeartbeats 4000000 in
set_option maxRecDepth 100000 in
theorem tX8_isLearner (l : Launch) {E : ET} (hE : Aj E) (G : GT) (a0 : Int32) {r : Int32} (h : fX8_isLearner a0 = some r) : CI l E yX8_isLearner cX8_isLearner 1 (some .boolean) 1 [.int a0] G r G := by
  refine Met_I (lv := [(0, .int a0)]) (by decide +kernel) hE (Nat.le_of_ble_eq_true rfl) rfl ?_
  intro p e s m args below meth c X hr hk
  unfold fX8_isLearner at h
  refine j_iload_n (pc := 0) X dX8_isLearner_0 rfl 0 rfl ?_
  refine j_iconst (pc := 1) (v := 0) X dX8_isLearner_1 (by decide) ?_
  refine j_iconst (pc := 2) (v := 5) X dX8_isLearner_2 (by decide) ?_
  obtain ⟨r1, hc3, h⟩ := bd_s h
  refine j_staI (pc := 3) X (tX8_in l hE G a0 (0 : Int32) (5 : Int32) hc3) muX8_in (Or.inl q714) rfl rfl (Nat.le_of_ble_eq_true rfl) ⟨Nat.le_of_ble_eq_true rfl, Nat.le_of_ble_eq_true rfl⟩ dX8_isLearner_3 ?_
  obtain ⟨hg4, h⟩ := gd_s h
  exact j_ret (pc := 6) X hr hk (of_decide_eq_true hg4) (Option.some.inj h) rfl dX8_isLearner_6
theorem dX8_knots_0 : decode cX8_knots 0 = .ok (.iconst 0, 1) := by decide +kernel
theorem dX8_knots_1 : decode cX8_knots 1 = .ok (.istore_n 1, 1) := by decide +kernel
theorem dX8_knots_2 : decode cX8_knots 2 = .ok (.iconst 0, 1) := by decide +kernel
theorem dX8_knots_3 : decode cX8_knots 3 = .ok (.istore_n 2, 1) := by decide +kernel
theorem dX8_knots_4 : decode cX8_knots 4 = .ok (.iload_n 2, 1) := by decide +kernel
theorem dX8_knots_5 : decode cX8_knots 5 = .ok (.bipush 40, 2) := by decide +kernel
theorem dX8_knots_7 : decode cX8_knots 7 = .ok (.if_icmp .ge 28, 3) := by decide +kernel
theorem dX8_knots_10 : decode cX8_knots 10 = .ok (.iload_n 1, 1) := by decide +kernel
theorem dX8_knots_11 : decode cX8_knots 11 = .ok (.aload_n 0, 1) := by decide +kernel
theorem dX8_knots_12 : decode cX8_knots 12 = .ok (.getfield 7, 3) := by decide +kernel
theorem dX8_knots_15 : decode cX8_knots 15 = .ok (.iconst 0, 1) := by decide +kernel
theorem dX8_knots_16 : decode cX8_knots 16 = .ok (.iload_n 2, 1) := by decide +kernel
theorem dX8_knots_17 : decode cX8_knots 17 = .ok (.iadd, 1) := by decide +kernel
theorem dX8_knots_18 : decode cX8_knots 18 = .ok (.iaload, 1) := by decide +kernel
theorem dX8_knots_19 : decode cX8_knots 19 = .ok (.ifCond .le 7, 3) := by decide +kernel
theorem dX8_knots_22 : decode cX8_knots 22 = .ok (.iconst 1, 1) := by decide +kernel
theorem dX8_knots_23 : decode cX8_knots 23 = .ok (.goto 4, 3) := by decide +kernel
theorem dX8_knots_26 : decode cX8_knots 26 = .ok (.iconst 0, 1) := by decide +kernel
theorem dX8_knots_27 : decode cX8_knots 27 = .ok (.iadd, 1) := by decide +kernel
theorem dX8_knots_28 : decode cX8_knots 28 = .ok (.istore_n 1, 1) := by decide +kernel
theorem dX8_knots_29 : decode cX8_knots 29 = .ok (.iinc 2 1, 3) := by decide +kernel
theorem dX8_knots_32 : decode cX8_knots 32 = .ok (.goto (-28), 3) := by decide +kernel
theorem dX8_knots_35 : decode cX8_knots 35 = .ok (.iload_n 1, 1) := by decide +kernel
theorem dX8_knots_36 : decode cX8_knots 36 = .ok (.ireturn, 1) := by decide +kernel
set_option maxHeartbeats 4000000 in
set_option maxRecDepth 100000 in
theorem tX8_knots_4 (l : Launch) {E : ET} (hE : Aj E) {p : Program} {e : Env} {s : State} {m : MethodId} {args : Array Value} {below : List Frame} {meth : Method} {c : Code} (X : Cx p (rmL 0) s m args c yX8_knots.cls cX8_knots 3 E (Aw E) 0 0) (hr : meth.sig.returnType = (some .int)) (hk : meth.locks = false) {r : Int32} (G : GT) : ∀ (n : Nat) (a1 a2 : Int32), fX8_knots_4 G n a1 a2 = some r → J p l e (rmL 0) s m args below meth c E (Aw E) s.heap 3 0 0 (MQ below (QI E r G) args s 0 0 (Aw E)) G 4 [(0, .ref (Ad E 22 0)), (1, .int a1), (2, .int a2)] [] := by
  intro n
  induction n with
  | zero =>
    intro a1 a2 h
    simp [fX8_knots_4] at h
  | succ n ih =>
    intro a1 a2 h
    rw [fX8_knots_4] at h
    refine j_iload_n (pc := 4) X dX8_knots_4 rfl 2 rfl ?_
    refine j_bipush (pc := 5) (v := 40) X dX8_knots_5 (by decide) ?_
    refine j_icmp_ge (pc := 7) (tgt := 35) X dX8_knots_7 (by decide) (fun hc => ?_) (fun hc => ?_)
    · rw [if_pos hc] at h
      refine j_iload_n (pc := 35) X dX8_knots_35 rfl 1 rfl ?_
      exact j_ret (pc := 36) X hr hk (vp_nar_int _) (Option.some.inj h) rfl dX8_knots_36
    · rw [if_neg hc] at h
      refine j_iload_n (pc := 10) X dX8_knots_10 rfl 1 rfl ?_
      refine j_aload_n (pc := 11) X dX8_knots_11 rfl 0 rfl ?_
      refine j_get (pc := 12) (v := .ref (Ad E 23 0)) X gf_X8_7 (by decide) rfl rfl dX8_knots_12 ?_
      refine j_iconst (pc := 15) (v := 0) X dX8_knots_15 (by decide) ?_
      refine j_iload_n (pc := 16) X dX8_knots_16 rfl 2 rfl ?_
      refine j_iadd (pc := 17) X dX8_knots_17 ?_
      obtain ⟨hg1, h⟩ := gd_s h
      refine j_iald (pc := 18) (n := 289) X (by decide) rfl hg1 dX8_knots_18 ?_
      refine j_if_le (pc := 19) (tgt := 26) X dX8_knots_19 (by decide) (fun hc => ?_) (fun hc => ?_)
      · rw [if_pos hc] at h
        refine j_iconst (pc := 26) (v := 0) X dX8_knots_26 (by decide) ?_
        refine j_iadd (pc := 27) X dX8_knots_27 ?_
        refine j_istore_n (pc := 28) (lv' := [(0, .ref (Ad E 22 0)), (1, .int (a1 + (0 : Int32))), (2, .int a2)]) X dX8_knots_28 rfl (by decide) rfl ?_
        refine j_iinc (pc := 29) (q := 2) (v := (a2 + (1 : Int32))) (lv' := [(0, .ref (Ad E 22 0)), (1, .int (a1 + (0 : Int32))), (2, .int (a2 + (1 : Int32)))]) X dX8_knots_29 rfl rfl (by decide) rfl ?_
        refine j_goto (pc := 32) (tgt := 4) X dX8_knots_32 (by decide) ?_
        exact ih (a1 + (0 : Int32)) (a2 + (1 : Int32)) h
      · rw [if_neg hc] at h
        refine j_iconst (pc := 22) (v := 1) X dX8_knots_22 (by decide) ?_
        refine j_goto (pc := 23) (tgt := 27) X dX8_knots_23 (by decide) ?_
        refine j_iadd (pc := 27) X dX8_knots_27 ?_
        refine j_istore_n (pc := 28) (lv' := [(0, .ref (Ad E 22 0)), (1, .int (a1 + (1 : Int32))), (2, .int a2)]) X dX8_knots_28 rfl (by decide) rfl ?_
        refine j_iinc (pc := 29) (q := 2) (v := (a2 + (1 : Int32))) (lv' := [(0, .ref (Ad E 22 0)), (1, .int (a1 + (1 : Int32))), (2, .int (a2 + (1 : Int32)))]) X dX8_knots_29 rfl rfl (by decide) rfl ?_
        refine j_goto (pc := 32) (tgt := 4) X dX8_knots_32 (by decide) ?_
        exact ih (a1 + (1 : Int32)) (a2 + (1 : Int32)) h
set_option maxHeartbeats 4000000 in
set_option maxRecDepth 100000 in
theorem tX8_knots (l : Launch) {E : ET} (hE : Aj E) (G : GT) {r : Int32} (h : fX8_knots G = some r) : CI l E yX8_knots cX8_knots 3 (some .int) 0 [.ref (Ad E 22 0)] G r G := by
  refine Met_I (lv := [(0, .ref (Ad E 22 0))]) (by decide +kernel) hE (Nat.le_of_ble_eq_true rfl) rfl ?_
  intro p e s m args below meth c X hr hk
  unfold fX8_knots at h
  refine j_iconst (pc := 0) (v := 0) X dX8_knots_0 (by decide) ?_
  refine j_istore_n (pc := 1) (lv' := [(0, .ref (Ad E 22 0)), (1, .int (0 : Int32))]) X dX8_knots_1 rfl (by decide) rfl ?_
  refine j_iconst (pc := 2) (v := 0) X dX8_knots_2 (by decide) ?_
  refine j_istore_n (pc := 3) (lv' := [(0, .ref (Ad E 22 0)), (1, .int (0 : Int32)), (2, .int (0 : Int32))]) X dX8_knots_3 rfl (by decide) rfl ?_
  exact tX8_knots_4 l hE X hr hk G FU (0 : Int32) (0 : Int32) h
theorem dX8_record_0 : decode cX8_record 0 = .ok (.aload_n 0, 1) := by decide +kernel
theorem dX8_record_1 : decode cX8_record 1 = .ok (.getfield 32, 3) := by decide +kernel
theorem dX8_record_4 : decode cX8_record 4 = .ok (.iconst 4, 1) := by decide +kernel
theorem dX8_record_5 : decode cX8_record 5 = .ok (.if_icmp .ne 44, 3) := by decide +kernel
theorem dX8_record_8 : decode cX8_record 8 = .ok (.iconst 0, 1) := by decide +kernel
theorem dX8_record_9 : decode cX8_record 9 = .ok (.istore_n 1, 1) := by decide +kernel
theorem dX8_record_10 : decode cX8_record 10 = .ok (.iload_n 1, 1) := by decide +kernel
theorem dX8_record_11 : decode cX8_record 11 = .ok (.sipush 867, 3) := by decide +kernel
theorem dX8_record_14 : decode cX8_record 14 = .ok (.if_icmp .ge 25, 3) := by decide +kernel
theorem dX8_record_17 : decode cX8_record 17 = .ok (.aload_n 0, 1) := by decide +kernel
theorem dX8_record_18 : decode cX8_record 18 = .ok (.getfield 16, 3) := by decide +kernel
theorem dX8_record_21 : decode cX8_record 21 = .ok (.iload_n 1, 1) := by decide +kernel
theorem dX8_record_22 : decode cX8_record 22 = .ok (.aload_n 0, 1) := by decide +kernel
theorem dX8_record_23 : decode cX8_record 23 = .ok (.getfield 16, 3) := by decide +kernel
theorem dX8_record_26 : decode cX8_record 26 = .ok (.sipush 289, 3) := by decide +kernel
theorem dX8_record_29 : decode cX8_record 29 = .ok (.iload_n 1, 1) := by decide +kernel
theorem dX8_record_30 : decode cX8_record 30 = .ok (.iadd, 1) := by decide +kernel
theorem dX8_record_31 : decode cX8_record 31 = .ok (.iaload, 1) := by decide +kernel
theorem dX8_record_32 : decode cX8_record 32 = .ok (.iastore, 1) := by decide +kernel
theorem dX8_record_33 : decode cX8_record 33 = .ok (.iinc 1 1, 3) := by decide +kernel
theorem dX8_record_36 : decode cX8_record 36 = .ok (.goto (-26), 3) := by decide +kernel
theorem dX8_record_39 : decode cX8_record 39 = .ok (.aload_n 0, 1) := by decide +kernel
theorem dX8_record_40 : decode cX8_record 40 = .ok (.dup, 1) := by decide +kernel
theorem dX8_record_41 : decode cX8_record 41 = .ok (.getfield 32, 3) := by decide +kernel
theorem dX8_record_44 : decode cX8_record 44 = .ok (.iconst 1, 1) := by decide +kernel
theorem dX8_record_45 : decode cX8_record 45 = .ok (.isub, 1) := by decide +kernel
theorem dX8_record_46 : decode cX8_record 46 = .ok (.putfield 32, 3) := by decide +kernel
theorem dX8_record_49 : decode cX8_record 49 = .ok (.iconst 0, 1) := by decide +kernel
theorem dX8_record_50 : decode cX8_record 50 = .ok (.istore_n 1, 1) := by decide +kernel
theorem dX8_record_51 : decode cX8_record 51 = .ok (.iload_n 1, 1) := by decide +kernel
theorem dX8_record_52 : decode cX8_record 52 = .ok (.sipush 289, 3) := by decide +kernel
theorem dX8_record_55 : decode cX8_record 55 = .ok (.if_icmp .ge 30, 3) := by decide +kernel
theorem dX8_record_58 : decode cX8_record 58 = .ok (.aload_n 0, 1) := by decide +kernel
theorem dX8_record_59 : decode cX8_record 59 = .ok (.getfield 16, 3) := by decide +kernel
theorem dX8_record_62 : decode cX8_record 62 = .ok (.sipush 289, 3) := by decide +kernel
theorem dX8_record_65 : decode cX8_record 65 = .ok (.aload_n 0, 1) := by decide +kernel
theorem dX8_record_66 : decode cX8_record 66 = .ok (.getfield 32, 3) := by decide +kernel
theorem dX8_record_69 : decode cX8_record 69 = .ok (.imul, 1) := by decide +kernel
theorem dX8_record_70 : decode cX8_record 70 = .ok (.iload_n 1, 1) := by decide +kernel
theorem dX8_record_71 : decode cX8_record 71 = .ok (.iadd, 1) := by decide +kernel
theorem dX8_record_72 : decode cX8_record 72 = .ok (.aload_n 0, 1) := by decide +kernel
theorem dX8_record_73 : decode cX8_record 73 = .ok (.getfield 7, 3) := by decide +kernel
theorem dX8_record_76 : decode cX8_record 76 = .ok (.iload_n 1, 1) := by decide +kernel
theorem dX8_record_77 : decode cX8_record 77 = .ok (.iaload, 1) := by decide +kernel
theorem dX8_record_78 : decode cX8_record 78 = .ok (.iastore, 1) := by decide +kernel
theorem dX8_record_79 : decode cX8_record 79 = .ok (.iinc 1 1, 3) := by decide +kernel
theorem dX8_record_82 : decode cX8_record 82 = .ok (.goto (-31), 3) := by decide +kernel
theorem dX8_record_85 : decode cX8_record 85 = .ok (.aload_n 0, 1) := by decide +kernel
theorem dX8_record_86 : decode cX8_record 86 = .ok (.dup, 1) := by decide +kernel
theorem dX8_record_87 : decode cX8_record 87 = .ok (.getfield 32, 3) := by decide +kernel
theorem dX8_record_90 : decode cX8_record 90 = .ok (.iconst 1, 1) := by decide +kernel
theorem dX8_record_91 : decode cX8_record 91 = .ok (.iadd, 1) := by decide +kernel
theorem dX8_record_92 : decode cX8_record 92 = .ok (.putfield 32, 3) := by decide +kernel
theorem dX8_record_95 : decode cX8_record 95 = .ok (.return_, 1) := by decide +kernel
set_option maxHeartbeats 4000000 in
set_option maxRecDepth 100000 in
theorem tX8_record_51 (l : Launch) {E : ET} (hE : Aj E) {p : Program} {e : Env} {s : State} {m : MethodId} {args : Array Value} {below : List Frame} {meth : Method} {c : Code} (X : Cx p (rmL 0) s m args c yX8_record.cls cX8_record 2 E (Aw E) 0 0) (hr : meth.sig.returnType = none) (hk : meth.locks = false) {G' : GT}  : ∀ (n : Nat) (G : GT) (a1 : Int32), fX8_record_51  n G a1 = some G' → J p l e (rmL 0) s m args below meth c E (Aw E) s.heap 2 0 0 (MQ below (QV E G') args s 0 0 (Aw E)) G 51 [(0, .ref (Ad E 22 0)), (1, .int a1)] [] := by
  intro n
  induction n with
  | zero =>
    intro G a1 h
    simp [fX8_record_51] at h
  | succ n ih =>
    intro G a1 h
    rw [fX8_record_51] at h
    refine j_iload_n (pc := 51) X dX8_record_51 rfl 1 rfl ?_
    refine j_sipush (pc := 52) (v := 289) X dX8_record_52 (by decide) ?_
    refine j_icmp_ge (pc := 55) (tgt := 85) X dX8_record_55 (by decide) (fun hc => ?_) (fun hc => ?_)
    · rw [if_pos hc] at h
      refine j_aload_n (pc := 85) X dX8_record_85 rfl 0 rfl ?_
      refine j_dup (pc := 86) X dX8_record_86 rfl ?_
      refine j_get (pc := 87) (v := .int (G 22 0 3)) X gf_X8_32 (by decide) rfl rfl dX8_record_87 ?_
      refine j_iconst (pc := 90) (v := 1) X dX8_record_90 (by decide) ?_
      refine j_iadd (pc := 91) X dX8_record_91 ?_
      obtain ⟨G1, hG1, h⟩ := st3_s h
      refine j_put (pc := 92) X hG1 gf_X8_32 tyX8 tyX8_ok nmX8 (by decide) rfl rfl (Nat.le_of_ble_eq_true rfl) rfl rfl rfl dX8_record_92 ?_
      exact j_vret (pc := 95) X hr hk (Option.some.inj h) dX8_record_95
    · rw [if_neg hc] at h
      refine j_aload_n (pc := 58) X dX8_record_58 rfl 0 rfl ?_
      refine j_get (pc := 59) (v := .ref (Ad E 25 0)) X gf_X8_16 (by decide) rfl rfl dX8_record_59 ?_
      refine j_sipush (pc := 62) (v := 289) X dX8_record_62 (by decide) ?_
      refine j_aload_n (pc := 65) X dX8_record_65 rfl 0 rfl ?_
      refine j_get (pc := 66) (v := .int (G 22 0 3)) X gf_X8_32 (by decide) rfl rfl dX8_record_66 ?_
      refine j_imul (pc := 69) X dX8_record_69 ?_
      refine j_iload_n (pc := 70) X dX8_record_70 rfl 1 rfl ?_
      refine j_iadd (pc := 71) X dX8_record_71 ?_
      refine j_aload_n (pc := 72) X dX8_record_72 rfl 0 rfl ?_
      refine j_get (pc := 73) (v := .ref (Ad E 23 0)) X gf_X8_7 (by decide) rfl rfl dX8_record_73 ?_
      refine j_iload_n (pc := 76) X dX8_record_76 rfl 1 rfl ?_
      obtain ⟨hg2, h⟩ := gd_s h
      refine j_iald (pc := 77) (n := 289) X (by decide) rfl hg2 dX8_record_77 ?_
      obtain ⟨hg3, h⟩ := gd_s h
      obtain ⟨G4, hG4, h⟩ := st3_s h
      refine j_iast (pc := 78) (n := 1156) X hG4 (by decide) (fun _ => rfl) hg3 dX8_record_78 ?_
      refine j_iinc (pc := 79) (q := 1) (v := (a1 + (1 : Int32))) (lv' := [(0, .ref (Ad E 22 0)), (1, .int (a1 + (1 : Int32)))]) X dX8_record_79 rfl rfl (by decide) rfl ?_
      refine j_goto (pc := 82) (tgt := 51) X dX8_record_82 (by decide) ?_
      exact ih G4 (a1 + (1 : Int32)) h
set_option maxHeartbeats 4000000 in
set_option maxRecDepth 100000 in
theorem tX8_record_10 (l : Launch) {E : ET} (hE : Aj E) {p : Program} {e : Env} {s : State} {m : MethodId} {args : Array Value} {below : List Frame} {meth : Method} {c : Code} (X : Cx p (rmL 0) s m args c yX8_record.cls cX8_record 2 E (Aw E) 0 0) (hr : meth.sig.returnType = none) (hk : meth.locks = false) {G' : GT}  : ∀ (n : Nat) (G : GT) (a1 : Int32), fX8_record_10  n G a1 = some G' → J p l e (rmL 0) s m args below meth c E (Aw E) s.heap 2 0 0 (MQ below (QV E G') args s 0 0 (Aw E)) G 10 [(0, .ref (Ad E 22 0)), (1, .int a1)] [] := by
  intro n
  induction n with
  | zero =>
    intro G a1 h
    simp [fX8_record_10] at h
  | succ n ih =>
    intro G a1 h
    rw [fX8_record_10] at h
    refine j_iload_n (pc := 10) X dX8_record_10 rfl 1 rfl ?_
    refine j_sipush (pc := 11) (v := 867) X dX8_record_11 (by decide) ?_
    refine j_icmp_ge (pc := 14) (tgt := 39) X dX8_record_14 (by decide) (fun hc => ?_) (fun hc => ?_)
    · rw [if_pos hc] at h
      refine j_aload_n (pc := 39) X dX8_record_39 rfl 0 rfl ?_
      refine j_dup (pc := 40) X dX8_record_40 rfl ?_
      refine j_get (pc := 41) (v := .int (G 22 0 3)) X gf_X8_32 (by decide) rfl rfl dX8_record_41 ?_
      refine j_iconst (pc := 44) (v := 1) X dX8_record_44 (by decide) ?_
      refine j_isub (pc := 45) X dX8_record_45 ?_
      obtain ⟨G1, hG1, h⟩ := st3_s h
      refine j_put (pc := 46) X hG1 gf_X8_32 tyX8 tyX8_ok nmX8 (by decide) rfl rfl (Nat.le_of_ble_eq_true rfl) rfl rfl rfl dX8_record_46 ?_
      refine j_iconst (pc := 49) (v := 0) X dX8_record_49 (by decide) ?_
      refine j_istore_n (pc := 50) (lv' := [(0, .ref (Ad E 22 0)), (1, .int (0 : Int32))]) X dX8_record_50 rfl (by decide) rfl ?_
      exact tX8_record_51 l hE X hr hk  FU G1 (0 : Int32) h
    · rw [if_neg hc] at h
      refine j_aload_n (pc := 17) X dX8_record_17 rfl 0 rfl ?_
      refine j_get (pc := 18) (v := .ref (Ad E 25 0)) X gf_X8_16 (by decide) rfl rfl dX8_record_18 ?_
      refine j_iload_n (pc := 21) X dX8_record_21 rfl 1 rfl ?_
      refine j_aload_n (pc := 22) X dX8_record_22 rfl 0 rfl ?_
      refine j_get (pc := 23) (v := .ref (Ad E 25 0)) X gf_X8_16 (by decide) rfl rfl dX8_record_23 ?_
      refine j_sipush (pc := 26) (v := 289) X dX8_record_26 (by decide) ?_
      refine j_iload_n (pc := 29) X dX8_record_29 rfl 1 rfl ?_
      refine j_iadd (pc := 30) X dX8_record_30 ?_
      obtain ⟨hg2, h⟩ := gd_s h
      refine j_iald (pc := 31) (n := 1156) X (by decide) rfl hg2 dX8_record_31 ?_
      obtain ⟨hg3, h⟩ := gd_s h
      obtain ⟨G4, hG4, h⟩ := st3_s h
      refine j_iast (pc := 32) (n := 1156) X hG4 (by decide) (fun _ => rfl) hg3 dX8_record_32 ?_
      refine j_iinc (pc := 33) (q := 1) (v := (a1 + (1 : Int32))) (lv' := [(0, .ref (Ad E 22 0)), (1, .int (a1 + (1 : Int32)))]) X dX8_record_33 rfl rfl (by decide) rfl ?_
      refine j_goto (pc := 36) (tgt := 10) X dX8_record_36 (by decide) ?_
      exact ih G4 (a1 + (1 : Int32)) h
set_option maxHeartbeats 4000000 in
set_option maxRecDepth 100000 in
theorem tX8_record (l : Launch) {E : ET} (hE : Aj E) (G : GT) {G' : GT} (h : fX8_record G = some G') : CV l E yX8_record cX8_record 2 none 0 [.ref (Ad E 22 0)] G G' := by
  refine Met_V (lv := [(0, .ref (Ad E 22 0))]) (by decide +kernel) hE (Nat.le_of_ble_eq_true rfl) rfl ?_
  intro p e s m args below meth c X hr hk
  unfold fX8_record at h
  refine j_aload_n (pc := 0) X dX8_record_0 rfl 0 rfl ?_
  refine j_get (pc := 1) (v := .int (G 22 0 3)) X gf_X8_32 (by decide) rfl rfl dX8_record_1 ?_
  refine j_iconst (pc := 4) (v := 4) X dX8_record_4 (by decide) ?_
  refine j_icmp_ne (pc := 5) (tgt := 49) X dX8_record_5 (by decide) (fun hc => ?_) (fun hc => ?_)
  · rw [if_neg hc] at h
    refine j_iconst (pc := 49) (v := 0) X dX8_record_49 (by decide) ?_
    refine j_istore_n (pc := 50) (lv' := [(0, .ref (Ad E 22 0)), (1, .int (0 : Int32))]) X dX8_record_50 rfl (by decide) rfl ?_
    exact tX8_record_51 l hE X hr hk  FU G (0 : Int32) h
  · rw [if_pos hc] at h
    refine j_iconst (pc := 8) (v := 0) X dX8_record_8 (by decide) ?_
    refine j_istore_n (pc := 9) (lv' := [(0, .ref (Ad E 22 0)), (1, .int (0 : Int32))]) X dX8_record_9 rfl (by decide) rfl ?_
    exact tX8_record_10 l hE X hr hk  FU G (0 : Int32) h
theorem dX8_undo_0 : decode cX8_undo 0 = .ok (.aload_n 0, 1) := by decide +kernel
theorem dX8_undo_1 : decode cX8_undo 1 = .ok (.getfield 32, 3) := by decide +kernel
theorem dX8_undo_4 : decode cX8_undo 4 = .ok (.ifCond .ne 6, 3) := by decide +kernel
theorem dX8_undo_7 : decode cX8_undo 7 = .ok (.bipush (-5), 2) := by decide +kernel
theorem dX8_undo_9 : decode cX8_undo 9 = .ok (.ireturn, 1) := by decide +kernel
theorem dX8_undo_10 : decode cX8_undo 10 = .ok (.aload_n 0, 1) := by decide +kernel
theorem dX8_undo_11 : decode cX8_undo 11 = .ok (.dup, 1) := by decide +kernel
theorem dX8_undo_12 : decode cX8_undo 12 = .ok (.getfield 32, 3) := by decide +kernel
theorem dX8_undo_15 : decode cX8_undo 15 = .ok (.iconst 1, 1) := by decide +kernel
theorem dX8_undo_16 : decode cX8_undo 16 = .ok (.isub, 1) := by decide +kernel
theorem dX8_undo_17 : decode cX8_undo 17 = .ok (.putfield 32, 3) := by decide +kernel
theorem dX8_undo_20 : decode cX8_undo 20 = .ok (.iconst 0, 1) := by decide +kernel
theorem dX8_undo_21 : decode cX8_undo 21 = .ok (.istore_n 1, 1) := by decide +kernel
theorem dX8_undo_22 : decode cX8_undo 22 = .ok (.iload_n 1, 1) := by decide +kernel
theorem dX8_undo_23 : decode cX8_undo 23 = .ok (.sipush 289, 3) := by decide +kernel
theorem dX8_undo_26 : decode cX8_undo 26 = .ok (.if_icmp .ge 30, 3) := by decide +kernel
theorem dX8_undo_29 : decode cX8_undo 29 = .ok (.aload_n 0, 1) := by decide +kernel
theorem dX8_undo_30 : decode cX8_undo 30 = .ok (.getfield 7, 3) := by decide +kernel
theorem dX8_undo_33 : decode cX8_undo 33 = .ok (.iload_n 1, 1) := by decide +kernel
theorem dX8_undo_34 : decode cX8_undo 34 = .ok (.aload_n 0, 1) := by decide +kernel
theorem dX8_undo_35 : decode cX8_undo 35 = .ok (.getfield 16, 3) := by decide +kernel
theorem dX8_undo_38 : decode cX8_undo 38 = .ok (.sipush 289, 3) := by decide +kernel
theorem dX8_undo_41 : decode cX8_undo 41 = .ok (.aload_n 0, 1) := by decide +kernel
theorem dX8_undo_42 : decode cX8_undo 42 = .ok (.getfield 32, 3) := by decide +kernel
theorem dX8_undo_45 : decode cX8_undo 45 = .ok (.imul, 1) := by decide +kernel
theorem dX8_undo_46 : decode cX8_undo 46 = .ok (.iload_n 1, 1) := by decide +kernel
theorem dX8_undo_47 : decode cX8_undo 47 = .ok (.iadd, 1) := by decide +kernel
theorem dX8_undo_48 : decode cX8_undo 48 = .ok (.iaload, 1) := by decide +kernel
theorem dX8_undo_49 : decode cX8_undo 49 = .ok (.iastore, 1) := by decide +kernel
theorem dX8_undo_50 : decode cX8_undo 50 = .ok (.iinc 1 1, 3) := by decide +kernel
theorem dX8_undo_53 : decode cX8_undo 53 = .ok (.goto (-31), 3) := by decide +kernel
theorem dX8_undo_56 : decode cX8_undo 56 = .ok (.aload_n 0, 1) := by decide +kernel
theorem dX8_undo_57 : decode cX8_undo 57 = .ok (.getfield 32, 3) := by decide +kernel
theorem dX8_undo_60 : decode cX8_undo 60 = .ok (.ireturn, 1) := by decide +kernel
set_option maxHeartbeats 4000000 in
set_option maxRecDepth 100000 in
theorem tX8_undo_22 (l : Launch) {E : ET} (hE : Aj E) {p : Program} {e : Env} {s : State} {m : MethodId} {args : Array Value} {below : List Frame} {meth : Method} {c : Code} (X : Cx p (rmL 0) s m args c yX8_undo.cls cX8_undo 2 E (Aw E) 0 0) (hr : meth.sig.returnType = (some .int)) (hk : meth.locks = false) {r : Int32} {G' : GT}  : ∀ (n : Nat) (G : GT) (a1 : Int32), fX8_undo_22  n G a1 = some (r, G') → J p l e (rmL 0) s m args below meth c E (Aw E) s.heap 2 0 0 (MQ below (QI E r G') args s 0 0 (Aw E)) G 22 [(0, .ref (Ad E 22 0)), (1, .int a1)] [] := by
  intro n
  induction n with
  | zero =>
    intro G a1 h
    simp [fX8_undo_22] at h
  | succ n ih =>
    intro G a1 h
    rw [fX8_undo_22] at h
    refine j_iload_n (pc := 22) X dX8_undo_22 rfl 1 rfl ?_
    refine j_sipush (pc := 23) (v := 289) X dX8_undo_23 (by decide) ?_
    refine j_icmp_ge (pc := 26) (tgt := 56) X dX8_undo_26 (by decide) (fun hc => ?_) (fun hc => ?_)
    · rw [if_pos hc] at h
      refine j_aload_n (pc := 56) X dX8_undo_56 rfl 0 rfl ?_
      refine j_get (pc := 57) (v := .int (G 22 0 3)) X gf_X8_32 (by decide) rfl rfl dX8_undo_57 ?_
      exact j_ret (pc := 60) X hr hk (vp_nar_int _) (pr_s h).1 (pr_s h).2 dX8_undo_60
    · rw [if_neg hc] at h
      refine j_aload_n (pc := 29) X dX8_undo_29 rfl 0 rfl ?_
      refine j_get (pc := 30) (v := .ref (Ad E 23 0)) X gf_X8_7 (by decide) rfl rfl dX8_undo_30 ?_
      refine j_iload_n (pc := 33) X dX8_undo_33 rfl 1 rfl ?_
      refine j_aload_n (pc := 34) X dX8_undo_34 rfl 0 rfl ?_
      refine j_get (pc := 35) (v := .ref (Ad E 25 0)) X gf_X8_16 (by decide) rfl rfl dX8_undo_35 ?_
      refine j_sipush (pc := 38) (v := 289) X dX8_undo_38 (by decide) ?_
      refine j_aload_n (pc := 41) X dX8_undo_41 rfl 0 rfl ?_
      refine j_get (pc := 42) (v := .int (G 22 0 3)) X gf_X8_32 (by decide) rfl rfl dX8_undo_42 ?_
      refine j_imul (pc := 45) X dX8_undo_45 ?_
      refine j_iload_n (pc := 46) X dX8_undo_46 rfl 1 rfl ?_
      refine j_iadd (pc := 47) X dX8_undo_47 ?_
      obtain ⟨hg1, h⟩ := gd_s h
      refine j_iald (pc := 48) (n := 1156) X (by decide) rfl hg1 dX8_undo_48 ?_
      obtain ⟨hg2, h⟩ := gd_s h
      obtain ⟨G3, hG3, h⟩ := st3_s h
      refine j_iast (pc := 49) (n := 289) X hG3 (by decide) (fun _ => rfl) hg2 dX8_undo_49 ?_
      refine j_iinc (pc := 50) (q := 1) (v := (a1 + (1 : Int32))) (lv' := [(0, .ref (Ad E 22 0)), (1, .int (a1 + (1 : Int32)))]) X dX8_undo_50 rfl rfl (by decide) rfl ?_
      refine j_goto (pc := 53) (tgt := 22) X dX8_undo_53 (by decide) ?_
      exact ih G3 (a1 + (1 : Int32)) h
set_option maxHeartbeats 4000000 in
set_option maxRecDepth 100000 in
theorem tX8_undo (l : Launch) {E : ET} (hE : Aj E) (G : GT) {r : Int32} {G' : GT} (h : fX8_undo G = some (r, G')) : CI l E yX8_undo cX8_undo 2 (some .int) 0 [.ref (Ad E 22 0)] G r G' := by
  refine Met_I (lv := [(0, .ref (Ad E 22 0))]) (by decide +kernel) hE (Nat.le_of_ble_eq_true rfl) rfl ?_
  intro p e s m args below meth c X hr hk
  unfold fX8_undo at h
  refine j_aload_n (pc := 0) X dX8_undo_0 rfl 0 rfl ?_
  refine j_get (pc := 1) (v := .int (G 22 0 3)) X gf_X8_32 (by decide) rfl rfl dX8_undo_1 ?_
  refine j_if_ne (pc := 4) (tgt := 10) X dX8_undo_4 (by decide) (fun hc => ?_) (fun hc => ?_)
  · rw [if_neg hc] at h
    refine j_aload_n (pc := 10) X dX8_undo_10 rfl 0 rfl ?_
    refine j_dup (pc := 11) X dX8_undo_11 rfl ?_
    refine j_get (pc := 12) (v := .int (G 22 0 3)) X gf_X8_32 (by decide) rfl rfl dX8_undo_12 ?_
    refine j_iconst (pc := 15) (v := 1) X dX8_undo_15 (by decide) ?_
    refine j_isub (pc := 16) X dX8_undo_16 ?_
    obtain ⟨G1, hG1, h⟩ := st3_s h
    refine j_put (pc := 17) X hG1 gf_X8_32 tyX8 tyX8_ok nmX8 (by decide) rfl rfl (Nat.le_of_ble_eq_true rfl) rfl rfl rfl dX8_undo_17 ?_
    refine j_iconst (pc := 20) (v := 0) X dX8_undo_20 (by decide) ?_
    refine j_istore_n (pc := 21) (lv' := [(0, .ref (Ad E 22 0)), (1, .int (0 : Int32))]) X dX8_undo_21 rfl (by decide) rfl ?_
    exact tX8_undo_22 l hE X hr hk  FU G1 (0 : Int32) h
  · rw [if_pos hc] at h
    refine j_bipush (pc := 7) (v := (-5)) X dX8_undo_7 (by decide) ?_
    exact j_ret (pc := 9) X hr hk (vp_nar_int _) (pr_s h).1 (pr_s h).2 dX8_undo_9
theorem dX8_keep_0 : decode cX8_keep 0 = .ok (.iconst 0, 1) := by decide +kernel
theorem dX8_keep_1 : decode cX8_keep 1 = .ok (.istore_n 1, 1) := by decide +kernel
theorem dX8_keep_2 : decode cX8_keep 2 = .ok (.iload_n 1, 1) := by decide +kernel
theorem dX8_keep_3 : decode cX8_keep 3 = .ok (.sipush 289, 3) := by decide +kernel
theorem dX8_keep_6 : decode cX8_keep 6 = .ok (.if_icmp .ge 21, 3) := by decide +kernel
theorem dX8_keep_9 : decode cX8_keep 9 = .ok (.aload_n 0, 1) := by decide +kernel
theorem dX8_keep_10 : decode cX8_keep 10 = .ok (.getfield 19, 3) := by decide +kernel
theorem dX8_keep_13 : decode cX8_keep 13 = .ok (.iload_n 1, 1) := by decide +kernel
theorem dX8_keep_14 : decode cX8_keep 14 = .ok (.aload_n 0, 1) := by decide +kernel
theorem dX8_keep_15 : decode cX8_keep 15 = .ok (.getfield 7, 3) := by decide +kernel
theorem dX8_keep_18 : decode cX8_keep 18 = .ok (.iload_n 1, 1) := by decide +kernel
theorem dX8_keep_19 : decode cX8_keep 19 = .ok (.iaload, 1) := by decide +kernel
theorem dX8_keep_20 : decode cX8_keep 20 = .ok (.iastore, 1) := by decide +kernel
theorem dX8_keep_21 : decode cX8_keep 21 = .ok (.iinc 1 1, 3) := by decide +kernel
theorem dX8_keep_24 : decode cX8_keep 24 = .ok (.goto (-22), 3) := by decide +kernel
theorem dX8_keep_27 : decode cX8_keep 27 = .ok (.aload_n 0, 1) := by decide +kernel
theorem dX8_keep_28 : decode cX8_keep 28 = .ok (.iconst 1, 1) := by decide +kernel
theorem dX8_keep_29 : decode cX8_keep 29 = .ok (.putfield 36, 3) := by decide +kernel
theorem dX8_keep_32 : decode cX8_keep 32 = .ok (.aload_n 0, 1) := by decide +kernel
theorem dX8_keep_33 : decode cX8_keep 33 = .ok (.invokevirtual 40, 3) := by decide +kernel
theorem dX8_keep_36 : decode cX8_keep 36 = .ok (.ireturn, 1) := by decide +kernel
set_option maxHeartbeats 4000000 in
set_option maxRecDepth 100000 in
theorem tX8_keep_2 (l : Launch) {E : ET} (hE : Aj E) {p : Program} {e : Env} {s : State} {m : MethodId} {args : Array Value} {below : List Frame} {meth : Method} {c : Code} (X : Cx p (rmL 1) s m args c yX8_keep.cls cX8_keep 2 E (Aw E) 0 0) (hr : meth.sig.returnType = (some .int)) (hk : meth.locks = false) {r : Int32} {G' : GT}  : ∀ (n : Nat) (G : GT) (a1 : Int32), fX8_keep_2  n G a1 = some (r, G') → J p l e (rmL 1) s m args below meth c E (Aw E) s.heap 2 0 0 (MQ below (QI E r G') args s 0 0 (Aw E)) G 2 [(0, .ref (Ad E 22 0)), (1, .int a1)] [] := by
  intro n
  induction n with
  | zero =>
    intro G a1 h
    simp [fX8_keep_2] at h
  | succ n ih =>
    intro G a1 h
    rw [fX8_keep_2] at h
    refine j_iload_n (pc := 2) X dX8_keep_2 rfl 1 rfl ?_
    refine j_sipush (pc := 3) (v := 289) X dX8_keep_3 (by decide) ?_
    refine j_icmp_ge (pc := 6) (tgt := 27) X dX8_keep_6 (by decide) (fun hc => ?_) (fun hc => ?_)
    · rw [if_pos hc] at h
      refine j_aload_n (pc := 27) X dX8_keep_27 rfl 0 rfl ?_
      refine j_iconst (pc := 28) (v := 1) X dX8_keep_28 (by decide) ?_
      obtain ⟨G1, hG1, h⟩ := st3_s h
      refine j_put (pc := 29) X hG1 gf_X8_36 tyX8 tyX8_ok nmX8 (by decide) rfl rfl (Nat.le_of_ble_eq_true rfl) rfl rfl rfl dX8_keep_29 ?_
      refine j_aload_n (pc := 32) X dX8_keep_32 rfl 0 rfl ?_
      obtain ⟨r2, hc4, h⟩ := bd_s h
      refine j_callI (pc := 33) X (tX8_knots l hE G1  hc4) muX8_knots (by decide) q695 rfl rfl (Nat.le_of_ble_eq_true rfl) ⟨Nat.le_of_ble_eq_true rfl, Nat.le_of_ble_eq_true rfl⟩ dX8_keep_33 ?_
      exact j_ret (pc := 36) X hr hk (vp_nar_int _) (pr_s h).1 (pr_s h).2 dX8_keep_36
    · rw [if_neg hc] at h
      refine j_aload_n (pc := 9) X dX8_keep_9 rfl 0 rfl ?_
      refine j_get (pc := 10) (v := .ref (Ad E 26 0)) X gf_X8_19 (by decide) rfl rfl dX8_keep_10 ?_
      refine j_iload_n (pc := 13) X dX8_keep_13 rfl 1 rfl ?_
      refine j_aload_n (pc := 14) X dX8_keep_14 rfl 0 rfl ?_
      refine j_get (pc := 15) (v := .ref (Ad E 23 0)) X gf_X8_7 (by decide) rfl rfl dX8_keep_15 ?_
      refine j_iload_n (pc := 18) X dX8_keep_18 rfl 1 rfl ?_
      obtain ⟨hg5, h⟩ := gd_s h
      refine j_iald (pc := 19) (n := 289) X (by decide) rfl hg5 dX8_keep_19 ?_
      obtain ⟨hg6, h⟩ := gd_s h
      obtain ⟨G7, hG7, h⟩ := st3_s h
      refine j_iast (pc := 20) (n := 289) X hG7 (by decide) (fun _ => rfl) hg6 dX8_keep_20 ?_
      refine j_iinc (pc := 21) (q := 1) (v := (a1 + (1 : Int32))) (lv' := [(0, .ref (Ad E 22 0)), (1, .int (a1 + (1 : Int32)))]) X dX8_keep_21 rfl rfl (by decide) rfl ?_
      refine j_goto (pc := 24) (tgt := 2) X dX8_keep_24 (by decide) ?_
      exact ih G7 (a1 + (1 : Int32)) h
set_option maxHeartbeats 4000000 in
set_option maxRecDepth 100000 in
theorem tX8_keep (l : Launch) {E : ET} (hE : Aj E) (G : GT) {r : Int32} {G' : GT} (h : fX8_keep G = some (r, G')) : CI l E yX8_keep cX8_keep 2 (some .int) 1 [.ref (Ad E 22 0)] G r G' := by
  refine Met_I (lv := [(0, .ref (Ad E 22 0))]) (by decide +kernel) hE (Nat.le_of_ble_eq_true rfl) rfl ?_
  intro p e s m args below meth c X hr hk
  unfold fX8_keep at h
  refine j_iconst (pc := 0) (v := 0) X dX8_keep_0 (by decide) ?_
  refine j_istore_n (pc := 1) (lv' := [(0, .ref (Ad E 22 0)), (1, .int (0 : Int32))]) X dX8_keep_1 rfl (by decide) rfl ?_
  exact tX8_keep_2 l hE X hr hk  FU G (0 : Int32) h
theorem dX8_restore_0 : decode cX8_restore 0 = .ok (.aload_n 0, 1) := by decide +kernel
theorem dX8_restore_1 : decode cX8_restore 1 = .ok (.getfield 36, 3) := by decide +kernel
theorem dX8_restore_4 : decode cX8_restore 4 = .ok (.ifCond .ne 6, 3) := by decide +kernel
theorem dX8_restore_7 : decode cX8_restore 7 = .ok (.bipush (-5), 2) := by decide +kernel
theorem dX8_restore_9 : decode cX8_restore 9 = .ok (.ireturn, 1) := by decide +kernel
theorem dX8_restore_10 : decode cX8_restore 10 = .ok (.aload_n 0, 1) := by decide +kernel
theorem dX8_restore_11 : decode cX8_restore 11 = .ok (.invokevirtual 44, 3) := by decide +kernel
theorem dX8_restore_14 : decode cX8_restore 14 = .ok (.iconst 0, 1) := by decide +kernel
theorem dX8_restore_15 : decode cX8_restore 15 = .ok (.istore_n 1, 1) := by decide +kernel
theorem dX8_restore_16 : decode cX8_restore 16 = .ok (.iload_n 1, 1) := by decide +kernel
theorem dX8_restore_17 : decode cX8_restore 17 = .ok (.sipush 289, 3) := by decide +kernel
theorem dX8_restore_20 : decode cX8_restore 20 = .ok (.if_icmp .ge 21, 3) := by decide +kernel
theorem dX8_restore_23 : decode cX8_restore 23 = .ok (.aload_n 0, 1) := by decide +kernel
theorem dX8_restore_24 : decode cX8_restore 24 = .ok (.getfield 7, 3) := by decide +kernel
theorem dX8_restore_27 : decode cX8_restore 27 = .ok (.iload_n 1, 1) := by decide +kernel
theorem dX8_restore_28 : decode cX8_restore 28 = .ok (.aload_n 0, 1) := by decide +kernel
theorem dX8_restore_29 : decode cX8_restore 29 = .ok (.getfield 19, 3) := by decide +kernel
theorem dX8_restore_32 : decode cX8_restore 32 = .ok (.iload_n 1, 1) := by decide +kernel
theorem dX8_restore_33 : decode cX8_restore 33 = .ok (.iaload, 1) := by decide +kernel
theorem dX8_restore_34 : decode cX8_restore 34 = .ok (.iastore, 1) := by decide +kernel
theorem dX8_restore_35 : decode cX8_restore 35 = .ok (.iinc 1 1, 3) := by decide +kernel
theorem dX8_restore_38 : decode cX8_restore 38 = .ok (.goto (-22), 3) := by decide +kernel
theorem dX8_restore_41 : decode cX8_restore 41 = .ok (.aload_n 0, 1) := by decide +kernel
theorem dX8_restore_42 : decode cX8_restore 42 = .ok (.invokevirtual 40, 3) := by decide +kernel
theorem dX8_restore_45 : decode cX8_restore 45 = .ok (.ireturn, 1) := by decide +kernel
set_option maxHeartbeats 4000000 in
set_option maxRecDepth 100000 in
theorem tX8_restore_16 (l : Launch) {E : ET} (hE : Aj E) {p : Program} {e : Env} {s : State} {m : MethodId} {args : Array Value} {below : List Frame} {meth : Method} {c : Code} (X : Cx p (rmL 1) s m args c yX8_restore.cls cX8_restore 2 E (Aw E) 0 0) (hr : meth.sig.returnType = (some .int)) (hk : meth.locks = false) {r : Int32} {G' : GT}  : ∀ (n : Nat) (G : GT) (a1 : Int32), fX8_restore_16  n G a1 = some (r, G') → J p l e (rmL 1) s m args below meth c E (Aw E) s.heap 2 0 0 (MQ below (QI E r G') args s 0 0 (Aw E)) G 16 [(0, .ref (Ad E 22 0)), (1, .int a1)] [] := by
  intro n
  induction n with
  | zero =>
    intro G a1 h
    simp [fX8_restore_16] at h
  | succ n ih =>
    intro G a1 h
    rw [fX8_restore_16] at h
    refine j_iload_n (pc := 16) X dX8_restore_16 rfl 1 rfl ?_
    refine j_sipush (pc := 17) (v := 289) X dX8_restore_17 (by decide) ?_
    refine j_icmp_ge (pc := 20) (tgt := 41) X dX8_restore_20 (by decide) (fun hc => ?_) (fun hc => ?_)
    · rw [if_pos hc] at h
      refine j_aload_n (pc := 41) X dX8_restore_41 rfl 0 rfl ?_
      obtain ⟨r1, hc3, h⟩ := bd_s h
      refine j_callI (pc := 42) X (tX8_knots l hE G  hc3) muX8_knots (by decide) q695 rfl rfl (Nat.le_of_ble_eq_true rfl) ⟨Nat.le_of_ble_eq_true rfl, Nat.le_of_ble_eq_true rfl⟩ dX8_restore_42 ?_
      exact j_ret (pc := 45) X hr hk (vp_nar_int _) (pr_s h).1 (pr_s h).2 dX8_restore_45
    · rw [if_neg hc] at h
      refine j_aload_n (pc := 23) X dX8_restore_23 rfl 0 rfl ?_
      refine j_get (pc := 24) (v := .ref (Ad E 23 0)) X gf_X8_7 (by decide) rfl rfl dX8_restore_24 ?_
      refine j_iload_n (pc := 27) X dX8_restore_27 rfl 1 rfl ?_
      refine j_aload_n (pc := 28) X dX8_restore_28 rfl 0 rfl ?_
      refine j_get (pc := 29) (v := .ref (Ad E 26 0)) X gf_X8_19 (by decide) rfl rfl dX8_restore_29 ?_
      refine j_iload_n (pc := 32) X dX8_restore_32 rfl 1 rfl ?_
      obtain ⟨hg4, h⟩ := gd_s h
      refine j_iald (pc := 33) (n := 289) X (by decide) rfl hg4 dX8_restore_33 ?_
      obtain ⟨hg5, h⟩ := gd_s h
      obtain ⟨G6, hG6, h⟩ := st3_s h
      refine j_iast (pc := 34) (n := 289) X hG6 (by decide) (fun _ => rfl) hg5 dX8_restore_34 ?_
      refine j_iinc (pc := 35) (q := 1) (v := (a1 + (1 : Int32))) (lv' := [(0, .ref (Ad E 22 0)), (1, .int (a1 + (1 : Int32)))]) X dX8_restore_35 rfl rfl (by decide) rfl ?_
      refine j_goto (pc := 38) (tgt := 16) X dX8_restore_38 (by decide) ?_
      exact ih G6 (a1 + (1 : Int32)) h
set_option maxHeartbeats 4000000 in
set_option maxRecDepth 100000 in
theorem tX8_restore (l : Launch) {E : ET} (hE : Aj E) (G : GT) {r : Int32} {G' : GT} (h : fX8_restore G = some (r, G')) : CI l E yX8_restore cX8_restore 2 (some .int) 1 [.ref (Ad E 22 0)] G r G' := by
  refine Met_I (lv := [(0, .ref (Ad E 22 0))]) (by decide +kernel) hE (Nat.le_of_ble_eq_true rfl) rfl ?_
  intro p e s m args below meth c X hr hk
  unfold fX8_restore at h
  refine j_aload_n (pc := 0) X dX8_restore_0 rfl 0 rfl ?_
  refine j_get (pc := 1) (v := .int (G 22 0 5)) X gf_X8_36 (by decide) rfl rfl dX8_restore_1 ?_
  refine j_if_ne (pc := 4) (tgt := 10) X dX8_restore_4 (by decide) (fun hc => ?_) (fun hc => ?_)
  · rw [if_neg hc] at h
    refine j_aload_n (pc := 10) X dX8_restore_10 rfl 0 rfl ?_
    obtain ⟨G2, hc3, h⟩ := bd_s h
    refine j_callV (pc := 11) X (tX8_record l hE G  hc3) muX8_record (by decide) q703 rfl rfl (Nat.le_of_ble_eq_true rfl) ⟨Nat.le_of_ble_eq_true rfl, Nat.le_of_ble_eq_true rfl⟩ dX8_restore_11 ?_
    refine j_iconst (pc := 14) (v := 0) X dX8_restore_14 (by decide) ?_
    refine j_istore_n (pc := 15) (lv' := [(0, .ref (Ad E 22 0)), (1, .int (0 : Int32))]) X dX8_restore_15 rfl (by decide) rfl ?_
    exact tX8_restore_16 l hE X hr hk  FU G2 (0 : Int32) h
  · rw [if_pos hc] at h
    refine j_bipush (pc := 7) (v := (-5)) X dX8_restore_7 (by decide) ?_
    exact j_ret (pc := 9) X hr hk (vp_nar_int _) (pr_s h).1 (pr_s h).2 dX8_restore_9
theorem dX8_putAside_0 : decode cX8_putAside 0 = .ok (.iconst 0, 1) := by decide +kernel
theorem dX8_putAside_1 : decode cX8_putAside 1 = .ok (.istore_n 1, 1) := by decide +kernel
theorem dX8_putAside_2 : decode cX8_putAside 2 = .ok (.iload_n 1, 1) := by decide +kernel
theorem dX8_putAside_3 : decode cX8_putAside 3 = .ok (.sipush 289, 3) := by decide +kernel
theorem dX8_putAside_6 : decode cX8_putAside 6 = .ok (.if_icmp .ge 21, 3) := by decide +kernel
theorem dX8_putAside_9 : decode cX8_putAside 9 = .ok (.aload_n 0, 1) := by decide +kernel
theorem dX8_putAside_10 : decode cX8_putAside 10 = .ok (.getfield 13, 3) := by decide +kernel
theorem dX8_putAside_13 : decode cX8_putAside 13 = .ok (.iload_n 1, 1) := by decide +kernel
theorem dX8_putAside_14 : decode cX8_putAside 14 = .ok (.aload_n 0, 1) := by decide +kernel
theorem dX8_putAside_15 : decode cX8_putAside 15 = .ok (.getfield 7, 3) := by decide +kernel
theorem dX8_putAside_18 : decode cX8_putAside 18 = .ok (.iload_n 1, 1) := by decide +kernel
theorem dX8_putAside_19 : decode cX8_putAside 19 = .ok (.iaload, 1) := by decide +kernel
theorem dX8_putAside_20 : decode cX8_putAside 20 = .ok (.iastore, 1) := by decide +kernel
theorem dX8_putAside_21 : decode cX8_putAside 21 = .ok (.iinc 1 1, 3) := by decide +kernel
theorem dX8_putAside_24 : decode cX8_putAside 24 = .ok (.goto (-22), 3) := by decide +kernel
theorem dX8_putAside_27 : decode cX8_putAside 27 = .ok (.return_, 1) := by decide +kernel
set_option maxHeartbeats 4000000 in
set_option maxRecDepth 100000 in
theorem tX8_putAside_2 (l : Launch) {E : ET} (hE : Aj E) {p : Program} {e : Env} {s : State} {m : MethodId} {args : Array Value} {below : List Frame} {meth : Method} {c : Code} (X : Cx p (rmL 0) s m args c yX8_putAside.cls cX8_putAside 2 E (Aw E) 0 0) (hr : meth.sig.returnType = none) (hk : meth.locks = false) {G' : GT}  : ∀ (n : Nat) (G : GT) (a1 : Int32), fX8_putAside_2  n G a1 = some G' → J p l e (rmL 0) s m args below meth c E (Aw E) s.heap 2 0 0 (MQ below (QV E G') args s 0 0 (Aw E)) G 2 [(0, .ref (Ad E 22 0)), (1, .int a1)] [] := by
  intro n
  induction n with
  | zero =>
    intro G a1 h
    simp [fX8_putAside_2] at h
  | succ n ih =>
    intro G a1 h
    rw [fX8_putAside_2] at h
    refine j_iload_n (pc := 2) X dX8_putAside_2 rfl 1 rfl ?_
    refine j_sipush (pc := 3) (v := 289) X dX8_putAside_3 (by decide) ?_
    refine j_icmp_ge (pc := 6) (tgt := 27) X dX8_putAside_6 (by decide) (fun hc => ?_) (fun hc => ?_)
    · rw [if_pos hc] at h
      exact j_vret (pc := 27) X hr hk (Option.some.inj h) dX8_putAside_27
    · rw [if_neg hc] at h
      refine j_aload_n (pc := 9) X dX8_putAside_9 rfl 0 rfl ?_
      refine j_get (pc := 10) (v := .ref (Ad E 24 0)) X gf_X8_13 (by decide) rfl rfl dX8_putAside_10 ?_
      refine j_iload_n (pc := 13) X dX8_putAside_13 rfl 1 rfl ?_
      refine j_aload_n (pc := 14) X dX8_putAside_14 rfl 0 rfl ?_
      refine j_get (pc := 15) (v := .ref (Ad E 23 0)) X gf_X8_7 (by decide) rfl rfl dX8_putAside_15 ?_
      refine j_iload_n (pc := 18) X dX8_putAside_18 rfl 1 rfl ?_
      obtain ⟨hg1, h⟩ := gd_s h
      refine j_iald (pc := 19) (n := 289) X (by decide) rfl hg1 dX8_putAside_19 ?_
      obtain ⟨hg2, h⟩ := gd_s h
      obtain ⟨G3, hG3, h⟩ := st3_s h
      refine j_iast (pc := 20) (n := 289) X hG3 (by decide) (fun _ => rfl) hg2 dX8_putAside_20 ?_
      refine j_iinc (pc := 21) (q := 1) (v := (a1 + (1 : Int32))) (lv' := [(0, .ref (Ad E 22 0)), (1, .int (a1 + (1 : Int32)))]) X dX8_putAside_21 rfl rfl (by decide) rfl ?_
      refine j_goto (pc := 24) (tgt := 2) X dX8_putAside_24 (by decide) ?_
      exact ih G3 (a1 + (1 : Int32)) h
set_option maxHeartbeats 4000000 in
set_option maxRecDepth 100000 in
theorem tX8_putAside (l : Launch) {E : ET} (hE : Aj E) (G : GT) {G' : GT} (h : fX8_putAside G = some G') : CV l E yX8_putAside cX8_putAside 2 none 0 [.ref (Ad E 22 0)] G G' := by
  refine Met_V (lv := [(0, .ref (Ad E 22 0))]) (by decide +kernel) hE (Nat.le_of_ble_eq_true rfl) rfl ?_
  intro p e s m args below meth c X hr hk
  unfold fX8_putAside at h
  refine j_iconst (pc := 0) (v := 0) X dX8_putAside_0 (by decide) ?_
  refine j_istore_n (pc := 1) (lv' := [(0, .ref (Ad E 22 0)), (1, .int (0 : Int32))]) X dX8_putAside_1 rfl (by decide) rfl ?_
  exact tX8_putAside_2 l hE X hr hk  FU G (0 : Int32) h
theorem dX8_putBack_0 : decode cX8_putBack 0 = .ok (.iconst 0, 1) := by decide +kernel
theorem dX8_putBack_1 : decode cX8_putBack 1 = .ok (.istore_n 1, 1) := by decide +kernel
theorem dX8_putBack_2 : decode cX8_putBack 2 = .ok (.iload_n 1, 1) := by decide +kernel
theorem dX8_putBack_3 : decode cX8_putBack 3 = .ok (.sipush 289, 3) := by decide +kernel
theorem dX8_putBack_6 : decode cX8_putBack 6 = .ok (.if_icmp .ge 21, 3) := by decide +kernel
theorem dX8_putBack_9 : decode cX8_putBack 9 = .ok (.aload_n 0, 1) := by decide +kernel
theorem dX8_putBack_10 : decode cX8_putBack 10 = .ok (.getfield 7, 3) := by decide +kernel
theorem dX8_putBack_13 : decode cX8_putBack 13 = .ok (.iload_n 1, 1) := by decide +kernel
theorem dX8_putBack_14 : decode cX8_putBack 14 = .ok (.aload_n 0, 1) := by decide +kernel
theorem dX8_putBack_15 : decode cX8_putBack 15 = .ok (.getfield 13, 3) := by decide +kernel
theorem dX8_putBack_18 : decode cX8_putBack 18 = .ok (.iload_n 1, 1) := by decide +kernel
theorem dX8_putBack_19 : decode cX8_putBack 19 = .ok (.iaload, 1) := by decide +kernel
theorem dX8_putBack_20 : decode cX8_putBack 20 = .ok (.iastore, 1) := by decide +kernel
theorem dX8_putBack_21 : decode cX8_putBack 21 = .ok (.iinc 1 1, 3) := by decide +kernel
theorem dX8_putBack_24 : decode cX8_putBack 24 = .ok (.goto (-22), 3) := by decide +kernel
theorem dX8_putBack_27 : decode cX8_putBack 27 = .ok (.return_, 1) := by decide +kernel
set_option maxHeartbeats 4000000 in
set_option maxRecDepth 100000 in
theorem tX8_putBack_2 (l : Launch) {E : ET} (hE : Aj E) {p : Program} {e : Env} {s : State} {m : MethodId} {args : Array Value} {below : List Frame} {meth : Method} {c : Code} (X : Cx p (rmL 0) s m args c yX8_putBack.cls cX8_putBack 2 E (Aw E) 0 0) (hr : meth.sig.returnType = none) (hk : meth.locks = false) {G' : GT}  : ∀ (n : Nat) (G : GT) (a1 : Int32), fX8_putBack_2  n G a1 = some G' → J p l e (rmL 0) s m args below meth c E (Aw E) s.heap 2 0 0 (MQ below (QV E G') args s 0 0 (Aw E)) G 2 [(0, .ref (Ad E 22 0)), (1, .int a1)] [] := by
  intro n
  induction n with
  | zero =>
    intro G a1 h
    simp [fX8_putBack_2] at h
  | succ n ih =>
    intro G a1 h
    rw [fX8_putBack_2] at h
    refine j_iload_n (pc := 2) X dX8_putBack_2 rfl 1 rfl ?_
    refine j_sipush (pc := 3) (v := 289) X dX8_putBack_3 (by decide) ?_
    refine j_icmp_ge (pc := 6) (tgt := 27) X dX8_putBack_6 (by decide) (fun hc => ?_) (fun hc => ?_)
    · rw [if_pos hc] at h
      exact j_vret (pc := 27) X hr hk (Option.some.inj h) dX8_putBack_27
    · rw [if_neg hc] at h
      refine j_aload_n (pc := 9) X dX8_putBack_9 rfl 0 rfl ?_
      refine j_get (pc := 10) (v := .ref (Ad E 23 0)) X gf_X8_7 (by decide) rfl rfl dX8_putBack_10 ?_
      refine j_iload_n (pc := 13) X dX8_putBack_13 rfl 1 rfl ?_
      refine j_aload_n (pc := 14) X dX8_putBack_14 rfl 0 rfl ?_
      refine j_get (pc := 15) (v := .ref (Ad E 24 0)) X gf_X8_13 (by decide) rfl rfl dX8_putBack_15 ?_
      refine j_iload_n (pc := 18) X dX8_putBack_18 rfl 1 rfl ?_
      obtain ⟨hg1, h⟩ := gd_s h
      refine j_iald (pc := 19) (n := 289) X (by decide) rfl hg1 dX8_putBack_19 ?_
      obtain ⟨hg2, h⟩ := gd_s h
      obtain ⟨G3, hG3, h⟩ := st3_s h
      refine j_iast (pc := 20) (n := 289) X hG3 (by decide) (fun _ => rfl) hg2 dX8_putBack_20 ?_
      refine j_iinc (pc := 21) (q := 1) (v := (a1 + (1 : Int32))) (lv' := [(0, .ref (Ad E 22 0)), (1, .int (a1 + (1 : Int32)))]) X dX8_putBack_21 rfl rfl (by decide) rfl ?_
      refine j_goto (pc := 24) (tgt := 2) X dX8_putBack_24 (by decide) ?_
      exact ih G3 (a1 + (1 : Int32)) h
set_option maxHeartbeats 4000000 in
set_option maxRecDepth 100000 in
theorem tX8_putBack (l : Launch) {E : ET} (hE : Aj E) (G : GT) {G' : GT} (h : fX8_putBack G = some G') : CV l E yX8_putBack cX8_putBack 2 none 0 [.ref (Ad E 22 0)] G G' := by
  refine Met_V (lv := [(0, .ref (Ad E 22 0))]) (by decide +kernel) hE (Nat.le_of_ble_eq_true rfl) rfl ?_
  intro p e s m args below meth c X hr hk
  unfold fX8_putBack at h
  refine j_iconst (pc := 0) (v := 0) X dX8_putBack_0 (by decide) ?_
  refine j_istore_n (pc := 1) (lv' := [(0, .ref (Ad E 22 0)), (1, .int (0 : Int32))]) X dX8_putBack_1 rfl (by decide) rfl ?_
  exact tX8_putBack_2 l hE X hr hk  FU G (0 : Int32) h
theorem dX8_isKnot_0 : decode cX8_isKnot 0 = .ok (.iload_n 1, 1) := by decide +kernel
theorem dX8_isKnot_1 : decode cX8_isKnot 1 = .ok (.invokestatic 47, 3) := by decide +kernel
theorem dX8_isKnot_4 : decode cX8_isKnot 4 = .ok (.ifCond .eq 18, 3) := by decide +kernel
theorem dX8_isKnot_7 : decode cX8_isKnot 7 = .ok (.aload_n 0, 1) := by decide +kernel
theorem dX8_isKnot_8 : decode cX8_isKnot 8 = .ok (.getfield 7, 3) := by decide +kernel
theorem dX8_isKnot_11 : decode cX8_isKnot 11 = .ok (.iconst 0, 1) := by decide +kernel
theorem dX8_isKnot_12 : decode cX8_isKnot 12 = .ok (.iload_n 1, 1) := by decide +kernel
theorem dX8_isKnot_13 : decode cX8_isKnot 13 = .ok (.iadd, 1) := by decide +kernel
theorem dX8_isKnot_14 : decode cX8_isKnot 14 = .ok (.iaload, 1) := by decide +kernel
theorem dX8_isKnot_15 : decode cX8_isKnot 15 = .ok (.ifCond .le 7, 3) := by decide +kernel
theorem dX8_isKnot_18 : decode cX8_isKnot 18 = .ok (.iconst 1, 1) := by decide +kernel
theorem dX8_isKnot_19 : decode cX8_isKnot 19 = .ok (.goto 4, 3) := by decide +kernel
theorem dX8_isKnot_22 : decode cX8_isKnot 22 = .ok (.iconst 0, 1) := by decide +kernel
theorem dX8_isKnot_23 : decode cX8_isKnot 23 = .ok (.ireturn, 1) := by decide +kernel
set_option maxHeartbeats 4000000 in
set_option maxRecDepth 100000 in
theorem tX8_isKnot (l : Launch) {E : ET} (hE : Aj E) (G : GT) (a1 : Int32) {r : Int32} (h : fX8_isKnot G a1 = some r) : CI l E yX8_isKnot cX8_isKnot 2 (some .boolean) 2 [.ref (Ad E 22 0), .int a1] G r G := by
  refine Met_I (lv := [(0, .ref (Ad E 22 0)), (1, .int a1)]) (by decide +kernel) hE (Nat.le_of_ble_eq_true rfl) rfl ?_
  intro p e s m args below meth c X hr hk
  unfold fX8_isKnot at h
  refine j_iload_n (pc := 0) X dX8_isKnot_0 rfl 1 rfl ?_
  obtain ⟨r1, hc3, h⟩ := bd_s h
  refine j_staI (pc := 1) X (tX8_isPlace l hE G a1 hc3) muX8_isPlace (Or.inl q711) rfl rfl (Nat.le_of_ble_eq_true rfl) ⟨Nat.le_of_ble_eq_true rfl, Nat.le_of_ble_eq_true rfl⟩ dX8_isKnot_1 ?_
  refine j_if_eq (pc := 4) (tgt := 22) X dX8_isKnot_4 (by decide) (fun hc => ?_) (fun hc => ?_)
  · rw [if_pos hc] at h
    refine j_iconst (pc := 22) (v := 0) X dX8_isKnot_22 (by decide) ?_
    exact j_ret (pc := 23) X hr hk rfl (Option.some.inj h) rfl dX8_isKnot_23
  · rw [if_neg hc] at h
    refine j_aload_n (pc := 7) X dX8_isKnot_7 rfl 0 rfl ?_
    refine j_get (pc := 8) (v := .ref (Ad E 23 0)) X gf_X8_7 (by decide) rfl rfl dX8_isKnot_8 ?_
    refine j_iconst (pc := 11) (v := 0) X dX8_isKnot_11 (by decide) ?_
    refine j_iload_n (pc := 12) X dX8_isKnot_12 rfl 1 rfl ?_
    refine j_iadd (pc := 13) X dX8_isKnot_13 ?_
    obtain ⟨hg4, h⟩ := gd_s h
    refine j_iald (pc := 14) (n := 289) X (by decide) rfl hg4 dX8_isKnot_14 ?_
    refine j_if_le (pc := 15) (tgt := 22) X dX8_isKnot_15 (by decide) (fun hc => ?_) (fun hc => ?_)
    · rw [if_pos hc] at h
      refine j_iconst (pc := 22) (v := 0) X dX8_isKnot_22 (by decide) ?_
      exact j_ret (pc := 23) X hr hk rfl (Option.some.inj h) rfl dX8_isKnot_23
    · rw [if_neg hc] at h
      refine j_iconst (pc := 18) (v := 1) X dX8_isKnot_18 (by decide) ?_
      refine j_goto (pc := 19) (tgt := 23) X dX8_isKnot_19 (by decide) ?_
      exact j_ret (pc := 23) X hr hk rfl (Option.some.inj h) rfl dX8_isKnot_23
theorem dX8_begins_0 : decode cX8_begins 0 = .ok (.aload_n 0, 1) := by decide +kernel
theorem dX8_begins_1 : decode cX8_begins 1 = .ok (.iload_n 1, 1) := by decide +kernel
theorem dX8_begins_2 : decode cX8_begins 2 = .ok (.invokevirtual 51, 3) := by decide +kernel
theorem dX8_begins_5 : decode cX8_begins 5 = .ok (.ifCond .eq 17, 3) := by decide +kernel
theorem dX8_begins_8 : decode cX8_begins 8 = .ok (.aload_n 0, 1) := by decide +kernel
theorem dX8_begins_9 : decode cX8_begins 9 = .ok (.iload_n 1, 1) := by decide +kernel
theorem dX8_begins_10 : decode cX8_begins 10 = .ok (.iconst 1, 1) := by decide +kernel
theorem dX8_begins_11 : decode cX8_begins 11 = .ok (.isub, 1) := by decide +kernel
theorem dX8_begins_12 : decode cX8_begins 12 = .ok (.invokevirtual 51, 3) := by decide +kernel
theorem dX8_begins_15 : decode cX8_begins 15 = .ok (.ifCond .ne 7, 3) := by decide +kernel
theorem dX8_begins_18 : decode cX8_begins 18 = .ok (.iconst 1, 1) := by decide +kernel
theorem dX8_begins_19 : decode cX8_begins 19 = .ok (.goto 4, 3) := by decide +kernel
theorem dX8_begins_22 : decode cX8_begins 22 = .ok (.iconst 0, 1) := by decide +kernel
theorem dX8_begins_23 : decode cX8_begins 23 = .ok (.ireturn, 1) := by decide +kernel
set_option maxHeartbeats 4000000 in
set_option maxRecDepth 100000 in
theorem tX8_begins (l : Launch) {E : ET} (hE : Aj E) (G : GT) (a1 : Int32) {r : Int32} (h : fX8_begins G a1 = some r) : CI l E yX8_begins cX8_begins 2 (some .boolean) 3 [.ref (Ad E 22 0), .int a1] G r G := by
  refine Met_I (lv := [(0, .ref (Ad E 22 0)), (1, .int a1)]) (by decide +kernel) hE (Nat.le_of_ble_eq_true rfl) rfl ?_
  intro p e s m args below meth c X hr hk
  unfold fX8_begins at h
  refine j_aload_n (pc := 0) X dX8_begins_0 rfl 0 rfl ?_
  refine j_iload_n (pc := 1) X dX8_begins_1 rfl 1 rfl ?_
  obtain ⟨r1, hc3, h⟩ := bd_s h
  refine j_callI (pc := 2) X (tX8_isKnot l hE G a1 hc3) muX8_isKnot (by decide) q725 rfl rfl (Nat.le_of_ble_eq_true rfl) ⟨Nat.le_of_ble_eq_true rfl, Nat.le_of_ble_eq_true rfl⟩ dX8_begins_2 ?_
  refine j_if_eq (pc := 5) (tgt := 22) X dX8_begins_5 (by decide) (fun hc => ?_) (fun hc => ?_)
  · rw [if_pos hc] at h
    refine j_iconst (pc := 22) (v := 0) X dX8_begins_22 (by decide) ?_
    exact j_ret (pc := 23) X hr hk rfl (Option.some.inj h) rfl dX8_begins_23
  · rw [if_neg hc] at h
    refine j_aload_n (pc := 8) X dX8_begins_8 rfl 0 rfl ?_
    refine j_iload_n (pc := 9) X dX8_begins_9 rfl 1 rfl ?_
    refine j_iconst (pc := 10) (v := 1) X dX8_begins_10 (by decide) ?_
    refine j_isub (pc := 11) X dX8_begins_11 ?_
    obtain ⟨r4, hc6, h⟩ := bd_s h
    refine j_callI (pc := 12) X (tX8_isKnot l hE G (a1 - (1 : Int32)) hc6) muX8_isKnot (by decide) q725 rfl rfl (Nat.le_of_ble_eq_true rfl) ⟨Nat.le_of_ble_eq_true rfl, Nat.le_of_ble_eq_true rfl⟩ dX8_begins_12 ?_
    refine j_if_ne (pc := 15) (tgt := 22) X dX8_begins_15 (by decide) (fun hc => ?_) (fun hc => ?_)
    · rw [if_neg hc] at h
      refine j_iconst (pc := 22) (v := 0) X dX8_begins_22 (by decide) ?_
      exact j_ret (pc := 23) X hr hk rfl (Option.some.inj h) rfl dX8_begins_23
    · rw [if_pos hc] at h
      refine j_iconst (pc := 18) (v := 1) X dX8_begins_18 (by decide) ?_
      refine j_goto (pc := 19) (tgt := 23) X dX8_begins_19 (by decide) ?_
      exact j_ret (pc := 23) X hr hk rfl (Option.some.inj h) rfl dX8_begins_23
theorem dX8_runs_0 : decode cX8_runs 0 = .ok (.iconst 0, 1) := by decide +kernel
theorem dX8_runs_1 : decode cX8_runs 1 = .ok (.istore_n 1, 1) := by decide +kernel
theorem dX8_runs_2 : decode cX8_runs 2 = .ok (.iconst 0, 1) := by decide +kernel
theorem dX8_runs_3 : decode cX8_runs 3 = .ok (.istore_n 2, 1) := by decide +kernel
theorem dX8_runs_4 : decode cX8_runs 4 = .ok (.iload_n 2, 1) := by decide +kernel
theorem dX8_runs_5 : decode cX8_runs 5 = .ok (.bipush 40, 2) := by decide +kernel
theorem dX8_runs_7 : decode cX8_runs 7 = .ok (.if_icmp .ge 25, 3) := by decide +kernel
theorem dX8_runs_10 : decode cX8_runs 10 = .ok (.iload_n 1, 1) := by decide +kernel
theorem dX8_runs_11 : decode cX8_runs 11 = .ok (.aload_n 0, 1) := by decide +kernel
theorem dX8_runs_12 : decode cX8_runs 12 = .ok (.iload_n 2, 1) := by decide +kernel
theorem dX8_runs_13 : decode cX8_runs 13 = .ok (.invokevirtual 54, 3) := by decide +kernel
theorem dX8_runs_16 : decode cX8_runs 16 = .ok (.ifCond .eq 7, 3) := by decide +kernel
theorem dX8_runs_19 : decode cX8_runs 19 = .ok (.iconst 1, 1) := by decide +kernel
theorem dX8_runs_20 : decode cX8_runs 20 = .ok (.goto 4, 3) := by decide +kernel
theorem dX8_runs_23 : decode cX8_runs 23 = .ok (.iconst 0, 1) := by decide +kernel
theorem dX8_runs_24 : decode cX8_runs 24 = .ok (.iadd, 1) := by decide +kernel
theorem dX8_runs_25 : decode cX8_runs 25 = .ok (.istore_n 1, 1) := by decide +kernel
theorem dX8_runs_26 : decode cX8_runs 26 = .ok (.iinc 2 1, 3) := by decide +kernel
theorem dX8_runs_29 : decode cX8_runs 29 = .ok (.goto (-25), 3) := by decide +kernel
theorem dX8_runs_32 : decode cX8_runs 32 = .ok (.iload_n 1, 1) := by decide +kernel
theorem dX8_runs_33 : decode cX8_runs 33 = .ok (.ireturn, 1) := by decide +kernel
set_option maxHeartbeats 4000000 in
set_option maxRecDepth 100000 in
theorem tX8_runs_4 (l : Launch) {E : ET} (hE : Aj E) {p : Program} {e : Env} {s : State} {m : MethodId} {args : Array Value} {below : List Frame} {meth : Method} {c : Code} (X : Cx p (rmL 4) s m args c yX8_runs.cls cX8_runs 3 E (Aw E) 0 0) (hr : meth.sig.returnType = (some .int)) (hk : meth.locks = false) {r : Int32} (G : GT) : ∀ (n : Nat) (a1 a2 : Int32), fX8_runs_4 G n a1 a2 = some r → J p l e (rmL 4) s m args below meth c E (Aw E) s.heap 3 0 0 (MQ below (QI E r G) args s 0 0 (Aw E)) G 4 [(0, .ref (Ad E 22 0)), (1, .int a1), (2, .int a2)] [] := by
  intro n
  induction n with
  | zero =>
    intro a1 a2 h
    simp [fX8_runs_4] at h
  | succ n ih =>
    intro a1 a2 h
    rw [fX8_runs_4] at h
    refine j_iload_n (pc := 4) X dX8_runs_4 rfl 2 rfl ?_
    refine j_bipush (pc := 5) (v := 40) X dX8_runs_5 (by decide) ?_
    refine j_icmp_ge (pc := 7) (tgt := 32) X dX8_runs_7 (by decide) (fun hc => ?_) (fun hc => ?_)
    · rw [if_pos hc] at h
      refine j_iload_n (pc := 32) X dX8_runs_32 rfl 1 rfl ?_
      exact j_ret (pc := 33) X hr hk (vp_nar_int _) (Option.some.inj h) rfl dX8_runs_33
    · rw [if_neg hc] at h
      refine j_iload_n (pc := 10) X dX8_runs_10 rfl 1 rfl ?_
      refine j_aload_n (pc := 11) X dX8_runs_11 rfl 0 rfl ?_
      refine j_iload_n (pc := 12) X dX8_runs_12 rfl 2 rfl ?_
      obtain ⟨r1, hc3, h⟩ := bd_s h
      refine j_callI (pc := 13) X (tX8_begins l hE G a2 hc3) muX8_begins (by decide) q721 rfl rfl (Nat.le_of_ble_eq_true rfl) ⟨Nat.le_of_ble_eq_true rfl, Nat.le_of_ble_eq_true rfl⟩ dX8_runs_13 ?_
      refine j_if_eq (pc := 16) (tgt := 23) X dX8_runs_16 (by decide) (fun hc => ?_) (fun hc => ?_)
      · rw [if_pos hc] at h
        refine j_iconst (pc := 23) (v := 0) X dX8_runs_23 (by decide) ?_
        refine j_iadd (pc := 24) X dX8_runs_24 ?_
        refine j_istore_n (pc := 25) (lv' := [(0, .ref (Ad E 22 0)), (1, .int (a1 + (0 : Int32))), (2, .int a2)]) X dX8_runs_25 rfl (by decide) rfl ?_
        refine j_iinc (pc := 26) (q := 2) (v := (a2 + (1 : Int32))) (lv' := [(0, .ref (Ad E 22 0)), (1, .int (a1 + (0 : Int32))), (2, .int (a2 + (1 : Int32)))]) X dX8_runs_26 rfl rfl (by decide) rfl ?_
        refine j_goto (pc := 29) (tgt := 4) X dX8_runs_29 (by decide) ?_
        exact ih (a1 + (0 : Int32)) (a2 + (1 : Int32)) h
      · rw [if_neg hc] at h
        refine j_iconst (pc := 19) (v := 1) X dX8_runs_19 (by decide) ?_
        refine j_goto (pc := 20) (tgt := 24) X dX8_runs_20 (by decide) ?_
        refine j_iadd (pc := 24) X dX8_runs_24 ?_
        refine j_istore_n (pc := 25) (lv' := [(0, .ref (Ad E 22 0)), (1, .int (a1 + (1 : Int32))), (2, .int a2)]) X dX8_runs_25 rfl (by decide) rfl ?_
        refine j_iinc (pc := 26) (q := 2) (v := (a2 + (1 : Int32))) (lv' := [(0, .ref (Ad E 22 0)), (1, .int (a1 + (1 : Int32))), (2, .int (a2 + (1 : Int32)))]) X dX8_runs_26 rfl rfl (by decide) rfl ?_
        refine j_goto (pc := 29) (tgt := 4) X dX8_runs_29 (by decide) ?_
        exact ih (a1 + (1 : Int32)) (a2 + (1 : Int32)) h
set_option maxHeartbeats 4000000 in
set_option maxRecDepth 100000 in
theorem tX8_runs (l : Launch) {E : ET} (hE : Aj E) (G : GT) {r : Int32} (h : fX8_runs G = some r) : CI l E yX8_runs cX8_runs 3 (some .int) 4 [.ref (Ad E 22 0)] G r G := by
  refine Met_I (lv := [(0, .ref (Ad E 22 0))]) (by decide +kernel) hE (Nat.le_of_ble_eq_true rfl) rfl ?_
  intro p e s m args below meth c X hr hk
  unfold fX8_runs at h
  refine j_iconst (pc := 0) (v := 0) X dX8_runs_0 (by decide) ?_
  refine j_istore_n (pc := 1) (lv' := [(0, .ref (Ad E 22 0)), (1, .int (0 : Int32))]) X dX8_runs_1 rfl (by decide) rfl ?_
  refine j_iconst (pc := 2) (v := 0) X dX8_runs_2 (by decide) ?_
  refine j_istore_n (pc := 3) (lv' := [(0, .ref (Ad E 22 0)), (1, .int (0 : Int32)), (2, .int (0 : Int32))]) X dX8_runs_3 rfl (by decide) rfl ?_
  exact tX8_runs_4 l hE X hr hk G FU (0 : Int32) (0 : Int32) h
theorem dX8_isRun_0 : decode cX8_isRun 0 = .ok (.iload_n 1, 1) := by decide +kernel
theorem dX8_isRun_1 : decode cX8_isRun 1 = .ok (.iconst 0, 1) := by decide +kernel
theorem dX8_isRun_2 : decode cX8_isRun 2 = .ok (.aload_n 0, 1) := by decide +kernel
theorem dX8_isRun_3 : decode cX8_isRun 3 = .ok (.invokevirtual 57, 3) := by decide +kernel
theorem dX8_isRun_6 : decode cX8_isRun 6 = .ok (.iconst 1, 1) := by decide +kernel
theorem dX8_isRun_7 : decode cX8_isRun 7 = .ok (.isub, 1) := by decide +kernel
theorem dX8_isRun_8 : decode cX8_isRun 8 = .ok (.invokestatic 28, 3) := by decide +kernel
theorem dX8_isRun_11 : decode cX8_isRun 11 = .ok (.ireturn, 1) := by decide +kernel
set_option maxHeartbeats 4000000 in
set_option maxRecDepth 100000 in
theorem tX8_isRun (l : Launch) {E : ET} (hE : Aj E) (G : GT) (a1 : Int32) {r : Int32} (h : fX8_isRun G a1 = some r) : CI l E yX8_isRun cX8_isRun 2 (some .boolean) 5 [.ref (Ad E 22 0), .int a1] G r G := by
  refine Met_I (lv := [(0, .ref (Ad E 22 0)), (1, .int a1)]) (by decide +kernel) hE (Nat.le_of_ble_eq_true rfl) rfl ?_
  intro p e s m args below meth c X hr hk
  unfold fX8_isRun at h
  refine j_iload_n (pc := 0) X dX8_isRun_0 rfl 1 rfl ?_
  refine j_iconst (pc := 1) (v := 0) X dX8_isRun_1 (by decide) ?_
  refine j_aload_n (pc := 2) X dX8_isRun_2 rfl 0 rfl ?_
  obtain ⟨r1, hc3, h⟩ := bd_s h
  refine j_callI (pc := 3) X (tX8_runs l hE G  hc3) muX8_runs (by decide) q717 rfl rfl (Nat.le_of_ble_eq_true rfl) ⟨Nat.le_of_ble_eq_true rfl, Nat.le_of_ble_eq_true rfl⟩ dX8_isRun_3 ?_
  refine j_iconst (pc := 6) (v := 1) X dX8_isRun_6 (by decide) ?_
  refine j_isub (pc := 7) X dX8_isRun_7 ?_
  obtain ⟨r4, hc6, h⟩ := bd_s h
  refine j_staI (pc := 8) X (tX8_in l hE G a1 (0 : Int32) (r1 - (1 : Int32)) hc6) muX8_in (Or.inl q714) rfl rfl (Nat.le_of_ble_eq_true rfl) ⟨Nat.le_of_ble_eq_true rfl, Nat.le_of_ble_eq_true rfl⟩ dX8_isRun_8 ?_
  obtain ⟨hg7, h⟩ := gd_s h
  exact j_ret (pc := 11) X hr hk (of_decide_eq_true hg7) (Option.some.inj h) rfl dX8_isRun_11
theorem dX8_firstOf_0 : decode cX8_firstOf 0 = .ok (.iconst 0, 1) := by decide +kernel
theorem dX8_firstOf_1 : decode cX8_firstOf 1 = .ok (.istore_n 2, 1) := by decide +kernel
theorem dX8_firstOf_2 : decode cX8_firstOf 2 = .ok (.bipush (-5), 2) := by decide +kernel
theorem dX8_firstOf_4 : decode cX8_firstOf 4 = .ok (.istore_n 3, 1) := by decide +kernel
theorem dX8_firstOf_5 : decode cX8_firstOf 5 = .ok (.iconst 0, 1) := by decide +kernel
theorem dX8_firstOf_6 : decode cX8_firstOf 6 = .ok (.istore 4, 2) := by decide +kernel
theorem dX8_firstOf_8 : decode cX8_firstOf 8 = .ok (.iload 4, 2) := by decide +kernel
theorem dX8_firstOf_10 : decode cX8_firstOf 10 = .ok (.bipush 40, 2) := by decide +kernel
theorem dX8_firstOf_12 : decode cX8_firstOf 12 = .ok (.if_icmp .ge 33, 3) := by decide +kernel
theorem dX8_firstOf_15 : decode cX8_firstOf 15 = .ok (.aload_n 0, 1) := by decide +kernel
theorem dX8_firstOf_16 : decode cX8_firstOf 16 = .ok (.iload 4, 2) := by decide +kernel
theorem dX8_firstOf_18 : decode cX8_firstOf 18 = .ok (.invokevirtual 54, 3) := by decide +kernel
theorem dX8_firstOf_21 : decode cX8_firstOf 21 = .ok (.ifCond .eq 18, 3) := by decide +kernel
theorem dX8_firstOf_24 : decode cX8_firstOf 24 = .ok (.iload_n 2, 1) := by decide +kernel
theorem dX8_firstOf_25 : decode cX8_firstOf 25 = .ok (.iload_n 1, 1) := by decide +kernel
theorem dX8_firstOf_26 : decode cX8_firstOf 26 = .ok (.if_icmp .ne 8, 3) := by decide +kernel
theorem dX8_firstOf_29 : decode cX8_firstOf 29 = .ok (.iload 4, 2) := by decide +kernel
theorem dX8_firstOf_31 : decode cX8_firstOf 31 = .ok (.goto 4, 3) := by decide +kernel
theorem dX8_firstOf_34 : decode cX8_firstOf 34 = .ok (.iload_n 3, 1) := by decide +kernel
theorem dX8_firstOf_35 : decode cX8_firstOf 35 = .ok (.istore_n 3, 1) := by decide +kernel
theorem dX8_firstOf_36 : decode cX8_firstOf 36 = .ok (.iinc 2 1, 3) := by decide +kernel
theorem dX8_firstOf_39 : decode cX8_firstOf 39 = .ok (.iinc 4 1, 3) := by decide +kernel
theorem dX8_firstOf_42 : decode cX8_firstOf 42 = .ok (.goto (-34), 3) := by decide +kernel
theorem dX8_firstOf_45 : decode cX8_firstOf 45 = .ok (.iload_n 3, 1) := by decide +kernel
theorem dX8_firstOf_46 : decode cX8_firstOf 46 = .ok (.ireturn, 1) := by decide +kernel
set_option maxHeartbeats 4000000 in
set_option maxRecDepth 100000 in
theorem tX8_firstOf_8 (l : Launch) {E : ET} (hE : Aj E) {p : Program} {e : Env} {s : State} {m : MethodId} {args : Array Value} {below : List Frame} {meth : Method} {c : Code} (X : Cx p (rmL 4) s m args c yX8_firstOf.cls cX8_firstOf 5 E (Aw E) 0 0) (hr : meth.sig.returnType = (some .int)) (hk : meth.locks = false) {r : Int32} (G : GT) (a1 : Int32) : ∀ (n : Nat) (a2 a3 a4 : Int32), fX8_firstOf_8 G a1 n a2 a3 a4 = some r → J p l e (rmL 4) s m args below meth c E (Aw E) s.heap 5 0 0 (MQ below (QI E r G) args s 0 0 (Aw E)) G 8 [(0, .ref (Ad E 22 0)), (1, .int a1), (2, .int a2), (3, .int a3), (4, .int a4)] [] := by
  intro n
  induction n with
  | zero =>
    intro a2 a3 a4 h
    simp [fX8_firstOf_8] at h
  | succ n ih =>
    intro a2 a3 a4 h
    rw [fX8_firstOf_8] at h
    refine j_iload (pc := 8) X dX8_firstOf_8 4 rfl ?_
    refine j_bipush (pc := 10) (v := 40) X dX8_firstOf_10 (by decide) ?_
    refine j_icmp_ge (pc := 12) (tgt := 45) X dX8_firstOf_12 (by decide) (fun hc => ?_) (fun hc => ?_)
    · rw [if_pos hc] at h
      refine j_iload_n (pc := 45) X dX8_firstOf_45 rfl 3 rfl ?_
      exact j_ret (pc := 46) X hr hk (vp_nar_int _) (Option.some.inj h) rfl dX8_firstOf_46
    · rw [if_neg hc] at h
      refine j_aload_n (pc := 15) X dX8_firstOf_15 rfl 0 rfl ?_
      refine j_iload (pc := 16) X dX8_firstOf_16 4 rfl ?_
      obtain ⟨r1, hc3, h⟩ := bd_s h
      refine j_callI (pc := 18) X (tX8_begins l hE G a4 hc3) muX8_begins (by decide) q721 rfl rfl (Nat.le_of_ble_eq_true rfl) ⟨Nat.le_of_ble_eq_true rfl, Nat.le_of_ble_eq_true rfl⟩ dX8_firstOf_18 ?_
      refine j_if_eq (pc := 21) (tgt := 39) X dX8_firstOf_21 (by decide) (fun hc => ?_) (fun hc => ?_)
      · rw [if_pos hc] at h
        refine j_iinc (pc := 39) (q := 4) (v := (a4 + (1 : Int32))) (lv' := [(0, .ref (Ad E 22 0)), (1, .int a1), (2, .int a2), (3, .int a3), (4, .int (a4 + (1 : Int32)))]) X dX8_firstOf_39 rfl rfl (by decide) rfl ?_
        refine j_goto (pc := 42) (tgt := 8) X dX8_firstOf_42 (by decide) ?_
        exact ih a2 a3 (a4 + (1 : Int32)) h
      · rw [if_neg hc] at h
        refine j_iload_n (pc := 24) X dX8_firstOf_24 rfl 2 rfl ?_
        refine j_iload_n (pc := 25) X dX8_firstOf_25 rfl 1 rfl ?_
        refine j_icmp_ne (pc := 26) (tgt := 34) X dX8_firstOf_26 (by decide) (fun hc => ?_) (fun hc => ?_)
        · rw [if_neg hc] at h
          refine j_iload_n (pc := 34) X dX8_firstOf_34 rfl 3 rfl ?_
          refine j_istore_n (pc := 35) (lv' := [(0, .ref (Ad E 22 0)), (1, .int a1), (2, .int a2), (3, .int a3), (4, .int a4)]) X dX8_firstOf_35 rfl (by decide) rfl ?_
          refine j_iinc (pc := 36) (q := 2) (v := (a2 + (1 : Int32))) (lv' := [(0, .ref (Ad E 22 0)), (1, .int a1), (2, .int (a2 + (1 : Int32))), (3, .int a3), (4, .int a4)]) X dX8_firstOf_36 rfl rfl (by decide) rfl ?_
          refine j_iinc (pc := 39) (q := 4) (v := (a4 + (1 : Int32))) (lv' := [(0, .ref (Ad E 22 0)), (1, .int a1), (2, .int (a2 + (1 : Int32))), (3, .int a3), (4, .int (a4 + (1 : Int32)))]) X dX8_firstOf_39 rfl rfl (by decide) rfl ?_
          refine j_goto (pc := 42) (tgt := 8) X dX8_firstOf_42 (by decide) ?_
          exact ih (a2 + (1 : Int32)) a3 (a4 + (1 : Int32)) h
        · rw [if_pos hc] at h
          refine j_iload (pc := 29) X dX8_firstOf_29 4 rfl ?_
          refine j_goto (pc := 31) (tgt := 35) X dX8_firstOf_31 (by decide) ?_
          refine j_istore_n (pc := 35) (lv' := [(0, .ref (Ad E 22 0)), (1, .int a1), (2, .int a2), (3, .int a4), (4, .int a4)]) X dX8_firstOf_35 rfl (by decide) rfl ?_
          refine j_iinc (pc := 36) (q := 2) (v := (a2 + (1 : Int32))) (lv' := [(0, .ref (Ad E 22 0)), (1, .int a1), (2, .int (a2 + (1 : Int32))), (3, .int a4), (4, .int a4)]) X dX8_firstOf_36 rfl rfl (by decide) rfl ?_
          refine j_iinc (pc := 39) (q := 4) (v := (a4 + (1 : Int32))) (lv' := [(0, .ref (Ad E 22 0)), (1, .int a1), (2, .int (a2 + (1 : Int32))), (3, .int a4), (4, .int (a4 + (1 : Int32)))]) X dX8_firstOf_39 rfl rfl (by decide) rfl ?_
          refine j_goto (pc := 42) (tgt := 8) X dX8_firstOf_42 (by decide) ?_
          exact ih (a2 + (1 : Int32)) a4 (a4 + (1 : Int32)) h
set_option maxHeartbeats 4000000 in
set_option maxRecDepth 100000 in
theorem tX8_firstOf (l : Launch) {E : ET} (hE : Aj E) (G : GT) (a1 : Int32) {r : Int32} (h : fX8_firstOf G a1 = some r) : CI l E yX8_firstOf cX8_firstOf 5 (some .int) 4 [.ref (Ad E 22 0), .int a1] G r G := by
  refine Met_I (lv := [(0, .ref (Ad E 22 0)), (1, .int a1)]) (by decide +kernel) hE (Nat.le_of_ble_eq_true rfl) rfl ?_
  intro p e s m args below meth c X hr hk
  unfold fX8_firstOf at h
  refine j_iconst (pc := 0) (v := 0) X dX8_firstOf_0 (by decide) ?_
  refine j_istore_n (pc := 1) (lv' := [(0, .ref (Ad E 22 0)), (1, .int a1), (2, .int (0 : Int32))]) X dX8_firstOf_1 rfl (by decide) rfl ?_
  refine j_bipush (pc := 2) (v := (-5)) X dX8_firstOf_2 (by decide) ?_
  refine j_istore_n (pc := 4) (lv' := [(0, .ref (Ad E 22 0)), (1, .int a1), (2, .int (0 : Int32)), (3, .int (-5 : Int32))]) X dX8_firstOf_4 rfl (by decide) rfl ?_
  refine j_iconst (pc := 5) (v := 0) X dX8_firstOf_5 (by decide) ?_
  refine j_istore (pc := 6) (lv' := [(0, .ref (Ad E 22 0)), (1, .int a1), (2, .int (0 : Int32)), (3, .int (-5 : Int32)), (4, .int (0 : Int32))]) X dX8_firstOf_6 (by decide) rfl ?_
  exact tX8_firstOf_8 l hE X hr hk G a1 FU (0 : Int32) (-5 : Int32) (0 : Int32) h
theorem dX8_lengthFrom_0 : decode cX8_lengthFrom 0 = .ok (.iconst 0, 1) := by decide +kernel
theorem dX8_lengthFrom_1 : decode cX8_lengthFrom 1 = .ok (.istore_n 2, 1) := by decide +kernel
theorem dX8_lengthFrom_2 : decode cX8_lengthFrom 2 = .ok (.aload_n 0, 1) := by decide +kernel
theorem dX8_lengthFrom_3 : decode cX8_lengthFrom 3 = .ok (.iload_n 1, 1) := by decide +kernel
theorem dX8_lengthFrom_4 : decode cX8_lengthFrom 4 = .ok (.iload_n 2, 1) := by decide +kernel
theorem dX8_lengthFrom_5 : decode cX8_lengthFrom 5 = .ok (.iadd, 1) := by decide +kernel
theorem dX8_lengthFrom_6 : decode cX8_lengthFrom 6 = .ok (.invokevirtual 51, 3) := by decide +kernel
theorem dX8_lengthFrom_9 : decode cX8_lengthFrom 9 = .ok (.ifCond .eq 9, 3) := by decide +kernel
theorem dX8_lengthFrom_12 : decode cX8_lengthFrom 12 = .ok (.iinc 2 1, 3) := by decide +kernel
theorem dX8_lengthFrom_15 : decode cX8_lengthFrom 15 = .ok (.goto (-13), 3) := by decide +kernel
theorem dX8_lengthFrom_18 : decode cX8_lengthFrom 18 = .ok (.iload_n 2, 1) := by decide +kernel
theorem dX8_lengthFrom_19 : decode cX8_lengthFrom 19 = .ok (.ireturn, 1) := by decide +kernel
set_option maxHeartbeats 4000000 in
set_option maxRecDepth 100000 in
theorem tX8_lengthFrom_2 (l : Launch) {E : ET} (hE : Aj E) {p : Program} {e : Env} {s : State} {m : MethodId} {args : Array Value} {below : List Frame} {meth : Method} {c : Code} (X : Cx p (rmL 3) s m args c yX8_lengthFrom.cls cX8_lengthFrom 3 E (Aw E) 0 0) (hr : meth.sig.returnType = (some .int)) (hk : meth.locks = false) {r : Int32} (G : GT) (a1 : Int32) : ∀ (n : Nat) (a2 : Int32), fX8_lengthFrom_2 G a1 n a2 = some r → J p l e (rmL 3) s m args below meth c E (Aw E) s.heap 3 0 0 (MQ below (QI E r G) args s 0 0 (Aw E)) G 2 [(0, .ref (Ad E 22 0)), (1, .int a1), (2, .int a2)] [] := by
  intro n
  induction n with
  | zero =>
    intro a2 h
    simp [fX8_lengthFrom_2] at h
  | succ n ih =>
    intro a2 h
    rw [fX8_lengthFrom_2] at h
    refine j_aload_n (pc := 2) X dX8_lengthFrom_2 rfl 0 rfl ?_
    refine j_iload_n (pc := 3) X dX8_lengthFrom_3 rfl 1 rfl ?_
    refine j_iload_n (pc := 4) X dX8_lengthFrom_4 rfl 2 rfl ?_
    refine j_iadd (pc := 5) X dX8_lengthFrom_5 ?_
    obtain ⟨r1, hc3, h⟩ := bd_s h
    refine j_callI (pc := 6) X (tX8_isKnot l hE G (a1 + a2) hc3) muX8_isKnot (by decide) q725 rfl rfl (Nat.le_of_ble_eq_true rfl) ⟨Nat.le_of_ble_eq_true rfl, Nat.le_of_ble_eq_true rfl⟩ dX8_lengthFrom_6 ?_
    refine j_if_eq (pc := 9) (tgt := 18) X dX8_lengthFrom_9 (by decide) (fun hc => ?_) (fun hc => ?_)
    · rw [if_pos hc] at h
      refine j_iload_n (pc := 18) X dX8_lengthFrom_18 rfl 2 rfl ?_
      exact j_ret (pc := 19) X hr hk (vp_nar_int _) (Option.some.inj h) rfl dX8_lengthFrom_19
    · rw [if_neg hc] at h
      refine j_iinc (pc := 12) (q := 2) (v := (a2 + (1 : Int32))) (lv' := [(0, .ref (Ad E 22 0)), (1, .int a1), (2, .int (a2 + (1 : Int32)))]) X dX8_lengthFrom_12 rfl rfl (by decide) rfl ?_
      refine j_goto (pc := 15) (tgt := 2) X dX8_lengthFrom_15 (by decide) ?_
      exact ih (a2 + (1 : Int32)) h
set_option maxHeartbeats 4000000 in
set_option maxRecDepth 100000 in
theorem tX8_lengthFrom (l : Launch) {E : ET} (hE : Aj E) (G : GT) (a1 : Int32) {r : Int32} (h : fX8_lengthFrom G a1 = some r) : CI l E yX8_lengthFrom cX8_lengthFrom 3 (some .int) 3 [.ref (Ad E 22 0), .int a1] G r G := by
  refine Met_I (lv := [(0, .ref (Ad E 22 0)), (1, .int a1)]) (by decide +kernel) hE (Nat.le_of_ble_eq_true rfl) rfl ?_
  intro p e s m args below meth c X hr hk
  unfold fX8_lengthFrom at h
  refine j_iconst (pc := 0) (v := 0) X dX8_lengthFrom_0 (by decide) ?_
  refine j_istore_n (pc := 1) (lv' := [(0, .ref (Ad E 22 0)), (1, .int a1), (2, .int (0 : Int32))]) X dX8_lengthFrom_1 rfl (by decide) rfl ?_
  exact tX8_lengthFrom_2 l hE X hr hk G a1 FU (0 : Int32) h
theorem dX8_patternAt_0 : decode cX8_patternAt 0 = .ok (.aload_n 0, 1) := by decide +kernel
theorem dX8_patternAt_1 : decode cX8_patternAt 1 = .ok (.getfield 7, 3) := by decide +kernel
theorem dX8_patternAt_4 : decode cX8_patternAt 4 = .ok (.bipush 81, 2) := by decide +kernel
theorem dX8_patternAt_6 : decode cX8_patternAt 6 = .ok (.iconst 5, 1) := by decide +kernel
theorem dX8_patternAt_7 : decode cX8_patternAt 7 = .ok (.iload_n 1, 1) := by decide +kernel
theorem dX8_patternAt_8 : decode cX8_patternAt 8 = .ok (.imul, 1) := by decide +kernel
theorem dX8_patternAt_9 : decode cX8_patternAt 9 = .ok (.iadd, 1) := by decide +kernel
theorem dX8_patternAt_10 : decode cX8_patternAt 10 = .ok (.iload_n 2, 1) := by decide +kernel
theorem dX8_patternAt_11 : decode cX8_patternAt 11 = .ok (.iadd, 1) := by decide +kernel
theorem dX8_patternAt_12 : decode cX8_patternAt 12 = .ok (.iaload, 1) := by decide +kernel
theorem dX8_patternAt_13 : decode cX8_patternAt 13 = .ok (.ireturn, 1) := by decide +kernel
set_option maxHeartbeats 4000000 in
set_option maxRecDepth 100000 in
theorem tX8_patternAt (l : Launch) {E : ET} (hE : Aj E) (G : GT) (a1 : Int32) (a2 : Int32) {r : Int32} (h : fX8_patternAt G a1 a2 = some r) : CI l E yX8_patternAt cX8_patternAt 3 (some .int) 0 [.ref (Ad E 22 0), .int a1, .int a2] G r G := by
  refine Met_I (lv := [(0, .ref (Ad E 22 0)), (1, .int a1), (2, .int a2)]) (by decide +kernel) hE (Nat.le_of_ble_eq_true rfl) rfl ?_
  intro p e s m args below meth c X hr hk
  unfold fX8_patternAt at h
  refine j_aload_n (pc := 0) X dX8_patternAt_0 rfl 0 rfl ?_
  refine j_get (pc := 1) (v := .ref (Ad E 23 0)) X gf_X8_7 (by decide) rfl rfl dX8_patternAt_1 ?_
  refine j_bipush (pc := 4) (v := 81) X dX8_patternAt_4 (by decide) ?_
  refine j_iconst (pc := 6) (v := 5) X dX8_patternAt_6 (by decide) ?_
  refine j_iload_n (pc := 7) X dX8_patternAt_7 rfl 1 rfl ?_
  refine j_imul (pc := 8) X dX8_patternAt_8 ?_
  refine j_iadd (pc := 9) X dX8_patternAt_9 ?_
  refine j_iload_n (pc := 10) X dX8_patternAt_10 rfl 2 rfl ?_
  refine j_iadd (pc := 11) X dX8_patternAt_11 ?_
  obtain ⟨hg1, h⟩ := gd_s h
  refine j_iald (pc := 12) (n := 289) X (by decide) rfl hg1 dX8_patternAt_12 ?_
  exact j_ret (pc := 13) X hr hk (vp_nar_int _) (Option.some.inj h) rfl dX8_patternAt_13
theorem dX8_lengthOf_0 : decode cX8_lengthOf 0 = .ok (.iconst 0, 1) := by decide +kernel
theorem dX8_lengthOf_1 : decode cX8_lengthOf 1 = .ok (.istore_n 2, 1) := by decide +kernel
theorem dX8_lengthOf_2 : decode cX8_lengthOf 2 = .ok (.iload_n 2, 1) := by decide +kernel
theorem dX8_lengthOf_3 : decode cX8_lengthOf 3 = .ok (.iconst 5, 1) := by decide +kernel
theorem dX8_lengthOf_4 : decode cX8_lengthOf 4 = .ok (.if_icmp .ge 18, 3) := by decide +kernel
theorem dX8_lengthOf_7 : decode cX8_lengthOf 7 = .ok (.aload_n 0, 1) := by decide +kernel
theorem dX8_lengthOf_8 : decode cX8_lengthOf 8 = .ok (.iload_n 1, 1) := by decide +kernel
theorem dX8_lengthOf_9 : decode cX8_lengthOf 9 = .ok (.iload_n 2, 1) := by decide +kernel
theorem dX8_lengthOf_10 : decode cX8_lengthOf 10 = .ok (.invokevirtual 60, 3) := by decide +kernel
theorem dX8_lengthOf_13 : decode cX8_lengthOf 13 = .ok (.ifCond .le 9, 3) := by decide +kernel
theorem dX8_lengthOf_16 : decode cX8_lengthOf 16 = .ok (.iinc 2 1, 3) := by decide +kernel
theorem dX8_lengthOf_19 : decode cX8_lengthOf 19 = .ok (.goto (-17), 3) := by decide +kernel
theorem dX8_lengthOf_22 : decode cX8_lengthOf 22 = .ok (.iload_n 2, 1) := by decide +kernel
theorem dX8_lengthOf_23 : decode cX8_lengthOf 23 = .ok (.ireturn, 1) := by decide +kernel
set_option maxHeartbeats 4000000 in
set_option maxRecDepth 100000 in
theorem tX8_lengthOf_2 (l : Launch) {E : ET} (hE : Aj E) {p : Program} {e : Env} {s : State} {m : MethodId} {args : Array Value} {below : List Frame} {meth : Method} {c : Code} (X : Cx p (rmL 1) s m args c yX8_lengthOf.cls cX8_lengthOf 3 E (Aw E) 0 0) (hr : meth.sig.returnType = (some .int)) (hk : meth.locks = false) {r : Int32} (G : GT) (a1 : Int32) : ∀ (n : Nat) (a2 : Int32), fX8_lengthOf_2 G a1 n a2 = some r → J p l e (rmL 1) s m args below meth c E (Aw E) s.heap 3 0 0 (MQ below (QI E r G) args s 0 0 (Aw E)) G 2 [(0, .ref (Ad E 22 0)), (1, .int a1), (2, .int a2)] [] := by
  intro n
  induction n with
  | zero =>
    intro a2 h
    simp [fX8_lengthOf_2] at h
  | succ n ih =>
    intro a2 h
    rw [fX8_lengthOf_2] at h
    refine j_iload_n (pc := 2) X dX8_lengthOf_2 rfl 2 rfl ?_
    refine j_iconst (pc := 3) (v := 5) X dX8_lengthOf_3 (by decide) ?_
    refine j_icmp_ge (pc := 4) (tgt := 22) X dX8_lengthOf_4 (by decide) (fun hc => ?_) (fun hc => ?_)
    · rw [if_pos hc] at h
      refine j_iload_n (pc := 22) X dX8_lengthOf_22 rfl 2 rfl ?_
      exact j_ret (pc := 23) X hr hk (vp_nar_int _) (Option.some.inj h) rfl dX8_lengthOf_23
    · rw [if_neg hc] at h
      refine j_aload_n (pc := 7) X dX8_lengthOf_7 rfl 0 rfl ?_
      refine j_iload_n (pc := 8) X dX8_lengthOf_8 rfl 1 rfl ?_
      refine j_iload_n (pc := 9) X dX8_lengthOf_9 rfl 2 rfl ?_
      obtain ⟨r1, hc3, h⟩ := bd_s h
      refine j_callI (pc := 10) X (tX8_patternAt l hE G a1 a2 hc3) muX8_patternAt (by decide) q773 rfl rfl (Nat.le_of_ble_eq_true rfl) ⟨Nat.le_of_ble_eq_true rfl, Nat.le_of_ble_eq_true rfl⟩ dX8_lengthOf_10 ?_
      refine j_if_le (pc := 13) (tgt := 22) X dX8_lengthOf_13 (by decide) (fun hc => ?_) (fun hc => ?_)
      · rw [if_pos hc] at h
        refine j_iload_n (pc := 22) X dX8_lengthOf_22 rfl 2 rfl ?_
        exact j_ret (pc := 23) X hr hk (vp_nar_int _) (Option.some.inj h) rfl dX8_lengthOf_23
      · rw [if_neg hc] at h
        refine j_iinc (pc := 16) (q := 2) (v := (a2 + (1 : Int32))) (lv' := [(0, .ref (Ad E 22 0)), (1, .int a1), (2, .int (a2 + (1 : Int32)))]) X dX8_lengthOf_16 rfl rfl (by decide) rfl ?_
        refine j_goto (pc := 19) (tgt := 2) X dX8_lengthOf_19 (by decide) ?_
        exact ih (a2 + (1 : Int32)) h
set_option maxHeartbeats 4000000 in
set_option maxRecDepth 100000 in
theorem tX8_lengthOf (l : Launch) {E : ET} (hE : Aj E) (G : GT) (a1 : Int32) {r : Int32} (h : fX8_lengthOf G a1 = some r) : CI l E yX8_lengthOf cX8_lengthOf 3 (some .int) 1 [.ref (Ad E 22 0), .int a1] G r G := by
  refine Met_I (lv := [(0, .ref (Ad E 22 0)), (1, .int a1)]) (by decide +kernel) hE (Nat.le_of_ble_eq_true rfl) rfl ?_
  intro p e s m args below meth c X hr hk
  unfold fX8_lengthOf at h
  refine j_iconst (pc := 0) (v := 0) X dX8_lengthOf_0 (by decide) ?_
  refine j_istore_n (pc := 1) (lv' := [(0, .ref (Ad E 22 0)), (1, .int a1), (2, .int (0 : Int32))]) X dX8_lengthOf_1 rfl (by decide) rfl ?_
  exact tX8_lengthOf_2 l hE X hr hk G a1 FU (0 : Int32) h
theorem dX8_isAt_0 : decode cX8_isAt 0 = .ok (.iconst 1, 1) := by decide +kernel
theorem dX8_isAt_1 : decode cX8_isAt 1 = .ok (.istore_n 3, 1) := by decide +kernel
theorem dX8_isAt_2 : decode cX8_isAt 2 = .ok (.iconst 0, 1) := by decide +kernel
theorem dX8_isAt_3 : decode cX8_isAt 3 = .ok (.istore 4, 2) := by decide +kernel
theorem dX8_isAt_5 : decode cX8_isAt 5 = .ok (.iload 4, 2) := by decide +kernel
theorem dX8_isAt_7 : decode cX8_isAt 7 = .ok (.aload_n 0, 1) := by decide +kernel
theorem dX8_isAt_8 : decode cX8_isAt 8 = .ok (.iload_n 1, 1) := by decide +kernel
theorem dX8_isAt_9 : decode cX8_isAt 9 = .ok (.invokevirtual 64, 3) := by decide +kernel
theorem dX8_isAt_12 : decode cX8_isAt 12 = .ok (.if_icmp .ge 51, 3) := by decide +kernel
theorem dX8_isAt_15 : decode cX8_isAt 15 = .ok (.iload_n 3, 1) := by decide +kernel
theorem dX8_isAt_16 : decode cX8_isAt 16 = .ok (.ifCond .eq 39, 3) := by decide +kernel
theorem dX8_isAt_19 : decode cX8_isAt 19 = .ok (.aload_n 0, 1) := by decide +kernel
theorem dX8_isAt_20 : decode cX8_isAt 20 = .ok (.iload_n 2, 1) := by decide +kernel
theorem dX8_isAt_21 : decode cX8_isAt 21 = .ok (.iload 4, 2) := by decide +kernel
theorem dX8_isAt_23 : decode cX8_isAt 23 = .ok (.iadd, 1) := by decide +kernel
theorem dX8_isAt_24 : decode cX8_isAt 24 = .ok (.invokevirtual 51, 3) := by decide +kernel
theorem dX8_isAt_27 : decode cX8_isAt 27 = .ok (.ifCond .eq 28, 3) := by decide +kernel
theorem dX8_isAt_30 : decode cX8_isAt 30 = .ok (.aload_n 0, 1) := by decide +kernel
theorem dX8_isAt_31 : decode cX8_isAt 31 = .ok (.getfield 7, 3) := by decide +kernel
theorem dX8_isAt_34 : decode cX8_isAt 34 = .ok (.iconst 0, 1) := by decide +kernel
theorem dX8_isAt_35 : decode cX8_isAt 35 = .ok (.iload_n 2, 1) := by decide +kernel
theorem dX8_isAt_36 : decode cX8_isAt 36 = .ok (.iadd, 1) := by decide +kernel
theorem dX8_isAt_37 : decode cX8_isAt 37 = .ok (.iload 4, 2) := by decide +kernel
theorem dX8_isAt_39 : decode cX8_isAt 39 = .ok (.iadd, 1) := by decide +kernel
theorem dX8_isAt_40 : decode cX8_isAt 40 = .ok (.iaload, 1) := by decide +kernel
theorem dX8_isAt_41 : decode cX8_isAt 41 = .ok (.aload_n 0, 1) := by decide +kernel
theorem dX8_isAt_42 : decode cX8_isAt 42 = .ok (.iload_n 1, 1) := by decide +kernel
theorem dX8_isAt_43 : decode cX8_isAt 43 = .ok (.iload 4, 2) := by decide +kernel
theorem dX8_isAt_45 : decode cX8_isAt 45 = .ok (.invokevirtual 60, 3) := by decide +kernel
theorem dX8_isAt_48 : decode cX8_isAt 48 = .ok (.if_icmp .ne 7, 3) := by decide +kernel
theorem dX8_isAt_51 : decode cX8_isAt 51 = .ok (.iconst 1, 1) := by decide +kernel
theorem dX8_isAt_52 : decode cX8_isAt 52 = .ok (.goto 4, 3) := by decide +kernel
theorem dX8_isAt_55 : decode cX8_isAt 55 = .ok (.iconst 0, 1) := by decide +kernel
theorem dX8_isAt_56 : decode cX8_isAt 56 = .ok (.istore_n 3, 1) := by decide +kernel
theorem dX8_isAt_57 : decode cX8_isAt 57 = .ok (.iinc 4 1, 3) := by decide +kernel
theorem dX8_isAt_60 : decode cX8_isAt 60 = .ok (.goto (-55), 3) := by decide +kernel
theorem dX8_isAt_63 : decode cX8_isAt 63 = .ok (.iload_n 3, 1) := by decide +kernel
theorem dX8_isAt_64 : decode cX8_isAt 64 = .ok (.ireturn, 1) := by decide +kernel
set_option maxHeartbeats 4000000 in
set_option maxRecDepth 100000 in
theorem tX8_isAt_5 (l : Launch) {E : ET} (hE : Aj E) {p : Program} {e : Env} {s : State} {m : MethodId} {args : Array Value} {below : List Frame} {meth : Method} {c : Code} (X : Cx p (rmL 3) s m args c yX8_isAt.cls cX8_isAt 5 E (Aw E) 0 0) (hr : meth.sig.returnType = (some .boolean)) (hk : meth.locks = false) {r : Int32} (G : GT) (a1 : Int32) (a2 : Int32) : ∀ (n : Nat) (a3 a4 : Int32), fX8_isAt_5 G a1 a2 n a3 a4 = some r → J p l e (rmL 3) s m args below meth c E (Aw E) s.heap 5 0 0 (MQ below (QI E r G) args s 0 0 (Aw E)) G 5 [(0, .ref (Ad E 22 0)), (1, .int a1), (2, .int a2), (3, .int a3), (4, .int a4)] [] := by
  intro n
  induction n with
  | zero =>
    intro a3 a4 h
    simp [fX8_isAt_5] at h
  | succ n ih =>
    intro a3 a4 h
    rw [fX8_isAt_5] at h
    refine j_iload (pc := 5) X dX8_isAt_5 4 rfl ?_
    refine j_aload_n (pc := 7) X dX8_isAt_7 rfl 0 rfl ?_
    refine j_iload_n (pc := 8) X dX8_isAt_8 rfl 1 rfl ?_
    obtain ⟨r1, hc3, h⟩ := bd_s h
    refine j_callI (pc := 9) X (tX8_lengthOf l hE G a1 hc3) muX8_lengthOf (by decide) q769 rfl rfl (Nat.le_of_ble_eq_true rfl) ⟨Nat.le_of_ble_eq_true rfl, Nat.le_of_ble_eq_true rfl⟩ dX8_isAt_9 ?_
    refine j_icmp_ge (pc := 12) (tgt := 63) X dX8_isAt_12 (by decide) (fun hc => ?_) (fun hc => ?_)
    · rw [if_pos hc] at h
      refine j_iload_n (pc := 63) X dX8_isAt_63 rfl 3 rfl ?_
      obtain ⟨hg4, h⟩ := gd_s h
      exact j_ret (pc := 64) X hr hk (of_decide_eq_true hg4) (Option.some.inj h) rfl dX8_isAt_64
    · rw [if_neg hc] at h
      refine j_iload_n (pc := 15) X dX8_isAt_15 rfl 3 rfl ?_
      refine j_if_eq (pc := 16) (tgt := 55) X dX8_isAt_16 (by decide) (fun hc => ?_) (fun hc => ?_)
      · rw [if_pos hc] at h
        refine j_iconst (pc := 55) (v := 0) X dX8_isAt_55 (by decide) ?_
        refine j_istore_n (pc := 56) (lv' := [(0, .ref (Ad E 22 0)), (1, .int a1), (2, .int a2), (3, .int (0 : Int32)), (4, .int a4)]) X dX8_isAt_56 rfl (by decide) rfl ?_
        refine j_iinc (pc := 57) (q := 4) (v := (a4 + (1 : Int32))) (lv' := [(0, .ref (Ad E 22 0)), (1, .int a1), (2, .int a2), (3, .int (0 : Int32)), (4, .int (a4 + (1 : Int32)))]) X dX8_isAt_57 rfl rfl (by decide) rfl ?_
        refine j_goto (pc := 60) (tgt := 5) X dX8_isAt_60 (by decide) ?_
        exact ih (0 : Int32) (a4 + (1 : Int32)) h
      · rw [if_neg hc] at h
        refine j_aload_n (pc := 19) X dX8_isAt_19 rfl 0 rfl ?_
        refine j_iload_n (pc := 20) X dX8_isAt_20 rfl 2 rfl ?_
        refine j_iload (pc := 21) X dX8_isAt_21 4 rfl ?_
        refine j_iadd (pc := 23) X dX8_isAt_23 ?_
        obtain ⟨r5, hc7, h⟩ := bd_s h
        refine j_callI (pc := 24) X (tX8_isKnot l hE G (a2 + a4) hc7) muX8_isKnot (by decide) q725 rfl rfl (Nat.le_of_ble_eq_true rfl) ⟨Nat.le_of_ble_eq_true rfl, Nat.le_of_ble_eq_true rfl⟩ dX8_isAt_24 ?_
        refine j_if_eq (pc := 27) (tgt := 55) X dX8_isAt_27 (by decide) (fun hc => ?_) (fun hc => ?_)
        · rw [if_pos hc] at h
          refine j_iconst (pc := 55) (v := 0) X dX8_isAt_55 (by decide) ?_
          refine j_istore_n (pc := 56) (lv' := [(0, .ref (Ad E 22 0)), (1, .int a1), (2, .int a2), (3, .int (0 : Int32)), (4, .int a4)]) X dX8_isAt_56 rfl (by decide) rfl ?_
          refine j_iinc (pc := 57) (q := 4) (v := (a4 + (1 : Int32))) (lv' := [(0, .ref (Ad E 22 0)), (1, .int a1), (2, .int a2), (3, .int (0 : Int32)), (4, .int (a4 + (1 : Int32)))]) X dX8_isAt_57 rfl rfl (by decide) rfl ?_
          refine j_goto (pc := 60) (tgt := 5) X dX8_isAt_60 (by decide) ?_
          exact ih (0 : Int32) (a4 + (1 : Int32)) h
        · rw [if_neg hc] at h
          refine j_aload_n (pc := 30) X dX8_isAt_30 rfl 0 rfl ?_
          refine j_get (pc := 31) (v := .ref (Ad E 23 0)) X gf_X8_7 (by decide) rfl rfl dX8_isAt_31 ?_
          refine j_iconst (pc := 34) (v := 0) X dX8_isAt_34 (by decide) ?_
          refine j_iload_n (pc := 35) X dX8_isAt_35 rfl 2 rfl ?_
          refine j_iadd (pc := 36) X dX8_isAt_36 ?_
          refine j_iload (pc := 37) X dX8_isAt_37 4 rfl ?_
          refine j_iadd (pc := 39) X dX8_isAt_39 ?_
          obtain ⟨hg8, h⟩ := gd_s h
          refine j_iald (pc := 40) (n := 289) X (by decide) rfl hg8 dX8_isAt_40 ?_
          refine j_aload_n (pc := 41) X dX8_isAt_41 rfl 0 rfl ?_
          refine j_iload_n (pc := 42) X dX8_isAt_42 rfl 1 rfl ?_
          refine j_iload (pc := 43) X dX8_isAt_43 4 rfl ?_
          obtain ⟨r9, hc11, h⟩ := bd_s h
          refine j_callI (pc := 45) X (tX8_patternAt l hE G a1 a4 hc11) muX8_patternAt (by decide) q773 rfl rfl (Nat.le_of_ble_eq_true rfl) ⟨Nat.le_of_ble_eq_true rfl, Nat.le_of_ble_eq_true rfl⟩ dX8_isAt_45 ?_
          refine j_icmp_ne (pc := 48) (tgt := 55) X dX8_isAt_48 (by decide) (fun hc => ?_) (fun hc => ?_)
          · rw [if_neg hc] at h
            refine j_iconst (pc := 55) (v := 0) X dX8_isAt_55 (by decide) ?_
            refine j_istore_n (pc := 56) (lv' := [(0, .ref (Ad E 22 0)), (1, .int a1), (2, .int a2), (3, .int (0 : Int32)), (4, .int a4)]) X dX8_isAt_56 rfl (by decide) rfl ?_
            refine j_iinc (pc := 57) (q := 4) (v := (a4 + (1 : Int32))) (lv' := [(0, .ref (Ad E 22 0)), (1, .int a1), (2, .int a2), (3, .int (0 : Int32)), (4, .int (a4 + (1 : Int32)))]) X dX8_isAt_57 rfl rfl (by decide) rfl ?_
            refine j_goto (pc := 60) (tgt := 5) X dX8_isAt_60 (by decide) ?_
            exact ih (0 : Int32) (a4 + (1 : Int32)) h
          · rw [if_pos hc] at h
            refine j_iconst (pc := 51) (v := 1) X dX8_isAt_51 (by decide) ?_
            refine j_goto (pc := 52) (tgt := 56) X dX8_isAt_52 (by decide) ?_
            refine j_istore_n (pc := 56) (lv' := [(0, .ref (Ad E 22 0)), (1, .int a1), (2, .int a2), (3, .int (1 : Int32)), (4, .int a4)]) X dX8_isAt_56 rfl (by decide) rfl ?_
            refine j_iinc (pc := 57) (q := 4) (v := (a4 + (1 : Int32))) (lv' := [(0, .ref (Ad E 22 0)), (1, .int a1), (2, .int a2), (3, .int (1 : Int32)), (4, .int (a4 + (1 : Int32)))]) X dX8_isAt_57 rfl rfl (by decide) rfl ?_
            refine j_goto (pc := 60) (tgt := 5) X dX8_isAt_60 (by decide) ?_
            exact ih (1 : Int32) (a4 + (1 : Int32)) h
set_option maxHeartbeats 4000000 in
set_option maxRecDepth 100000 in
theorem tX8_isAt (l : Launch) {E : ET} (hE : Aj E) (G : GT) (a1 : Int32) (a2 : Int32) {r : Int32} (h : fX8_isAt G a1 a2 = some r) : CI l E yX8_isAt cX8_isAt 5 (some .boolean) 3 [.ref (Ad E 22 0), .int a1, .int a2] G r G := by
  refine Met_I (lv := [(0, .ref (Ad E 22 0)), (1, .int a1), (2, .int a2)]) (by decide +kernel) hE (Nat.le_of_ble_eq_true rfl) rfl ?_
  intro p e s m args below meth c X hr hk
  unfold fX8_isAt at h
  refine j_iconst (pc := 0) (v := 1) X dX8_isAt_0 (by decide) ?_
  refine j_istore_n (pc := 1) (lv' := [(0, .ref (Ad E 22 0)), (1, .int a1), (2, .int a2), (3, .int (1 : Int32))]) X dX8_isAt_1 rfl (by decide) rfl ?_
  refine j_iconst (pc := 2) (v := 0) X dX8_isAt_2 (by decide) ?_
  refine j_istore (pc := 3) (lv' := [(0, .ref (Ad E 22 0)), (1, .int a1), (2, .int a2), (3, .int (1 : Int32)), (4, .int (0 : Int32))]) X dX8_isAt_3 (by decide) rfl ?_
  exact tX8_isAt_5 l hE X hr hk G a1 a2 FU (1 : Int32) (0 : Int32) h
theorem dX8_wordFrom_0 : decode cX8_wordFrom 0 = .ok (.bipush (-5), 2) := by decide +kernel
theorem dX8_wordFrom_2 : decode cX8_wordFrom 2 = .ok (.istore_n 2, 1) := by decide +kernel
theorem dX8_wordFrom_3 : decode cX8_wordFrom 3 = .ok (.iconst 0, 1) := by decide +kernel
theorem dX8_wordFrom_4 : decode cX8_wordFrom 4 = .ok (.istore_n 3, 1) := by decide +kernel
theorem dX8_wordFrom_5 : decode cX8_wordFrom 5 = .ok (.iload_n 3, 1) := by decide +kernel
theorem dX8_wordFrom_6 : decode cX8_wordFrom 6 = .ok (.aload_n 0, 1) := by decide +kernel
theorem dX8_wordFrom_7 : decode cX8_wordFrom 7 = .ok (.getfield 7, 3) := by decide +kernel
theorem dX8_wordFrom_10 : decode cX8_wordFrom 10 = .ok (.bipush 80, 2) := by decide +kernel
theorem dX8_wordFrom_12 : decode cX8_wordFrom 12 = .ok (.iaload, 1) := by decide +kernel
theorem dX8_wordFrom_13 : decode cX8_wordFrom 13 = .ok (.if_icmp .ge 37, 3) := by decide +kernel
theorem dX8_wordFrom_16 : decode cX8_wordFrom 16 = .ok (.aload_n 0, 1) := by decide +kernel
theorem dX8_wordFrom_17 : decode cX8_wordFrom 17 = .ok (.iload_n 3, 1) := by decide +kernel
theorem dX8_wordFrom_18 : decode cX8_wordFrom 18 = .ok (.invokevirtual 64, 3) := by decide +kernel
theorem dX8_wordFrom_21 : decode cX8_wordFrom 21 = .ok (.aload_n 0, 1) := by decide +kernel
theorem dX8_wordFrom_22 : decode cX8_wordFrom 22 = .ok (.iload_n 1, 1) := by decide +kernel
theorem dX8_wordFrom_23 : decode cX8_wordFrom 23 = .ok (.invokevirtual 68, 3) := by decide +kernel
theorem dX8_wordFrom_26 : decode cX8_wordFrom 26 = .ok (.if_icmp .ne 16, 3) := by decide +kernel
theorem dX8_wordFrom_29 : decode cX8_wordFrom 29 = .ok (.aload_n 0, 1) := by decide +kernel
theorem dX8_wordFrom_30 : decode cX8_wordFrom 30 = .ok (.iload_n 3, 1) := by decide +kernel
theorem dX8_wordFrom_31 : decode cX8_wordFrom 31 = .ok (.iload_n 1, 1) := by decide +kernel
theorem dX8_wordFrom_32 : decode cX8_wordFrom 32 = .ok (.invokevirtual 71, 3) := by decide +kernel
theorem dX8_wordFrom_35 : decode cX8_wordFrom 35 = .ok (.ifCond .eq 7, 3) := by decide +kernel
theorem dX8_wordFrom_38 : decode cX8_wordFrom 38 = .ok (.iload_n 3, 1) := by decide +kernel
theorem dX8_wordFrom_39 : decode cX8_wordFrom 39 = .ok (.goto 4, 3) := by decide +kernel
theorem dX8_wordFrom_42 : decode cX8_wordFrom 42 = .ok (.iload_n 2, 1) := by decide +kernel
theorem dX8_wordFrom_43 : decode cX8_wordFrom 43 = .ok (.istore_n 2, 1) := by decide +kernel
theorem dX8_wordFrom_44 : decode cX8_wordFrom 44 = .ok (.iinc 3 1, 3) := by decide +kernel
theorem dX8_wordFrom_47 : decode cX8_wordFrom 47 = .ok (.goto (-42), 3) := by decide +kernel
theorem dX8_wordFrom_50 : decode cX8_wordFrom 50 = .ok (.iload_n 2, 1) := by decide +kernel
theorem dX8_wordFrom_51 : decode cX8_wordFrom 51 = .ok (.ireturn, 1) := by decide +kernel
set_option maxHeartbeats 4000000 in
set_option maxRecDepth 100000 in
theorem tX8_wordFrom_5 (l : Launch) {E : ET} (hE : Aj E) {p : Program} {e : Env} {s : State} {m : MethodId} {args : Array Value} {below : List Frame} {meth : Method} {c : Code} (X : Cx p (rmL 4) s m args c yX8_wordFrom.cls cX8_wordFrom 4 E (Aw E) 0 0) (hr : meth.sig.returnType = (some .int)) (hk : meth.locks = false) {r : Int32} (G : GT) (a1 : Int32) : ∀ (n : Nat) (a2 a3 : Int32), fX8_wordFrom_5 G a1 n a2 a3 = some r → J p l e (rmL 4) s m args below meth c E (Aw E) s.heap 4 0 0 (MQ below (QI E r G) args s 0 0 (Aw E)) G 5 [(0, .ref (Ad E 22 0)), (1, .int a1), (2, .int a2), (3, .int a3)] [] := by
  intro n
  induction n with
  | zero =>
    intro a2 a3 h
    simp [fX8_wordFrom_5] at h
  | succ n ih =>
    intro a2 a3 h
    rw [fX8_wordFrom_5] at h
    refine j_iload_n (pc := 5) X dX8_wordFrom_5 rfl 3 rfl ?_
    refine j_aload_n (pc := 6) X dX8_wordFrom_6 rfl 0 rfl ?_
    refine j_get (pc := 7) (v := .ref (Ad E 23 0)) X gf_X8_7 (by decide) rfl rfl dX8_wordFrom_7 ?_
    refine j_bipush (pc := 10) (v := 80) X dX8_wordFrom_10 (by decide) ?_
    obtain ⟨hg1, h⟩ := gd_s h
    refine j_iald (pc := 12) (n := 289) X (by decide) rfl hg1 dX8_wordFrom_12 ?_
    refine j_icmp_ge (pc := 13) (tgt := 50) X dX8_wordFrom_13 (by decide) (fun hc => ?_) (fun hc => ?_)
    · rw [if_pos hc] at h
      refine j_iload_n (pc := 50) X dX8_wordFrom_50 rfl 2 rfl ?_
      exact j_ret (pc := 51) X hr hk (vp_nar_int _) (Option.some.inj h) rfl dX8_wordFrom_51
    · rw [if_neg hc] at h
      refine j_aload_n (pc := 16) X dX8_wordFrom_16 rfl 0 rfl ?_
      refine j_iload_n (pc := 17) X dX8_wordFrom_17 rfl 3 rfl ?_
      obtain ⟨r2, hc4, h⟩ := bd_s h
      refine j_callI (pc := 18) X (tX8_lengthOf l hE G a3 hc4) muX8_lengthOf (by decide) q769 rfl rfl (Nat.le_of_ble_eq_true rfl) ⟨Nat.le_of_ble_eq_true rfl, Nat.le_of_ble_eq_true rfl⟩ dX8_wordFrom_18 ?_
      refine j_aload_n (pc := 21) X dX8_wordFrom_21 rfl 0 rfl ?_
      refine j_iload_n (pc := 22) X dX8_wordFrom_22 rfl 1 rfl ?_
      obtain ⟨r5, hc7, h⟩ := bd_s h
      refine j_callI (pc := 23) X (tX8_lengthFrom l hE G a1 hc7) muX8_lengthFrom (by decide) q797 rfl rfl (Nat.le_of_ble_eq_true rfl) ⟨Nat.le_of_ble_eq_true rfl, Nat.le_of_ble_eq_true rfl⟩ dX8_wordFrom_23 ?_
      refine j_icmp_ne (pc := 26) (tgt := 42) X dX8_wordFrom_26 (by decide) (fun hc => ?_) (fun hc => ?_)
      · rw [if_neg hc] at h
        refine j_iload_n (pc := 42) X dX8_wordFrom_42 rfl 2 rfl ?_
        refine j_istore_n (pc := 43) (lv' := [(0, .ref (Ad E 22 0)), (1, .int a1), (2, .int a2), (3, .int a3)]) X dX8_wordFrom_43 rfl (by decide) rfl ?_
        refine j_iinc (pc := 44) (q := 3) (v := (a3 + (1 : Int32))) (lv' := [(0, .ref (Ad E 22 0)), (1, .int a1), (2, .int a2), (3, .int (a3 + (1 : Int32)))]) X dX8_wordFrom_44 rfl rfl (by decide) rfl ?_
        refine j_goto (pc := 47) (tgt := 5) X dX8_wordFrom_47 (by decide) ?_
        exact ih a2 (a3 + (1 : Int32)) h
      · rw [if_pos hc] at h
        refine j_aload_n (pc := 29) X dX8_wordFrom_29 rfl 0 rfl ?_
        refine j_iload_n (pc := 30) X dX8_wordFrom_30 rfl 3 rfl ?_
        refine j_iload_n (pc := 31) X dX8_wordFrom_31 rfl 1 rfl ?_
        obtain ⟨r8, hc10, h⟩ := bd_s h
        refine j_callI (pc := 32) X (tX8_isAt l hE G a3 a1 hc10) muX8_isAt (by decide) q801 rfl rfl (Nat.le_of_ble_eq_true rfl) ⟨Nat.le_of_ble_eq_true rfl, Nat.le_of_ble_eq_true rfl⟩ dX8_wordFrom_32 ?_
        refine j_if_eq (pc := 35) (tgt := 42) X dX8_wordFrom_35 (by decide) (fun hc => ?_) (fun hc => ?_)
        · rw [if_pos hc] at h
          refine j_iload_n (pc := 42) X dX8_wordFrom_42 rfl 2 rfl ?_
          refine j_istore_n (pc := 43) (lv' := [(0, .ref (Ad E 22 0)), (1, .int a1), (2, .int a2), (3, .int a3)]) X dX8_wordFrom_43 rfl (by decide) rfl ?_
          refine j_iinc (pc := 44) (q := 3) (v := (a3 + (1 : Int32))) (lv' := [(0, .ref (Ad E 22 0)), (1, .int a1), (2, .int a2), (3, .int (a3 + (1 : Int32)))]) X dX8_wordFrom_44 rfl rfl (by decide) rfl ?_
          refine j_goto (pc := 47) (tgt := 5) X dX8_wordFrom_47 (by decide) ?_
          exact ih a2 (a3 + (1 : Int32)) h
        · rw [if_neg hc] at h
          refine j_iload_n (pc := 38) X dX8_wordFrom_38 rfl 3 rfl ?_
          refine j_goto (pc := 39) (tgt := 43) X dX8_wordFrom_39 (by decide) ?_
          refine j_istore_n (pc := 43) (lv' := [(0, .ref (Ad E 22 0)), (1, .int a1), (2, .int a3), (3, .int a3)]) X dX8_wordFrom_43 rfl (by decide) rfl ?_
          refine j_iinc (pc := 44) (q := 3) (v := (a3 + (1 : Int32))) (lv' := [(0, .ref (Ad E 22 0)), (1, .int a1), (2, .int a3), (3, .int (a3 + (1 : Int32)))]) X dX8_wordFrom_44 rfl rfl (by decide) rfl ?_
          refine j_goto (pc := 47) (tgt := 5) X dX8_wordFrom_47 (by decide) ?_
          exact ih a3 (a3 + (1 : Int32)) h
set_option maxHeartbeats 4000000 in
set_option maxRecDepth 100000 in
theorem tX8_wordFrom (l : Launch) {E : ET} (hE : Aj E) (G : GT) (a1 : Int32) {r : Int32} (h : fX8_wordFrom G a1 = some r) : CI l E yX8_wordFrom cX8_wordFrom 4 (some .int) 4 [.ref (Ad E 22 0), .int a1] G r G := by
  refine Met_I (lv := [(0, .ref (Ad E 22 0)), (1, .int a1)]) (by decide +kernel) hE (Nat.le_of_ble_eq_true rfl) rfl ?_
  intro p e s m args below meth c X hr hk
  unfold fX8_wordFrom at h
  refine j_bipush (pc := 0) (v := (-5)) X dX8_wordFrom_0 (by decide) ?_
  refine j_istore_n (pc := 2) (lv' := [(0, .ref (Ad E 22 0)), (1, .int a1), (2, .int (-5 : Int32))]) X dX8_wordFrom_2 rfl (by decide) rfl ?_
  refine j_iconst (pc := 3) (v := 0) X dX8_wordFrom_3 (by decide) ?_
  refine j_istore_n (pc := 4) (lv' := [(0, .ref (Ad E 22 0)), (1, .int a1), (2, .int (-5 : Int32)), (3, .int (0 : Int32))]) X dX8_wordFrom_4 rfl (by decide) rfl ?_
  exact tX8_wordFrom_5 l hE X hr hk G a1 FU (-5 : Int32) (0 : Int32) h
theorem dX8_wordOf_0 : decode cX8_wordOf 0 = .ok (.aload_n 0, 1) := by decide +kernel
theorem dX8_wordOf_1 : decode cX8_wordOf 1 = .ok (.aload_n 0, 1) := by decide +kernel
theorem dX8_wordOf_2 : decode cX8_wordOf 2 = .ok (.iload_n 1, 1) := by decide +kernel
theorem dX8_wordOf_3 : decode cX8_wordOf 3 = .ok (.invokevirtual 75, 3) := by decide +kernel
theorem dX8_wordOf_6 : decode cX8_wordOf 6 = .ok (.invokevirtual 78, 3) := by decide +kernel
theorem dX8_wordOf_9 : decode cX8_wordOf 9 = .ok (.ireturn, 1) := by decide +kernel
set_option maxHeartbeats 4000000 in
set_option maxRecDepth 100000 in
theorem tX8_wordOf (l : Launch) {E : ET} (hE : Aj E) (G : GT) (a1 : Int32) {r : Int32} (h : fX8_wordOf G a1 = some r) : CI l E yX8_wordOf cX8_wordOf 2 (some .int) 5 [.ref (Ad E 22 0), .int a1] G r G := by
  refine Met_I (lv := [(0, .ref (Ad E 22 0)), (1, .int a1)]) (by decide +kernel) hE (Nat.le_of_ble_eq_true rfl) rfl ?_
  intro p e s m args below meth c X hr hk
  unfold fX8_wordOf at h
  refine j_aload_n (pc := 0) X dX8_wordOf_0 rfl 0 rfl ?_
  refine j_aload_n (pc := 1) X dX8_wordOf_1 rfl 0 rfl ?_
  refine j_iload_n (pc := 2) X dX8_wordOf_2 rfl 1 rfl ?_
  obtain ⟨r1, hc3, h⟩ := bd_s h
  refine j_callI (pc := 3) X (tX8_firstOf l hE G a1 hc3) muX8_firstOf (by decide) q868 rfl rfl (Nat.le_of_ble_eq_true rfl) ⟨Nat.le_of_ble_eq_true rfl, Nat.le_of_ble_eq_true rfl⟩ dX8_wordOf_3 ?_
  obtain ⟨r4, hc6, h⟩ := bd_s h
  refine j_callI (pc := 6) X (tX8_wordFrom l hE G r1 hc6) muX8_wordFrom (by decide) q793 rfl rfl (Nat.le_of_ble_eq_true rfl) ⟨Nat.le_of_ble_eq_true rfl, Nat.le_of_ble_eq_true rfl⟩ dX8_wordOf_6 ?_
  exact j_ret (pc := 9) X hr hk (vp_nar_int _) (Option.some.inj h) rfl dX8_wordOf_9
theorem dX8_wordRuns_0 : decode cX8_wordRuns 0 = .ok (.iconst 0, 1) := by decide +kernel
theorem dX8_wordRuns_1 : decode cX8_wordRuns 1 = .ok (.istore_n 1, 1) := by decide +kernel
theorem dX8_wordRuns_2 : decode cX8_wordRuns 2 = .ok (.iconst 0, 1) := by decide +kernel
theorem dX8_wordRuns_3 : decode cX8_wordRuns 3 = .ok (.istore_n 2, 1) := by decide +kernel
theorem dX8_wordRuns_4 : decode cX8_wordRuns 4 = .ok (.iload_n 2, 1) := by decide +kernel
theorem dX8_wordRuns_5 : decode cX8_wordRuns 5 = .ok (.bipush 40, 2) := by decide +kernel
theorem dX8_wordRuns_7 : decode cX8_wordRuns 7 = .ok (.if_icmp .ge 33, 3) := by decide +kernel
theorem dX8_wordRuns_10 : decode cX8_wordRuns 10 = .ok (.iload_n 1, 1) := by decide +kernel
theorem dX8_wordRuns_11 : decode cX8_wordRuns 11 = .ok (.aload_n 0, 1) := by decide +kernel
theorem dX8_wordRuns_12 : decode cX8_wordRuns 12 = .ok (.iload_n 2, 1) := by decide +kernel
theorem dX8_wordRuns_13 : decode cX8_wordRuns 13 = .ok (.invokevirtual 54, 3) := by decide +kernel
theorem dX8_wordRuns_16 : decode cX8_wordRuns 16 = .ok (.ifCond .eq 15, 3) := by decide +kernel
theorem dX8_wordRuns_19 : decode cX8_wordRuns 19 = .ok (.aload_n 0, 1) := by decide +kernel
theorem dX8_wordRuns_20 : decode cX8_wordRuns 20 = .ok (.iload_n 2, 1) := by decide +kernel
theorem dX8_wordRuns_21 : decode cX8_wordRuns 21 = .ok (.invokevirtual 78, 3) := by decide +kernel
theorem dX8_wordRuns_24 : decode cX8_wordRuns 24 = .ok (.ifCond .lt 7, 3) := by decide +kernel
theorem dX8_wordRuns_27 : decode cX8_wordRuns 27 = .ok (.iconst 1, 1) := by decide +kernel
theorem dX8_wordRuns_28 : decode cX8_wordRuns 28 = .ok (.goto 4, 3) := by decide +kernel
theorem dX8_wordRuns_31 : decode cX8_wordRuns 31 = .ok (.iconst 0, 1) := by decide +kernel
theorem dX8_wordRuns_32 : decode cX8_wordRuns 32 = .ok (.iadd, 1) := by decide +kernel
theorem dX8_wordRuns_33 : decode cX8_wordRuns 33 = .ok (.istore_n 1, 1) := by decide +kernel
theorem dX8_wordRuns_34 : decode cX8_wordRuns 34 = .ok (.iinc 2 1, 3) := by decide +kernel
theorem dX8_wordRuns_37 : decode cX8_wordRuns 37 = .ok (.goto (-33), 3) := by decide +kernel
theorem dX8_wordRuns_40 : decode cX8_wordRuns 40 = .ok (.iload_n 1, 1) := by decide +kernel
theorem dX8_wordRuns_41 : decode cX8_wordRuns 41 = .ok (.ireturn, 1) := by decide +kernel
set_option maxHeartbeats 4000000 in
set_option maxRecDepth 100000 in
theorem tX8_wordRuns_4 (l : Launch) {E : ET} (hE : Aj E) {p : Program} {e : Env} {s : State} {m : MethodId} {args : Array Value} {below : List Frame} {meth : Method} {c : Code} (X : Cx p (rmL 5) s m args c yX8_wordRuns.cls cX8_wordRuns 3 E (Aw E) 0 0) (hr : meth.sig.returnType = (some .int)) (hk : meth.locks = false) {r : Int32} (G : GT) : ∀ (n : Nat) (a1 a2 : Int32), fX8_wordRuns_4 G n a1 a2 = some r → J p l e (rmL 5) s m args below meth c E (Aw E) s.heap 3 0 0 (MQ below (QI E r G) args s 0 0 (Aw E)) G 4 [(0, .ref (Ad E 22 0)), (1, .int a1), (2, .int a2)] [] := by
  intro n
  induction n with
  | zero =>
    intro a1 a2 h
    simp [fX8_wordRuns_4] at h
  | succ n ih =>
    intro a1 a2 h
    rw [fX8_wordRuns_4] at h
    refine j_iload_n (pc := 4) X dX8_wordRuns_4 rfl 2 rfl ?_
    refine j_bipush (pc := 5) (v := 40) X dX8_wordRuns_5 (by decide) ?_
    refine j_icmp_ge (pc := 7) (tgt := 40) X dX8_wordRuns_7 (by decide) (fun hc => ?_) (fun hc => ?_)
    · rw [if_pos hc] at h
      refine j_iload_n (pc := 40) X dX8_wordRuns_40 rfl 1 rfl ?_
      exact j_ret (pc := 41) X hr hk (vp_nar_int _) (Option.some.inj h) rfl dX8_wordRuns_41
    · rw [if_neg hc] at h
      refine j_iload_n (pc := 10) X dX8_wordRuns_10 rfl 1 rfl ?_
      refine j_aload_n (pc := 11) X dX8_wordRuns_11 rfl 0 rfl ?_
      refine j_iload_n (pc := 12) X dX8_wordRuns_12 rfl 2 rfl ?_
      obtain ⟨r1, hc3, h⟩ := bd_s h
      refine j_callI (pc := 13) X (tX8_begins l hE G a2 hc3) muX8_begins (by decide) q721 rfl rfl (Nat.le_of_ble_eq_true rfl) ⟨Nat.le_of_ble_eq_true rfl, Nat.le_of_ble_eq_true rfl⟩ dX8_wordRuns_13 ?_
      refine j_if_eq (pc := 16) (tgt := 31) X dX8_wordRuns_16 (by decide) (fun hc => ?_) (fun hc => ?_)
      · rw [if_pos hc] at h
        refine j_iconst (pc := 31) (v := 0) X dX8_wordRuns_31 (by decide) ?_
        refine j_iadd (pc := 32) X dX8_wordRuns_32 ?_
        refine j_istore_n (pc := 33) (lv' := [(0, .ref (Ad E 22 0)), (1, .int (a1 + (0 : Int32))), (2, .int a2)]) X dX8_wordRuns_33 rfl (by decide) rfl ?_
        refine j_iinc (pc := 34) (q := 2) (v := (a2 + (1 : Int32))) (lv' := [(0, .ref (Ad E 22 0)), (1, .int (a1 + (0 : Int32))), (2, .int (a2 + (1 : Int32)))]) X dX8_wordRuns_34 rfl rfl (by decide) rfl ?_
        refine j_goto (pc := 37) (tgt := 4) X dX8_wordRuns_37 (by decide) ?_
        exact ih (a1 + (0 : Int32)) (a2 + (1 : Int32)) h
      · rw [if_neg hc] at h
        refine j_aload_n (pc := 19) X dX8_wordRuns_19 rfl 0 rfl ?_
        refine j_iload_n (pc := 20) X dX8_wordRuns_20 rfl 2 rfl ?_
        obtain ⟨r4, hc6, h⟩ := bd_s h
        refine j_callI (pc := 21) X (tX8_wordFrom l hE G a2 hc6) muX8_wordFrom (by decide) q793 rfl rfl (Nat.le_of_ble_eq_true rfl) ⟨Nat.le_of_ble_eq_true rfl, Nat.le_of_ble_eq_true rfl⟩ dX8_wordRuns_21 ?_
        refine j_if_lt (pc := 24) (tgt := 31) X dX8_wordRuns_24 (by decide) (fun hc => ?_) (fun hc => ?_)
        · rw [if_pos hc] at h
          refine j_iconst (pc := 31) (v := 0) X dX8_wordRuns_31 (by decide) ?_
          refine j_iadd (pc := 32) X dX8_wordRuns_32 ?_
          refine j_istore_n (pc := 33) (lv' := [(0, .ref (Ad E 22 0)), (1, .int (a1 + (0 : Int32))), (2, .int a2)]) X dX8_wordRuns_33 rfl (by decide) rfl ?_
          refine j_iinc (pc := 34) (q := 2) (v := (a2 + (1 : Int32))) (lv' := [(0, .ref (Ad E 22 0)), (1, .int (a1 + (0 : Int32))), (2, .int (a2 + (1 : Int32)))]) X dX8_wordRuns_34 rfl rfl (by decide) rfl ?_
          refine j_goto (pc := 37) (tgt := 4) X dX8_wordRuns_37 (by decide) ?_
          exact ih (a1 + (0 : Int32)) (a2 + (1 : Int32)) h
        · rw [if_neg hc] at h
          refine j_iconst (pc := 27) (v := 1) X dX8_wordRuns_27 (by decide) ?_
          refine j_goto (pc := 28) (tgt := 32) X dX8_wordRuns_28 (by decide) ?_
          refine j_iadd (pc := 32) X dX8_wordRuns_32 ?_
          refine j_istore_n (pc := 33) (lv' := [(0, .ref (Ad E 22 0)), (1, .int (a1 + (1 : Int32))), (2, .int a2)]) X dX8_wordRuns_33 rfl (by decide) rfl ?_
          refine j_iinc (pc := 34) (q := 2) (v := (a2 + (1 : Int32))) (lv' := [(0, .ref (Ad E 22 0)), (1, .int (a1 + (1 : Int32))), (2, .int (a2 + (1 : Int32)))]) X dX8_wordRuns_34 rfl rfl (by decide) rfl ?_
          refine j_goto (pc := 37) (tgt := 4) X dX8_wordRuns_37 (by decide) ?_
          exact ih (a1 + (1 : Int32)) (a2 + (1 : Int32)) h
set_option maxHeartbeats 4000000 in
set_option maxRecDepth 100000 in
theorem tX8_wordRuns (l : Launch) {E : ET} (hE : Aj E) (G : GT) {r : Int32} (h : fX8_wordRuns G = some r) : CI l E yX8_wordRuns cX8_wordRuns 3 (some .int) 5 [.ref (Ad E 22 0)] G r G := by
  refine Met_I (lv := [(0, .ref (Ad E 22 0))]) (by decide +kernel) hE (Nat.le_of_ble_eq_true rfl) rfl ?_
  intro p e s m args below meth c X hr hk
  unfold fX8_wordRuns at h
  refine j_iconst (pc := 0) (v := 0) X dX8_wordRuns_0 (by decide) ?_
  refine j_istore_n (pc := 1) (lv' := [(0, .ref (Ad E 22 0)), (1, .int (0 : Int32))]) X dX8_wordRuns_1 rfl (by decide) rfl ?_
  refine j_iconst (pc := 2) (v := 0) X dX8_wordRuns_2 (by decide) ?_
  refine j_istore_n (pc := 3) (lv' := [(0, .ref (Ad E 22 0)), (1, .int (0 : Int32)), (2, .int (0 : Int32))]) X dX8_wordRuns_3 rfl (by decide) rfl ?_
  exact tX8_wordRuns_4 l hE X hr hk G FU (0 : Int32) (0 : Int32) h
