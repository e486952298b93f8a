theorem dX8_forget_0 : decode cX8_forget 0 = .ok (.iload_n 1, 1) := by decide +kernel
theorem dX8_forget_1 : decode cX8_forget 1 = .ok (.invokestatic 125, 3) := by decide +kernel
theorem dX8_forget_4 : decode cX8_forget 4 = .ok (.ifCond .eq 11, 3) := by decide +kernel
theorem dX8_forget_7 : decode cX8_forget 7 = .ok (.aload_n 0, 1) := by decide +kernel
theorem dX8_forget_8 : decode cX8_forget 8 = .ok (.iload_n 2, 1) := by decide +kernel
theorem dX8_forget_9 : decode cX8_forget 9 = .ok (.invokevirtual 107, 3) := by decide +kernel
theorem dX8_forget_12 : decode cX8_forget 12 = .ok (.ifCond .ne 5, 3) := by decide +kernel
theorem dX8_forget_15 : decode cX8_forget 15 = .ok (.iconst (-1), 1) := by decide +kernel
theorem dX8_forget_16 : decode cX8_forget 16 = .ok (.ireturn, 1) := by decide +kernel
theorem dX8_forget_17 : decode cX8_forget 17 = .ok (.aload_n 0, 1) := by decide +kernel
theorem dX8_forget_18 : decode cX8_forget 18 = .ok (.iload_n 1, 1) := by decide +kernel
theorem dX8_forget_19 : decode cX8_forget 19 = .ok (.iload_n 2, 1) := by decide +kernel
theorem dX8_forget_20 : decode cX8_forget 20 = .ok (.invokevirtual 110, 3) := by decide +kernel
theorem dX8_forget_23 : decode cX8_forget 23 = .ok (.istore_n 3, 1) := by decide +kernel
theorem dX8_forget_24 : decode cX8_forget 24 = .ok (.iload_n 3, 1) := by decide +kernel
theorem dX8_forget_25 : decode cX8_forget 25 = .ok (.ifCond .ne 6, 3) := by decide +kernel
theorem dX8_forget_28 : decode cX8_forget 28 = .ok (.bipush (-5), 2) := by decide +kernel
theorem dX8_forget_30 : decode cX8_forget 30 = .ok (.ireturn, 1) := by decide +kernel
theorem dX8_forget_31 : decode cX8_forget 31 = .ok (.aload_n 0, 1) := by decide +kernel
theorem dX8_forget_32 : decode cX8_forget 32 = .ok (.invokevirtual 44, 3) := by decide +kernel
theorem dX8_forget_35 : decode cX8_forget 35 = .ok (.aload_n 0, 1) := by decide +kernel
theorem dX8_forget_36 : decode cX8_forget 36 = .ok (.getfield 7, 3) := by decide +kernel
theorem dX8_forget_39 : decode cX8_forget 39 = .ok (.sipush 177, 3) := by decide +kernel
theorem dX8_forget_42 : decode cX8_forget 42 = .ok (.bipush 16, 2) := by decide +kernel
theorem dX8_forget_44 : decode cX8_forget 44 = .ok (.iload_n 1, 1) := by decide +kernel
theorem dX8_forget_45 : decode cX8_forget 45 = .ok (.imul, 1) := by decide +kernel
theorem dX8_forget_46 : decode cX8_forget 46 = .ok (.iadd, 1) := by decide +kernel
theorem dX8_forget_47 : decode cX8_forget 47 = .ok (.iload_n 2, 1) := by decide +kernel
theorem dX8_forget_48 : decode cX8_forget 48 = .ok (.iadd, 1) := by decide +kernel
theorem dX8_forget_49 : decode cX8_forget 49 = .ok (.iconst 0, 1) := by decide +kernel
theorem dX8_forget_50 : decode cX8_forget 50 = .ok (.iastore, 1) := by decide +kernel
theorem dX8_forget_51 : decode cX8_forget 51 = .ok (.iload_n 3, 1) := by decide +kernel
theorem dX8_forget_52 : decode cX8_forget 52 = .ok (.ireturn, 1) := by decide +kernel
set_option maxHeartbeats 4000000 in
set_option maxRecDepth 100000 in
theorem tX8_forget (l : Launch) {E : ET} (hE : Aj E) (G : GT) (a1 : Int32) (a2 : Int32) {r : Int32} {G' : GT} (h : fX8_forget G a1 a2 = some (r, G')) : CI l E yX8_forget cX8_forget 4 (some .int) 2 [.ref (Ad E 22 0), .int a1, .int a2] G r G' := by
  refine Met_I (lv := [(0, .ref (Ad E 22 0)), (1, .int a1), (2, .int a2)]) (by decide +kernel) hE (Nat.le_of_ble_eq_true rfl) rfl ?_
  intro p e s m args below meth c X hr hk
  unfold fX8_forget at h
  refine j_iload_n (pc := 0) X dX8_forget_0 rfl 1 rfl ?_
  obtain ⟨r1, hc3, h⟩ := bd_s h
  refine j_staI (pc := 1) X (tX8_isLearner l hE G a1 hc3) muX8_isLearner (Or.inl q829) rfl rfl (Nat.le_of_ble_eq_true rfl) ⟨Nat.le_of_ble_eq_true rfl, Nat.le_of_ble_eq_true rfl⟩ dX8_forget_1 ?_
  refine j_if_eq (pc := 4) (tgt := 15) X dX8_forget_4 (by decide) (fun hc => ?_) (fun hc => ?_)
  · rw [if_pos hc] at h
    refine j_iconst (pc := 15) (v := (-1)) X dX8_forget_15 (by decide) ?_
    exact j_ret (pc := 16) X hr hk (vp_nar_int _) (pr_s h).1 (pr_s h).2 dX8_forget_16
  · rw [if_neg hc] at h
    refine j_aload_n (pc := 7) X dX8_forget_7 rfl 0 rfl ?_
    refine j_iload_n (pc := 8) X dX8_forget_8 rfl 2 rfl ?_
    obtain ⟨r4, hc6, h⟩ := bd_s h
    refine j_callI (pc := 9) X (tX8_isWord l hE G a2 hc6) muX8_isWord (by decide) q781 rfl rfl (Nat.le_of_ble_eq_true rfl) ⟨Nat.le_of_ble_eq_true rfl, Nat.le_of_ble_eq_true rfl⟩ dX8_forget_9 ?_
    refine j_if_ne (pc := 12) (tgt := 17) X dX8_forget_12 (by decide) (fun hc => ?_) (fun hc => ?_)
    · rw [if_neg hc] at h
      refine j_aload_n (pc := 17) X dX8_forget_17 rfl 0 rfl ?_
      refine j_iload_n (pc := 18) X dX8_forget_18 rfl 1 rfl ?_
      refine j_iload_n (pc := 19) X dX8_forget_19 rfl 2 rfl ?_
      obtain ⟨r7, hc9, h⟩ := bd_s h
      refine j_callI (pc := 20) X (tX8_heardOf l hE G a1 a2 hc9) muX8_heardOf (by decide) q813 rfl rfl (Nat.le_of_ble_eq_true rfl) ⟨Nat.le_of_ble_eq_true rfl, Nat.le_of_ble_eq_true rfl⟩ dX8_forget_20 ?_
      refine j_istore_n (pc := 23) (lv' := [(0, .ref (Ad E 22 0)), (1, .int a1), (2, .int a2), (3, .int r7)]) X dX8_forget_23 rfl (by decide) rfl ?_
      refine j_iload_n (pc := 24) X dX8_forget_24 rfl 3 rfl ?_
      refine j_if_ne (pc := 25) (tgt := 31) X dX8_forget_25 (by decide) (fun hc => ?_) (fun hc => ?_)
      · rw [if_neg hc] at h
        refine j_aload_n (pc := 31) X dX8_forget_31 rfl 0 rfl ?_
        obtain ⟨G11, hc12, h⟩ := bd_s h
        refine j_callV (pc := 32) X (tX8_record l hE G  hc12) muX8_record (by decide) q703 rfl rfl (Nat.le_of_ble_eq_true rfl) ⟨Nat.le_of_ble_eq_true rfl, Nat.le_of_ble_eq_true rfl⟩ dX8_forget_32 ?_
        refine j_aload_n (pc := 35) X dX8_forget_35 rfl 0 rfl ?_
        refine j_get (pc := 36) (v := .ref (Ad E 23 0)) X gf_X8_7 (by decide) rfl rfl dX8_forget_36 ?_
        refine j_sipush (pc := 39) (v := 177) X dX8_forget_39 (by decide) ?_
        refine j_bipush (pc := 42) (v := 16) X dX8_forget_42 (by decide) ?_
        refine j_iload_n (pc := 44) X dX8_forget_44 rfl 1 rfl ?_
        refine j_imul (pc := 45) X dX8_forget_45 ?_
        refine j_iadd (pc := 46) X dX8_forget_46 ?_
        refine j_iload_n (pc := 47) X dX8_forget_47 rfl 2 rfl ?_
        refine j_iadd (pc := 48) X dX8_forget_48 ?_
        refine j_iconst (pc := 49) (v := 0) X dX8_forget_49 (by decide) ?_
        obtain ⟨hg13, h⟩ := gd_s h
        obtain ⟨G14, hG14, h⟩ := st3_s h
        refine j_iast (pc := 50) (n := 289) X hG14 (by decide) (fun _ => rfl) hg13 dX8_forget_50 ?_
        refine j_iload_n (pc := 51) X dX8_forget_51 rfl 3 rfl ?_
        exact j_ret (pc := 52) X hr hk (vp_nar_int _) (pr_s h).1 (pr_s h).2 dX8_forget_52
      · rw [if_pos hc] at h
        refine j_bipush (pc := 28) (v := (-5)) X dX8_forget_28 (by decide) ?_
        exact j_ret (pc := 30) X hr hk (vp_nar_int _) (pr_s h).1 (pr_s h).2 dX8_forget_30
    · rw [if_pos hc] at h
      refine j_iconst (pc := 15) (v := (-1)) X dX8_forget_15 (by decide) ?_
      exact j_ret (pc := 16) X hr hk (vp_nar_int _) (pr_s h).1 (pr_s h).2 dX8_forget_16
theorem dX8_tell_0 : decode cX8_tell 0 = .ok (.iload_n 1, 1) := by decide +kernel
theorem dX8_tell_1 : decode cX8_tell 1 = .ok (.invokestatic 125, 3) := by decide +kernel
theorem dX8_tell_4 : decode cX8_tell 4 = .ok (.ifCond .eq 11, 3) := by decide +kernel
theorem dX8_tell_7 : decode cX8_tell 7 = .ok (.aload_n 0, 1) := by decide +kernel
theorem dX8_tell_8 : decode cX8_tell 8 = .ok (.iload_n 2, 1) := by decide +kernel
theorem dX8_tell_9 : decode cX8_tell 9 = .ok (.invokevirtual 107, 3) := by decide +kernel
theorem dX8_tell_12 : decode cX8_tell 12 = .ok (.ifCond .ne 5, 3) := by decide +kernel
theorem dX8_tell_15 : decode cX8_tell 15 = .ok (.iconst (-1), 1) := by decide +kernel
theorem dX8_tell_16 : decode cX8_tell 16 = .ok (.ireturn, 1) := by decide +kernel
theorem dX8_tell_17 : decode cX8_tell 17 = .ok (.aload_n 0, 1) := by decide +kernel
theorem dX8_tell_18 : decode cX8_tell 18 = .ok (.iload_n 1, 1) := by decide +kernel
theorem dX8_tell_19 : decode cX8_tell 19 = .ok (.iload_n 2, 1) := by decide +kernel
theorem dX8_tell_20 : decode cX8_tell 20 = .ok (.invokevirtual 110, 3) := by decide +kernel
theorem dX8_tell_23 : decode cX8_tell 23 = .ok (.sipush 999, 3) := by decide +kernel
theorem dX8_tell_26 : decode cX8_tell 26 = .ok (.if_icmp .lt 6, 3) := by decide +kernel
theorem dX8_tell_29 : decode cX8_tell 29 = .ok (.bipush (-3), 2) := by decide +kernel
theorem dX8_tell_31 : decode cX8_tell 31 = .ok (.ireturn, 1) := by decide +kernel
theorem dX8_tell_32 : decode cX8_tell 32 = .ok (.aload_n 0, 1) := by decide +kernel
theorem dX8_tell_33 : decode cX8_tell 33 = .ok (.invokevirtual 44, 3) := by decide +kernel
theorem dX8_tell_36 : decode cX8_tell 36 = .ok (.aload_n 0, 1) := by decide +kernel
theorem dX8_tell_37 : decode cX8_tell 37 = .ok (.getfield 7, 3) := by decide +kernel
theorem dX8_tell_40 : decode cX8_tell 40 = .ok (.sipush 177, 3) := by decide +kernel
theorem dX8_tell_43 : decode cX8_tell 43 = .ok (.bipush 16, 2) := by decide +kernel
theorem dX8_tell_45 : decode cX8_tell 45 = .ok (.iload_n 1, 1) := by decide +kernel
theorem dX8_tell_46 : decode cX8_tell 46 = .ok (.imul, 1) := by decide +kernel
theorem dX8_tell_47 : decode cX8_tell 47 = .ok (.iadd, 1) := by decide +kernel
theorem dX8_tell_48 : decode cX8_tell 48 = .ok (.iload_n 2, 1) := by decide +kernel
theorem dX8_tell_49 : decode cX8_tell 49 = .ok (.iadd, 1) := by decide +kernel
theorem dX8_tell_50 : decode cX8_tell 50 = .ok (.dup2, 1) := by decide +kernel
theorem dX8_tell_51 : decode cX8_tell 51 = .ok (.iaload, 1) := by decide +kernel
theorem dX8_tell_52 : decode cX8_tell 52 = .ok (.iconst 1, 1) := by decide +kernel
theorem dX8_tell_53 : decode cX8_tell 53 = .ok (.iadd, 1) := by decide +kernel
theorem dX8_tell_54 : decode cX8_tell 54 = .ok (.iastore, 1) := by decide +kernel
theorem dX8_tell_55 : decode cX8_tell 55 = .ok (.aload_n 0, 1) := by decide +kernel
theorem dX8_tell_56 : decode cX8_tell 56 = .ok (.iload_n 1, 1) := by decide +kernel
theorem dX8_tell_57 : decode cX8_tell 57 = .ok (.iload_n 2, 1) := by decide +kernel
theorem dX8_tell_58 : decode cX8_tell 58 = .ok (.invokevirtual 110, 3) := by decide +kernel
theorem dX8_tell_61 : decode cX8_tell 61 = .ok (.ireturn, 1) := by decide +kernel
set_option maxHeartbeats 4000000 in
set_option maxRecDepth 100000 in
theorem tX8_tell (l : Launch) {E : ET} (hE : Aj E) (G : GT) (a1 : Int32) (a2 : Int32) {r : Int32} {G' : GT} (h : fX8_tell G a1 a2 = some (r, G')) : CI l E yX8_tell cX8_tell 3 (some .int) 2 [.ref (Ad E 22 0), .int a1, .int a2] G r G' := by
  refine Met_I (lv := [(0, .ref (Ad E 22 0)), (1, .int a1), (2, .int a2)]) (by decide +kernel) hE (Nat.le_of_ble_eq_true rfl) rfl ?_
  intro p e s m args below meth c X hr hk
  unfold fX8_tell at h
  refine j_iload_n (pc := 0) X dX8_tell_0 rfl 1 rfl ?_
  obtain ⟨r1, hc3, h⟩ := bd_s h
  refine j_staI (pc := 1) X (tX8_isLearner l hE G a1 hc3) muX8_isLearner (Or.inl q829) rfl rfl (Nat.le_of_ble_eq_true rfl) ⟨Nat.le_of_ble_eq_true rfl, Nat.le_of_ble_eq_true rfl⟩ dX8_tell_1 ?_
  refine j_if_eq (pc := 4) (tgt := 15) X dX8_tell_4 (by decide) (fun hc => ?_) (fun hc => ?_)
  · rw [if_pos hc] at h
    refine j_iconst (pc := 15) (v := (-1)) X dX8_tell_15 (by decide) ?_
    exact j_ret (pc := 16) X hr hk (vp_nar_int _) (pr_s h).1 (pr_s h).2 dX8_tell_16
  · rw [if_neg hc] at h
    refine j_aload_n (pc := 7) X dX8_tell_7 rfl 0 rfl ?_
    refine j_iload_n (pc := 8) X dX8_tell_8 rfl 2 rfl ?_
    obtain ⟨r4, hc6, h⟩ := bd_s h
    refine j_callI (pc := 9) X (tX8_isWord l hE G a2 hc6) muX8_isWord (by decide) q781 rfl rfl (Nat.le_of_ble_eq_true rfl) ⟨Nat.le_of_ble_eq_true rfl, Nat.le_of_ble_eq_true rfl⟩ dX8_tell_9 ?_
    refine j_if_ne (pc := 12) (tgt := 17) X dX8_tell_12 (by decide) (fun hc => ?_) (fun hc => ?_)
    · rw [if_neg hc] at h
      refine j_aload_n (pc := 17) X dX8_tell_17 rfl 0 rfl ?_
      refine j_iload_n (pc := 18) X dX8_tell_18 rfl 1 rfl ?_
      refine j_iload_n (pc := 19) X dX8_tell_19 rfl 2 rfl ?_
      obtain ⟨r7, hc9, h⟩ := bd_s h
      refine j_callI (pc := 20) X (tX8_heardOf l hE G a1 a2 hc9) muX8_heardOf (by decide) q813 rfl rfl (Nat.le_of_ble_eq_true rfl) ⟨Nat.le_of_ble_eq_true rfl, Nat.le_of_ble_eq_true rfl⟩ dX8_tell_20 ?_
      refine j_sipush (pc := 23) (v := 999) X dX8_tell_23 (by decide) ?_
      refine j_icmp_lt (pc := 26) (tgt := 32) X dX8_tell_26 (by decide) (fun hc => ?_) (fun hc => ?_)
      · rw [if_pos hc] at h
        refine j_aload_n (pc := 32) X dX8_tell_32 rfl 0 rfl ?_
        obtain ⟨G11, hc12, h⟩ := bd_s h
        refine j_callV (pc := 33) X (tX8_record l hE G  hc12) muX8_record (by decide) q703 rfl rfl (Nat.le_of_ble_eq_true rfl) ⟨Nat.le_of_ble_eq_true rfl, Nat.le_of_ble_eq_true rfl⟩ dX8_tell_33 ?_
        refine j_aload_n (pc := 36) X dX8_tell_36 rfl 0 rfl ?_
        refine j_get (pc := 37) (v := .ref (Ad E 23 0)) X gf_X8_7 (by decide) rfl rfl dX8_tell_37 ?_
        refine j_sipush (pc := 40) (v := 177) X dX8_tell_40 (by decide) ?_
        refine j_bipush (pc := 43) (v := 16) X dX8_tell_43 (by decide) ?_
        refine j_iload_n (pc := 45) X dX8_tell_45 rfl 1 rfl ?_
        refine j_imul (pc := 46) X dX8_tell_46 ?_
        refine j_iadd (pc := 47) X dX8_tell_47 ?_
        refine j_iload_n (pc := 48) X dX8_tell_48 rfl 2 rfl ?_
        refine j_iadd (pc := 49) X dX8_tell_49 ?_
        refine j_dup2 (pc := 50) X dX8_tell_50 rfl rfl ?_
        obtain ⟨hg13, h⟩ := gd_s h
        refine j_iald (pc := 51) (n := 289) X (by decide) rfl hg13 dX8_tell_51 ?_
        refine j_iconst (pc := 52) (v := 1) X dX8_tell_52 (by decide) ?_
        refine j_iadd (pc := 53) X dX8_tell_53 ?_
        obtain ⟨hg14, h⟩ := gd_s h
        obtain ⟨G15, hG15, h⟩ := st3_s h
        refine j_iast (pc := 54) (n := 289) X hG15 (by decide) (fun _ => rfl) hg14 dX8_tell_54 ?_
        refine j_aload_n (pc := 55) X dX8_tell_55 rfl 0 rfl ?_
        refine j_iload_n (pc := 56) X dX8_tell_56 rfl 1 rfl ?_
        refine j_iload_n (pc := 57) X dX8_tell_57 rfl 2 rfl ?_
        obtain ⟨r16, hc18, h⟩ := bd_s h
        refine j_callI (pc := 58) X (tX8_heardOf l hE G15 a1 a2 hc18) muX8_heardOf (by decide) q813 rfl rfl (Nat.le_of_ble_eq_true rfl) ⟨Nat.le_of_ble_eq_true rfl, Nat.le_of_ble_eq_true rfl⟩ dX8_tell_58 ?_
        exact j_ret (pc := 61) X hr hk (vp_nar_int _) (pr_s h).1 (pr_s h).2 dX8_tell_61
      · rw [if_neg hc] at h
        refine j_bipush (pc := 29) (v := (-3)) X dX8_tell_29 (by decide) ?_
        exact j_ret (pc := 31) X hr hk (vp_nar_int _) (pr_s h).1 (pr_s h).2 dX8_tell_31
    · rw [if_pos hc] at h
      refine j_iconst (pc := 15) (v := (-1)) X dX8_tell_15 (by decide) ?_
      exact j_ret (pc := 16) X hr hk (vp_nar_int _) (pr_s h).1 (pr_s h).2 dX8_tell_16
theorem dX8_set_0 : decode cX8_set 0 = .ok (.iload_n 1, 1) := by decide +kernel
theorem dX8_set_1 : decode cX8_set 1 = .ok (.iconst 1, 1) := by decide +kernel
theorem dX8_set_2 : decode cX8_set 2 = .ok (.bipush 9, 2) := by decide +kernel
theorem dX8_set_4 : decode cX8_set 4 = .ok (.invokestatic 28, 3) := by decide +kernel
theorem dX8_set_7 : decode cX8_set 7 = .ok (.ifCond .ne 6, 3) := by decide +kernel
theorem dX8_set_10 : decode cX8_set 10 = .ok (.bipush (-2), 2) := by decide +kernel
theorem dX8_set_12 : decode cX8_set 12 = .ok (.ireturn, 1) := by decide +kernel
theorem dX8_set_13 : decode cX8_set 13 = .ok (.aload_n 0, 1) := by decide +kernel
theorem dX8_set_14 : decode cX8_set 14 = .ok (.getfield 7, 3) := by decide +kernel
theorem dX8_set_17 : decode cX8_set 17 = .ok (.sipush 285, 3) := by decide +kernel
theorem dX8_set_20 : decode cX8_set 20 = .ok (.iaload, 1) := by decide +kernel
theorem dX8_set_21 : decode cX8_set 21 = .ok (.istore_n 2, 1) := by decide +kernel
theorem dX8_set_22 : decode cX8_set 22 = .ok (.iload_n 2, 1) := by decide +kernel
theorem dX8_set_23 : decode cX8_set 23 = .ok (.iload_n 1, 1) := by decide +kernel
theorem dX8_set_24 : decode cX8_set 24 = .ok (.if_icmp .ne 6, 3) := by decide +kernel
theorem dX8_set_27 : decode cX8_set 27 = .ok (.bipush (-5), 2) := by decide +kernel
theorem dX8_set_29 : decode cX8_set 29 = .ok (.ireturn, 1) := by decide +kernel
theorem dX8_set_30 : decode cX8_set 30 = .ok (.aload_n 0, 1) := by decide +kernel
theorem dX8_set_31 : decode cX8_set 31 = .ok (.invokevirtual 44, 3) := by decide +kernel
theorem dX8_set_34 : decode cX8_set 34 = .ok (.aload_n 0, 1) := by decide +kernel
theorem dX8_set_35 : decode cX8_set 35 = .ok (.getfield 7, 3) := by decide +kernel
theorem dX8_set_38 : decode cX8_set 38 = .ok (.sipush 285, 3) := by decide +kernel
theorem dX8_set_41 : decode cX8_set 41 = .ok (.iload_n 1, 1) := by decide +kernel
theorem dX8_set_42 : decode cX8_set 42 = .ok (.iastore, 1) := by decide +kernel
theorem dX8_set_43 : decode cX8_set 43 = .ok (.iload_n 2, 1) := by decide +kernel
theorem dX8_set_44 : decode cX8_set 44 = .ok (.ireturn, 1) := by decide +kernel
set_option maxHeartbeats 4000000 in
set_option maxRecDepth 100000 in
theorem tX8_set (l : Launch) {E : ET} (hE : Aj E) (G : GT) (a1 : Int32) {r : Int32} {G' : GT} (h : fX8_set G a1 = some (r, G')) : CI l E yX8_set cX8_set 3 (some .int) 1 [.ref (Ad E 22 0), .int a1] G r G' := by
  refine Met_I (lv := [(0, .ref (Ad E 22 0)), (1, .int a1)]) (by decide +kernel) hE (Nat.le_of_ble_eq_true rfl) rfl ?_
  intro p e s m args below meth c X hr hk
  unfold fX8_set at h
  refine j_iload_n (pc := 0) X dX8_set_0 rfl 1 rfl ?_
  refine j_iconst (pc := 1) (v := 1) X dX8_set_1 (by decide) ?_
  refine j_bipush (pc := 2) (v := 9) X dX8_set_2 (by decide) ?_
  obtain ⟨r1, hc3, h⟩ := bd_s h
  refine j_staI (pc := 4) X (tX8_in l hE G a1 (1 : Int32) (9 : Int32) hc3) muX8_in (Or.inl q714) rfl rfl (Nat.le_of_ble_eq_true rfl) ⟨Nat.le_of_ble_eq_true rfl, Nat.le_of_ble_eq_true rfl⟩ dX8_set_4 ?_
  refine j_if_ne (pc := 7) (tgt := 13) X dX8_set_7 (by decide) (fun hc => ?_) (fun hc => ?_)
  · rw [if_neg hc] at h
    refine j_aload_n (pc := 13) X dX8_set_13 rfl 0 rfl ?_
    refine j_get (pc := 14) (v := .ref (Ad E 23 0)) X gf_X8_7 (by decide) rfl rfl dX8_set_14 ?_
    refine j_sipush (pc := 17) (v := 285) X dX8_set_17 (by decide) ?_
    obtain ⟨hg4, h⟩ := gd_s h
    refine j_iald (pc := 20) (n := 289) X (by decide) rfl hg4 dX8_set_20 ?_
    refine j_istore_n (pc := 21) (lv' := [(0, .ref (Ad E 22 0)), (1, .int a1), (2, .int (G 23 0 (285 : Int32).toNatClampNeg))]) X dX8_set_21 rfl (by decide) rfl ?_
    refine j_iload_n (pc := 22) X dX8_set_22 rfl 2 rfl ?_
    refine j_iload_n (pc := 23) X dX8_set_23 rfl 1 rfl ?_
    refine j_icmp_ne (pc := 24) (tgt := 30) X dX8_set_24 (by decide) (fun hc => ?_) (fun hc => ?_)
    · rw [if_neg hc] at h
      refine j_aload_n (pc := 30) X dX8_set_30 rfl 0 rfl ?_
      obtain ⟨G6, hc7, h⟩ := bd_s h
      refine j_callV (pc := 31) X (tX8_record l hE G  hc7) muX8_record (by decide) q703 rfl rfl (Nat.le_of_ble_eq_true rfl) ⟨Nat.le_of_ble_eq_true rfl, Nat.le_of_ble_eq_true rfl⟩ dX8_set_31 ?_
      refine j_aload_n (pc := 34) X dX8_set_34 rfl 0 rfl ?_
      refine j_get (pc := 35) (v := .ref (Ad E 23 0)) X gf_X8_7 (by decide) rfl rfl dX8_set_35 ?_
      refine j_sipush (pc := 38) (v := 285) X dX8_set_38 (by decide) ?_
      refine j_iload_n (pc := 41) X dX8_set_41 rfl 1 rfl ?_
      obtain ⟨hg8, h⟩ := gd_s h
      obtain ⟨G9, hG9, h⟩ := st3_s h
      refine j_iast (pc := 42) (n := 289) X hG9 (by decide) (fun _ => rfl) hg8 dX8_set_42 ?_
      refine j_iload_n (pc := 43) X dX8_set_43 rfl 2 rfl ?_
      exact j_ret (pc := 44) X hr hk (vp_nar_int _) (pr_s h).1 (pr_s h).2 dX8_set_44
    · rw [if_pos hc] at h
      refine j_bipush (pc := 27) (v := (-5)) X dX8_set_27 (by decide) ?_
      exact j_ret (pc := 29) X hr hk (vp_nar_int _) (pr_s h).1 (pr_s h).2 dX8_set_29
  · rw [if_pos hc] at h
    refine j_bipush (pc := 10) (v := (-2)) X dX8_set_10 (by decide) ?_
    exact j_ret (pc := 12) X hr hk (vp_nar_int _) (pr_s h).1 (pr_s h).2 dX8_set_12
theorem dX8_type_0 : decode cX8_type 0 = .ok (.aload_n 0, 1) := by decide +kernel
theorem dX8_type_1 : decode cX8_type 1 = .ok (.getfield 100, 3) := by decide +kernel
theorem dX8_type_4 : decode cX8_type 4 = .ok (.bipush 50, 2) := by decide +kernel
theorem dX8_type_6 : decode cX8_type 6 = .ok (.if_icmp .ne 6, 3) := by decide +kernel
theorem dX8_type_9 : decode cX8_type 9 = .ok (.bipush (-3), 2) := by decide +kernel
theorem dX8_type_11 : decode cX8_type 11 = .ok (.ireturn, 1) := by decide +kernel
theorem dX8_type_12 : decode cX8_type 12 = .ok (.aload_n 0, 1) := by decide +kernel
theorem dX8_type_13 : decode cX8_type 13 = .ok (.getfield 22, 3) := by decide +kernel
theorem dX8_type_16 : decode cX8_type 16 = .ok (.aload_n 0, 1) := by decide +kernel
theorem dX8_type_17 : decode cX8_type 17 = .ok (.getfield 100, 3) := by decide +kernel
theorem dX8_type_20 : decode cX8_type 20 = .ok (.iload_n 1, 1) := by decide +kernel
theorem dX8_type_21 : decode cX8_type 21 = .ok (.iastore, 1) := by decide +kernel
theorem dX8_type_22 : decode cX8_type 22 = .ok (.aload_n 0, 1) := by decide +kernel
theorem dX8_type_23 : decode cX8_type 23 = .ok (.dup, 1) := by decide +kernel
theorem dX8_type_24 : decode cX8_type 24 = .ok (.getfield 100, 3) := by decide +kernel
theorem dX8_type_27 : decode cX8_type 27 = .ok (.iconst 1, 1) := by decide +kernel
theorem dX8_type_28 : decode cX8_type 28 = .ok (.iadd, 1) := by decide +kernel
theorem dX8_type_29 : decode cX8_type 29 = .ok (.putfield 100, 3) := by decide +kernel
theorem dX8_type_32 : decode cX8_type 32 = .ok (.aload_n 0, 1) := by decide +kernel
theorem dX8_type_33 : decode cX8_type 33 = .ok (.getfield 100, 3) := by decide +kernel
theorem dX8_type_36 : decode cX8_type 36 = .ok (.ireturn, 1) := by decide +kernel
set_option maxHeartbeats 4000000 in
set_option maxRecDepth 100000 in
theorem tX8_type (l : Launch) {E : ET} (hE : Aj E) (G : GT) (a1 : Int32) {r : Int32} {G' : GT} (h : fX8_type G a1 = some (r, G')) : CI l E yX8_type cX8_type 2 (some .int) 0 [.ref (Ad E 22 0), .int a1] G r G' := by
  refine Met_I (lv := [(0, .ref (Ad E 22 0)), (1, .int a1)]) (by decide +kernel) hE (Nat.le_of_ble_eq_true rfl) rfl ?_
  intro p e s m args below meth c X hr hk
  unfold fX8_type at h
  refine j_aload_n (pc := 0) X dX8_type_0 rfl 0 rfl ?_
  refine j_get (pc := 1) (v := .int (G 22 0 7)) X gf_X8_100 (by decide) rfl rfl dX8_type_1 ?_
  refine j_bipush (pc := 4) (v := 50) X dX8_type_4 (by decide) ?_
  refine j_icmp_ne (pc := 6) (tgt := 12) X dX8_type_6 (by decide) (fun hc => ?_) (fun hc => ?_)
  · rw [if_neg hc] at h
    refine j_aload_n (pc := 12) X dX8_type_12 rfl 0 rfl ?_
    refine j_get (pc := 13) (v := .ref (Ad E 27 0)) X gf_X8_22 (by decide) rfl rfl dX8_type_13 ?_
    refine j_aload_n (pc := 16) X dX8_type_16 rfl 0 rfl ?_
    refine j_get (pc := 17) (v := .int (G 22 0 7)) X gf_X8_100 (by decide) rfl rfl dX8_type_17 ?_
    refine j_iload_n (pc := 20) X dX8_type_20 rfl 1 rfl ?_
    obtain ⟨hg1, h⟩ := gd_s h
    obtain ⟨G2, hG2, h⟩ := st3_s h
    refine j_iast (pc := 21) (n := 50) X hG2 (by decide) (fun _ => rfl) hg1 dX8_type_21 ?_
    refine j_aload_n (pc := 22) X dX8_type_22 rfl 0 rfl ?_
    refine j_dup (pc := 23) X dX8_type_23 rfl ?_
    refine j_get (pc := 24) (v := .int (G2 22 0 7)) X gf_X8_100 (by decide) rfl rfl dX8_type_24 ?_
    refine j_iconst (pc := 27) (v := 1) X dX8_type_27 (by decide) ?_
    refine j_iadd (pc := 28) X dX8_type_28 ?_
    obtain ⟨G3, hG3, h⟩ := st3_s h
    refine j_put (pc := 29) X hG3 gf_X8_100 tyX8 tyX8_ok nmX8 (by decide) rfl rfl (Nat.le_of_ble_eq_true rfl) rfl rfl rfl dX8_type_29 ?_
    refine j_aload_n (pc := 32) X dX8_type_32 rfl 0 rfl ?_
    refine j_get (pc := 33) (v := .int (G3 22 0 7)) X gf_X8_100 (by decide) rfl rfl dX8_type_33 ?_
    exact j_ret (pc := 36) X hr hk (vp_nar_int _) (pr_s h).1 (pr_s h).2 dX8_type_36
  · rw [if_pos hc] at h
    refine j_bipush (pc := 9) (v := (-3)) X dX8_type_9 (by decide) ?_
    exact j_ret (pc := 11) X hr hk (vp_nar_int _) (pr_s h).1 (pr_s h).2 dX8_type_11
theorem dX8_clearText_0 : decode cX8_clearText 0 = .ok (.aload_n 0, 1) := by decide +kernel
theorem dX8_clearText_1 : decode cX8_clearText 1 = .ok (.getfield 100, 3) := by decide +kernel
theorem dX8_clearText_4 : decode cX8_clearText 4 = .ok (.istore_n 1, 1) := by decide +kernel
theorem dX8_clearText_5 : decode cX8_clearText 5 = .ok (.aload_n 0, 1) := by decide +kernel
theorem dX8_clearText_6 : decode cX8_clearText 6 = .ok (.iconst 0, 1) := by decide +kernel
theorem dX8_clearText_7 : decode cX8_clearText 7 = .ok (.putfield 100, 3) := by decide +kernel
theorem dX8_clearText_10 : decode cX8_clearText 10 = .ok (.iload_n 1, 1) := by decide +kernel
theorem dX8_clearText_11 : decode cX8_clearText 11 = .ok (.ireturn, 1) := by decide +kernel
set_option maxHeartbeats 4000000 in
set_option maxRecDepth 100000 in
theorem tX8_clearText (l : Launch) {E : ET} (hE : Aj E) (G : GT) {r : Int32} {G' : GT} (h : fX8_clearText G = some (r, G')) : CI l E yX8_clearText cX8_clearText 2 (some .int) 0 [.ref (Ad E 22 0)] G r G' := by
  refine Met_I (lv := [(0, .ref (Ad E 22 0))]) (by decide +kernel) hE (Nat.le_of_ble_eq_true rfl) rfl ?_
  intro p e s m args below meth c X hr hk
  unfold fX8_clearText at h
  refine j_aload_n (pc := 0) X dX8_clearText_0 rfl 0 rfl ?_
  refine j_get (pc := 1) (v := .int (G 22 0 7)) X gf_X8_100 (by decide) rfl rfl dX8_clearText_1 ?_
  refine j_istore_n (pc := 4) (lv' := [(0, .ref (Ad E 22 0)), (1, .int (G 22 0 7))]) X dX8_clearText_4 rfl (by decide) rfl ?_
  refine j_aload_n (pc := 5) X dX8_clearText_5 rfl 0 rfl ?_
  refine j_iconst (pc := 6) (v := 0) X dX8_clearText_6 (by decide) ?_
  obtain ⟨G1, hG1, h⟩ := st3_s h
  refine j_put (pc := 7) X hG1 gf_X8_100 tyX8 tyX8_ok nmX8 (by decide) rfl rfl (Nat.le_of_ble_eq_true rfl) rfl rfl rfl dX8_clearText_7 ?_
  refine j_iload_n (pc := 10) X dX8_clearText_10 rfl 1 rfl ?_
  exact j_ret (pc := 11) X hr hk (vp_nar_int _) (pr_s h).1 (pr_s h).2 dX8_clearText_11
theorem dX8_fault_0 : decode cX8_fault 0 = .ok (.iload_n 2, 1) := by decide +kernel
theorem dX8_fault_1 : decode cX8_fault 1 = .ok (.iconst 0, 1) := by decide +kernel
theorem dX8_fault_2 : decode cX8_fault 2 = .ok (.iconst 1, 1) := by decide +kernel
theorem dX8_fault_3 : decode cX8_fault 3 = .ok (.invokestatic 28, 3) := by decide +kernel
theorem dX8_fault_6 : decode cX8_fault 6 = .ok (.ifCond .ne 6, 3) := by decide +kernel
theorem dX8_fault_9 : decode cX8_fault 9 = .ok (.bipush (-2), 2) := by decide +kernel
theorem dX8_fault_11 : decode cX8_fault 11 = .ok (.ireturn, 1) := by decide +kernel
theorem dX8_fault_12 : decode cX8_fault 12 = .ok (.aload_n 0, 1) := by decide +kernel
theorem dX8_fault_13 : decode cX8_fault 13 = .ok (.iload_n 1, 1) := by decide +kernel
theorem dX8_fault_14 : decode cX8_fault 14 = .ok (.invokevirtual 96, 3) := by decide +kernel
theorem dX8_fault_17 : decode cX8_fault 17 = .ok (.istore_n 3, 1) := by decide +kernel
theorem dX8_fault_18 : decode cX8_fault 18 = .ok (.iload_n 3, 1) := by decide +kernel
theorem dX8_fault_19 : decode cX8_fault 19 = .ok (.ifCond .ge 8, 3) := by decide +kernel
theorem dX8_fault_22 : decode cX8_fault 22 = .ok (.bipush (-5), 2) := by decide +kernel
theorem dX8_fault_24 : decode cX8_fault 24 = .ok (.goto 15, 3) := by decide +kernel
theorem dX8_fault_27 : decode cX8_fault 27 = .ok (.iload_n 2, 1) := by decide +kernel
theorem dX8_fault_28 : decode cX8_fault 28 = .ok (.ifCond .ne 7, 3) := by decide +kernel
theorem dX8_fault_31 : decode cX8_fault 31 = .ok (.iload_n 3, 1) := by decide +kernel
theorem dX8_fault_32 : decode cX8_fault 32 = .ok (.goto 7, 3) := by decide +kernel
theorem dX8_fault_35 : decode cX8_fault 35 = .ok (.aload_n 0, 1) := by decide +kernel
theorem dX8_fault_36 : decode cX8_fault 36 = .ok (.getfield 128, 3) := by decide +kernel
theorem dX8_fault_39 : decode cX8_fault 39 = .ok (.ireturn, 1) := by decide +kernel
set_option maxHeartbeats 4000000 in
set_option maxRecDepth 100000 in
theorem tX8_fault (l : Launch) {E : ET} (hE : Aj E) (G : GT) (a1 : Int32) (a2 : Int32) {r : Int32} {G' : GT} (h : fX8_fault G a1 a2 = some (r, G')) : CI l E yX8_fault cX8_fault 4 (some .int) 2 [.ref (Ad E 22 0), .int a1, .int a2] G r G' := by
  refine Met_I (lv := [(0, .ref (Ad E 22 0)), (1, .int a1), (2, .int a2)]) (by decide +kernel) hE (Nat.le_of_ble_eq_true rfl) rfl ?_
  intro p e s m args below meth c X hr hk
  unfold fX8_fault at h
  refine j_iload_n (pc := 0) X dX8_fault_0 rfl 2 rfl ?_
  refine j_iconst (pc := 1) (v := 0) X dX8_fault_1 (by decide) ?_
  refine j_iconst (pc := 2) (v := 1) X dX8_fault_2 (by decide) ?_
  obtain ⟨r1, hc3, h⟩ := bd_s h
  refine j_staI (pc := 3) X (tX8_in l hE G a2 (0 : Int32) (1 : Int32) hc3) muX8_in (Or.inl q714) rfl rfl (Nat.le_of_ble_eq_true rfl) ⟨Nat.le_of_ble_eq_true rfl, Nat.le_of_ble_eq_true rfl⟩ dX8_fault_3 ?_
  refine j_if_ne (pc := 6) (tgt := 12) X dX8_fault_6 (by decide) (fun hc => ?_) (fun hc => ?_)
  · rw [if_neg hc] at h
    refine j_aload_n (pc := 12) X dX8_fault_12 rfl 0 rfl ?_
    refine j_iload_n (pc := 13) X dX8_fault_13 rfl 1 rfl ?_
    obtain ⟨r4, G5, hc6, h⟩ := bd2_s h
    refine j_callI (pc := 14) X (tX8_findFault l hE G a1 hc6) muX8_findFault (by decide) q757 rfl rfl (Nat.le_of_ble_eq_true rfl) ⟨Nat.le_of_ble_eq_true rfl, Nat.le_of_ble_eq_true rfl⟩ dX8_fault_14 ?_
    refine j_istore_n (pc := 17) (lv' := [(0, .ref (Ad E 22 0)), (1, .int a1), (2, .int a2), (3, .int r4)]) X dX8_fault_17 rfl (by decide) rfl ?_
    refine j_iload_n (pc := 18) X dX8_fault_18 rfl 3 rfl ?_
    refine j_if_ge (pc := 19) (tgt := 27) X dX8_fault_19 (by decide) (fun hc => ?_) (fun hc => ?_)
    · rw [if_pos hc] at h
      refine j_iload_n (pc := 27) X dX8_fault_27 rfl 2 rfl ?_
      refine j_if_ne (pc := 28) (tgt := 35) X dX8_fault_28 (by decide) (fun hc => ?_) (fun hc => ?_)
      · rw [if_neg hc] at h
        refine j_aload_n (pc := 35) X dX8_fault_35 rfl 0 rfl ?_
        refine j_get (pc := 36) (v := .int (G5 22 0 8)) X gf_X8_128 (by decide) rfl rfl dX8_fault_36 ?_
        exact j_ret (pc := 39) X hr hk (vp_nar_int _) (pr_s h).1 (pr_s h).2 dX8_fault_39
      · rw [if_pos hc] at h
        refine j_iload_n (pc := 31) X dX8_fault_31 rfl 3 rfl ?_
        refine j_goto (pc := 32) (tgt := 39) X dX8_fault_32 (by decide) ?_
        exact j_ret (pc := 39) X hr hk (vp_nar_int _) (pr_s h).1 (pr_s h).2 dX8_fault_39
    · rw [if_neg hc] at h
      refine j_bipush (pc := 22) (v := (-5)) X dX8_fault_22 (by decide) ?_
      refine j_goto (pc := 24) (tgt := 39) X dX8_fault_24 (by decide) ?_
      exact j_ret (pc := 39) X hr hk (vp_nar_int _) (pr_s h).1 (pr_s h).2 dX8_fault_39
  · rw [if_pos hc] at h
    refine j_bipush (pc := 9) (v := (-2)) X dX8_fault_9 (by decide) ?_
    exact j_ret (pc := 11) X hr hk (vp_nar_int _) (pr_s h).1 (pr_s h).2 dX8_fault_11
theorem dX8_runAt_0 : decode cX8_runAt 0 = .ok (.iconst 0, 1) := by decide +kernel
theorem dX8_runAt_1 : decode cX8_runAt 1 = .ok (.istore_n 2, 1) := by decide +kernel
theorem dX8_runAt_2 : decode cX8_runAt 2 = .ok (.iconst 0, 1) := by decide +kernel
theorem dX8_runAt_3 : decode cX8_runAt 3 = .ok (.istore_n 3, 1) := by decide +kernel
theorem dX8_runAt_4 : decode cX8_runAt 4 = .ok (.iload_n 3, 1) := by decide +kernel
theorem dX8_runAt_5 : decode cX8_runAt 5 = .ok (.iload_n 1, 1) := by decide +kernel
theorem dX8_runAt_6 : decode cX8_runAt 6 = .ok (.if_icmp .gt 25, 3) := by decide +kernel
theorem dX8_runAt_9 : decode cX8_runAt 9 = .ok (.iload_n 2, 1) := by decide +kernel
theorem dX8_runAt_10 : decode cX8_runAt 10 = .ok (.aload_n 0, 1) := by decide +kernel
theorem dX8_runAt_11 : decode cX8_runAt 11 = .ok (.iload_n 3, 1) := by decide +kernel
theorem dX8_runAt_12 : decode cX8_runAt 12 = .ok (.invokevirtual 54, 3) := by decide +kernel
theorem dX8_runAt_15 : decode cX8_runAt 15 = .ok (.ifCond .eq 7, 3) := by decide +kernel
theorem dX8_runAt_18 : decode cX8_runAt 18 = .ok (.iconst 1, 1) := by decide +kernel
theorem dX8_runAt_19 : decode cX8_runAt 19 = .ok (.goto 4, 3) := by decide +kernel
theorem dX8_runAt_22 : decode cX8_runAt 22 = .ok (.iconst 0, 1) := by decide +kernel
theorem dX8_runAt_23 : decode cX8_runAt 23 = .ok (.iadd, 1) := by decide +kernel
theorem dX8_runAt_24 : decode cX8_runAt 24 = .ok (.istore_n 2, 1) := by decide +kernel
theorem dX8_runAt_25 : decode cX8_runAt 25 = .ok (.iinc 3 1, 3) := by decide +kernel
theorem dX8_runAt_28 : decode cX8_runAt 28 = .ok (.goto (-24), 3) := by decide +kernel
theorem dX8_runAt_31 : decode cX8_runAt 31 = .ok (.aload_n 0, 1) := by decide +kernel
theorem dX8_runAt_32 : decode cX8_runAt 32 = .ok (.iload_n 1, 1) := by decide +kernel
theorem dX8_runAt_33 : decode cX8_runAt 33 = .ok (.invokevirtual 51, 3) := by decide +kernel
theorem dX8_runAt_36 : decode cX8_runAt 36 = .ok (.ifCond .eq 9, 3) := by decide +kernel
theorem dX8_runAt_39 : decode cX8_runAt 39 = .ok (.iload_n 2, 1) := by decide +kernel
theorem dX8_runAt_40 : decode cX8_runAt 40 = .ok (.iconst 1, 1) := by decide +kernel
theorem dX8_runAt_41 : decode cX8_runAt 41 = .ok (.isub, 1) := by decide +kernel
theorem dX8_runAt_42 : decode cX8_runAt 42 = .ok (.goto 5, 3) := by decide +kernel
theorem dX8_runAt_45 : decode cX8_runAt 45 = .ok (.bipush (-5), 2) := by decide +kernel
theorem dX8_runAt_47 : decode cX8_runAt 47 = .ok (.ireturn, 1) := by decide +kernel
set_option maxHeartbeats 4000000 in
set_option maxRecDepth 100000 in
theorem tX8_runAt_4 (l : Launch) {E : ET} (hE : Aj E) {p : Program} {e : Env} {s : State} {m : MethodId} {args : Array Value} {below : List Frame} {meth : Method} {c : Code} (X : Cx p (rmL 4) s m args c yX8_runAt.cls cX8_runAt 4 E (Aw E) 0 0) (hr : meth.sig.returnType = (some .int)) (hk : meth.locks = false) {r : Int32} (G : GT) (a1 : Int32) : ∀ (n : Nat) (a2 a3 : Int32), fX8_runAt_4 G a1 n a2 a3 = some r → J p l e (rmL 4) s m args below meth c E (Aw E) s.heap 4 0 0 (MQ below (QI E r G) args s 0 0 (Aw E)) G 4 [(0, .ref (Ad E 22 0)), (1, .int a1), (2, .int a2), (3, .int a3)] [] := by
  intro n
  induction n with
  | zero =>
    intro a2 a3 h
    simp [fX8_runAt_4] at h
  | succ n ih =>
    intro a2 a3 h
    rw [fX8_runAt_4] at h
    refine j_iload_n (pc := 4) X dX8_runAt_4 rfl 3 rfl ?_
    refine j_iload_n (pc := 5) X dX8_runAt_5 rfl 1 rfl ?_
    refine j_icmp_gt (pc := 6) (tgt := 31) X dX8_runAt_6 (by decide) (fun hc => ?_) (fun hc => ?_)
    · rw [if_pos hc] at h
      refine j_aload_n (pc := 31) X dX8_runAt_31 rfl 0 rfl ?_
      refine j_iload_n (pc := 32) X dX8_runAt_32 rfl 1 rfl ?_
      obtain ⟨r1, hc3, h⟩ := bd_s h
      refine j_callI (pc := 33) X (tX8_isKnot l hE G a1 hc3) muX8_isKnot (by decide) q725 rfl rfl (Nat.le_of_ble_eq_true rfl) ⟨Nat.le_of_ble_eq_true rfl, Nat.le_of_ble_eq_true rfl⟩ dX8_runAt_33 ?_
      refine j_if_eq (pc := 36) (tgt := 45) X dX8_runAt_36 (by decide) (fun hc => ?_) (fun hc => ?_)
      · rw [if_pos hc] at h
        refine j_bipush (pc := 45) (v := (-5)) X dX8_runAt_45 (by decide) ?_
        exact j_ret (pc := 47) X hr hk (vp_nar_int _) (Option.some.inj h) rfl dX8_runAt_47
      · rw [if_neg hc] at h
        refine j_iload_n (pc := 39) X dX8_runAt_39 rfl 2 rfl ?_
        refine j_iconst (pc := 40) (v := 1) X dX8_runAt_40 (by decide) ?_
        refine j_isub (pc := 41) X dX8_runAt_41 ?_
        refine j_goto (pc := 42) (tgt := 47) X dX8_runAt_42 (by decide) ?_
        exact j_ret (pc := 47) X hr hk (vp_nar_int _) (Option.some.inj h) rfl dX8_runAt_47
    · rw [if_neg hc] at h
      refine j_iload_n (pc := 9) X dX8_runAt_9 rfl 2 rfl ?_
      refine j_aload_n (pc := 10) X dX8_runAt_10 rfl 0 rfl ?_
      refine j_iload_n (pc := 11) X dX8_runAt_11 rfl 3 rfl ?_
      obtain ⟨r4, hc6, h⟩ := bd_s h
      refine j_callI (pc := 12) X (tX8_begins l hE G a3 hc6) muX8_begins (by decide) q721 rfl rfl (Nat.le_of_ble_eq_true rfl) ⟨Nat.le_of_ble_eq_true rfl, Nat.le_of_ble_eq_true rfl⟩ dX8_runAt_12 ?_
      refine j_if_eq (pc := 15) (tgt := 22) X dX8_runAt_15 (by decide) (fun hc => ?_) (fun hc => ?_)
      · rw [if_pos hc] at h
        refine j_iconst (pc := 22) (v := 0) X dX8_runAt_22 (by decide) ?_
        refine j_iadd (pc := 23) X dX8_runAt_23 ?_
        refine j_istore_n (pc := 24) (lv' := [(0, .ref (Ad E 22 0)), (1, .int a1), (2, .int (a2 + (0 : Int32))), (3, .int a3)]) X dX8_runAt_24 rfl (by decide) rfl ?_
        refine j_iinc (pc := 25) (q := 3) (v := (a3 + (1 : Int32))) (lv' := [(0, .ref (Ad E 22 0)), (1, .int a1), (2, .int (a2 + (0 : Int32))), (3, .int (a3 + (1 : Int32)))]) X dX8_runAt_25 rfl rfl (by decide) rfl ?_
        refine j_goto (pc := 28) (tgt := 4) X dX8_runAt_28 (by decide) ?_
        exact ih (a2 + (0 : Int32)) (a3 + (1 : Int32)) h
      · rw [if_neg hc] at h
        refine j_iconst (pc := 18) (v := 1) X dX8_runAt_18 (by decide) ?_
        refine j_goto (pc := 19) (tgt := 23) X dX8_runAt_19 (by decide) ?_
        refine j_iadd (pc := 23) X dX8_runAt_23 ?_
        refine j_istore_n (pc := 24) (lv' := [(0, .ref (Ad E 22 0)), (1, .int a1), (2, .int (a2 + (1 : Int32))), (3, .int a3)]) X dX8_runAt_24 rfl (by decide) rfl ?_
        refine j_iinc (pc := 25) (q := 3) (v := (a3 + (1 : Int32))) (lv' := [(0, .ref (Ad E 22 0)), (1, .int a1), (2, .int (a2 + (1 : Int32))), (3, .int (a3 + (1 : Int32)))]) X dX8_runAt_25 rfl rfl (by decide) rfl ?_
        refine j_goto (pc := 28) (tgt := 4) X dX8_runAt_28 (by decide) ?_
        exact ih (a2 + (1 : Int32)) (a3 + (1 : Int32)) h
set_option maxHeartbeats 4000000 in
set_option maxRecDepth 100000 in
theorem tX8_runAt (l : Launch) {E : ET} (hE : Aj E) (G : GT) (a1 : Int32) {r : Int32} (h : fX8_runAt G a1 = some r) : CI l E yX8_runAt cX8_runAt 4 (some .int) 4 [.ref (Ad E 22 0), .int a1] G r G := by
  refine Met_I (lv := [(0, .ref (Ad E 22 0)), (1, .int a1)]) (by decide +kernel) hE (Nat.le_of_ble_eq_true rfl) rfl ?_
  intro p e s m args below meth c X hr hk
  unfold fX8_runAt at h
  refine j_iconst (pc := 0) (v := 0) X dX8_runAt_0 (by decide) ?_
  refine j_istore_n (pc := 1) (lv' := [(0, .ref (Ad E 22 0)), (1, .int a1), (2, .int (0 : Int32))]) X dX8_runAt_1 rfl (by decide) rfl ?_
  refine j_iconst (pc := 2) (v := 0) X dX8_runAt_2 (by decide) ?_
  refine j_istore_n (pc := 3) (lv' := [(0, .ref (Ad E 22 0)), (1, .int a1), (2, .int (0 : Int32)), (3, .int (0 : Int32))]) X dX8_runAt_3 rfl (by decide) rfl ?_
  exact tX8_runAt_4 l hE X hr hk G a1 FU (0 : Int32) (0 : Int32) h
theorem dX8_knot_0 : decode cX8_knot 0 = .ok (.iload_n 1, 1) := by decide +kernel
theorem dX8_knot_1 : decode cX8_knot 1 = .ok (.invokestatic 47, 3) := by decide +kernel
theorem dX8_knot_4 : decode cX8_knot 4 = .ok (.ifCond .ne 5, 3) := by decide +kernel
theorem dX8_knot_7 : decode cX8_knot 7 = .ok (.iconst (-1), 1) := by decide +kernel
theorem dX8_knot_8 : decode cX8_knot 8 = .ok (.ireturn, 1) := by decide +kernel
theorem dX8_knot_9 : decode cX8_knot 9 = .ok (.iload_n 2, 1) := by decide +kernel
theorem dX8_knot_10 : decode cX8_knot 10 = .ok (.tableswitch 51 0 2 #[26, 35, 45], 26) := by decide +kernel
theorem dX8_knot_36 : decode cX8_knot 36 = .ok (.aload_n 0, 1) := by decide +kernel
theorem dX8_knot_37 : decode cX8_knot 37 = .ok (.getfield 7, 3) := by decide +kernel
theorem dX8_knot_40 : decode cX8_knot 40 = .ok (.iconst 0, 1) := by decide +kernel
theorem dX8_knot_41 : decode cX8_knot 41 = .ok (.iload_n 1, 1) := by decide +kernel
theorem dX8_knot_42 : decode cX8_knot 42 = .ok (.iadd, 1) := by decide +kernel
theorem dX8_knot_43 : decode cX8_knot 43 = .ok (.iaload, 1) := by decide +kernel
theorem dX8_knot_44 : decode cX8_knot 44 = .ok (.ireturn, 1) := by decide +kernel
theorem dX8_knot_45 : decode cX8_knot 45 = .ok (.aload_n 0, 1) := by decide +kernel
theorem dX8_knot_46 : decode cX8_knot 46 = .ok (.getfield 7, 3) := by decide +kernel
theorem dX8_knot_49 : decode cX8_knot 49 = .ok (.bipush 40, 2) := by decide +kernel
theorem dX8_knot_51 : decode cX8_knot 51 = .ok (.iload_n 1, 1) := by decide +kernel
theorem dX8_knot_52 : decode cX8_knot 52 = .ok (.iadd, 1) := by decide +kernel
theorem dX8_knot_53 : decode cX8_knot 53 = .ok (.iaload, 1) := by decide +kernel
theorem dX8_knot_54 : decode cX8_knot 54 = .ok (.ireturn, 1) := by decide +kernel
theorem dX8_knot_55 : decode cX8_knot 55 = .ok (.aload_n 0, 1) := by decide +kernel
theorem dX8_knot_56 : decode cX8_knot 56 = .ok (.iload_n 1, 1) := by decide +kernel
theorem dX8_knot_57 : decode cX8_knot 57 = .ok (.invokevirtual 131, 3) := by decide +kernel
theorem dX8_knot_60 : decode cX8_knot 60 = .ok (.ireturn, 1) := by decide +kernel
theorem dX8_knot_61 : decode cX8_knot 61 = .ok (.bipush (-2), 2) := by decide +kernel
theorem dX8_knot_63 : decode cX8_knot 63 = .ok (.ireturn, 1) := by decide +kernel
set_option maxHeartbeats 4000000 in
set_option maxRecDepth 100000 in
theorem tX8_knot (l : Launch) {E : ET} (hE : Aj E) (G : GT) (a1 : Int32) (a2 : Int32) {r : Int32} (h : fX8_knot G a1 a2 = some r) : CI l E yX8_knot cX8_knot 3 (some .int) 5 [.ref (Ad E 22 0), .int a1, .int a2] G r G := by
  refine Met_I (lv := [(0, .ref (Ad E 22 0)), (1, .int a1), (2, .int a2)]) (by decide +kernel) hE (Nat.le_of_ble_eq_true rfl) rfl ?_
  intro p e s m args below meth c X hr hk
  unfold fX8_knot at h
  refine j_iload_n (pc := 0) X dX8_knot_0 rfl 1 rfl ?_
  obtain ⟨r1, hc3, h⟩ := bd_s h
  refine j_staI (pc := 1) X (tX8_isPlace l hE G a1 hc3) muX8_isPlace (Or.inl q711) rfl rfl (Nat.le_of_ble_eq_true rfl) ⟨Nat.le_of_ble_eq_true rfl, Nat.le_of_ble_eq_true rfl⟩ dX8_knot_1 ?_
  refine j_if_ne (pc := 4) (tgt := 9) X dX8_knot_4 (by decide) (fun hc => ?_) (fun hc => ?_)
  · rw [if_neg hc] at h
    refine j_iload_n (pc := 9) X dX8_knot_9 rfl 2 rfl ?_
    by_cases hx4 : a2 = 0
    · rw [if_pos hx4] at h
      refine j_tabIn (pc := 10) (tgt := 36) (off := 26) X dX8_knot_10 (by rw [hx4]; decide) (by rw [hx4]; decide) (by rw [hx4]; decide) (by decide) ?_
      refine j_aload_n (pc := 36) X dX8_knot_36 rfl 0 rfl ?_
      refine j_get (pc := 37) (v := .ref (Ad E 23 0)) X gf_X8_7 (by decide) rfl rfl dX8_knot_37 ?_
      refine j_iconst (pc := 40) (v := 0) X dX8_knot_40 (by decide) ?_
      refine j_iload_n (pc := 41) X dX8_knot_41 rfl 1 rfl ?_
      refine j_iadd (pc := 42) X dX8_knot_42 ?_
      obtain ⟨hg5, h⟩ := gd_s h
      refine j_iald (pc := 43) (n := 289) X (by decide) rfl hg5 dX8_knot_43 ?_
      exact j_ret (pc := 44) X hr hk (vp_nar_int _) (Option.some.inj h) rfl dX8_knot_44
    rw [if_neg hx4] at h
    by_cases hx6 : a2 = 1
    · rw [if_pos hx6] at h
      refine j_tabIn (pc := 10) (tgt := 45) (off := 35) X dX8_knot_10 (by rw [hx6]; decide) (by rw [hx6]; decide) (by rw [hx6]; decide) (by decide) ?_
      refine j_aload_n (pc := 45) X dX8_knot_45 rfl 0 rfl ?_
      refine j_get (pc := 46) (v := .ref (Ad E 23 0)) X gf_X8_7 (by decide) rfl rfl dX8_knot_46 ?_
      refine j_bipush (pc := 49) (v := 40) X dX8_knot_49 (by decide) ?_
      refine j_iload_n (pc := 51) X dX8_knot_51 rfl 1 rfl ?_
      refine j_iadd (pc := 52) X dX8_knot_52 ?_
      obtain ⟨hg7, h⟩ := gd_s h
      refine j_iald (pc := 53) (n := 289) X (by decide) rfl hg7 dX8_knot_53 ?_
      exact j_ret (pc := 54) X hr hk (vp_nar_int _) (Option.some.inj h) rfl dX8_knot_54
    rw [if_neg hx6] at h
    by_cases hx8 : a2 = 2
    · rw [if_pos hx8] at h
      refine j_tabIn (pc := 10) (tgt := 55) (off := 45) X dX8_knot_10 (by rw [hx8]; decide) (by rw [hx8]; decide) (by rw [hx8]; decide) (by decide) ?_
      refine j_aload_n (pc := 55) X dX8_knot_55 rfl 0 rfl ?_
      refine j_iload_n (pc := 56) X dX8_knot_56 rfl 1 rfl ?_
      obtain ⟨r9, hc11, h⟩ := bd_s h
      refine j_callI (pc := 57) X (tX8_runAt l hE G a1 hc11) muX8_runAt (by decide) q856 rfl rfl (Nat.le_of_ble_eq_true rfl) ⟨Nat.le_of_ble_eq_true rfl, Nat.le_of_ble_eq_true rfl⟩ dX8_knot_57 ?_
      exact j_ret (pc := 60) X hr hk (vp_nar_int _) (Option.some.inj h) rfl dX8_knot_60
    rw [if_neg hx8] at h
    refine j_tabOut (pc := 10) (tgt := 61) X dX8_knot_10 (tab_out 2 (by decide) (fun j hj => by match j, hj with | 0, _ => exact hx4 | 1, _ => exact hx6 | 2, _ => exact hx8 | j + 3, hj => omega)) (by decide) ?_
    refine j_bipush (pc := 61) (v := (-2)) X dX8_knot_61 (by decide) ?_
    exact j_ret (pc := 63) X hr hk (vp_nar_int _) (Option.some.inj h) rfl dX8_knot_63
  · rw [if_pos hc] at h
    refine j_iconst (pc := 7) (v := (-1)) X dX8_knot_7 (by decide) ?_
    exact j_ret (pc := 8) X hr hk (vp_nar_int _) (Option.some.inj h) rfl dX8_knot_8
theorem dX8_loosest_0 : decode cX8_loosest 0 = .ok (.bipush 9, 2) := by decide +kernel
theorem dX8_loosest_2 : decode cX8_loosest 2 = .ok (.istore_n 2, 1) := by decide +kernel
theorem dX8_loosest_3 : decode cX8_loosest 3 = .ok (.iload_n 1, 1) := by decide +kernel
theorem dX8_loosest_4 : decode cX8_loosest 4 = .ok (.istore_n 3, 1) := by decide +kernel
theorem dX8_loosest_5 : decode cX8_loosest 5 = .ok (.aload_n 0, 1) := by decide +kernel
theorem dX8_loosest_6 : decode cX8_loosest 6 = .ok (.iload_n 3, 1) := by decide +kernel
theorem dX8_loosest_7 : decode cX8_loosest 7 = .ok (.invokevirtual 51, 3) := by decide +kernel
theorem dX8_loosest_10 : decode cX8_loosest 10 = .ok (.ifCond .eq 36, 3) := by decide +kernel
theorem dX8_loosest_13 : decode cX8_loosest 13 = .ok (.aload_n 0, 1) := by decide +kernel
theorem dX8_loosest_14 : decode cX8_loosest 14 = .ok (.getfield 7, 3) := by decide +kernel
theorem dX8_loosest_17 : decode cX8_loosest 17 = .ok (.bipush 40, 2) := by decide +kernel
theorem dX8_loosest_19 : decode cX8_loosest 19 = .ok (.iload_n 3, 1) := by decide +kernel
theorem dX8_loosest_20 : decode cX8_loosest 20 = .ok (.iadd, 1) := by decide +kernel
theorem dX8_loosest_21 : decode cX8_loosest 21 = .ok (.iaload, 1) := by decide +kernel
theorem dX8_loosest_22 : decode cX8_loosest 22 = .ok (.iload_n 2, 1) := by decide +kernel
theorem dX8_loosest_23 : decode cX8_loosest 23 = .ok (.if_icmp .ge 15, 3) := by decide +kernel
theorem dX8_loosest_26 : decode cX8_loosest 26 = .ok (.aload_n 0, 1) := by decide +kernel
theorem dX8_loosest_27 : decode cX8_loosest 27 = .ok (.getfield 7, 3) := by decide +kernel
theorem dX8_loosest_30 : decode cX8_loosest 30 = .ok (.bipush 40, 2) := by decide +kernel
theorem dX8_loosest_32 : decode cX8_loosest 32 = .ok (.iload_n 3, 1) := by decide +kernel
theorem dX8_loosest_33 : decode cX8_loosest 33 = .ok (.iadd, 1) := by decide +kernel
theorem dX8_loosest_34 : decode cX8_loosest 34 = .ok (.iaload, 1) := by decide +kernel
theorem dX8_loosest_35 : decode cX8_loosest 35 = .ok (.goto 4, 3) := by decide +kernel
theorem dX8_loosest_38 : decode cX8_loosest 38 = .ok (.iload_n 2, 1) := by decide +kernel
theorem dX8_loosest_39 : decode cX8_loosest 39 = .ok (.istore_n 2, 1) := by decide +kernel
theorem dX8_loosest_40 : decode cX8_loosest 40 = .ok (.iinc 3 1, 3) := by decide +kernel
theorem dX8_loosest_43 : decode cX8_loosest 43 = .ok (.goto (-38), 3) := by decide +kernel
theorem dX8_loosest_46 : decode cX8_loosest 46 = .ok (.iload_n 2, 1) := by decide +kernel
theorem dX8_loosest_47 : decode cX8_loosest 47 = .ok (.ireturn, 1) := by decide +kernel
set_option maxHeartbeats 4000000 in
set_option maxRecDepth 100000 in
theorem tX8_loosest_5 (l : Launch) {E : ET} (hE : Aj E) {p : Program} {e : Env} {s : State} {m : MethodId} {args : Array Value} {below : List Frame} {meth : Method} {c : Code} (X : Cx p (rmL 3) s m args c yX8_loosest.cls cX8_loosest 4 E (Aw E) 0 0) (hr : meth.sig.returnType = (some .int)) (hk : meth.locks = false) {r : Int32} (G : GT) : ∀ (n : Nat) (a2 a3 : Int32), fX8_loosest_5 G n a2 a3 = some r → J p l e (rmL 3) s m args below meth c E (Aw E) s.heap 4 0 0 (MQ below (QI E r G) args s 0 0 (Aw E)) G 5 [(0, .ref (Ad E 22 0)), (2, .int a2), (3, .int a3)] [] := by
  intro n
  induction n with
  | zero =>
    intro a2 a3 h
    simp [fX8_loosest_5] at h
  | succ n ih =>
    intro a2 a3 h
    rw [fX8_loosest_5] at h
    refine j_aload_n (pc := 5) X dX8_loosest_5 rfl 0 rfl ?_
    refine j_iload_n (pc := 6) X dX8_loosest_6 rfl 2 rfl ?_
    obtain ⟨r1, hc3, h⟩ := bd_s h
    refine j_callI (pc := 7) X (tX8_isKnot l hE G a3 hc3) muX8_isKnot (by decide) q725 rfl rfl (Nat.le_of_ble_eq_true rfl) ⟨Nat.le_of_ble_eq_true rfl, Nat.le_of_ble_eq_true rfl⟩ dX8_loosest_7 ?_
    refine j_if_eq (pc := 10) (tgt := 46) X dX8_loosest_10 (by decide) (fun hc => ?_) (fun hc => ?_)
    · rw [if_pos hc] at h
      refine j_iload_n (pc := 46) X dX8_loosest_46 rfl 1 rfl ?_
      exact j_ret (pc := 47) X hr hk (vp_nar_int _) (Option.some.inj h) rfl dX8_loosest_47
    · rw [if_neg hc] at h
      refine j_aload_n (pc := 13) X dX8_loosest_13 rfl 0 rfl ?_
      refine j_get (pc := 14) (v := .ref (Ad E 23 0)) X gf_X8_7 (by decide) rfl rfl dX8_loosest_14 ?_
      refine j_bipush (pc := 17) (v := 40) X dX8_loosest_17 (by decide) ?_
      refine j_iload_n (pc := 19) X dX8_loosest_19 rfl 2 rfl ?_
      refine j_iadd (pc := 20) X dX8_loosest_20 ?_
      obtain ⟨hg4, h⟩ := gd_s h
      refine j_iald (pc := 21) (n := 289) X (by decide) rfl hg4 dX8_loosest_21 ?_
      refine j_iload_n (pc := 22) X dX8_loosest_22 rfl 1 rfl ?_
      refine j_icmp_ge (pc := 23) (tgt := 38) X dX8_loosest_23 (by decide) (fun hc => ?_) (fun hc => ?_)
      · rw [if_pos hc] at h
        refine j_iload_n (pc := 38) X dX8_loosest_38 rfl 1 rfl ?_
        refine j_istore_n (pc := 39) (lv' := [(0, .ref (Ad E 22 0)), (2, .int a2), (3, .int a3)]) X dX8_loosest_39 rfl (by decide) rfl ?_
        refine j_iinc (pc := 40) (q := 2) (v := (a3 + (1 : Int32))) (lv' := [(0, .ref (Ad E 22 0)), (2, .int a2), (3, .int (a3 + (1 : Int32)))]) X dX8_loosest_40 rfl rfl (by decide) rfl ?_
        refine j_goto (pc := 43) (tgt := 5) X dX8_loosest_43 (by decide) ?_
        exact ih a2 (a3 + (1 : Int32)) h
      · rw [if_neg hc] at h
        refine j_aload_n (pc := 26) X dX8_loosest_26 rfl 0 rfl ?_
        refine j_get (pc := 27) (v := .ref (Ad E 23 0)) X gf_X8_7 (by decide) rfl rfl dX8_loosest_27 ?_
        refine j_bipush (pc := 30) (v := 40) X dX8_loosest_30 (by decide) ?_
        refine j_iload_n (pc := 32) X dX8_loosest_32 rfl 2 rfl ?_
        refine j_iadd (pc := 33) X dX8_loosest_33 ?_
        obtain ⟨hg5, h⟩ := gd_s h
        refine j_iald (pc := 34) (n := 289) X (by decide) rfl hg5 dX8_loosest_34 ?_
        refine j_goto (pc := 35) (tgt := 39) X dX8_loosest_35 (by decide) ?_
        refine j_istore_n (pc := 39) (lv' := [(0, .ref (Ad E 22 0)), (2, .int (G 23 0 ((40 : Int32) + a3).toNatClampNeg)), (3, .int a3)]) X dX8_loosest_39 rfl (by decide) rfl ?_
        refine j_iinc (pc := 40) (q := 2) (v := (a3 + (1 : Int32))) (lv' := [(0, .ref (Ad E 22 0)), (2, .int (G 23 0 ((40 : Int32) + a3).toNatClampNeg)), (3, .int (a3 + (1 : Int32)))]) X dX8_loosest_40 rfl rfl (by decide) rfl ?_
        refine j_goto (pc := 43) (tgt := 5) X dX8_loosest_43 (by decide) ?_
        exact ih (G 23 0 ((40 : Int32) + a3).toNatClampNeg) (a3 + (1 : Int32)) h
set_option maxHeartbeats 4000000 in
set_option maxRecDepth 100000 in
theorem tX8_loosest (l : Launch) {E : ET} (hE : Aj E) (G : GT) (a1 : Int32) {r : Int32} (h : fX8_loosest G a1 = some r) : CI l E yX8_loosest cX8_loosest 4 (some .int) 3 [.ref (Ad E 22 0), .int a1] G r G := by
  refine Met_I (lv := [(0, .ref (Ad E 22 0)), (1, .int a1)]) (by decide +kernel) hE (Nat.le_of_ble_eq_true rfl) rfl ?_
  intro p e s m args below meth c X hr hk
  unfold fX8_loosest at h
  refine j_bipush (pc := 0) (v := 9) X dX8_loosest_0 (by decide) ?_
  refine j_istore_n (pc := 2) (lv' := [(0, .ref (Ad E 22 0)), (1, .int a1), (2, .int (9 : Int32))]) X dX8_loosest_2 rfl (by decide) rfl ?_
  refine j_iload_n (pc := 3) X dX8_loosest_3 rfl 1 rfl ?_
  refine j_istore_n (pc := 4) (lv' := [(0, .ref (Ad E 22 0)), (1, .int a1), (2, .int (9 : Int32)), (3, .int a1)]) X dX8_loosest_4 rfl (by decide) rfl ?_
  refine j_lv (lv' := [(0, .ref (Ad E 22 0)), (2, .int (9 : Int32)), (3, .int a1)]) [0, 2, 3] rfl ?_
  exact tX8_loosest_5 l hE X hr hk G FU (9 : Int32) a1 h
theorem dX8_run_0 : decode cX8_run 0 = .ok (.aload_n 0, 1) := by decide +kernel
theorem dX8_run_1 : decode cX8_run 1 = .ok (.iload_n 1, 1) := by decide +kernel
theorem dX8_run_2 : decode cX8_run 2 = .ok (.invokevirtual 134, 3) := by decide +kernel
theorem dX8_run_5 : decode cX8_run 5 = .ok (.ifCond .ne 5, 3) := by decide +kernel
theorem dX8_run_8 : decode cX8_run 8 = .ok (.iconst (-1), 1) := by decide +kernel
theorem dX8_run_9 : decode cX8_run 9 = .ok (.ireturn, 1) := by decide +kernel
theorem dX8_run_10 : decode cX8_run 10 = .ok (.iload_n 2, 1) := by decide +kernel
theorem dX8_run_11 : decode cX8_run 11 = .ok (.tableswitch 61 0 3 #[29, 35, 45, 51], 29) := by decide +kernel
theorem dX8_run_40 : decode cX8_run 40 = .ok (.aload_n 0, 1) := by decide +kernel
theorem dX8_run_41 : decode cX8_run 41 = .ok (.iload_n 1, 1) := by decide +kernel
theorem dX8_run_42 : decode cX8_run 42 = .ok (.invokevirtual 75, 3) := by decide +kernel
theorem dX8_run_45 : decode cX8_run 45 = .ok (.ireturn, 1) := by decide +kernel
theorem dX8_run_46 : decode cX8_run 46 = .ok (.aload_n 0, 1) := by decide +kernel
theorem dX8_run_47 : decode cX8_run 47 = .ok (.aload_n 0, 1) := by decide +kernel
theorem dX8_run_48 : decode cX8_run 48 = .ok (.iload_n 1, 1) := by decide +kernel
theorem dX8_run_49 : decode cX8_run 49 = .ok (.invokevirtual 75, 3) := by decide +kernel
theorem dX8_run_52 : decode cX8_run 52 = .ok (.invokevirtual 68, 3) := by decide +kernel
theorem dX8_run_55 : decode cX8_run 55 = .ok (.ireturn, 1) := by decide +kernel
theorem dX8_run_56 : decode cX8_run 56 = .ok (.aload_n 0, 1) := by decide +kernel
theorem dX8_run_57 : decode cX8_run 57 = .ok (.iload_n 1, 1) := by decide +kernel
theorem dX8_run_58 : decode cX8_run 58 = .ok (.invokevirtual 137, 3) := by decide +kernel
theorem dX8_run_61 : decode cX8_run 61 = .ok (.ireturn, 1) := by decide +kernel
theorem dX8_run_62 : decode cX8_run 62 = .ok (.aload_n 0, 1) := by decide +kernel
theorem dX8_run_63 : decode cX8_run 63 = .ok (.aload_n 0, 1) := by decide +kernel
theorem dX8_run_64 : decode cX8_run 64 = .ok (.iload_n 1, 1) := by decide +kernel
theorem dX8_run_65 : decode cX8_run 65 = .ok (.invokevirtual 75, 3) := by decide +kernel
theorem dX8_run_68 : decode cX8_run 68 = .ok (.invokevirtual 140, 3) := by decide +kernel
theorem dX8_run_71 : decode cX8_run 71 = .ok (.ireturn, 1) := by decide +kernel
theorem dX8_run_72 : decode cX8_run 72 = .ok (.bipush (-2), 2) := by decide +kernel
theorem dX8_run_74 : decode cX8_run 74 = .ok (.ireturn, 1) := by decide +kernel
set_option maxHeartbeats 4000000 in
set_option maxRecDepth 100000 in
theorem tX8_run (l : Launch) {E : ET} (hE : Aj E) (G : GT) (a1 : Int32) (a2 : Int32) {r : Int32} (h : fX8_run G a1 a2 = some r) : CI l E yX8_run cX8_run 3 (some .int) 6 [.ref (Ad E 22 0), .int a1, .int a2] G r G := by
  refine Met_I (lv := [(0, .ref (Ad E 22 0)), (1, .int a1), (2, .int a2)]) (by decide +kernel) hE (Nat.le_of_ble_eq_true rfl) rfl ?_
  intro p e s m args below meth c X hr hk
  unfold fX8_run at h
  refine j_aload_n (pc := 0) X dX8_run_0 rfl 0 rfl ?_
  refine j_iload_n (pc := 1) X dX8_run_1 rfl 1 rfl ?_
  obtain ⟨r1, hc3, h⟩ := bd_s h
  refine j_callI (pc := 2) X (tX8_isRun l hE G a1 hc3) muX8_isRun (by decide) q864 rfl rfl (Nat.le_of_ble_eq_true rfl) ⟨Nat.le_of_ble_eq_true rfl, Nat.le_of_ble_eq_true rfl⟩ dX8_run_2 ?_
  refine j_if_ne (pc := 5) (tgt := 10) X dX8_run_5 (by decide) (fun hc => ?_) (fun hc => ?_)
  · rw [if_neg hc] at h
    refine j_iload_n (pc := 10) X dX8_run_10 rfl 2 rfl ?_
    by_cases hx4 : a2 = 0
    · rw [if_pos hx4] at h
      refine j_tabIn (pc := 11) (tgt := 40) (off := 29) X dX8_run_11 (by rw [hx4]; decide) (by rw [hx4]; decide) (by rw [hx4]; decide) (by decide) ?_
      refine j_aload_n (pc := 40) X dX8_run_40 rfl 0 rfl ?_
      refine j_iload_n (pc := 41) X dX8_run_41 rfl 1 rfl ?_
      obtain ⟨r5, hc7, h⟩ := bd_s h
      refine j_callI (pc := 42) X (tX8_firstOf l hE G a1 hc7) muX8_firstOf (by decide) q868 rfl rfl (Nat.le_of_ble_eq_true rfl) ⟨Nat.le_of_ble_eq_true rfl, Nat.le_of_ble_eq_true rfl⟩ dX8_run_42 ?_
      exact j_ret (pc := 45) X hr hk (vp_nar_int _) (Option.some.inj h) rfl dX8_run_45
    rw [if_neg hx4] at h
    by_cases hx8 : a2 = 1
    · rw [if_pos hx8] at h
      refine j_tabIn (pc := 11) (tgt := 46) (off := 35) X dX8_run_11 (by rw [hx8]; decide) (by rw [hx8]; decide) (by rw [hx8]; decide) (by decide) ?_
      refine j_aload_n (pc := 46) X dX8_run_46 rfl 0 rfl ?_
      refine j_aload_n (pc := 47) X dX8_run_47 rfl 0 rfl ?_
      refine j_iload_n (pc := 48) X dX8_run_48 rfl 1 rfl ?_
      obtain ⟨r9, hc11, h⟩ := bd_s h
      refine j_callI (pc := 49) X (tX8_firstOf l hE G a1 hc11) muX8_firstOf (by decide) q868 rfl rfl (Nat.le_of_ble_eq_true rfl) ⟨Nat.le_of_ble_eq_true rfl, Nat.le_of_ble_eq_true rfl⟩ dX8_run_49 ?_
      obtain ⟨r12, hc14, h⟩ := bd_s h
      refine j_callI (pc := 52) X (tX8_lengthFrom l hE G r9 hc14) muX8_lengthFrom (by decide) q797 rfl rfl (Nat.le_of_ble_eq_true rfl) ⟨Nat.le_of_ble_eq_true rfl, Nat.le_of_ble_eq_true rfl⟩ dX8_run_52 ?_
      exact j_ret (pc := 55) X hr hk (vp_nar_int _) (Option.some.inj h) rfl dX8_run_55
    rw [if_neg hx8] at h
    by_cases hx15 : a2 = 2
    · rw [if_pos hx15] at h
      refine j_tabIn (pc := 11) (tgt := 56) (off := 45) X dX8_run_11 (by rw [hx15]; decide) (by rw [hx15]; decide) (by rw [hx15]; decide) (by decide) ?_
      refine j_aload_n (pc := 56) X dX8_run_56 rfl 0 rfl ?_
      refine j_iload_n (pc := 57) X dX8_run_57 rfl 1 rfl ?_
      obtain ⟨r16, hc18, h⟩ := bd_s h
      refine j_callI (pc := 58) X (tX8_wordOf l hE G a1 hc18) muX8_wordOf (by decide) q872 rfl rfl (Nat.le_of_ble_eq_true rfl) ⟨Nat.le_of_ble_eq_true rfl, Nat.le_of_ble_eq_true rfl⟩ dX8_run_58 ?_
      exact j_ret (pc := 61) X hr hk (vp_nar_int _) (Option.some.inj h) rfl dX8_run_61
    rw [if_neg hx15] at h
    by_cases hx19 : a2 = 3
    · rw [if_pos hx19] at h
      refine j_tabIn (pc := 11) (tgt := 62) (off := 51) X dX8_run_11 (by rw [hx19]; decide) (by rw [hx19]; decide) (by rw [hx19]; decide) (by decide) ?_
      refine j_aload_n (pc := 62) X dX8_run_62 rfl 0 rfl ?_
      refine j_aload_n (pc := 63) X dX8_run_63 rfl 0 rfl ?_
      refine j_iload_n (pc := 64) X dX8_run_64 rfl 1 rfl ?_
      obtain ⟨r20, hc22, h⟩ := bd_s h
      refine j_callI (pc := 65) X (tX8_firstOf l hE G a1 hc22) muX8_firstOf (by decide) q868 rfl rfl (Nat.le_of_ble_eq_true rfl) ⟨Nat.le_of_ble_eq_true rfl, Nat.le_of_ble_eq_true rfl⟩ dX8_run_65 ?_
      obtain ⟨r23, hc25, h⟩ := bd_s h
      refine j_callI (pc := 68) X (tX8_loosest l hE G r20 hc25) muX8_loosest (by decide) q876 rfl rfl (Nat.le_of_ble_eq_true rfl) ⟨Nat.le_of_ble_eq_true rfl, Nat.le_of_ble_eq_true rfl⟩ dX8_run_68 ?_
      exact j_ret (pc := 71) X hr hk (vp_nar_int _) (Option.some.inj h) rfl dX8_run_71
    rw [if_neg hx19] at h
    refine j_tabOut (pc := 11) (tgt := 72) X dX8_run_11 (tab_out 3 (by decide) (fun j hj => by match j, hj with | 0, _ => exact hx4 | 1, _ => exact hx8 | 2, _ => exact hx15 | 3, _ => exact hx19 | j + 4, hj => omega)) (by decide) ?_
    refine j_bipush (pc := 72) (v := (-2)) X dX8_run_72 (by decide) ?_
    exact j_ret (pc := 74) X hr hk (vp_nar_int _) (Option.some.inj h) rfl dX8_run_74
  · rw [if_pos hc] at h
    refine j_iconst (pc := 8) (v := (-1)) X dX8_run_8 (by decide) ?_
    exact j_ret (pc := 9) X hr hk (vp_nar_int _) (Option.some.inj h) rfl dX8_run_9
theorem dX8_splitsOf_0 : decode cX8_splitsOf 0 = .ok (.aload_n 0, 1) := by decide +kernel
theorem dX8_splitsOf_1 : decode cX8_splitsOf 1 = .ok (.iload_n 1, 1) := by decide +kernel
theorem dX8_splitsOf_2 : decode cX8_splitsOf 2 = .ok (.invokevirtual 75, 3) := by decide +kernel
theorem dX8_splitsOf_5 : decode cX8_splitsOf 5 = .ok (.istore_n 2, 1) := by decide +kernel
theorem dX8_splitsOf_6 : decode cX8_splitsOf 6 = .ok (.aload_n 0, 1) := by decide +kernel
theorem dX8_splitsOf_7 : decode cX8_splitsOf 7 = .ok (.iload_n 2, 1) := by decide +kernel
theorem dX8_splitsOf_8 : decode cX8_splitsOf 8 = .ok (.invokevirtual 68, 3) := by decide +kernel
theorem dX8_splitsOf_11 : decode cX8_splitsOf 11 = .ok (.istore_n 3, 1) := by decide +kernel
theorem dX8_splitsOf_12 : decode cX8_splitsOf 12 = .ok (.aload_n 0, 1) := by decide +kernel
theorem dX8_splitsOf_13 : decode cX8_splitsOf 13 = .ok (.getfield 25, 3) := by decide +kernel
theorem dX8_splitsOf_16 : decode cX8_splitsOf 16 = .ok (.iload_n 3, 1) := by decide +kernel
theorem dX8_splitsOf_17 : decode cX8_splitsOf 17 = .ok (.iconst 1, 1) := by decide +kernel
theorem dX8_splitsOf_18 : decode cX8_splitsOf 18 = .ok (.iastore, 1) := by decide +kernel
theorem dX8_splitsOf_19 : decode cX8_splitsOf 19 = .ok (.iload_n 3, 1) := by decide +kernel
theorem dX8_splitsOf_20 : decode cX8_splitsOf 20 = .ok (.iconst 1, 1) := by decide +kernel
theorem dX8_splitsOf_21 : decode cX8_splitsOf 21 = .ok (.isub, 1) := by decide +kernel
theorem dX8_splitsOf_22 : decode cX8_splitsOf 22 = .ok (.istore 4, 2) := by decide +kernel
theorem dX8_splitsOf_24 : decode cX8_splitsOf 24 = .ok (.iload 4, 2) := by decide +kernel
theorem dX8_splitsOf_26 : decode cX8_splitsOf 26 = .ok (.ifCond .lt 108, 3) := by decide +kernel
theorem dX8_splitsOf_29 : decode cX8_splitsOf 29 = .ok (.aload_n 0, 1) := by decide +kernel
theorem dX8_splitsOf_30 : decode cX8_splitsOf 30 = .ok (.getfield 25, 3) := by decide +kernel
theorem dX8_splitsOf_33 : decode cX8_splitsOf 33 = .ok (.iload 4, 2) := by decide +kernel
theorem dX8_splitsOf_35 : decode cX8_splitsOf 35 = .ok (.iconst 0, 1) := by decide +kernel
theorem dX8_splitsOf_36 : decode cX8_splitsOf 36 = .ok (.iastore, 1) := by decide +kernel
theorem dX8_splitsOf_37 : decode cX8_splitsOf 37 = .ok (.iconst 0, 1) := by decide +kernel
theorem dX8_splitsOf_38 : decode cX8_splitsOf 38 = .ok (.istore 5, 2) := by decide +kernel
theorem dX8_splitsOf_40 : decode cX8_splitsOf 40 = .ok (.iload 5, 2) := by decide +kernel
theorem dX8_splitsOf_42 : decode cX8_splitsOf 42 = .ok (.aload_n 0, 1) := by decide +kernel
theorem dX8_splitsOf_43 : decode cX8_splitsOf 43 = .ok (.getfield 7, 3) := by decide +kernel
theorem dX8_splitsOf_46 : decode cX8_splitsOf 46 = .ok (.bipush 80, 2) := by decide +kernel
theorem dX8_splitsOf_48 : decode cX8_splitsOf 48 = .ok (.iaload, 1) := by decide +kernel
theorem dX8_splitsOf_49 : decode cX8_splitsOf 49 = .ok (.if_icmp .ge 46, 3) := by decide +kernel
theorem dX8_splitsOf_52 : decode cX8_splitsOf 52 = .ok (.aload_n 0, 1) := by decide +kernel
theorem dX8_splitsOf_53 : decode cX8_splitsOf 53 = .ok (.iload 5, 2) := by decide +kernel
theorem dX8_splitsOf_55 : decode cX8_splitsOf 55 = .ok (.iload_n 2, 1) := by decide +kernel
theorem dX8_splitsOf_56 : decode cX8_splitsOf 56 = .ok (.iload 4, 2) := by decide +kernel
theorem dX8_splitsOf_58 : decode cX8_splitsOf 58 = .ok (.iadd, 1) := by decide +kernel
theorem dX8_splitsOf_59 : decode cX8_splitsOf 59 = .ok (.invokevirtual 71, 3) := by decide +kernel
theorem dX8_splitsOf_62 : decode cX8_splitsOf 62 = .ok (.ifCond .eq 27, 3) := by decide +kernel
theorem dX8_splitsOf_65 : decode cX8_splitsOf 65 = .ok (.aload_n 0, 1) := by decide +kernel
theorem dX8_splitsOf_66 : decode cX8_splitsOf 66 = .ok (.getfield 25, 3) := by decide +kernel
theorem dX8_splitsOf_69 : decode cX8_splitsOf 69 = .ok (.iload 4, 2) := by decide +kernel
theorem dX8_splitsOf_71 : decode cX8_splitsOf 71 = .ok (.dup2, 1) := by decide +kernel
theorem dX8_splitsOf_72 : decode cX8_splitsOf 72 = .ok (.iaload, 1) := by decide +kernel
theorem dX8_splitsOf_73 : decode cX8_splitsOf 73 = .ok (.aload_n 0, 1) := by decide +kernel
theorem dX8_splitsOf_74 : decode cX8_splitsOf 74 = .ok (.getfield 25, 3) := by decide +kernel
theorem dX8_splitsOf_77 : decode cX8_splitsOf 77 = .ok (.iload 4, 2) := by decide +kernel
theorem dX8_splitsOf_79 : decode cX8_splitsOf 79 = .ok (.aload_n 0, 1) := by decide +kernel
theorem dX8_splitsOf_80 : decode cX8_splitsOf 80 = .ok (.iload 5, 2) := by decide +kernel
theorem dX8_splitsOf_82 : decode cX8_splitsOf 82 = .ok (.invokevirtual 64, 3) := by decide +kernel
theorem dX8_splitsOf_85 : decode cX8_splitsOf 85 = .ok (.iadd, 1) := by decide +kernel
theorem dX8_splitsOf_86 : decode cX8_splitsOf 86 = .ok (.iaload, 1) := by decide +kernel
theorem dX8_splitsOf_87 : decode cX8_splitsOf 87 = .ok (.iadd, 1) := by decide +kernel
theorem dX8_splitsOf_88 : decode cX8_splitsOf 88 = .ok (.iastore, 1) := by decide +kernel
theorem dX8_splitsOf_89 : decode cX8_splitsOf 89 = .ok (.iinc 5 1, 3) := by decide +kernel
theorem dX8_splitsOf_92 : decode cX8_splitsOf 92 = .ok (.goto (-52), 3) := by decide +kernel
theorem dX8_splitsOf_95 : decode cX8_splitsOf 95 = .ok (.aload_n 0, 1) := by decide +kernel
theorem dX8_splitsOf_96 : decode cX8_splitsOf 96 = .ok (.getfield 25, 3) := by decide +kernel
theorem dX8_splitsOf_99 : decode cX8_splitsOf 99 = .ok (.iload 4, 2) := by decide +kernel
theorem dX8_splitsOf_101 : decode cX8_splitsOf 101 = .ok (.aload_n 0, 1) := by decide +kernel
theorem dX8_splitsOf_102 : decode cX8_splitsOf 102 = .ok (.getfield 25, 3) := by decide +kernel
theorem dX8_splitsOf_105 : decode cX8_splitsOf 105 = .ok (.iload 4, 2) := by decide +kernel
theorem dX8_splitsOf_107 : decode cX8_splitsOf 107 = .ok (.iaload, 1) := by decide +kernel
theorem dX8_splitsOf_108 : decode cX8_splitsOf 108 = .ok (.sipush 9999, 3) := by decide +kernel
theorem dX8_splitsOf_111 : decode cX8_splitsOf 111 = .ok (.if_icmp .le 9, 3) := by decide +kernel
theorem dX8_splitsOf_114 : decode cX8_splitsOf 114 = .ok (.sipush 9999, 3) := by decide +kernel
theorem dX8_splitsOf_117 : decode cX8_splitsOf 117 = .ok (.goto 10, 3) := by decide +kernel
theorem dX8_splitsOf_120 : decode cX8_splitsOf 120 = .ok (.aload_n 0, 1) := by decide +kernel
theorem dX8_splitsOf_121 : decode cX8_splitsOf 121 = .ok (.getfield 25, 3) := by decide +kernel
theorem dX8_splitsOf_124 : decode cX8_splitsOf 124 = .ok (.iload 4, 2) := by decide +kernel
theorem dX8_splitsOf_126 : decode cX8_splitsOf 126 = .ok (.iaload, 1) := by decide +kernel
theorem dX8_splitsOf_127 : decode cX8_splitsOf 127 = .ok (.iastore, 1) := by decide +kernel
theorem dX8_splitsOf_128 : decode cX8_splitsOf 128 = .ok (.iinc 4 (-1), 3) := by decide +kernel
theorem dX8_splitsOf_131 : decode cX8_splitsOf 131 = .ok (.goto (-107), 3) := by decide +kernel
theorem dX8_splitsOf_134 : decode cX8_splitsOf 134 = .ok (.aload_n 0, 1) := by decide +kernel
theorem dX8_splitsOf_135 : decode cX8_splitsOf 135 = .ok (.getfield 25, 3) := by decide +kernel
theorem dX8_splitsOf_138 : decode cX8_splitsOf 138 = .ok (.iconst 0, 1) := by decide +kernel
theorem dX8_splitsOf_139 : decode cX8_splitsOf 139 = .ok (.iaload, 1) := by decide +kernel
theorem dX8_splitsOf_140 : decode cX8_splitsOf 140 = .ok (.ireturn, 1) := by decide +kernel
set_option maxHeartbeats 4000000 in
set_option maxRecDepth 100000 in
theorem tX8_splitsOf_40 (l : Launch) {E : ET} (hE : Aj E) {p : Program} {e : Env} {s : State} {m : MethodId} {args : Array Value} {below : List Frame} {meth : Method} {c : Code} (X : Cx p (rmL 5) s m args c yX8_splitsOf.cls cX8_splitsOf 6 E (Aw E) 0 0) (hr : meth.sig.returnType = (some .int)) (hk : meth.locks = false) {r : Int32} {G' : GT} (a2 : Int32) (a4 : Int32) (k24 : GT → Int32 → Option (Int32 × GT)) (hk24 : ∀ (G : GT) (a4 : Int32), k24 G a4 = some (r, G') → J p l e (rmL 5) s m args below meth c E (Aw E) s.heap 6 0 0 (MQ below (QI E r G') args s 0 0 (Aw E)) G 24 [(0, .ref (Ad E 22 0)), (2, .int a2), (4, .int a4)] []) : ∀ (n : Nat) (G : GT) (a5 : Int32), fX8_splitsOf_40 a2 a4 k24 n G a5 = some (r, G') → J p l e (rmL 5) s m args below meth c E (Aw E) s.heap 6 0 0 (MQ below (QI E r G') args s 0 0 (Aw E)) G 40 [(0, .ref (Ad E 22 0)), (2, .int a2), (4, .int a4), (5, .int a5)] [] := by
  intro n
  induction n with
  | zero =>
    intro G a5 h
    simp [fX8_splitsOf_40] at h
  | succ n ih =>
    intro G a5 h
    rw [fX8_splitsOf_40] at h
    refine j_iload (pc := 40) X dX8_splitsOf_40 3 rfl ?_
    refine j_aload_n (pc := 42) X dX8_splitsOf_42 rfl 0 rfl ?_
    refine j_get (pc := 43) (v := .ref (Ad E 23 0)) X gf_X8_7 (by decide) rfl rfl dX8_splitsOf_43 ?_
    refine j_bipush (pc := 46) (v := 80) X dX8_splitsOf_46 (by decide) ?_
    obtain ⟨hg1, h⟩ := gd_s h
    refine j_iald (pc := 48) (n := 289) X (by decide) rfl hg1 dX8_splitsOf_48 ?_
    refine j_icmp_ge (pc := 49) (tgt := 95) X dX8_splitsOf_49 (by decide) (fun hc => ?_) (fun hc => ?_)
    · rw [if_pos hc] at h
      refine j_aload_n (pc := 95) X dX8_splitsOf_95 rfl 0 rfl ?_
      refine j_get (pc := 96) (v := .ref (Ad E 28 0)) X gf_X8_25 (by decide) rfl rfl dX8_splitsOf_96 ?_
      refine j_iload (pc := 99) X dX8_splitsOf_99 2 rfl ?_
      refine j_aload_n (pc := 101) X dX8_splitsOf_101 rfl 0 rfl ?_
      refine j_get (pc := 102) (v := .ref (Ad E 28 0)) X gf_X8_25 (by decide) rfl rfl dX8_splitsOf_102 ?_
      refine j_iload (pc := 105) X dX8_splitsOf_105 2 rfl ?_
      obtain ⟨hg2, h⟩ := gd_s h
      refine j_iald (pc := 107) (n := 41) X (by decide) rfl hg2 dX8_splitsOf_107 ?_
      refine j_sipush (pc := 108) (v := 9999) X dX8_splitsOf_108 (by decide) ?_
      refine j_icmp_le (pc := 111) (tgt := 120) X dX8_splitsOf_111 (by decide) (fun hc => ?_) (fun hc => ?_)
      · rw [if_pos hc] at h
        refine j_aload_n (pc := 120) X dX8_splitsOf_120 rfl 0 rfl ?_
        refine j_get (pc := 121) (v := .ref (Ad E 28 0)) X gf_X8_25 (by decide) rfl rfl dX8_splitsOf_121 ?_
        refine j_iload (pc := 124) X dX8_splitsOf_124 2 rfl ?_
        obtain ⟨hg3, h⟩ := gd_s h
        refine j_iald (pc := 126) (n := 41) X (by decide) rfl hg3 dX8_splitsOf_126 ?_
        obtain ⟨hg4, h⟩ := gd_s h
        obtain ⟨G5, hG5, h⟩ := st3_s h
        refine j_iast (pc := 127) (n := 41) X hG5 (by decide) (fun _ => rfl) hg4 dX8_splitsOf_127 ?_
        refine j_iinc (pc := 128) (q := 2) (v := (a4 + (-1 : Int32))) (lv' := [(0, .ref (Ad E 22 0)), (2, .int a2), (4, .int (a4 + (-1 : Int32))), (5, .int a5)]) X dX8_splitsOf_128 rfl rfl (by decide) rfl ?_
        refine j_goto (pc := 131) (tgt := 24) X dX8_splitsOf_131 (by decide) ?_
        refine j_lv (lv' := [(0, .ref (Ad E 22 0)), (2, .int a2), (4, .int (a4 + (-1 : Int32)))]) [0, 1, 2] rfl ?_
        exact hk24 G5 (a4 + (-1 : Int32)) h
      · rw [if_neg hc] at h
        refine j_sipush (pc := 114) (v := 9999) X dX8_splitsOf_114 (by decide) ?_
        refine j_goto (pc := 117) (tgt := 127) X dX8_splitsOf_117 (by decide) ?_
        obtain ⟨hg6, h⟩ := gd_s h
        obtain ⟨G7, hG7, h⟩ := st3_s h
        refine j_iast (pc := 127) (n := 41) X hG7 (by decide) (fun _ => rfl) hg6 dX8_splitsOf_127 ?_
        refine j_iinc (pc := 128) (q := 2) (v := (a4 + (-1 : Int32))) (lv' := [(0, .ref (Ad E 22 0)), (2, .int a2), (4, .int (a4 + (-1 : Int32))), (5, .int a5)]) X dX8_splitsOf_128 rfl rfl (by decide) rfl ?_
        refine j_goto (pc := 131) (tgt := 24) X dX8_splitsOf_131 (by decide) ?_
        refine j_lv (lv' := [(0, .ref (Ad E 22 0)), (2, .int a2), (4, .int (a4 + (-1 : Int32)))]) [0, 1, 2] rfl ?_
        exact hk24 G7 (a4 + (-1 : Int32)) h
    · rw [if_neg hc] at h
      refine j_aload_n (pc := 52) X dX8_splitsOf_52 rfl 0 rfl ?_
      refine j_iload (pc := 53) X dX8_splitsOf_53 3 rfl ?_
      refine j_iload_n (pc := 55) X dX8_splitsOf_55 rfl 1 rfl ?_
      refine j_iload (pc := 56) X dX8_splitsOf_56 2 rfl ?_
      refine j_iadd (pc := 58) X dX8_splitsOf_58 ?_
      obtain ⟨r8, hc10, h⟩ := bd_s h
      refine j_callI (pc := 59) X (tX8_isAt l hE G a5 (a2 + a4) hc10) muX8_isAt (by decide) q801 rfl rfl (Nat.le_of_ble_eq_true rfl) ⟨Nat.le_of_ble_eq_true rfl, Nat.le_of_ble_eq_true rfl⟩ dX8_splitsOf_59 ?_
      refine j_if_eq (pc := 62) (tgt := 89) X dX8_splitsOf_62 (by decide) (fun hc => ?_) (fun hc => ?_)
      · rw [if_pos hc] at h
        refine j_iinc (pc := 89) (q := 3) (v := (a5 + (1 : Int32))) (lv' := [(0, .ref (Ad E 22 0)), (2, .int a2), (4, .int a4), (5, .int (a5 + (1 : Int32)))]) X dX8_splitsOf_89 rfl rfl (by decide) rfl ?_
        refine j_goto (pc := 92) (tgt := 40) X dX8_splitsOf_92 (by decide) ?_
        exact ih G (a5 + (1 : Int32)) h
      · rw [if_neg hc] at h
        refine j_aload_n (pc := 65) X dX8_splitsOf_65 rfl 0 rfl ?_
        refine j_get (pc := 66) (v := .ref (Ad E 28 0)) X gf_X8_25 (by decide) rfl rfl dX8_splitsOf_66 ?_
        refine j_iload (pc := 69) X dX8_splitsOf_69 2 rfl ?_
        refine j_dup2 (pc := 71) X dX8_splitsOf_71 rfl rfl ?_
        obtain ⟨hg11, h⟩ := gd_s h
        refine j_iald (pc := 72) (n := 41) X (by decide) rfl hg11 dX8_splitsOf_72 ?_
        refine j_aload_n (pc := 73) X dX8_splitsOf_73 rfl 0 rfl ?_
        refine j_get (pc := 74) (v := .ref (Ad E 28 0)) X gf_X8_25 (by decide) rfl rfl dX8_splitsOf_74 ?_
        refine j_iload (pc := 77) X dX8_splitsOf_77 2 rfl ?_
        refine j_aload_n (pc := 79) X dX8_splitsOf_79 rfl 0 rfl ?_
        refine j_iload (pc := 80) X dX8_splitsOf_80 3 rfl ?_
        obtain ⟨r12, hc14, h⟩ := bd_s h
        refine j_callI (pc := 82) X (tX8_lengthOf l hE G a5 hc14) muX8_lengthOf (by decide) q769 rfl rfl (Nat.le_of_ble_eq_true rfl) ⟨Nat.le_of_ble_eq_true rfl, Nat.le_of_ble_eq_true rfl⟩ dX8_splitsOf_82 ?_
        refine j_iadd (pc := 85) X dX8_splitsOf_85 ?_
        obtain ⟨hg15, h⟩ := gd_s h
        refine j_iald (pc := 86) (n := 41) X (by decide) rfl hg15 dX8_splitsOf_86 ?_
        refine j_iadd (pc := 87) X dX8_splitsOf_87 ?_
        obtain ⟨hg16, h⟩ := gd_s h
        obtain ⟨G17, hG17, h⟩ := st3_s h
        refine j_iast (pc := 88) (n := 41) X hG17 (by decide) (fun _ => rfl) hg16 dX8_splitsOf_88 ?_
        refine j_iinc (pc := 89) (q := 3) (v := (a5 + (1 : Int32))) (lv' := [(0, .ref (Ad E 22 0)), (2, .int a2), (4, .int a4), (5, .int (a5 + (1 : Int32)))]) X dX8_splitsOf_89 rfl rfl (by decide) rfl ?_
        refine j_goto (pc := 92) (tgt := 40) X dX8_splitsOf_92 (by decide) ?_
        exact ih G17 (a5 + (1 : Int32)) h
set_option maxHeartbeats 4000000 in
set_option maxRecDepth 100000 in
theorem tX8_splitsOf_24 (l : Launch) {E : ET} (hE : Aj E) {p : Program} {e : Env} {s : State} {m : MethodId} {args : Array Value} {below : List Frame} {meth : Method} {c : Code} (X : Cx p (rmL 5) s m args c yX8_splitsOf.cls cX8_splitsOf 6 E (Aw E) 0 0) (hr : meth.sig.returnType = (some .int)) (hk : meth.locks = false) {r : Int32} {G' : GT} (a2 : Int32) : ∀ (n : Nat) (G : GT) (a4 : Int32), fX8_splitsOf_24 a2 n G a4 = some (r, G') → J p l e (rmL 5) s m args below meth c E (Aw E) s.heap 6 0 0 (MQ below (QI E r G') args s 0 0 (Aw E)) G 24 [(0, .ref (Ad E 22 0)), (2, .int a2), (4, .int a4)] [] := by
  intro n
  induction n with
  | zero =>
    intro G a4 h
    simp [fX8_splitsOf_24] at h
  | succ n ih =>
    intro G a4 h
    rw [fX8_splitsOf_24] at h
    refine j_iload (pc := 24) X dX8_splitsOf_24 2 rfl ?_
    refine j_if_lt (pc := 26) (tgt := 134) X dX8_splitsOf_26 (by decide) (fun hc => ?_) (fun hc => ?_)
    · rw [if_pos hc] at h
      refine j_aload_n (pc := 134) X dX8_splitsOf_134 rfl 0 rfl ?_
      refine j_get (pc := 135) (v := .ref (Ad E 28 0)) X gf_X8_25 (by decide) rfl rfl dX8_splitsOf_135 ?_
      refine j_iconst (pc := 138) (v := 0) X dX8_splitsOf_138 (by decide) ?_
      obtain ⟨hg1, h⟩ := gd_s h
      refine j_iald (pc := 139) (n := 41) X (by decide) rfl hg1 dX8_splitsOf_139 ?_
      exact j_ret (pc := 140) X hr hk (vp_nar_int _) (pr_s h).1 (pr_s h).2 dX8_splitsOf_140
    · rw [if_neg hc] at h
      refine j_aload_n (pc := 29) X dX8_splitsOf_29 rfl 0 rfl ?_
      refine j_get (pc := 30) (v := .ref (Ad E 28 0)) X gf_X8_25 (by decide) rfl rfl dX8_splitsOf_30 ?_
      refine j_iload (pc := 33) X dX8_splitsOf_33 2 rfl ?_
      refine j_iconst (pc := 35) (v := 0) X dX8_splitsOf_35 (by decide) ?_
      obtain ⟨hg2, h⟩ := gd_s h
      obtain ⟨G3, hG3, h⟩ := st3_s h
      refine j_iast (pc := 36) (n := 41) X hG3 (by decide) (fun _ => rfl) hg2 dX8_splitsOf_36 ?_
      refine j_iconst (pc := 37) (v := 0) X dX8_splitsOf_37 (by decide) ?_
      refine j_istore (pc := 38) (lv' := [(0, .ref (Ad E 22 0)), (2, .int a2), (4, .int a4), (5, .int (0 : Int32))]) X dX8_splitsOf_38 (by decide) rfl ?_
      exact tX8_splitsOf_40 l hE X hr hk a2 a4 (fX8_splitsOf_24 a2 n) ih FU G3 (0 : Int32) h
set_option maxHeartbeats 4000000 in
set_option maxRecDepth 100000 in
theorem tX8_splitsOf (l : Launch) {E : ET} (hE : Aj E) (G : GT) (a1 : Int32) {r : Int32} {G' : GT} (h : fX8_splitsOf G a1 = some (r, G')) : CI l E yX8_splitsOf cX8_splitsOf 6 (some .int) 5 [.ref (Ad E 22 0), .int a1] G r G' := by
  refine Met_I (lv := [(0, .ref (Ad E 22 0)), (1, .int a1)]) (by decide +kernel) hE (Nat.le_of_ble_eq_true rfl) rfl ?_
  intro p e s m args below meth c X hr hk
  unfold fX8_splitsOf at h
  refine j_aload_n (pc := 0) X dX8_splitsOf_0 rfl 0 rfl ?_
  refine j_iload_n (pc := 1) X dX8_splitsOf_1 rfl 1 rfl ?_
  obtain ⟨r1, hc3, h⟩ := bd_s h
  refine j_callI (pc := 2) X (tX8_firstOf l hE G a1 hc3) muX8_firstOf (by decide) q868 rfl rfl (Nat.le_of_ble_eq_true rfl) ⟨Nat.le_of_ble_eq_true rfl, Nat.le_of_ble_eq_true rfl⟩ dX8_splitsOf_2 ?_
  refine j_istore_n (pc := 5) (lv' := [(0, .ref (Ad E 22 0)), (1, .int a1), (2, .int r1)]) X dX8_splitsOf_5 rfl (by decide) rfl ?_
  refine j_aload_n (pc := 6) X dX8_splitsOf_6 rfl 0 rfl ?_
  refine j_iload_n (pc := 7) X dX8_splitsOf_7 rfl 2 rfl ?_
  obtain ⟨r4, hc6, h⟩ := bd_s h
  refine j_callI (pc := 8) X (tX8_lengthFrom l hE G r1 hc6) muX8_lengthFrom (by decide) q797 rfl rfl (Nat.le_of_ble_eq_true rfl) ⟨Nat.le_of_ble_eq_true rfl, Nat.le_of_ble_eq_true rfl⟩ dX8_splitsOf_8 ?_
  refine j_istore_n (pc := 11) (lv' := [(0, .ref (Ad E 22 0)), (1, .int a1), (2, .int r1), (3, .int r4)]) X dX8_splitsOf_11 rfl (by decide) rfl ?_
  refine j_aload_n (pc := 12) X dX8_splitsOf_12 rfl 0 rfl ?_
  refine j_get (pc := 13) (v := .ref (Ad E 28 0)) X gf_X8_25 (by decide) rfl rfl dX8_splitsOf_13 ?_
  refine j_iload_n (pc := 16) X dX8_splitsOf_16 rfl 3 rfl ?_
  refine j_iconst (pc := 17) (v := 1) X dX8_splitsOf_17 (by decide) ?_
  obtain ⟨hg7, h⟩ := gd_s h
  obtain ⟨G8, hG8, h⟩ := st3_s h
  refine j_iast (pc := 18) (n := 41) X hG8 (by decide) (fun _ => rfl) hg7 dX8_splitsOf_18 ?_
  refine j_iload_n (pc := 19) X dX8_splitsOf_19 rfl 3 rfl ?_
  refine j_iconst (pc := 20) (v := 1) X dX8_splitsOf_20 (by decide) ?_
  refine j_isub (pc := 21) X dX8_splitsOf_21 ?_
  refine j_istore (pc := 22) (lv' := [(0, .ref (Ad E 22 0)), (1, .int a1), (2, .int r1), (3, .int r4), (4, .int (r4 - (1 : Int32)))]) X dX8_splitsOf_22 (by decide) rfl ?_
  refine j_lv (lv' := [(0, .ref (Ad E 22 0)), (2, .int r1), (4, .int (r4 - (1 : Int32)))]) [0, 2, 4] rfl ?_
  exact tX8_splitsOf_24 l hE X hr hk r1 FU G8 (r4 - (1 : Int32)) h
theorem dX8_splits_0 : decode cX8_splits 0 = .ok (.aload_n 0, 1) := by decide +kernel
theorem dX8_splits_1 : decode cX8_splits 1 = .ok (.iload_n 1, 1) := by decide +kernel
theorem dX8_splits_2 : decode cX8_splits 2 = .ok (.invokevirtual 134, 3) := by decide +kernel
theorem dX8_splits_5 : decode cX8_splits 5 = .ok (.ifCond .eq 11, 3) := by decide +kernel
theorem dX8_splits_8 : decode cX8_splits 8 = .ok (.aload_n 0, 1) := by decide +kernel
theorem dX8_splits_9 : decode cX8_splits 9 = .ok (.iload_n 1, 1) := by decide +kernel
theorem dX8_splits_10 : decode cX8_splits 10 = .ok (.invokevirtual 143, 3) := by decide +kernel
theorem dX8_splits_13 : decode cX8_splits 13 = .ok (.goto 4, 3) := by decide +kernel
theorem dX8_splits_16 : decode cX8_splits 16 = .ok (.iconst (-1), 1) := by decide +kernel
theorem dX8_splits_17 : decode cX8_splits 17 = .ok (.ireturn, 1) := by decide +kernel
set_option maxHeartbeats 4000000 in
set_option maxRecDepth 100000 in
theorem tX8_splits (l : Launch) {E : ET} (hE : Aj E) (G : GT) (a1 : Int32) {r : Int32} {G' : GT} (h : fX8_splits G a1 = some (r, G')) : CI l E yX8_splits cX8_splits 2 (some .int) 6 [.ref (Ad E 22 0), .int a1] G r G' := by
  refine Met_I (lv := [(0, .ref (Ad E 22 0)), (1, .int a1)]) (by decide +kernel) hE (Nat.le_of_ble_eq_true rfl) rfl ?_
  intro p e s m args below meth c X hr hk
  unfold fX8_splits at h
  refine j_aload_n (pc := 0) X dX8_splits_0 rfl 0 rfl ?_
  refine j_iload_n (pc := 1) X dX8_splits_1 rfl 1 rfl ?_
  obtain ⟨r1, hc3, h⟩ := bd_s h
  refine j_callI (pc := 2) X (tX8_isRun l hE G a1 hc3) muX8_isRun (by decide) q864 rfl rfl (Nat.le_of_ble_eq_true rfl) ⟨Nat.le_of_ble_eq_true rfl, Nat.le_of_ble_eq_true rfl⟩ dX8_splits_2 ?_
  refine j_if_eq (pc := 5) (tgt := 16) X dX8_splits_5 (by decide) (fun hc => ?_) (fun hc => ?_)
  · rw [if_pos hc] at h
    refine j_iconst (pc := 16) (v := (-1)) X dX8_splits_16 (by decide) ?_
    exact j_ret (pc := 17) X hr hk (vp_nar_int _) (pr_s h).1 (pr_s h).2 dX8_splits_17
  · rw [if_neg hc] at h
    refine j_aload_n (pc := 8) X dX8_splits_8 rfl 0 rfl ?_
    refine j_iload_n (pc := 9) X dX8_splits_9 rfl 1 rfl ?_
    obtain ⟨r4, G5, hc6, h⟩ := bd2_s h
    refine j_callI (pc := 10) X (tX8_splitsOf l hE G a1 hc6) muX8_splitsOf (by decide) q884 rfl rfl (Nat.le_of_ble_eq_true rfl) ⟨Nat.le_of_ble_eq_true rfl, Nat.le_of_ble_eq_true rfl⟩ dX8_splits_10 ?_
    refine j_goto (pc := 13) (tgt := 17) X dX8_splits_13 (by decide) ?_
    exact j_ret (pc := 17) X hr hk (vp_nar_int _) (pr_s h).1 (pr_s h).2 dX8_splits_17
theorem dX8_splitsBack_0 : decode cX8_splitsBack 0 = .ok (.aload_n 0, 1) := by decide +kernel
theorem dX8_splitsBack_1 : decode cX8_splitsBack 1 = .ok (.iload_n 1, 1) := by decide +kernel
theorem dX8_splitsBack_2 : decode cX8_splitsBack 2 = .ok (.invokevirtual 134, 3) := by decide +kernel
theorem dX8_splitsBack_5 : decode cX8_splitsBack 5 = .ok (.ifCond .eq 11, 3) := by decide +kernel
theorem dX8_splitsBack_8 : decode cX8_splitsBack 8 = .ok (.aload_n 0, 1) := by decide +kernel
theorem dX8_splitsBack_9 : decode cX8_splitsBack 9 = .ok (.iload_n 1, 1) := by decide +kernel
theorem dX8_splitsBack_10 : decode cX8_splitsBack 10 = .ok (.invokevirtual 143, 3) := by decide +kernel
theorem dX8_splitsBack_13 : decode cX8_splitsBack 13 = .ok (.goto 4, 3) := by decide +kernel
theorem dX8_splitsBack_16 : decode cX8_splitsBack 16 = .ok (.iconst (-1), 1) := by decide +kernel
theorem dX8_splitsBack_17 : decode cX8_splitsBack 17 = .ok (.ireturn, 1) := by decide +kernel
set_option maxHeartbeats 4000000 in
set_option maxRecDepth 100000 in
theorem tX8_splitsBack (l : Launch) {E : ET} (hE : Aj E) (G : GT) (a1 : Int32) {r : Int32} {G' : GT} (h : fX8_splitsBack G a1 = some (r, G')) : CI l E yX8_splitsBack cX8_splitsBack 2 (some .int) 6 [.ref (Ad E 22 0), .int a1] G r G' := by
  refine Met_I (lv := [(0, .ref (Ad E 22 0)), (1, .int a1)]) (by decide +kernel) hE (Nat.le_of_ble_eq_true rfl) rfl ?_
  intro p e s m args below meth c X hr hk
  unfold fX8_splitsBack at h
  refine j_aload_n (pc := 0) X dX8_splitsBack_0 rfl 0 rfl ?_
  refine j_iload_n (pc := 1) X dX8_splitsBack_1 rfl 1 rfl ?_
  obtain ⟨r1, hc3, h⟩ := bd_s h
  refine j_callI (pc := 2) X (tX8_isRun l hE G a1 hc3) muX8_isRun (by decide) q864 rfl rfl (Nat.le_of_ble_eq_true rfl) ⟨Nat.le_of_ble_eq_true rfl, Nat.le_of_ble_eq_true rfl⟩ dX8_splitsBack_2 ?_
  refine j_if_eq (pc := 5) (tgt := 16) X dX8_splitsBack_5 (by decide) (fun hc => ?_) (fun hc => ?_)
  · rw [if_pos hc] at h
    refine j_iconst (pc := 16) (v := (-1)) X dX8_splitsBack_16 (by decide) ?_
    exact j_ret (pc := 17) X hr hk (vp_nar_int _) (pr_s h).1 (pr_s h).2 dX8_splitsBack_17
  · rw [if_neg hc] at h
    refine j_aload_n (pc := 8) X dX8_splitsBack_8 rfl 0 rfl ?_
    refine j_iload_n (pc := 9) X dX8_splitsBack_9 rfl 1 rfl ?_
    obtain ⟨r4, G5, hc6, h⟩ := bd2_s h
    refine j_callI (pc := 10) X (tX8_splitsOf l hE G a1 hc6) muX8_splitsOf (by decide) q884 rfl rfl (Nat.le_of_ble_eq_true rfl) ⟨Nat.le_of_ble_eq_true rfl, Nat.le_of_ble_eq_true rfl⟩ dX8_splitsBack_10 ?_
    refine j_goto (pc := 13) (tgt := 17) X dX8_splitsBack_13 (by decide) ?_
    exact j_ret (pc := 17) X hr hk (vp_nar_int _) (pr_s h).1 (pr_s h).2 dX8_splitsBack_17
theorem dX8_unlike_0 : decode cX8_unlike 0 = .ok (.iconst 0, 1) := by decide +kernel
theorem dX8_unlike_1 : decode cX8_unlike 1 = .ok (.istore_n 3, 1) := by decide +kernel
theorem dX8_unlike_2 : decode cX8_unlike 2 = .ok (.iconst 0, 1) := by decide +kernel
theorem dX8_unlike_3 : decode cX8_unlike 3 = .ok (.istore 4, 2) := by decide +kernel
theorem dX8_unlike_5 : decode cX8_unlike 5 = .ok (.iload 4, 2) := by decide +kernel
theorem dX8_unlike_7 : decode cX8_unlike 7 = .ok (.iconst 5, 1) := by decide +kernel
theorem dX8_unlike_8 : decode cX8_unlike 8 = .ok (.if_icmp .lt 24, 3) := by decide +kernel
theorem dX8_unlike_11 : decode cX8_unlike 11 = .ok (.aload_n 0, 1) := by decide +kernel
theorem dX8_unlike_12 : decode cX8_unlike 12 = .ok (.iload_n 1, 1) := by decide +kernel
theorem dX8_unlike_13 : decode cX8_unlike 13 = .ok (.iload 4, 2) := by decide +kernel
theorem dX8_unlike_15 : decode cX8_unlike 15 = .ok (.iadd, 1) := by decide +kernel
theorem dX8_unlike_16 : decode cX8_unlike 16 = .ok (.invokevirtual 51, 3) := by decide +kernel
theorem dX8_unlike_19 : decode cX8_unlike 19 = .ok (.ifCond .eq 80, 3) := by decide +kernel
theorem dX8_unlike_22 : decode cX8_unlike 22 = .ok (.iload 4, 2) := by decide +kernel
theorem dX8_unlike_24 : decode cX8_unlike 24 = .ok (.aload_n 0, 1) := by decide +kernel
theorem dX8_unlike_25 : decode cX8_unlike 25 = .ok (.iload_n 1, 1) := by decide +kernel
theorem dX8_unlike_26 : decode cX8_unlike 26 = .ok (.invokevirtual 68, 3) := by decide +kernel
theorem dX8_unlike_29 : decode cX8_unlike 29 = .ok (.if_icmp .ge 70, 3) := by decide +kernel
theorem dX8_unlike_32 : decode cX8_unlike 32 = .ok (.iload 4, 2) := by decide +kernel
theorem dX8_unlike_34 : decode cX8_unlike 34 = .ok (.aload_n 0, 1) := by decide +kernel
theorem dX8_unlike_35 : decode cX8_unlike 35 = .ok (.iload_n 1, 1) := by decide +kernel
theorem dX8_unlike_36 : decode cX8_unlike 36 = .ok (.invokevirtual 68, 3) := by decide +kernel
theorem dX8_unlike_39 : decode cX8_unlike 39 = .ok (.if_icmp .ge 17, 3) := by decide +kernel
theorem dX8_unlike_42 : decode cX8_unlike 42 = .ok (.aload_n 0, 1) := by decide +kernel
theorem dX8_unlike_43 : decode cX8_unlike 43 = .ok (.getfield 7, 3) := by decide +kernel
theorem dX8_unlike_46 : decode cX8_unlike 46 = .ok (.iconst 0, 1) := by decide +kernel
theorem dX8_unlike_47 : decode cX8_unlike 47 = .ok (.iload_n 1, 1) := by decide +kernel
theorem dX8_unlike_48 : decode cX8_unlike 48 = .ok (.iadd, 1) := by decide +kernel
theorem dX8_unlike_49 : decode cX8_unlike 49 = .ok (.iload 4, 2) := by decide +kernel
theorem dX8_unlike_51 : decode cX8_unlike 51 = .ok (.iadd, 1) := by decide +kernel
theorem dX8_unlike_52 : decode cX8_unlike 52 = .ok (.iaload, 1) := by decide +kernel
theorem dX8_unlike_53 : decode cX8_unlike 53 = .ok (.goto 4, 3) := by decide +kernel
theorem dX8_unlike_56 : decode cX8_unlike 56 = .ok (.iconst 0, 1) := by decide +kernel
theorem dX8_unlike_57 : decode cX8_unlike 57 = .ok (.istore 5, 2) := by decide +kernel
theorem dX8_unlike_59 : decode cX8_unlike 59 = .ok (.iload 4, 2) := by decide +kernel
theorem dX8_unlike_61 : decode cX8_unlike 61 = .ok (.iconst 5, 1) := by decide +kernel
theorem dX8_unlike_62 : decode cX8_unlike 62 = .ok (.if_icmp .ge 13, 3) := by decide +kernel
theorem dX8_unlike_65 : decode cX8_unlike 65 = .ok (.aload_n 0, 1) := by decide +kernel
theorem dX8_unlike_66 : decode cX8_unlike 66 = .ok (.iload_n 2, 1) := by decide +kernel
theorem dX8_unlike_67 : decode cX8_unlike 67 = .ok (.iload 4, 2) := by decide +kernel
theorem dX8_unlike_69 : decode cX8_unlike 69 = .ok (.invokevirtual 60, 3) := by decide +kernel
theorem dX8_unlike_72 : decode cX8_unlike 72 = .ok (.goto 4, 3) := by decide +kernel
theorem dX8_unlike_75 : decode cX8_unlike 75 = .ok (.iconst 0, 1) := by decide +kernel
theorem dX8_unlike_76 : decode cX8_unlike 76 = .ok (.istore 6, 2) := by decide +kernel
theorem dX8_unlike_78 : decode cX8_unlike 78 = .ok (.iload_n 3, 1) := by decide +kernel
theorem dX8_unlike_79 : decode cX8_unlike 79 = .ok (.iload 5, 2) := by decide +kernel
theorem dX8_unlike_81 : decode cX8_unlike 81 = .ok (.iload 6, 2) := by decide +kernel
theorem dX8_unlike_83 : decode cX8_unlike 83 = .ok (.if_icmp .ne 7, 3) := by decide +kernel
theorem dX8_unlike_86 : decode cX8_unlike 86 = .ok (.iconst 0, 1) := by decide +kernel
theorem dX8_unlike_87 : decode cX8_unlike 87 = .ok (.goto 4, 3) := by decide +kernel
theorem dX8_unlike_90 : decode cX8_unlike 90 = .ok (.iconst 1, 1) := by decide +kernel
theorem dX8_unlike_91 : decode cX8_unlike 91 = .ok (.iadd, 1) := by decide +kernel
theorem dX8_unlike_92 : decode cX8_unlike 92 = .ok (.istore_n 3, 1) := by decide +kernel
theorem dX8_unlike_93 : decode cX8_unlike 93 = .ok (.iinc 4 1, 3) := by decide +kernel
theorem dX8_unlike_96 : decode cX8_unlike 96 = .ok (.goto (-91), 3) := by decide +kernel
theorem dX8_unlike_99 : decode cX8_unlike 99 = .ok (.iload_n 3, 1) := by decide +kernel
theorem dX8_unlike_100 : decode cX8_unlike 100 = .ok (.ireturn, 1) := by decide +kernel
set_option maxHeartbeats 4000000 in
set_option maxRecDepth 100000 in
theorem tX8_unlike_76 (l : Launch) {E : ET} (hE : Aj E) {p : Program} {e : Env} {s : State} {m : MethodId} {args : Array Value} {below : List Frame} {meth : Method} {c : Code} (X : Cx p (rmL 4) s m args c yX8_unlike.cls cX8_unlike 7 E (Aw E) 0 0) (hr : meth.sig.returnType = (some .int)) (hk : meth.locks = false) {r : Int32} (G : GT) (a1 : Int32) (a2 : Int32) (a3 : Int32) (a4 : Int32) (a5 : Int32) (s0 : Int32) (k5 : Int32 → Int32 → Option Int32) (hk5 : ∀ (a3 a4 : Int32), k5 a3 a4 = some r → J p l e (rmL 4) s m args below meth c E (Aw E) s.heap 7 0 0 (MQ below (QI E r G) args s 0 0 (Aw E)) G 5 [(0, .ref (Ad E 22 0)), (1, .int a1), (2, .int a2), (3, .int a3), (4, .int a4)] []) (h : fX8_unlike_76 G a1 a2 a3 a4 a5 s0 k5 = some r) : J p l e (rmL 4) s m args below meth c E (Aw E) s.heap 7 0 0 (MQ below (QI E r G) args s 0 0 (Aw E)) G 76 [(0, .ref (Ad E 22 0)), (1, .int a1), (2, .int a2), (3, .int a3), (4, .int a4), (5, .int a5)] [.int s0] := by
  unfold fX8_unlike_76 at h
  refine j_istore (pc := 76) (lv' := [(0, .ref (Ad E 22 0)), (1, .int a1), (2, .int a2), (3, .int a3), (4, .int a4), (5, .int a5), (6, .int s0)]) X dX8_unlike_76 (by decide) rfl ?_
  refine j_iload_n (pc := 78) X dX8_unlike_78 rfl 3 rfl ?_
  refine j_iload (pc := 79) X dX8_unlike_79 5 rfl ?_
  refine j_iload (pc := 81) X dX8_unlike_81 6 rfl ?_
  refine j_icmp_ne (pc := 83) (tgt := 90) X dX8_unlike_83 (by decide) (fun hc => ?_) (fun hc => ?_)
  · rw [if_neg hc] at h
    refine j_iconst (pc := 90) (v := 1) X dX8_unlike_90 (by decide) ?_
    refine j_iadd (pc := 91) X dX8_unlike_91 ?_
    refine j_istore_n (pc := 92) (lv' := [(0, .ref (Ad E 22 0)), (1, .int a1), (2, .int a2), (3, .int (a3 + (1 : Int32))), (4, .int a4), (5, .int a5), (6, .int s0)]) X dX8_unlike_92 rfl (by decide) rfl ?_
    refine j_iinc (pc := 93) (q := 4) (v := (a4 + (1 : Int32))) (lv' := [(0, .ref (Ad E 22 0)), (1, .int a1), (2, .int a2), (3, .int (a3 + (1 : Int32))), (4, .int (a4 + (1 : Int32))), (5, .int a5), (6, .int s0)]) X dX8_unlike_93 rfl rfl (by decide) rfl ?_
    refine j_goto (pc := 96) (tgt := 5) X dX8_unlike_96 (by decide) ?_
    refine j_lv (lv' := [(0, .ref (Ad E 22 0)), (1, .int a1), (2, .int a2), (3, .int (a3 + (1 : Int32))), (4, .int (a4 + (1 : Int32)))]) [0, 1, 2, 3, 4] rfl ?_
    exact hk5 (a3 + (1 : Int32)) (a4 + (1 : Int32)) h
  · rw [if_pos hc] at h
    refine j_iconst (pc := 86) (v := 0) X dX8_unlike_86 (by decide) ?_
    refine j_goto (pc := 87) (tgt := 91) X dX8_unlike_87 (by decide) ?_
    refine j_iadd (pc := 91) X dX8_unlike_91 ?_
    refine j_istore_n (pc := 92) (lv' := [(0, .ref (Ad E 22 0)), (1, .int a1), (2, .int a2), (3, .int (a3 + (0 : Int32))), (4, .int a4), (5, .int a5), (6, .int s0)]) X dX8_unlike_92 rfl (by decide) rfl ?_
    refine j_iinc (pc := 93) (q := 4) (v := (a4 + (1 : Int32))) (lv' := [(0, .ref (Ad E 22 0)), (1, .int a1), (2, .int a2), (3, .int (a3 + (0 : Int32))), (4, .int (a4 + (1 : Int32))), (5, .int a5), (6, .int s0)]) X dX8_unlike_93 rfl rfl (by decide) rfl ?_
    refine j_goto (pc := 96) (tgt := 5) X dX8_unlike_96 (by decide) ?_
    refine j_lv (lv' := [(0, .ref (Ad E 22 0)), (1, .int a1), (2, .int a2), (3, .int (a3 + (0 : Int32))), (4, .int (a4 + (1 : Int32)))]) [0, 1, 2, 3, 4] rfl ?_
    exact hk5 (a3 + (0 : Int32)) (a4 + (1 : Int32)) h
set_option maxHeartbeats 4000000 in
set_option maxRecDepth 100000 in
theorem tX8_unlike_57 (l : Launch) {E : ET} (hE : Aj E) {p : Program} {e : Env} {s : State} {m : MethodId} {args : Array Value} {below : List Frame} {meth : Method} {c : Code} (X : Cx p (rmL 4) s m args c yX8_unlike.cls cX8_unlike 7 E (Aw E) 0 0) (hr : meth.sig.returnType = (some .int)) (hk : meth.locks = false) {r : Int32} (G : GT) (a1 : Int32) (a2 : Int32) (a3 : Int32) (a4 : Int32) (s0 : Int32) (k5 : Int32 → Int32 → Option Int32) (hk5 : ∀ (a3 a4 : Int32), k5 a3 a4 = some r → J p l e (rmL 4) s m args below meth c E (Aw E) s.heap 7 0 0 (MQ below (QI E r G) args s 0 0 (Aw E)) G 5 [(0, .ref (Ad E 22 0)), (1, .int a1), (2, .int a2), (3, .int a3), (4, .int a4)] []) (h : fX8_unlike_57 G a1 a2 a3 a4 s0 k5 = some r) : J p l e (rmL 4) s m args below meth c E (Aw E) s.heap 7 0 0 (MQ below (QI E r G) args s 0 0 (Aw E)) G 57 [(0, .ref (Ad E 22 0)), (1, .int a1), (2, .int a2), (3, .int a3), (4, .int a4)] [.int s0] := by
  unfold fX8_unlike_57 at h
  refine j_istore (pc := 57) (lv' := [(0, .ref (Ad E 22 0)), (1, .int a1), (2, .int a2), (3, .int a3), (4, .int a4), (5, .int s0)]) X dX8_unlike_57 (by decide) rfl ?_
  refine j_iload (pc := 59) X dX8_unlike_59 4 rfl ?_
  refine j_iconst (pc := 61) (v := 5) X dX8_unlike_61 (by decide) ?_
  refine j_icmp_ge (pc := 62) (tgt := 75) X dX8_unlike_62 (by decide) (fun hc => ?_) (fun hc => ?_)
  · rw [if_pos hc] at h
    refine j_iconst (pc := 75) (v := 0) X dX8_unlike_75 (by decide) ?_
    exact tX8_unlike_76 l hE X hr hk G a1 a2 a3 a4 s0 (0 : Int32) k5 hk5 h
  · rw [if_neg hc] at h
    refine j_aload_n (pc := 65) X dX8_unlike_65 rfl 0 rfl ?_
    refine j_iload_n (pc := 66) X dX8_unlike_66 rfl 2 rfl ?_
    refine j_iload (pc := 67) X dX8_unlike_67 4 rfl ?_
    obtain ⟨r1, hc3, h⟩ := bd_s h
    refine j_callI (pc := 69) X (tX8_patternAt l hE G a2 a4 hc3) muX8_patternAt (by decide) q773 rfl rfl (Nat.le_of_ble_eq_true rfl) ⟨Nat.le_of_ble_eq_true rfl, Nat.le_of_ble_eq_true rfl⟩ dX8_unlike_69 ?_
    refine j_goto (pc := 72) (tgt := 76) X dX8_unlike_72 (by decide) ?_
    exact tX8_unlike_76 l hE X hr hk G a1 a2 a3 a4 s0 r1 k5 hk5 h
set_option maxHeartbeats 4000000 in
set_option maxRecDepth 100000 in
theorem tX8_unlike_32 (l : Launch) {E : ET} (hE : Aj E) {p : Program} {e : Env} {s : State} {m : MethodId} {args : Array Value} {below : List Frame} {meth : Method} {c : Code} (X : Cx p (rmL 4) s m args c yX8_unlike.cls cX8_unlike 7 E (Aw E) 0 0) (hr : meth.sig.returnType = (some .int)) (hk : meth.locks = false) {r : Int32} (G : GT) (a1 : Int32) (a2 : Int32) (a3 : Int32) (a4 : Int32) (k5 : Int32 → Int32 → Option Int32) (hk5 : ∀ (a3 a4 : Int32), k5 a3 a4 = some r → J p l e (rmL 4) s m args below meth c E (Aw E) s.heap 7 0 0 (MQ below (QI E r G) args s 0 0 (Aw E)) G 5 [(0, .ref (Ad E 22 0)), (1, .int a1), (2, .int a2), (3, .int a3), (4, .int a4)] []) (h : fX8_unlike_32 G a1 a2 a3 a4 k5 = some r) : J p l e (rmL 4) s m args below meth c E (Aw E) s.heap 7 0 0 (MQ below (QI E r G) args s 0 0 (Aw E)) G 32 [(0, .ref (Ad E 22 0)), (1, .int a1), (2, .int a2), (3, .int a3), (4, .int a4)] [] := by
  unfold fX8_unlike_32 at h
  refine j_iload (pc := 32) X dX8_unlike_32 4 rfl ?_
  refine j_aload_n (pc := 34) X dX8_unlike_34 rfl 0 rfl ?_
  refine j_iload_n (pc := 35) X dX8_unlike_35 rfl 1 rfl ?_
  obtain ⟨r1, hc3, h⟩ := bd_s h
  refine j_callI (pc := 36) X (tX8_lengthFrom l hE G a1 hc3) muX8_lengthFrom (by decide) q797 rfl rfl (Nat.le_of_ble_eq_true rfl) ⟨Nat.le_of_ble_eq_true rfl, Nat.le_of_ble_eq_true rfl⟩ dX8_unlike_36 ?_
  refine j_icmp_ge (pc := 39) (tgt := 56) X dX8_unlike_39 (by decide) (fun hc => ?_) (fun hc => ?_)
  · rw [if_pos hc] at h
    refine j_iconst (pc := 56) (v := 0) X dX8_unlike_56 (by decide) ?_
    exact tX8_unlike_57 l hE X hr hk G a1 a2 a3 a4 (0 : Int32) k5 hk5 h
  · rw [if_neg hc] at h
    refine j_aload_n (pc := 42) X dX8_unlike_42 rfl 0 rfl ?_
    refine j_get (pc := 43) (v := .ref (Ad E 23 0)) X gf_X8_7 (by decide) rfl rfl dX8_unlike_43 ?_
    refine j_iconst (pc := 46) (v := 0) X dX8_unlike_46 (by decide) ?_
    refine j_iload_n (pc := 47) X dX8_unlike_47 rfl 1 rfl ?_
    refine j_iadd (pc := 48) X dX8_unlike_48 ?_
    refine j_iload (pc := 49) X dX8_unlike_49 4 rfl ?_
    refine j_iadd (pc := 51) X dX8_unlike_51 ?_
    obtain ⟨hg4, h⟩ := gd_s h
    refine j_iald (pc := 52) (n := 289) X (by decide) rfl hg4 dX8_unlike_52 ?_
    refine j_goto (pc := 53) (tgt := 57) X dX8_unlike_53 (by decide) ?_
    exact tX8_unlike_57 l hE X hr hk G a1 a2 a3 a4 (G 23 0 (((0 : Int32) + a1) + a4).toNatClampNeg) k5 hk5 h
set_option maxHeartbeats 4000000 in
set_option maxRecDepth 100000 in
theorem tX8_unlike_5 (l : Launch) {E : ET} (hE : Aj E) {p : Program} {e : Env} {s : State} {m : MethodId} {args : Array Value} {below : List Frame} {meth : Method} {c : Code} (X : Cx p (rmL 4) s m args c yX8_unlike.cls cX8_unlike 7 E (Aw E) 0 0) (hr : meth.sig.returnType = (some .int)) (hk : meth.locks = false) {r : Int32} (G : GT) (a1 : Int32) (a2 : Int32) : ∀ (n : Nat) (a3 a4 : Int32), fX8_unlike_5 G a1 a2 n a3 a4 = some r → J p l e (rmL 4) s m args below meth c E (Aw E) s.heap 7 0 0 (MQ below (QI E r G) args s 0 0 (Aw E)) G 5 [(0, .ref (Ad E 22 0)), (1, .int a1), (2, .int a2), (3, .int a3), (4, .int a4)] [] := by
  intro n
  induction n with
  | zero =>
    intro a3 a4 h
    simp [fX8_unlike_5] at h
  | succ n ih =>
    intro a3 a4 h
    rw [fX8_unlike_5] at h
    refine j_iload (pc := 5) X dX8_unlike_5 4 rfl ?_
    refine j_iconst (pc := 7) (v := 5) X dX8_unlike_7 (by decide) ?_
    refine j_icmp_lt (pc := 8) (tgt := 32) X dX8_unlike_8 (by decide) (fun hc => ?_) (fun hc => ?_)
    · rw [if_pos hc] at h
      exact tX8_unlike_32 l hE X hr hk G a1 a2 a3 a4 (fX8_unlike_5 G a1 a2 n) ih h
    · rw [if_neg hc] at h
      refine j_aload_n (pc := 11) X dX8_unlike_11 rfl 0 rfl ?_
      refine j_iload_n (pc := 12) X dX8_unlike_12 rfl 1 rfl ?_
      refine j_iload (pc := 13) X dX8_unlike_13 4 rfl ?_
      refine j_iadd (pc := 15) X dX8_unlike_15 ?_
      obtain ⟨r1, hc3, h⟩ := bd_s h
      refine j_callI (pc := 16) X (tX8_isKnot l hE G (a1 + a4) hc3) muX8_isKnot (by decide) q725 rfl rfl (Nat.le_of_ble_eq_true rfl) ⟨Nat.le_of_ble_eq_true rfl, Nat.le_of_ble_eq_true rfl⟩ dX8_unlike_16 ?_
      refine j_if_eq (pc := 19) (tgt := 99) X dX8_unlike_19 (by decide) (fun hc => ?_) (fun hc => ?_)
      · rw [if_pos hc] at h
        refine j_iload_n (pc := 99) X dX8_unlike_99 rfl 3 rfl ?_
        exact j_ret (pc := 100) X hr hk (vp_nar_int _) (Option.some.inj h) rfl dX8_unlike_100
      · rw [if_neg hc] at h
        refine j_iload (pc := 22) X dX8_unlike_22 4 rfl ?_
        refine j_aload_n (pc := 24) X dX8_unlike_24 rfl 0 rfl ?_
        refine j_iload_n (pc := 25) X dX8_unlike_25 rfl 1 rfl ?_
        obtain ⟨r4, hc6, h⟩ := bd_s h
        refine j_callI (pc := 26) X (tX8_lengthFrom l hE G a1 hc6) muX8_lengthFrom (by decide) q797 rfl rfl (Nat.le_of_ble_eq_true rfl) ⟨Nat.le_of_ble_eq_true rfl, Nat.le_of_ble_eq_true rfl⟩ dX8_unlike_26 ?_
        refine j_icmp_ge (pc := 29) (tgt := 99) X dX8_unlike_29 (by decide) (fun hc => ?_) (fun hc => ?_)
        · rw [if_pos hc] at h
          refine j_iload_n (pc := 99) X dX8_unlike_99 rfl 3 rfl ?_
          exact j_ret (pc := 100) X hr hk (vp_nar_int _) (Option.some.inj h) rfl dX8_unlike_100
        · rw [if_neg hc] at h
          exact tX8_unlike_32 l hE X hr hk G a1 a2 a3 a4 (fX8_unlike_5 G a1 a2 n) ih h
set_option maxHeartbeats 4000000 in
set_option maxRecDepth 100000 in
theorem tX8_unlike (l : Launch) {E : ET} (hE : Aj E) (G : GT) (a1 : Int32) (a2 : Int32) {r : Int32} (h : fX8_unlike G a1 a2 = some r) : CI l E yX8_unlike cX8_unlike 7 (some .int) 4 [.ref (Ad E 22 0), .int a1, .int a2] G r G := by
  refine Met_I (lv := [(0, .ref (Ad E 22 0)), (1, .int a1), (2, .int a2)]) (by decide +kernel) hE (Nat.le_of_ble_eq_true rfl) rfl ?_
  intro p e s m args below meth c X hr hk
  unfold fX8_unlike at h
  refine j_iconst (pc := 0) (v := 0) X dX8_unlike_0 (by decide) ?_
  refine j_istore_n (pc := 1) (lv' := [(0, .ref (Ad E 22 0)), (1, .int a1), (2, .int a2), (3, .int (0 : Int32))]) X dX8_unlike_1 rfl (by decide) rfl ?_
  refine j_iconst (pc := 2) (v := 0) X dX8_unlike_2 (by decide) ?_
  refine j_istore (pc := 3) (lv' := [(0, .ref (Ad E 22 0)), (1, .int a1), (2, .int a2), (3, .int (0 : Int32)), (4, .int (0 : Int32))]) X dX8_unlike_3 (by decide) rfl ?_
  exact tX8_unlike_5 l hE X hr hk G a1 a2 FU (0 : Int32) (0 : Int32) h
theorem dX8_nearest_0 : decode cX8_nearest 0 = .ok (.aload_n 0, 1) := by decide +kernel
theorem dX8_nearest_1 : decode cX8_nearest 1 = .ok (.iload_n 1, 1) := by decide +kernel
theorem dX8_nearest_2 : decode cX8_nearest 2 = .ok (.invokevirtual 134, 3) := by decide +kernel
theorem dX8_nearest_5 : decode cX8_nearest 5 = .ok (.ifCond .ne 5, 3) := by decide +kernel
theorem dX8_nearest_8 : decode cX8_nearest 8 = .ok (.iconst (-1), 1) := by decide +kernel
theorem dX8_nearest_9 : decode cX8_nearest 9 = .ok (.ireturn, 1) := by decide +kernel
theorem dX8_nearest_10 : decode cX8_nearest 10 = .ok (.iload_n 2, 1) := by decide +kernel
theorem dX8_nearest_11 : decode cX8_nearest 11 = .ok (.iconst 0, 1) := by decide +kernel
theorem dX8_nearest_12 : decode cX8_nearest 12 = .ok (.iconst 1, 1) := by decide +kernel
theorem dX8_nearest_13 : decode cX8_nearest 13 = .ok (.invokestatic 28, 3) := by decide +kernel
theorem dX8_nearest_16 : decode cX8_nearest 16 = .ok (.ifCond .ne 6, 3) := by decide +kernel
theorem dX8_nearest_19 : decode cX8_nearest 19 = .ok (.bipush (-2), 2) := by decide +kernel
theorem dX8_nearest_21 : decode cX8_nearest 21 = .ok (.ireturn, 1) := by decide +kernel
theorem dX8_nearest_22 : decode cX8_nearest 22 = .ok (.bipush (-5), 2) := by decide +kernel
theorem dX8_nearest_24 : decode cX8_nearest 24 = .ok (.istore_n 3, 1) := by decide +kernel
theorem dX8_nearest_25 : decode cX8_nearest 25 = .ok (.bipush (-5), 2) := by decide +kernel
theorem dX8_nearest_27 : decode cX8_nearest 27 = .ok (.istore 4, 2) := by decide +kernel
theorem dX8_nearest_29 : decode cX8_nearest 29 = .ok (.iconst 0, 1) := by decide +kernel
theorem dX8_nearest_30 : decode cX8_nearest 30 = .ok (.istore 5, 2) := by decide +kernel
theorem dX8_nearest_32 : decode cX8_nearest 32 = .ok (.iload 5, 2) := by decide +kernel
theorem dX8_nearest_34 : decode cX8_nearest 34 = .ok (.aload_n 0, 1) := by decide +kernel
theorem dX8_nearest_35 : decode cX8_nearest 35 = .ok (.getfield 7, 3) := by decide +kernel
theorem dX8_nearest_38 : decode cX8_nearest 38 = .ok (.bipush 80, 2) := by decide +kernel
theorem dX8_nearest_40 : decode cX8_nearest 40 = .ok (.iaload, 1) := by decide +kernel
theorem dX8_nearest_41 : decode cX8_nearest 41 = .ok (.if_icmp .ge 40, 3) := by decide +kernel
theorem dX8_nearest_44 : decode cX8_nearest 44 = .ok (.aload_n 0, 1) := by decide +kernel
theorem dX8_nearest_45 : decode cX8_nearest 45 = .ok (.aload_n 0, 1) := by decide +kernel
theorem dX8_nearest_46 : decode cX8_nearest 46 = .ok (.iload_n 1, 1) := by decide +kernel
theorem dX8_nearest_47 : decode cX8_nearest 47 = .ok (.invokevirtual 75, 3) := by decide +kernel
theorem dX8_nearest_50 : decode cX8_nearest 50 = .ok (.iload 5, 2) := by decide +kernel
theorem dX8_nearest_52 : decode cX8_nearest 52 = .ok (.invokevirtual 146, 3) := by decide +kernel
theorem dX8_nearest_55 : decode cX8_nearest 55 = .ok (.istore 6, 2) := by decide +kernel
theorem dX8_nearest_57 : decode cX8_nearest 57 = .ok (.iload_n 3, 1) := by decide +kernel
theorem dX8_nearest_58 : decode cX8_nearest 58 = .ok (.ifCond .lt 10, 3) := by decide +kernel
theorem dX8_nearest_61 : decode cX8_nearest 61 = .ok (.iload 6, 2) := by decide +kernel
theorem dX8_nearest_63 : decode cX8_nearest 63 = .ok (.iload 4, 2) := by decide +kernel
theorem dX8_nearest_65 : decode cX8_nearest 65 = .ok (.if_icmp .ge 10, 3) := by decide +kernel
theorem dX8_nearest_68 : decode cX8_nearest 68 = .ok (.iload 5, 2) := by decide +kernel
theorem dX8_nearest_70 : decode cX8_nearest 70 = .ok (.istore_n 3, 1) := by decide +kernel
theorem dX8_nearest_71 : decode cX8_nearest 71 = .ok (.iload 6, 2) := by decide +kernel
theorem dX8_nearest_73 : decode cX8_nearest 73 = .ok (.istore 4, 2) := by decide +kernel
theorem dX8_nearest_75 : decode cX8_nearest 75 = .ok (.iinc 5 1, 3) := by decide +kernel
theorem dX8_nearest_78 : decode cX8_nearest 78 = .ok (.goto (-46), 3) := by decide +kernel
theorem dX8_nearest_81 : decode cX8_nearest 81 = .ok (.iload_n 2, 1) := by decide +kernel
theorem dX8_nearest_82 : decode cX8_nearest 82 = .ok (.ifCond .ne 7, 3) := by decide +kernel
theorem dX8_nearest_85 : decode cX8_nearest 85 = .ok (.iload_n 3, 1) := by decide +kernel
theorem dX8_nearest_86 : decode cX8_nearest 86 = .ok (.goto 5, 3) := by decide +kernel
theorem dX8_nearest_89 : decode cX8_nearest 89 = .ok (.iload 4, 2) := by decide +kernel
theorem dX8_nearest_91 : decode cX8_nearest 91 = .ok (.ireturn, 1) := by decide +kernel
set_option maxHeartbeats 4000000 in
set_option maxRecDepth 100000 in
theorem tX8_nearest_32 (l : Launch) {E : ET} (hE : Aj E) {p : Program} {e : Env} {s : State} {m : MethodId} {args : Array Value} {below : List Frame} {meth : Method} {c : Code} (X : Cx p (rmL 6) s m args c yX8_nearest.cls cX8_nearest 7 E (Aw E) 0 0) (hr : meth.sig.returnType = (some .int)) (hk : meth.locks = false) {r : Int32} (G : GT) (a1 : Int32) (a2 : Int32) : ∀ (n : Nat) (a3 a4 a5 : Int32), fX8_nearest_32 G a1 a2 n a3 a4 a5 = some r → J p l e (rmL 6) s m args below meth c E (Aw E) s.heap 7 0 0 (MQ below (QI E r G) args s 0 0 (Aw E)) G 32 [(0, .ref (Ad E 22 0)), (1, .int a1), (2, .int a2), (3, .int a3), (4, .int a4), (5, .int a5)] [] := by
  intro n
  induction n with
  | zero =>
    intro a3 a4 a5 h
    simp [fX8_nearest_32] at h
  | succ n ih =>
    intro a3 a4 a5 h
    rw [fX8_nearest_32] at h
    refine j_iload (pc := 32) X dX8_nearest_32 5 rfl ?_
    refine j_aload_n (pc := 34) X dX8_nearest_34 rfl 0 rfl ?_
    refine j_get (pc := 35) (v := .ref (Ad E 23 0)) X gf_X8_7 (by decide) rfl rfl dX8_nearest_35 ?_
    refine j_bipush (pc := 38) (v := 80) X dX8_nearest_38 (by decide) ?_
    obtain ⟨hg1, h⟩ := gd_s h
    refine j_iald (pc := 40) (n := 289) X (by decide) rfl hg1 dX8_nearest_40 ?_
    refine j_icmp_ge (pc := 41) (tgt := 81) X dX8_nearest_41 (by decide) (fun hc => ?_) (fun hc => ?_)
    · rw [if_pos hc] at h
      refine j_iload_n (pc := 81) X dX8_nearest_81 rfl 2 rfl ?_
      refine j_if_ne (pc := 82) (tgt := 89) X dX8_nearest_82 (by decide) (fun hc => ?_) (fun hc => ?_)
      · rw [if_neg hc] at h
        refine j_iload (pc := 89) X dX8_nearest_89 4 rfl ?_
        exact j_ret (pc := 91) X hr hk (vp_nar_int _) (Option.some.inj h) rfl dX8_nearest_91
      · rw [if_pos hc] at h
        refine j_iload_n (pc := 85) X dX8_nearest_85 rfl 3 rfl ?_
        refine j_goto (pc := 86) (tgt := 91) X dX8_nearest_86 (by decide) ?_
        exact j_ret (pc := 91) X hr hk (vp_nar_int _) (Option.some.inj h) rfl dX8_nearest_91
    · rw [if_neg hc] at h
      refine j_aload_n (pc := 44) X dX8_nearest_44 rfl 0 rfl ?_
      refine j_aload_n (pc := 45) X dX8_nearest_45 rfl 0 rfl ?_
      refine j_iload_n (pc := 46) X dX8_nearest_46 rfl 1 rfl ?_
      obtain ⟨r2, hc4, h⟩ := bd_s h
      refine j_callI (pc := 47) X (tX8_firstOf l hE G a1 hc4) muX8_firstOf (by decide) q868 rfl rfl (Nat.le_of_ble_eq_true rfl) ⟨Nat.le_of_ble_eq_true rfl, Nat.le_of_ble_eq_true rfl⟩ dX8_nearest_47 ?_
      refine j_iload (pc := 50) X dX8_nearest_50 5 rfl ?_
      obtain ⟨r5, hc7, h⟩ := bd_s h
      refine j_callI (pc := 52) X (tX8_unlike l hE G r2 a5 hc7) muX8_unlike (by decide) q896 rfl rfl (Nat.le_of_ble_eq_true rfl) ⟨Nat.le_of_ble_eq_true rfl, Nat.le_of_ble_eq_true rfl⟩ dX8_nearest_52 ?_
      refine j_istore (pc := 55) (lv' := [(0, .ref (Ad E 22 0)), (1, .int a1), (2, .int a2), (3, .int a3), (4, .int a4), (5, .int a5), (6, .int r5)]) X dX8_nearest_55 (by decide) rfl ?_
      refine j_iload_n (pc := 57) X dX8_nearest_57 rfl 3 rfl ?_
      refine j_if_lt (pc := 58) (tgt := 68) X dX8_nearest_58 (by decide) (fun hc => ?_) (fun hc => ?_)
      · rw [if_pos hc] at h
        refine j_iload (pc := 68) X dX8_nearest_68 5 rfl ?_
        refine j_istore_n (pc := 70) (lv' := [(0, .ref (Ad E 22 0)), (1, .int a1), (2, .int a2), (3, .int a5), (4, .int a4), (5, .int a5), (6, .int r5)]) X dX8_nearest_70 rfl (by decide) rfl ?_
        refine j_iload (pc := 71) X dX8_nearest_71 6 rfl ?_
        refine j_istore (pc := 73) (lv' := [(0, .ref (Ad E 22 0)), (1, .int a1), (2, .int a2), (3, .int a5), (4, .int r5), (5, .int a5), (6, .int r5)]) X dX8_nearest_73 (by decide) rfl ?_
        refine j_iinc (pc := 75) (q := 5) (v := (a5 + (1 : Int32))) (lv' := [(0, .ref (Ad E 22 0)), (1, .int a1), (2, .int a2), (3, .int a5), (4, .int r5), (5, .int (a5 + (1 : Int32))), (6, .int r5)]) X dX8_nearest_75 rfl rfl (by decide) rfl ?_
        refine j_goto (pc := 78) (tgt := 32) X dX8_nearest_78 (by decide) ?_
        refine j_lv (lv' := [(0, .ref (Ad E 22 0)), (1, .int a1), (2, .int a2), (3, .int a5), (4, .int r5), (5, .int (a5 + (1 : Int32)))]) [0, 1, 2, 3, 4, 5] rfl ?_
        exact ih a5 r5 (a5 + (1 : Int32)) h
      · rw [if_neg hc] at h
        refine j_iload (pc := 61) X dX8_nearest_61 6 rfl ?_
        refine j_iload (pc := 63) X dX8_nearest_63 4 rfl ?_
        refine j_icmp_ge (pc := 65) (tgt := 75) X dX8_nearest_65 (by decide) (fun hc => ?_) (fun hc => ?_)
        · rw [if_pos hc] at h
          refine j_iinc (pc := 75) (q := 5) (v := (a5 + (1 : Int32))) (lv' := [(0, .ref (Ad E 22 0)), (1, .int a1), (2, .int a2), (3, .int a3), (4, .int a4), (5, .int (a5 + (1 : Int32))), (6, .int r5)]) X dX8_nearest_75 rfl rfl (by decide) rfl ?_
          refine j_goto (pc := 78) (tgt := 32) X dX8_nearest_78 (by decide) ?_
          refine j_lv (lv' := [(0, .ref (Ad E 22 0)), (1, .int a1), (2, .int a2), (3, .int a3), (4, .int a4), (5, .int (a5 + (1 : Int32)))]) [0, 1, 2, 3, 4, 5] rfl ?_
          exact ih a3 a4 (a5 + (1 : Int32)) h
        · rw [if_neg hc] at h
          refine j_iload (pc := 68) X dX8_nearest_68 5 rfl ?_
          refine j_istore_n (pc := 70) (lv' := [(0, .ref (Ad E 22 0)), (1, .int a1), (2, .int a2), (3, .int a5), (4, .int a4), (5, .int a5), (6, .int r5)]) X dX8_nearest_70 rfl (by decide) rfl ?_
          refine j_iload (pc := 71) X dX8_nearest_71 6 rfl ?_
          refine j_istore (pc := 73) (lv' := [(0, .ref (Ad E 22 0)), (1, .int a1), (2, .int a2), (3, .int a5), (4, .int r5), (5, .int a5), (6, .int r5)]) X dX8_nearest_73 (by decide) rfl ?_
          refine j_iinc (pc := 75) (q := 5) (v := (a5 + (1 : Int32))) (lv' := [(0, .ref (Ad E 22 0)), (1, .int a1), (2, .int a2), (3, .int a5), (4, .int r5), (5, .int (a5 + (1 : Int32))), (6, .int r5)]) X dX8_nearest_75 rfl rfl (by decide) rfl ?_
          refine j_goto (pc := 78) (tgt := 32) X dX8_nearest_78 (by decide) ?_
          refine j_lv (lv' := [(0, .ref (Ad E 22 0)), (1, .int a1), (2, .int a2), (3, .int a5), (4, .int r5), (5, .int (a5 + (1 : Int32)))]) [0, 1, 2, 3, 4, 5] rfl ?_
          exact ih a5 r5 (a5 + (1 : Int32)) h
set_option maxHeartbeats 4000000 in
set_option maxRecDepth 100000 in
theorem tX8_nearest (l : Launch) {E : ET} (hE : Aj E) (G : GT) (a1 : Int32) (a2 : Int32) {r : Int32} (h : fX8_nearest G a1 a2 = some r) : CI l E yX8_nearest cX8_nearest 7 (some .int) 6 [.ref (Ad E 22 0), .int a1, .int a2] G r G := by
  refine Met_I (lv := [(0, .ref (Ad E 22 0)), (1, .int a1), (2, .int a2)]) (by decide +kernel) hE (Nat.le_of_ble_eq_true rfl) rfl ?_
  intro p e s m args below meth c X hr hk
  unfold fX8_nearest at h
  refine j_aload_n (pc := 0) X dX8_nearest_0 rfl 0 rfl ?_
  refine j_iload_n (pc := 1) X dX8_nearest_1 rfl 1 rfl ?_
  obtain ⟨r1, hc3, h⟩ := bd_s h
  refine j_callI (pc := 2) X (tX8_isRun l hE G a1 hc3) muX8_isRun (by decide) q864 rfl rfl (Nat.le_of_ble_eq_true rfl) ⟨Nat.le_of_ble_eq_true rfl, Nat.le_of_ble_eq_true rfl⟩ dX8_nearest_2 ?_
  refine j_if_ne (pc := 5) (tgt := 10) X dX8_nearest_5 (by decide) (fun hc => ?_) (fun hc => ?_)
  · rw [if_neg hc] at h
    refine j_iload_n (pc := 10) X dX8_nearest_10 rfl 2 rfl ?_
    refine j_iconst (pc := 11) (v := 0) X dX8_nearest_11 (by decide) ?_
    refine j_iconst (pc := 12) (v := 1) X dX8_nearest_12 (by decide) ?_
    obtain ⟨r4, hc6, h⟩ := bd_s h
    refine j_staI (pc := 13) X (tX8_in l hE G a2 (0 : Int32) (1 : Int32) hc6) muX8_in (Or.inl q714) rfl rfl (Nat.le_of_ble_eq_true rfl) ⟨Nat.le_of_ble_eq_true rfl, Nat.le_of_ble_eq_true rfl⟩ dX8_nearest_13 ?_
    refine j_if_ne (pc := 16) (tgt := 22) X dX8_nearest_16 (by decide) (fun hc => ?_) (fun hc => ?_)
    · rw [if_neg hc] at h
      refine j_bipush (pc := 22) (v := (-5)) X dX8_nearest_22 (by decide) ?_
      refine j_istore_n (pc := 24) (lv' := [(0, .ref (Ad E 22 0)), (1, .int a1), (2, .int a2), (3, .int (-5 : Int32))]) X dX8_nearest_24 rfl (by decide) rfl ?_
      refine j_bipush (pc := 25) (v := (-5)) X dX8_nearest_25 (by decide) ?_
      refine j_istore (pc := 27) (lv' := [(0, .ref (Ad E 22 0)), (1, .int a1), (2, .int a2), (3, .int (-5 : Int32)), (4, .int (-5 : Int32))]) X dX8_nearest_27 (by decide) rfl ?_
      refine j_iconst (pc := 29) (v := 0) X dX8_nearest_29 (by decide) ?_
      refine j_istore (pc := 30) (lv' := [(0, .ref (Ad E 22 0)), (1, .int a1), (2, .int a2), (3, .int (-5 : Int32)), (4, .int (-5 : Int32)), (5, .int (0 : Int32))]) X dX8_nearest_30 (by decide) rfl ?_
      exact tX8_nearest_32 l hE X hr hk G a1 a2 FU (-5 : Int32) (-5 : Int32) (0 : Int32) h
    · rw [if_pos hc] at h
      refine j_bipush (pc := 19) (v := (-2)) X dX8_nearest_19 (by decide) ?_
      exact j_ret (pc := 21) X hr hk (vp_nar_int _) (Option.some.inj h) rfl dX8_nearest_21
  · rw [if_pos hc] at h
    refine j_iconst (pc := 8) (v := (-1)) X dX8_nearest_8 (by decide) ?_
    exact j_ret (pc := 9) X hr hk (vp_nar_int _) (Option.some.inj h) rfl dX8_nearest_9
theorem dX8_knowing_0 : decode cX8_knowing 0 = .ok (.iconst 0, 1) := by decide +kernel
theorem dX8_knowing_1 : decode cX8_knowing 1 = .ok (.istore_n 2, 1) := by decide +kernel
theorem dX8_knowing_2 : decode cX8_knowing 2 = .ok (.iconst 0, 1) := by decide +kernel
theorem dX8_knowing_3 : decode cX8_knowing 3 = .ok (.istore_n 3, 1) := by decide +kernel
theorem dX8_knowing_4 : decode cX8_knowing 4 = .ok (.iload_n 3, 1) := by decide +kernel
theorem dX8_knowing_5 : decode cX8_knowing 5 = .ok (.bipush 6, 2) := by decide +kernel
theorem dX8_knowing_7 : decode cX8_knowing 7 = .ok (.if_icmp .ge 28, 3) := by decide +kernel
theorem dX8_knowing_10 : decode cX8_knowing 10 = .ok (.iload_n 2, 1) := by decide +kernel
theorem dX8_knowing_11 : decode cX8_knowing 11 = .ok (.aload_n 0, 1) := by decide +kernel
theorem dX8_knowing_12 : decode cX8_knowing 12 = .ok (.iload_n 3, 1) := by decide +kernel
theorem dX8_knowing_13 : decode cX8_knowing 13 = .ok (.iload_n 1, 1) := by decide +kernel
theorem dX8_knowing_14 : decode cX8_knowing 14 = .ok (.invokevirtual 113, 3) := by decide +kernel
theorem dX8_knowing_17 : decode cX8_knowing 17 = .ok (.ifCond .eq 9, 3) := by decide +kernel
theorem dX8_knowing_20 : decode cX8_knowing 20 = .ok (.iconst 1, 1) := by decide +kernel
theorem dX8_knowing_21 : decode cX8_knowing 21 = .ok (.iload_n 3, 1) := by decide +kernel
theorem dX8_knowing_22 : decode cX8_knowing 22 = .ok (.ishl, 1) := by decide +kernel
theorem dX8_knowing_23 : decode cX8_knowing 23 = .ok (.goto 4, 3) := by decide +kernel
theorem dX8_knowing_26 : decode cX8_knowing 26 = .ok (.iconst 0, 1) := by decide +kernel
theorem dX8_knowing_27 : decode cX8_knowing 27 = .ok (.ior, 1) := by decide +kernel
theorem dX8_knowing_28 : decode cX8_knowing 28 = .ok (.istore_n 2, 1) := by decide +kernel
theorem dX8_knowing_29 : decode cX8_knowing 29 = .ok (.iinc 3 1, 3) := by decide +kernel
theorem dX8_knowing_32 : decode cX8_knowing 32 = .ok (.goto (-28), 3) := by decide +kernel
theorem dX8_knowing_35 : decode cX8_knowing 35 = .ok (.iload_n 2, 1) := by decide +kernel
theorem dX8_knowing_36 : decode cX8_knowing 36 = .ok (.ireturn, 1) := by decide +kernel
set_option maxHeartbeats 4000000 in
set_option maxRecDepth 100000 in
theorem tX8_knowing_4 (l : Launch) {E : ET} (hE : Aj E) {p : Program} {e : Env} {s : State} {m : MethodId} {args : Array Value} {below : List Frame} {meth : Method} {c : Code} (X : Cx p (rmL 2) s m args c yX8_knowing.cls cX8_knowing 4 E (Aw E) 0 0) (hr : meth.sig.returnType = (some .int)) (hk : meth.locks = false) {r : Int32} (G : GT) (a1 : Int32) : ∀ (n : Nat) (a2 a3 : Int32), fX8_knowing_4 G a1 n a2 a3 = some r → J p l e (rmL 2) s m args below meth c E (Aw E) s.heap 4 0 0 (MQ below (QI E r G) args s 0 0 (Aw E)) G 4 [(0, .ref (Ad E 22 0)), (1, .int a1), (2, .int a2), (3, .int a3)] [] := by
  intro n
  induction n with
  | zero =>
    intro a2 a3 h
    simp [fX8_knowing_4] at h
  | succ n ih =>
    intro a2 a3 h
    rw [fX8_knowing_4] at h
    refine j_iload_n (pc := 4) X dX8_knowing_4 rfl 3 rfl ?_
    refine j_bipush (pc := 5) (v := 6) X dX8_knowing_5 (by decide) ?_
    refine j_icmp_ge (pc := 7) (tgt := 35) X dX8_knowing_7 (by decide) (fun hc => ?_) (fun hc => ?_)
    · rw [if_pos hc] at h
      refine j_iload_n (pc := 35) X dX8_knowing_35 rfl 2 rfl ?_
      exact j_ret (pc := 36) X hr hk (vp_nar_int _) (Option.some.inj h) rfl dX8_knowing_36
    · rw [if_neg hc] at h
      refine j_iload_n (pc := 10) X dX8_knowing_10 rfl 2 rfl ?_
      refine j_aload_n (pc := 11) X dX8_knowing_11 rfl 0 rfl ?_
      refine j_iload_n (pc := 12) X dX8_knowing_12 rfl 3 rfl ?_
      refine j_iload_n (pc := 13) X dX8_knowing_13 rfl 1 rfl ?_
      obtain ⟨r1, hc3, h⟩ := bd_s h
      refine j_callI (pc := 14) X (tX8_knows l hE G a3 a1 hc3) muX8_knows (by decide) q809 rfl rfl (Nat.le_of_ble_eq_true rfl) ⟨Nat.le_of_ble_eq_true rfl, Nat.le_of_ble_eq_true rfl⟩ dX8_knowing_14 ?_
      refine j_if_eq (pc := 17) (tgt := 26) X dX8_knowing_17 (by decide) (fun hc => ?_) (fun hc => ?_)
      · rw [if_pos hc] at h
        refine j_iconst (pc := 26) (v := 0) X dX8_knowing_26 (by decide) ?_
        refine j_ior (pc := 27) X dX8_knowing_27 ?_
        refine j_istore_n (pc := 28) (lv' := [(0, .ref (Ad E 22 0)), (1, .int a1), (2, .int (a2 ||| (0 : Int32))), (3, .int a3)]) X dX8_knowing_28 rfl (by decide) rfl ?_
        refine j_iinc (pc := 29) (q := 3) (v := (a3 + (1 : Int32))) (lv' := [(0, .ref (Ad E 22 0)), (1, .int a1), (2, .int (a2 ||| (0 : Int32))), (3, .int (a3 + (1 : Int32)))]) X dX8_knowing_29 rfl rfl (by decide) rfl ?_
        refine j_goto (pc := 32) (tgt := 4) X dX8_knowing_32 (by decide) ?_
        exact ih (a2 ||| (0 : Int32)) (a3 + (1 : Int32)) h
      · rw [if_neg hc] at h
        refine j_iconst (pc := 20) (v := 1) X dX8_knowing_20 (by decide) ?_
        refine j_iload_n (pc := 21) X dX8_knowing_21 rfl 3 rfl ?_
        refine j_ishl (pc := 22) X dX8_knowing_22 ?_
        refine j_goto (pc := 23) (tgt := 27) X dX8_knowing_23 (by decide) ?_
        refine j_ior (pc := 27) X dX8_knowing_27 ?_
        refine j_istore_n (pc := 28) (lv' := [(0, .ref (Ad E 22 0)), (1, .int a1), (2, .int (a2 ||| ((1 : Int32) <<< (a3 &&& 31)))), (3, .int a3)]) X dX8_knowing_28 rfl (by decide) rfl ?_
        refine j_iinc (pc := 29) (q := 3) (v := (a3 + (1 : Int32))) (lv' := [(0, .ref (Ad E 22 0)), (1, .int a1), (2, .int (a2 ||| ((1 : Int32) <<< (a3 &&& 31)))), (3, .int (a3 + (1 : Int32)))]) X dX8_knowing_29 rfl rfl (by decide) rfl ?_
        refine j_goto (pc := 32) (tgt := 4) X dX8_knowing_32 (by decide) ?_
        exact ih (a2 ||| ((1 : Int32) <<< (a3 &&& 31))) (a3 + (1 : Int32)) h
set_option maxHeartbeats 4000000 in
set_option maxRecDepth 100000 in
theorem tX8_knowing (l : Launch) {E : ET} (hE : Aj E) (G : GT) (a1 : Int32) {r : Int32} (h : fX8_knowing G a1 = some r) : CI l E yX8_knowing cX8_knowing 4 (some .int) 2 [.ref (Ad E 22 0), .int a1] G r G := by
  refine Met_I (lv := [(0, .ref (Ad E 22 0)), (1, .int a1)]) (by decide +kernel) hE (Nat.le_of_ble_eq_true rfl) rfl ?_
  intro p e s m args below meth c X hr hk
  unfold fX8_knowing at h
  refine j_iconst (pc := 0) (v := 0) X dX8_knowing_0 (by decide) ?_
  refine j_istore_n (pc := 1) (lv' := [(0, .ref (Ad E 22 0)), (1, .int a1), (2, .int (0 : Int32))]) X dX8_knowing_1 rfl (by decide) rfl ?_
  refine j_iconst (pc := 2) (v := 0) X dX8_knowing_2 (by decide) ?_
  refine j_istore_n (pc := 3) (lv' := [(0, .ref (Ad E 22 0)), (1, .int a1), (2, .int (0 : Int32)), (3, .int (0 : Int32))]) X dX8_knowing_3 rfl (by decide) rfl ?_
  exact tX8_knowing_4 l hE X hr hk G a1 FU (0 : Int32) (0 : Int32) h
theorem dX8_word_0 : decode cX8_word 0 = .ok (.aload_n 0, 1) := by decide +kernel
theorem dX8_word_1 : decode cX8_word 1 = .ok (.iload_n 1, 1) := by decide +kernel
theorem dX8_word_2 : decode cX8_word 2 = .ok (.invokevirtual 107, 3) := by decide +kernel
theorem dX8_word_5 : decode cX8_word 5 = .ok (.ifCond .ne 5, 3) := by decide +kernel
theorem dX8_word_8 : decode cX8_word 8 = .ok (.iconst (-1), 1) := by decide +kernel
theorem dX8_word_9 : decode cX8_word 9 = .ok (.ireturn, 1) := by decide +kernel
theorem dX8_word_10 : decode cX8_word 10 = .ok (.iload_n 2, 1) := by decide +kernel
theorem dX8_word_11 : decode cX8_word 11 = .ok (.tableswitch 58 0 3 #[29, 35, 46, 52], 29) := by decide +kernel
theorem dX8_word_40 : decode cX8_word 40 = .ok (.aload_n 0, 1) := by decide +kernel
theorem dX8_word_41 : decode cX8_word 41 = .ok (.iload_n 1, 1) := by decide +kernel
theorem dX8_word_42 : decode cX8_word 42 = .ok (.invokevirtual 64, 3) := by decide +kernel
theorem dX8_word_45 : decode cX8_word 45 = .ok (.ireturn, 1) := by decide +kernel
theorem dX8_word_46 : decode cX8_word 46 = .ok (.aload_n 0, 1) := by decide +kernel
theorem dX8_word_47 : decode cX8_word 47 = .ok (.getfield 7, 3) := by decide +kernel
theorem dX8_word_50 : decode cX8_word 50 = .ok (.sipush 161, 3) := by decide +kernel
theorem dX8_word_53 : decode cX8_word 53 = .ok (.iload_n 1, 1) := by decide +kernel
theorem dX8_word_54 : decode cX8_word 54 = .ok (.iadd, 1) := by decide +kernel
theorem dX8_word_55 : decode cX8_word 55 = .ok (.iaload, 1) := by decide +kernel
theorem dX8_word_56 : decode cX8_word 56 = .ok (.ireturn, 1) := by decide +kernel
theorem dX8_word_57 : decode cX8_word 57 = .ok (.aload_n 0, 1) := by decide +kernel
theorem dX8_word_58 : decode cX8_word 58 = .ok (.iload_n 1, 1) := by decide +kernel
theorem dX8_word_59 : decode cX8_word 59 = .ok (.invokevirtual 81, 3) := by decide +kernel
theorem dX8_word_62 : decode cX8_word 62 = .ok (.ireturn, 1) := by decide +kernel
theorem dX8_word_63 : decode cX8_word 63 = .ok (.aload_n 0, 1) := by decide +kernel
theorem dX8_word_64 : decode cX8_word 64 = .ok (.iload_n 1, 1) := by decide +kernel
theorem dX8_word_65 : decode cX8_word 65 = .ok (.invokevirtual 149, 3) := by decide +kernel
theorem dX8_word_68 : decode cX8_word 68 = .ok (.ireturn, 1) := by decide +kernel
theorem dX8_word_69 : decode cX8_word 69 = .ok (.iload_n 2, 1) := by decide +kernel
theorem dX8_word_70 : decode cX8_word 70 = .ok (.iconst 4, 1) := by decide +kernel
theorem dX8_word_71 : decode cX8_word 71 = .ok (.bipush 8, 2) := by decide +kernel
theorem dX8_word_73 : decode cX8_word 73 = .ok (.invokestatic 28, 3) := by decide +kernel
theorem dX8_word_76 : decode cX8_word 76 = .ok (.ifCond .eq 14, 3) := by decide +kernel
theorem dX8_word_79 : decode cX8_word 79 = .ok (.aload_n 0, 1) := by decide +kernel
theorem dX8_word_80 : decode cX8_word 80 = .ok (.iload_n 1, 1) := by decide +kernel
theorem dX8_word_81 : decode cX8_word 81 = .ok (.iload_n 2, 1) := by decide +kernel
theorem dX8_word_82 : decode cX8_word 82 = .ok (.iconst 4, 1) := by decide +kernel
theorem dX8_word_83 : decode cX8_word 83 = .ok (.isub, 1) := by decide +kernel
theorem dX8_word_84 : decode cX8_word 84 = .ok (.invokevirtual 60, 3) := by decide +kernel
theorem dX8_word_87 : decode cX8_word 87 = .ok (.goto 5, 3) := by decide +kernel
theorem dX8_word_90 : decode cX8_word 90 = .ok (.bipush (-2), 2) := by decide +kernel
theorem dX8_word_92 : decode cX8_word 92 = .ok (.ireturn, 1) := by decide +kernel
set_option maxHeartbeats 4000000 in
set_option maxRecDepth 100000 in
theorem tX8_word (l : Launch) {E : ET} (hE : Aj E) (G : GT) (a1 : Int32) (a2 : Int32) {r : Int32} (h : fX8_word G a1 a2 = some r) : CI l E yX8_word cX8_word 3 (some .int) 6 [.ref (Ad E 22 0), .int a1, .int a2] G r G := by
  refine Met_I (lv := [(0, .ref (Ad E 22 0)), (1, .int a1), (2, .int a2)]) (by decide +kernel) hE (Nat.le_of_ble_eq_true rfl) rfl ?_
  intro p e s m args below meth c X hr hk
  unfold fX8_word at h
  refine j_aload_n (pc := 0) X dX8_word_0 rfl 0 rfl ?_
  refine j_iload_n (pc := 1) X dX8_word_1 rfl 1 rfl ?_
  obtain ⟨r1, hc3, h⟩ := bd_s h
  refine j_callI (pc := 2) X (tX8_isWord l hE G a1 hc3) muX8_isWord (by decide) q781 rfl rfl (Nat.le_of_ble_eq_true rfl) ⟨Nat.le_of_ble_eq_true rfl, Nat.le_of_ble_eq_true rfl⟩ dX8_word_2 ?_
  refine j_if_ne (pc := 5) (tgt := 10) X dX8_word_5 (by decide) (fun hc => ?_) (fun hc => ?_)
  · rw [if_neg hc] at h
    refine j_iload_n (pc := 10) X dX8_word_10 rfl 2 rfl ?_
    by_cases hx4 : a2 = 0
    · rw [if_pos hx4] at h
      refine j_tabIn (pc := 11) (tgt := 40) (off := 29) X dX8_word_11 (by rw [hx4]; decide) (by rw [hx4]; decide) (by rw [hx4]; decide) (by decide) ?_
      refine j_aload_n (pc := 40) X dX8_word_40 rfl 0 rfl ?_
      refine j_iload_n (pc := 41) X dX8_word_41 rfl 1 rfl ?_
      obtain ⟨r5, hc7, h⟩ := bd_s h
      refine j_callI (pc := 42) X (tX8_lengthOf l hE G a1 hc7) muX8_lengthOf (by decide) q769 rfl rfl (Nat.le_of_ble_eq_true rfl) ⟨Nat.le_of_ble_eq_true rfl, Nat.le_of_ble_eq_true rfl⟩ dX8_word_42 ?_
      exact j_ret (pc := 45) X hr hk (vp_nar_int _) (Option.some.inj h) rfl dX8_word_45
    rw [if_neg hx4] at h
    by_cases hx8 : a2 = 1
    · rw [if_pos hx8] at h
      refine j_tabIn (pc := 11) (tgt := 46) (off := 35) X dX8_word_11 (by rw [hx8]; decide) (by rw [hx8]; decide) (by rw [hx8]; decide) (by decide) ?_
      refine j_aload_n (pc := 46) X dX8_word_46 rfl 0 rfl ?_
      refine j_get (pc := 47) (v := .ref (Ad E 23 0)) X gf_X8_7 (by decide) rfl rfl dX8_word_47 ?_
      refine j_sipush (pc := 50) (v := 161) X dX8_word_50 (by decide) ?_
      refine j_iload_n (pc := 53) X dX8_word_53 rfl 1 rfl ?_
      refine j_iadd (pc := 54) X dX8_word_54 ?_
      obtain ⟨hg9, h⟩ := gd_s h
      refine j_iald (pc := 55) (n := 289) X (by decide) rfl hg9 dX8_word_55 ?_
      exact j_ret (pc := 56) X hr hk (vp_nar_int _) (Option.some.inj h) rfl dX8_word_56
    rw [if_neg hx8] at h
    by_cases hx10 : a2 = 2
    · rw [if_pos hx10] at h
      refine j_tabIn (pc := 11) (tgt := 57) (off := 46) X dX8_word_11 (by rw [hx10]; decide) (by rw [hx10]; decide) (by rw [hx10]; decide) (by decide) ?_
      refine j_aload_n (pc := 57) X dX8_word_57 rfl 0 rfl ?_
      refine j_iload_n (pc := 58) X dX8_word_58 rfl 1 rfl ?_
      obtain ⟨r11, hc13, h⟩ := bd_s h
      refine j_callI (pc := 59) X (tX8_runsOf l hE G a1 hc13) muX8_runsOf (by decide) q817 rfl rfl (Nat.le_of_ble_eq_true rfl) ⟨Nat.le_of_ble_eq_true rfl, Nat.le_of_ble_eq_true rfl⟩ dX8_word_59 ?_
      exact j_ret (pc := 62) X hr hk (vp_nar_int _) (Option.some.inj h) rfl dX8_word_62
    rw [if_neg hx10] at h
    by_cases hx14 : a2 = 3
    · rw [if_pos hx14] at h
      refine j_tabIn (pc := 11) (tgt := 63) (off := 52) X dX8_word_11 (by rw [hx14]; decide) (by rw [hx14]; decide) (by rw [hx14]; decide) (by decide) ?_
      refine j_aload_n (pc := 63) X dX8_word_63 rfl 0 rfl ?_
      refine j_iload_n (pc := 64) X dX8_word_64 rfl 1 rfl ?_
      obtain ⟨r15, hc17, h⟩ := bd_s h
      refine j_callI (pc := 65) X (tX8_knowing l hE G a1 hc17) muX8_knowing (by decide) q904 rfl rfl (Nat.le_of_ble_eq_true rfl) ⟨Nat.le_of_ble_eq_true rfl, Nat.le_of_ble_eq_true rfl⟩ dX8_word_65 ?_
      exact j_ret (pc := 68) X hr hk (vp_nar_int _) (Option.some.inj h) rfl dX8_word_68
    rw [if_neg hx14] at h
    refine j_tabOut (pc := 11) (tgt := 69) X dX8_word_11 (tab_out 3 (by decide) (fun j hj => by match j, hj with | 0, _ => exact hx4 | 1, _ => exact hx8 | 2, _ => exact hx10 | 3, _ => exact hx14 | j + 4, hj => omega)) (by decide) ?_
    refine j_iload_n (pc := 69) X dX8_word_69 rfl 2 rfl ?_
    refine j_iconst (pc := 70) (v := 4) X dX8_word_70 (by decide) ?_
    refine j_bipush (pc := 71) (v := 8) X dX8_word_71 (by decide) ?_
    obtain ⟨r18, hc20, h⟩ := bd_s h
    refine j_staI (pc := 73) X (tX8_in l hE G a2 (4 : Int32) (8 : Int32) hc20) muX8_in (Or.inl q714) rfl rfl (Nat.le_of_ble_eq_true rfl) ⟨Nat.le_of_ble_eq_true rfl, Nat.le_of_ble_eq_true rfl⟩ dX8_word_73 ?_
    refine j_if_eq (pc := 76) (tgt := 90) X dX8_word_76 (by decide) (fun hc => ?_) (fun hc => ?_)
    · rw [if_pos hc] at h
      refine j_bipush (pc := 90) (v := (-2)) X dX8_word_90 (by decide) ?_
      exact j_ret (pc := 92) X hr hk (vp_nar_int _) (Option.some.inj h) rfl dX8_word_92
    · rw [if_neg hc] at h
      refine j_aload_n (pc := 79) X dX8_word_79 rfl 0 rfl ?_
      refine j_iload_n (pc := 80) X dX8_word_80 rfl 1 rfl ?_
      refine j_iload_n (pc := 81) X dX8_word_81 rfl 2 rfl ?_
      refine j_iconst (pc := 82) (v := 4) X dX8_word_82 (by decide) ?_
      refine j_isub (pc := 83) X dX8_word_83 ?_
      obtain ⟨r21, hc23, h⟩ := bd_s h
      refine j_callI (pc := 84) X (tX8_patternAt l hE G a1 (a2 - (4 : Int32)) hc23) muX8_patternAt (by decide) q773 rfl rfl (Nat.le_of_ble_eq_true rfl) ⟨Nat.le_of_ble_eq_true rfl, Nat.le_of_ble_eq_true rfl⟩ dX8_word_84 ?_
      refine j_goto (pc := 87) (tgt := 92) X dX8_word_87 (by decide) ?_
      exact j_ret (pc := 92) X hr hk (vp_nar_int _) (Option.some.inj h) rfl dX8_word_92
  · rw [if_pos hc] at h
    refine j_iconst (pc := 8) (v := (-1)) X dX8_word_8 (by decide) ?_
    exact j_ret (pc := 9) X hr hk (vp_nar_int _) (Option.some.inj h) rfl dX8_word_9
theorem dX8_known_0 : decode cX8_known 0 = .ok (.iconst 0, 1) := by decide +kernel
theorem dX8_known_1 : decode cX8_known 1 = .ok (.istore_n 2, 1) := by decide +kernel
theorem dX8_known_2 : decode cX8_known 2 = .ok (.iconst 0, 1) := by decide +kernel
theorem dX8_known_3 : decode cX8_known 3 = .ok (.istore_n 3, 1) := by decide +kernel
theorem dX8_known_4 : decode cX8_known 4 = .ok (.iload_n 3, 1) := by decide +kernel
theorem dX8_known_5 : decode cX8_known 5 = .ok (.aload_n 0, 1) := by decide +kernel
theorem dX8_known_6 : decode cX8_known 6 = .ok (.getfield 7, 3) := by decide +kernel
theorem dX8_known_9 : decode cX8_known 9 = .ok (.bipush 80, 2) := by decide +kernel
theorem dX8_known_11 : decode cX8_known 11 = .ok (.iaload, 1) := by decide +kernel
theorem dX8_known_12 : decode cX8_known 12 = .ok (.if_icmp .ge 28, 3) := by decide +kernel
theorem dX8_known_15 : decode cX8_known 15 = .ok (.iload_n 2, 1) := by decide +kernel
theorem dX8_known_16 : decode cX8_known 16 = .ok (.aload_n 0, 1) := by decide +kernel
theorem dX8_known_17 : decode cX8_known 17 = .ok (.iload_n 1, 1) := by decide +kernel
theorem dX8_known_18 : decode cX8_known 18 = .ok (.iload_n 3, 1) := by decide +kernel
theorem dX8_known_19 : decode cX8_known 19 = .ok (.invokevirtual 113, 3) := by decide +kernel
theorem dX8_known_22 : decode cX8_known 22 = .ok (.ifCond .eq 9, 3) := by decide +kernel
theorem dX8_known_25 : decode cX8_known 25 = .ok (.iconst 1, 1) := by decide +kernel
theorem dX8_known_26 : decode cX8_known 26 = .ok (.iload_n 3, 1) := by decide +kernel
theorem dX8_known_27 : decode cX8_known 27 = .ok (.ishl, 1) := by decide +kernel
theorem dX8_known_28 : decode cX8_known 28 = .ok (.goto 4, 3) := by decide +kernel
theorem dX8_known_31 : decode cX8_known 31 = .ok (.iconst 0, 1) := by decide +kernel
theorem dX8_known_32 : decode cX8_known 32 = .ok (.ior, 1) := by decide +kernel
theorem dX8_known_33 : decode cX8_known 33 = .ok (.istore_n 2, 1) := by decide +kernel
theorem dX8_known_34 : decode cX8_known 34 = .ok (.iinc 3 1, 3) := by decide +kernel
theorem dX8_known_37 : decode cX8_known 37 = .ok (.goto (-33), 3) := by decide +kernel
theorem dX8_known_40 : decode cX8_known 40 = .ok (.iload_n 2, 1) := by decide +kernel
theorem dX8_known_41 : decode cX8_known 41 = .ok (.ireturn, 1) := by decide +kernel
set_option maxHeartbeats 4000000 in
set_option maxRecDepth 100000 in
theorem tX8_known_4 (l : Launch) {E : ET} (hE : Aj E) {p : Program} {e : Env} {s : State} {m : MethodId} {args : Array Value} {below : List Frame} {meth : Method} {c : Code} (X : Cx p (rmL 2) s m args c yX8_known.cls cX8_known 4 E (Aw E) 0 0) (hr : meth.sig.returnType = (some .int)) (hk : meth.locks = false) {r : Int32} (G : GT) (a1 : Int32) : ∀ (n : Nat) (a2 a3 : Int32), fX8_known_4 G a1 n a2 a3 = some r → J p l e (rmL 2) s m args below meth c E (Aw E) s.heap 4 0 0 (MQ below (QI E r G) args s 0 0 (Aw E)) G 4 [(0, .ref (Ad E 22 0)), (1, .int a1), (2, .int a2), (3, .int a3)] [] := by
  intro n
  induction n with
  | zero =>
    intro a2 a3 h
    simp [fX8_known_4] at h
  | succ n ih =>
    intro a2 a3 h
    rw [fX8_known_4] at h
    refine j_iload_n (pc := 4) X dX8_known_4 rfl 3 rfl ?_
    refine j_aload_n (pc := 5) X dX8_known_5 rfl 0 rfl ?_
    refine j_get (pc := 6) (v := .ref (Ad E 23 0)) X gf_X8_7 (by decide) rfl rfl dX8_known_6 ?_
    refine j_bipush (pc := 9) (v := 80) X dX8_known_9 (by decide) ?_
    obtain ⟨hg1, h⟩ := gd_s h
    refine j_iald (pc := 11) (n := 289) X (by decide) rfl hg1 dX8_known_11 ?_
    refine j_icmp_ge (pc := 12) (tgt := 40) X dX8_known_12 (by decide) (fun hc => ?_) (fun hc => ?_)
    · rw [if_pos hc] at h
      refine j_iload_n (pc := 40) X dX8_known_40 rfl 2 rfl ?_
      exact j_ret (pc := 41) X hr hk (vp_nar_int _) (Option.some.inj h) rfl dX8_known_41
    · rw [if_neg hc] at h
      refine j_iload_n (pc := 15) X dX8_known_15 rfl 2 rfl ?_
      refine j_aload_n (pc := 16) X dX8_known_16 rfl 0 rfl ?_
      refine j_iload_n (pc := 17) X dX8_known_17 rfl 1 rfl ?_
      refine j_iload_n (pc := 18) X dX8_known_18 rfl 3 rfl ?_
      obtain ⟨r2, hc4, h⟩ := bd_s h
      refine j_callI (pc := 19) X (tX8_knows l hE G a1 a3 hc4) muX8_knows (by decide) q809 rfl rfl (Nat.le_of_ble_eq_true rfl) ⟨Nat.le_of_ble_eq_true rfl, Nat.le_of_ble_eq_true rfl⟩ dX8_known_19 ?_
      refine j_if_eq (pc := 22) (tgt := 31) X dX8_known_22 (by decide) (fun hc => ?_) (fun hc => ?_)
      · rw [if_pos hc] at h
        refine j_iconst (pc := 31) (v := 0) X dX8_known_31 (by decide) ?_
        refine j_ior (pc := 32) X dX8_known_32 ?_
        refine j_istore_n (pc := 33) (lv' := [(0, .ref (Ad E 22 0)), (1, .int a1), (2, .int (a2 ||| (0 : Int32))), (3, .int a3)]) X dX8_known_33 rfl (by decide) rfl ?_
        refine j_iinc (pc := 34) (q := 3) (v := (a3 + (1 : Int32))) (lv' := [(0, .ref (Ad E 22 0)), (1, .int a1), (2, .int (a2 ||| (0 : Int32))), (3, .int (a3 + (1 : Int32)))]) X dX8_known_34 rfl rfl (by decide) rfl ?_
        refine j_goto (pc := 37) (tgt := 4) X dX8_known_37 (by decide) ?_
        exact ih (a2 ||| (0 : Int32)) (a3 + (1 : Int32)) h
      · rw [if_neg hc] at h
        refine j_iconst (pc := 25) (v := 1) X dX8_known_25 (by decide) ?_
        refine j_iload_n (pc := 26) X dX8_known_26 rfl 3 rfl ?_
        refine j_ishl (pc := 27) X dX8_known_27 ?_
        refine j_goto (pc := 28) (tgt := 32) X dX8_known_28 (by decide) ?_
        refine j_ior (pc := 32) X dX8_known_32 ?_
        refine j_istore_n (pc := 33) (lv' := [(0, .ref (Ad E 22 0)), (1, .int a1), (2, .int (a2 ||| ((1 : Int32) <<< (a3 &&& 31)))), (3, .int a3)]) X dX8_known_33 rfl (by decide) rfl ?_
        refine j_iinc (pc := 34) (q := 3) (v := (a3 + (1 : Int32))) (lv' := [(0, .ref (Ad E 22 0)), (1, .int a1), (2, .int (a2 ||| ((1 : Int32) <<< (a3 &&& 31)))), (3, .int (a3 + (1 : Int32)))]) X dX8_known_34 rfl rfl (by decide) rfl ?_
        refine j_goto (pc := 37) (tgt := 4) X dX8_known_37 (by decide) ?_
        exact ih (a2 ||| ((1 : Int32) <<< (a3 &&& 31))) (a3 + (1 : Int32)) h
set_option maxHeartbeats 4000000 in
set_option maxRecDepth 100000 in
theorem tX8_known (l : Launch) {E : ET} (hE : Aj E) (G : GT) (a1 : Int32) {r : Int32} (h : fX8_known G a1 = some r) : CI l E yX8_known cX8_known 4 (some .int) 2 [.ref (Ad E 22 0), .int a1] G r G := by
  refine Met_I (lv := [(0, .ref (Ad E 22 0)), (1, .int a1)]) (by decide +kernel) hE (Nat.le_of_ble_eq_true rfl) rfl ?_
  intro p e s m args below meth c X hr hk
  unfold fX8_known at h
  refine j_iconst (pc := 0) (v := 0) X dX8_known_0 (by decide) ?_
  refine j_istore_n (pc := 1) (lv' := [(0, .ref (Ad E 22 0)), (1, .int a1), (2, .int (0 : Int32))]) X dX8_known_1 rfl (by decide) rfl ?_
  refine j_iconst (pc := 2) (v := 0) X dX8_known_2 (by decide) ?_
  refine j_istore_n (pc := 3) (lv' := [(0, .ref (Ad E 22 0)), (1, .int a1), (2, .int (0 : Int32)), (3, .int (0 : Int32))]) X dX8_known_3 rfl (by decide) rfl ?_
  exact tX8_known_4 l hE X hr hk G a1 FU (0 : Int32) (0 : Int32) h
theorem dX8_learner_0 : decode cX8_learner 0 = .ok (.iload_n 1, 1) := by decide +kernel
theorem dX8_learner_1 : decode cX8_learner 1 = .ok (.invokestatic 125, 3) := by decide +kernel
theorem dX8_learner_4 : decode cX8_learner 4 = .ok (.ifCond .ne 5, 3) := by decide +kernel
theorem dX8_learner_7 : decode cX8_learner 7 = .ok (.iconst (-1), 1) := by decide +kernel
theorem dX8_learner_8 : decode cX8_learner 8 = .ok (.ireturn, 1) := by decide +kernel
theorem dX8_learner_9 : decode cX8_learner 9 = .ok (.iload_n 2, 1) := by decide +kernel
theorem dX8_learner_10 : decode cX8_learner 10 = .ok (.tableswitch 64 0 3 #[30, 36, 42, 53], 30) := by decide +kernel
theorem dX8_learner_40 : decode cX8_learner 40 = .ok (.aload_n 0, 1) := by decide +kernel
theorem dX8_learner_41 : decode cX8_learner 41 = .ok (.iload_n 1, 1) := by decide +kernel
theorem dX8_learner_42 : decode cX8_learner 42 = .ok (.invokevirtual 152, 3) := by decide +kernel
theorem dX8_learner_45 : decode cX8_learner 45 = .ok (.ireturn, 1) := by decide +kernel
theorem dX8_learner_46 : decode cX8_learner 46 = .ok (.aload_n 0, 1) := by decide +kernel
theorem dX8_learner_47 : decode cX8_learner 47 = .ok (.iload_n 1, 1) := by decide +kernel
theorem dX8_learner_48 : decode cX8_learner 48 = .ok (.invokevirtual 119, 3) := by decide +kernel
theorem dX8_learner_51 : decode cX8_learner 51 = .ok (.ireturn, 1) := by decide +kernel
theorem dX8_learner_52 : decode cX8_learner 52 = .ok (.aload_n 0, 1) := by decide +kernel
theorem dX8_learner_53 : decode cX8_learner 53 = .ok (.getfield 7, 3) := by decide +kernel
theorem dX8_learner_56 : decode cX8_learner 56 = .ok (.sipush 273, 3) := by decide +kernel
theorem dX8_learner_59 : decode cX8_learner 59 = .ok (.iload_n 1, 1) := by decide +kernel
theorem dX8_learner_60 : decode cX8_learner 60 = .ok (.iadd, 1) := by decide +kernel
theorem dX8_learner_61 : decode cX8_learner 61 = .ok (.iaload, 1) := by decide +kernel
theorem dX8_learner_62 : decode cX8_learner 62 = .ok (.ireturn, 1) := by decide +kernel
theorem dX8_learner_63 : decode cX8_learner 63 = .ok (.aload_n 0, 1) := by decide +kernel
theorem dX8_learner_64 : decode cX8_learner 64 = .ok (.getfield 7, 3) := by decide +kernel
theorem dX8_learner_67 : decode cX8_learner 67 = .ok (.sipush 279, 3) := by decide +kernel
theorem dX8_learner_70 : decode cX8_learner 70 = .ok (.iload_n 1, 1) := by decide +kernel
theorem dX8_learner_71 : decode cX8_learner 71 = .ok (.iadd, 1) := by decide +kernel
theorem dX8_learner_72 : decode cX8_learner 72 = .ok (.iaload, 1) := by decide +kernel
theorem dX8_learner_73 : decode cX8_learner 73 = .ok (.ireturn, 1) := by decide +kernel
theorem dX8_learner_74 : decode cX8_learner 74 = .ok (.bipush (-2), 2) := by decide +kernel
theorem dX8_learner_76 : decode cX8_learner 76 = .ok (.ireturn, 1) := by decide +kernel
set_option maxHeartbeats 4000000 in
set_option maxRecDepth 100000 in
theorem tX8_learner (l : Launch) {E : ET} (hE : Aj E) (G : GT) (a1 : Int32) (a2 : Int32) {r : Int32} (h : fX8_learner G a1 a2 = some r) : CI l E yX8_learner cX8_learner 3 (some .int) 7 [.ref (Ad E 22 0), .int a1, .int a2] G r G := by
  refine Met_I (lv := [(0, .ref (Ad E 22 0)), (1, .int a1), (2, .int a2)]) (by decide +kernel) hE (Nat.le_of_ble_eq_true rfl) rfl ?_
  intro p e s m args below meth c X hr hk
  unfold fX8_learner at h
  refine j_iload_n (pc := 0) X dX8_learner_0 rfl 1 rfl ?_
  obtain ⟨r1, hc3, h⟩ := bd_s h
  refine j_staI (pc := 1) X (tX8_isLearner l hE G a1 hc3) muX8_isLearner (Or.inl q829) rfl rfl (Nat.le_of_ble_eq_true rfl) ⟨Nat.le_of_ble_eq_true rfl, Nat.le_of_ble_eq_true rfl⟩ dX8_learner_1 ?_
  refine j_if_ne (pc := 4) (tgt := 9) X dX8_learner_4 (by decide) (fun hc => ?_) (fun hc => ?_)
  · rw [if_neg hc] at h
    refine j_iload_n (pc := 9) X dX8_learner_9 rfl 2 rfl ?_
    by_cases hx4 : a2 = 0
    · rw [if_pos hx4] at h
      refine j_tabIn (pc := 10) (tgt := 40) (off := 30) X dX8_learner_10 (by rw [hx4]; decide) (by rw [hx4]; decide) (by rw [hx4]; decide) (by decide) ?_
      refine j_aload_n (pc := 40) X dX8_learner_40 rfl 0 rfl ?_
      refine j_iload_n (pc := 41) X dX8_learner_41 rfl 1 rfl ?_
      obtain ⟨r5, hc7, h⟩ := bd_s h
      refine j_callI (pc := 42) X (tX8_known l hE G a1 hc7) muX8_known (by decide) q912 rfl rfl (Nat.le_of_ble_eq_true rfl) ⟨Nat.le_of_ble_eq_true rfl, Nat.le_of_ble_eq_true rfl⟩ dX8_learner_42 ?_
      exact j_ret (pc := 45) X hr hk (vp_nar_int _) (Option.some.inj h) rfl dX8_learner_45
    rw [if_neg hx4] at h
    by_cases hx8 : a2 = 1
    · rw [if_pos hx8] at h
      refine j_tabIn (pc := 10) (tgt := 46) (off := 36) X dX8_learner_10 (by rw [hx8]; decide) (by rw [hx8]; decide) (by rw [hx8]; decide) (by decide) ?_
      refine j_aload_n (pc := 46) X dX8_learner_46 rfl 0 rfl ?_
      refine j_iload_n (pc := 47) X dX8_learner_47 rfl 1 rfl ?_
      obtain ⟨r9, hc11, h⟩ := bd_s h
      refine j_callI (pc := 48) X (tX8_answerOf l hE G a1 hc11) muX8_answerOf (by decide) q805 rfl rfl (Nat.le_of_ble_eq_true rfl) ⟨Nat.le_of_ble_eq_true rfl, Nat.le_of_ble_eq_true rfl⟩ dX8_learner_48 ?_
      exact j_ret (pc := 51) X hr hk (vp_nar_int _) (Option.some.inj h) rfl dX8_learner_51
    rw [if_neg hx8] at h
    by_cases hx12 : a2 = 2
    · rw [if_pos hx12] at h
      refine j_tabIn (pc := 10) (tgt := 52) (off := 42) X dX8_learner_10 (by rw [hx12]; decide) (by rw [hx12]; decide) (by rw [hx12]; decide) (by decide) ?_
      refine j_aload_n (pc := 52) X dX8_learner_52 rfl 0 rfl ?_
      refine j_get (pc := 53) (v := .ref (Ad E 23 0)) X gf_X8_7 (by decide) rfl rfl dX8_learner_53 ?_
      refine j_sipush (pc := 56) (v := 273) X dX8_learner_56 (by decide) ?_
      refine j_iload_n (pc := 59) X dX8_learner_59 rfl 1 rfl ?_
      refine j_iadd (pc := 60) X dX8_learner_60 ?_
      obtain ⟨hg13, h⟩ := gd_s h
      refine j_iald (pc := 61) (n := 289) X (by decide) rfl hg13 dX8_learner_61 ?_
      exact j_ret (pc := 62) X hr hk (vp_nar_int _) (Option.some.inj h) rfl dX8_learner_62
    rw [if_neg hx12] at h
    by_cases hx14 : a2 = 3
    · rw [if_pos hx14] at h
      refine j_tabIn (pc := 10) (tgt := 63) (off := 53) X dX8_learner_10 (by rw [hx14]; decide) (by rw [hx14]; decide) (by rw [hx14]; decide) (by decide) ?_
      refine j_aload_n (pc := 63) X dX8_learner_63 rfl 0 rfl ?_
      refine j_get (pc := 64) (v := .ref (Ad E 23 0)) X gf_X8_7 (by decide) rfl rfl dX8_learner_64 ?_
      refine j_sipush (pc := 67) (v := 279) X dX8_learner_67 (by decide) ?_
      refine j_iload_n (pc := 70) X dX8_learner_70 rfl 1 rfl ?_
      refine j_iadd (pc := 71) X dX8_learner_71 ?_
      obtain ⟨hg15, h⟩ := gd_s h
      refine j_iald (pc := 72) (n := 289) X (by decide) rfl hg15 dX8_learner_72 ?_
      exact j_ret (pc := 73) X hr hk (vp_nar_int _) (Option.some.inj h) rfl dX8_learner_73
    rw [if_neg hx14] at h
    refine j_tabOut (pc := 10) (tgt := 74) X dX8_learner_10 (tab_out 3 (by decide) (fun j hj => by match j, hj with | 0, _ => exact hx4 | 1, _ => exact hx8 | 2, _ => exact hx12 | 3, _ => exact hx14 | j + 4, hj => omega)) (by decide) ?_
    refine j_bipush (pc := 74) (v := (-2)) X dX8_learner_74 (by decide) ?_
    exact j_ret (pc := 76) X hr hk (vp_nar_int _) (Option.some.inj h) rfl dX8_learner_76
  · rw [if_pos hc] at h
    refine j_iconst (pc := 7) (v := (-1)) X dX8_learner_7 (by decide) ?_
    exact j_ret (pc := 8) X hr hk (vp_nar_int _) (Option.some.inj h) rfl dX8_learner_8
theorem dX8_heard_0 : decode cX8_heard 0 = .ok (.iload_n 1, 1) := by decide +kernel
theorem dX8_heard_1 : decode cX8_heard 1 = .ok (.invokestatic 125, 3) := by decide +kernel
theorem dX8_heard_4 : decode cX8_heard 4 = .ok (.ifCond .eq 20, 3) := by decide +kernel
theorem dX8_heard_7 : decode cX8_heard 7 = .ok (.aload_n 0, 1) := by decide +kernel
theorem dX8_heard_8 : decode cX8_heard 8 = .ok (.iload_n 2, 1) := by decide +kernel
theorem dX8_heard_9 : decode cX8_heard 9 = .ok (.invokevirtual 107, 3) := by decide +kernel
theorem dX8_heard_12 : decode cX8_heard 12 = .ok (.ifCond .eq 12, 3) := by decide +kernel
theorem dX8_heard_15 : decode cX8_heard 15 = .ok (.aload_n 0, 1) := by decide +kernel
theorem dX8_heard_16 : decode cX8_heard 16 = .ok (.iload_n 1, 1) := by decide +kernel
theorem dX8_heard_17 : decode cX8_heard 17 = .ok (.iload_n 2, 1) := by decide +kernel
theorem dX8_heard_18 : decode cX8_heard 18 = .ok (.invokevirtual 110, 3) := by decide +kernel
theorem dX8_heard_21 : decode cX8_heard 21 = .ok (.goto 4, 3) := by decide +kernel
theorem dX8_heard_24 : decode cX8_heard 24 = .ok (.iconst (-1), 1) := by decide +kernel
theorem dX8_heard_25 : decode cX8_heard 25 = .ok (.ireturn, 1) := by decide +kernel
set_option maxHeartbeats 4000000 in
set_option maxRecDepth 100000 in
theorem tX8_heard (l : Launch) {E : ET} (hE : Aj E) (G : GT) (a1 : Int32) (a2 : Int32) {r : Int32} (h : fX8_heard G a1 a2 = some r) : CI l E yX8_heard cX8_heard 3 (some .int) 2 [.ref (Ad E 22 0), .int a1, .int a2] G r G := by
  refine Met_I (lv := [(0, .ref (Ad E 22 0)), (1, .int a1), (2, .int a2)]) (by decide +kernel) hE (Nat.le_of_ble_eq_true rfl) rfl ?_
  intro p e s m args below meth c X hr hk
  unfold fX8_heard at h
  refine j_iload_n (pc := 0) X dX8_heard_0 rfl 1 rfl ?_
  obtain ⟨r1, hc3, h⟩ := bd_s h
  refine j_staI (pc := 1) X (tX8_isLearner l hE G a1 hc3) muX8_isLearner (Or.inl q829) rfl rfl (Nat.le_of_ble_eq_true rfl) ⟨Nat.le_of_ble_eq_true rfl, Nat.le_of_ble_eq_true rfl⟩ dX8_heard_1 ?_
  refine j_if_eq (pc := 4) (tgt := 24) X dX8_heard_4 (by decide) (fun hc => ?_) (fun hc => ?_)
  · rw [if_pos hc] at h
    refine j_iconst (pc := 24) (v := (-1)) X dX8_heard_24 (by decide) ?_
    exact j_ret (pc := 25) X hr hk (vp_nar_int _) (Option.some.inj h) rfl dX8_heard_25
  · rw [if_neg hc] at h
    refine j_aload_n (pc := 7) X dX8_heard_7 rfl 0 rfl ?_
    refine j_iload_n (pc := 8) X dX8_heard_8 rfl 2 rfl ?_
    obtain ⟨r4, hc6, h⟩ := bd_s h
    refine j_callI (pc := 9) X (tX8_isWord l hE G a2 hc6) muX8_isWord (by decide) q781 rfl rfl (Nat.le_of_ble_eq_true rfl) ⟨Nat.le_of_ble_eq_true rfl, Nat.le_of_ble_eq_true rfl⟩ dX8_heard_9 ?_
    refine j_if_eq (pc := 12) (tgt := 24) X dX8_heard_12 (by decide) (fun hc => ?_) (fun hc => ?_)
    · rw [if_pos hc] at h
      refine j_iconst (pc := 24) (v := (-1)) X dX8_heard_24 (by decide) ?_
      exact j_ret (pc := 25) X hr hk (vp_nar_int _) (Option.some.inj h) rfl dX8_heard_25
    · rw [if_neg hc] at h
      refine j_aload_n (pc := 15) X dX8_heard_15 rfl 0 rfl ?_
      refine j_iload_n (pc := 16) X dX8_heard_16 rfl 1 rfl ?_
      refine j_iload_n (pc := 17) X dX8_heard_17 rfl 2 rfl ?_
      obtain ⟨r7, hc9, h⟩ := bd_s h
      refine j_callI (pc := 18) X (tX8_heardOf l hE G a1 a2 hc9) muX8_heardOf (by decide) q813 rfl rfl (Nat.le_of_ble_eq_true rfl) ⟨Nat.le_of_ble_eq_true rfl, Nat.le_of_ble_eq_true rfl⟩ dX8_heard_18 ?_
      refine j_goto (pc := 21) (tgt := 25) X dX8_heard_21 (by decide) ?_
      exact j_ret (pc := 25) X hr hk (vp_nar_int _) (Option.some.inj h) rfl dX8_heard_25
theorem dX8_reason_0 : decode cX8_reason 0 = .ok (.iload_n 1, 1) := by decide +kernel
theorem dX8_reason_1 : decode cX8_reason 1 = .ok (.invokestatic 125, 3) := by decide +kernel
theorem dX8_reason_4 : decode cX8_reason 4 = .ok (.ifCond .ne 5, 3) := by decide +kernel
theorem dX8_reason_7 : decode cX8_reason 7 = .ok (.iconst (-1), 1) := by decide +kernel
theorem dX8_reason_8 : decode cX8_reason 8 = .ok (.ireturn, 1) := by decide +kernel
theorem dX8_reason_9 : decode cX8_reason 9 = .ok (.aload_n 0, 1) := by decide +kernel
theorem dX8_reason_10 : decode cX8_reason 10 = .ok (.invokevirtual 116, 3) := by decide +kernel
theorem dX8_reason_13 : decode cX8_reason 13 = .ok (.ifCond .ne 6, 3) := by decide +kernel
theorem dX8_reason_16 : decode cX8_reason 16 = .ok (.bipush (-5), 2) := by decide +kernel
theorem dX8_reason_18 : decode cX8_reason 18 = .ok (.ireturn, 1) := by decide +kernel
theorem dX8_reason_19 : decode cX8_reason 19 = .ok (.iconst 0, 1) := by decide +kernel
theorem dX8_reason_20 : decode cX8_reason 20 = .ok (.istore_n 2, 1) := by decide +kernel
theorem dX8_reason_21 : decode cX8_reason 21 = .ok (.aload_n 0, 1) := by decide +kernel
theorem dX8_reason_22 : decode cX8_reason 22 = .ok (.invokevirtual 57, 3) := by decide +kernel
theorem dX8_reason_25 : decode cX8_reason 25 = .ok (.iconst 1, 1) := by decide +kernel
theorem dX8_reason_26 : decode cX8_reason 26 = .ok (.isub, 1) := by decide +kernel
theorem dX8_reason_27 : decode cX8_reason 27 = .ok (.istore_n 3, 1) := by decide +kernel
theorem dX8_reason_28 : decode cX8_reason 28 = .ok (.iload_n 3, 1) := by decide +kernel
theorem dX8_reason_29 : decode cX8_reason 29 = .ok (.ifCond .lt 40, 3) := by decide +kernel
theorem dX8_reason_32 : decode cX8_reason 32 = .ok (.aload_n 0, 1) := by decide +kernel
theorem dX8_reason_33 : decode cX8_reason 33 = .ok (.iload_n 3, 1) := by decide +kernel
theorem dX8_reason_34 : decode cX8_reason 34 = .ok (.invokevirtual 137, 3) := by decide +kernel
theorem dX8_reason_37 : decode cX8_reason 37 = .ok (.istore 4, 2) := by decide +kernel
theorem dX8_reason_39 : decode cX8_reason 39 = .ok (.iload 4, 2) := by decide +kernel
theorem dX8_reason_41 : decode cX8_reason 41 = .ok (.ifCond .lt 20, 3) := by decide +kernel
theorem dX8_reason_44 : decode cX8_reason 44 = .ok (.aload_n 0, 1) := by decide +kernel
theorem dX8_reason_45 : decode cX8_reason 45 = .ok (.iload_n 1, 1) := by decide +kernel
theorem dX8_reason_46 : decode cX8_reason 46 = .ok (.iload 4, 2) := by decide +kernel
theorem dX8_reason_48 : decode cX8_reason 48 = .ok (.invokevirtual 113, 3) := by decide +kernel
theorem dX8_reason_51 : decode cX8_reason 51 = .ok (.ifCond .ne 10, 3) := by decide +kernel
theorem dX8_reason_54 : decode cX8_reason 54 = .ok (.bipush 100, 2) := by decide +kernel
theorem dX8_reason_56 : decode cX8_reason 56 = .ok (.iload_n 3, 1) := by decide +kernel
theorem dX8_reason_57 : decode cX8_reason 57 = .ok (.iadd, 1) := by decide +kernel
theorem dX8_reason_58 : decode cX8_reason 58 = .ok (.goto 4, 3) := by decide +kernel
theorem dX8_reason_61 : decode cX8_reason 61 = .ok (.iload_n 2, 1) := by decide +kernel
theorem dX8_reason_62 : decode cX8_reason 62 = .ok (.istore_n 2, 1) := by decide +kernel
theorem dX8_reason_63 : decode cX8_reason 63 = .ok (.iinc 3 (-1), 3) := by decide +kernel
theorem dX8_reason_66 : decode cX8_reason 66 = .ok (.goto (-38), 3) := by decide +kernel
theorem dX8_reason_69 : decode cX8_reason 69 = .ok (.iload_n 2, 1) := by decide +kernel
theorem dX8_reason_70 : decode cX8_reason 70 = .ok (.ireturn, 1) := by decide +kernel
set_option maxHeartbeats 4000000 in
set_option maxRecDepth 100000 in
theorem tX8_reason_28 (l : Launch) {E : ET} (hE : Aj E) {p : Program} {e : Env} {s : State} {m : MethodId} {args : Array Value} {below : List Frame} {meth : Method} {c : Code} (X : Cx p (rmL 6) s m args c yX8_reason.cls cX8_reason 5 E (Aw E) 0 0) (hr : meth.sig.returnType = (some .int)) (hk : meth.locks = false) {r : Int32} (G : GT) (a1 : Int32) : ∀ (n : Nat) (a2 a3 : Int32), fX8_reason_28 G a1 n a2 a3 = some r → J p l e (rmL 6) s m args below meth c E (Aw E) s.heap 5 0 0 (MQ below (QI E r G) args s 0 0 (Aw E)) G 28 [(0, .ref (Ad E 22 0)), (1, .int a1), (2, .int a2), (3, .int a3)] [] := by
  intro n
  induction n with
  | zero =>
    intro a2 a3 h
    simp [fX8_reason_28] at h
  | succ n ih =>
    intro a2 a3 h
    rw [fX8_reason_28] at h
    refine j_iload_n (pc := 28) X dX8_reason_28 rfl 3 rfl ?_
    refine j_if_lt (pc := 29) (tgt := 69) X dX8_reason_29 (by decide) (fun hc => ?_) (fun hc => ?_)
    · rw [if_pos hc] at h
      refine j_iload_n (pc := 69) X dX8_reason_69 rfl 2 rfl ?_
      exact j_ret (pc := 70) X hr hk (vp_nar_int _) (Option.some.inj h) rfl dX8_reason_70
    · rw [if_neg hc] at h
      refine j_aload_n (pc := 32) X dX8_reason_32 rfl 0 rfl ?_
      refine j_iload_n (pc := 33) X dX8_reason_33 rfl 3 rfl ?_
      obtain ⟨r1, hc3, h⟩ := bd_s h
      refine j_callI (pc := 34) X (tX8_wordOf l hE G a3 hc3) muX8_wordOf (by decide) q872 rfl rfl (Nat.le_of_ble_eq_true rfl) ⟨Nat.le_of_ble_eq_true rfl, Nat.le_of_ble_eq_true rfl⟩ dX8_reason_34 ?_
      refine j_istore (pc := 37) (lv' := [(0, .ref (Ad E 22 0)), (1, .int a1), (2, .int a2), (3, .int a3), (4, .int r1)]) X dX8_reason_37 (by decide) rfl ?_
      refine j_iload (pc := 39) X dX8_reason_39 4 rfl ?_
      refine j_if_lt (pc := 41) (tgt := 61) X dX8_reason_41 (by decide) (fun hc => ?_) (fun hc => ?_)
      · rw [if_pos hc] at h
        refine j_iload_n (pc := 61) X dX8_reason_61 rfl 2 rfl ?_
        refine j_istore_n (pc := 62) (lv' := [(0, .ref (Ad E 22 0)), (1, .int a1), (2, .int a2), (3, .int a3), (4, .int r1)]) X dX8_reason_62 rfl (by decide) rfl ?_
        refine j_iinc (pc := 63) (q := 3) (v := (a3 + (-1 : Int32))) (lv' := [(0, .ref (Ad E 22 0)), (1, .int a1), (2, .int a2), (3, .int (a3 + (-1 : Int32))), (4, .int r1)]) X dX8_reason_63 rfl rfl (by decide) rfl ?_
        refine j_goto (pc := 66) (tgt := 28) X dX8_reason_66 (by decide) ?_
        refine j_lv (lv' := [(0, .ref (Ad E 22 0)), (1, .int a1), (2, .int a2), (3, .int (a3 + (-1 : Int32)))]) [0, 1, 2, 3] rfl ?_
        exact ih a2 (a3 + (-1 : Int32)) h
      · rw [if_neg hc] at h
        refine j_aload_n (pc := 44) X dX8_reason_44 rfl 0 rfl ?_
        refine j_iload_n (pc := 45) X dX8_reason_45 rfl 1 rfl ?_
        refine j_iload (pc := 46) X dX8_reason_46 4 rfl ?_
        obtain ⟨r4, hc6, h⟩ := bd_s h
        refine j_callI (pc := 48) X (tX8_knows l hE G a1 r1 hc6) muX8_knows (by decide) q809 rfl rfl (Nat.le_of_ble_eq_true rfl) ⟨Nat.le_of_ble_eq_true rfl, Nat.le_of_ble_eq_true rfl⟩ dX8_reason_48 ?_
        refine j_if_ne (pc := 51) (tgt := 61) X dX8_reason_51 (by decide) (fun hc => ?_) (fun hc => ?_)
        · rw [if_neg hc] at h
          refine j_iload_n (pc := 61) X dX8_reason_61 rfl 2 rfl ?_
          refine j_istore_n (pc := 62) (lv' := [(0, .ref (Ad E 22 0)), (1, .int a1), (2, .int a2), (3, .int a3), (4, .int r1)]) X dX8_reason_62 rfl (by decide) rfl ?_
          refine j_iinc (pc := 63) (q := 3) (v := (a3 + (-1 : Int32))) (lv' := [(0, .ref (Ad E 22 0)), (1, .int a1), (2, .int a2), (3, .int (a3 + (-1 : Int32))), (4, .int r1)]) X dX8_reason_63 rfl rfl (by decide) rfl ?_
          refine j_goto (pc := 66) (tgt := 28) X dX8_reason_66 (by decide) ?_
          refine j_lv (lv' := [(0, .ref (Ad E 22 0)), (1, .int a1), (2, .int a2), (3, .int (a3 + (-1 : Int32)))]) [0, 1, 2, 3] rfl ?_
          exact ih a2 (a3 + (-1 : Int32)) h
        · rw [if_pos hc] at h
          refine j_bipush (pc := 54) (v := 100) X dX8_reason_54 (by decide) ?_
          refine j_iload_n (pc := 56) X dX8_reason_56 rfl 3 rfl ?_
          refine j_iadd (pc := 57) X dX8_reason_57 ?_
          refine j_goto (pc := 58) (tgt := 62) X dX8_reason_58 (by decide) ?_
          refine j_istore_n (pc := 62) (lv' := [(0, .ref (Ad E 22 0)), (1, .int a1), (2, .int ((100 : Int32) + a3)), (3, .int a3), (4, .int r1)]) X dX8_reason_62 rfl (by decide) rfl ?_
          refine j_iinc (pc := 63) (q := 3) (v := (a3 + (-1 : Int32))) (lv' := [(0, .ref (Ad E 22 0)), (1, .int a1), (2, .int ((100 : Int32) + a3)), (3, .int (a3 + (-1 : Int32))), (4, .int r1)]) X dX8_reason_63 rfl rfl (by decide) rfl ?_
          refine j_goto (pc := 66) (tgt := 28) X dX8_reason_66 (by decide) ?_
          refine j_lv (lv' := [(0, .ref (Ad E 22 0)), (1, .int a1), (2, .int ((100 : Int32) + a3)), (3, .int (a3 + (-1 : Int32)))]) [0, 1, 2, 3] rfl ?_
          exact ih ((100 : Int32) + a3) (a3 + (-1 : Int32)) h
set_option maxHeartbeats 4000000 in
set_option maxRecDepth 100000 in
theorem tX8_reason (l : Launch) {E : ET} (hE : Aj E) (G : GT) (a1 : Int32) {r : Int32} (h : fX8_reason G a1 = some r) : CI l E yX8_reason cX8_reason 5 (some .int) 6 [.ref (Ad E 22 0), .int a1] G r G := by
  refine Met_I (lv := [(0, .ref (Ad E 22 0)), (1, .int a1)]) (by decide +kernel) hE (Nat.le_of_ble_eq_true rfl) rfl ?_
  intro p e s m args below meth c X hr hk
  unfold fX8_reason at h
  refine j_iload_n (pc := 0) X dX8_reason_0 rfl 1 rfl ?_
  obtain ⟨r1, hc3, h⟩ := bd_s h
  refine j_staI (pc := 1) X (tX8_isLearner l hE G a1 hc3) muX8_isLearner (Or.inl q829) rfl rfl (Nat.le_of_ble_eq_true rfl) ⟨Nat.le_of_ble_eq_true rfl, Nat.le_of_ble_eq_true rfl⟩ dX8_reason_1 ?_
  refine j_if_ne (pc := 4) (tgt := 9) X dX8_reason_4 (by decide) (fun hc => ?_) (fun hc => ?_)
  · rw [if_neg hc] at h
    refine j_aload_n (pc := 9) X dX8_reason_9 rfl 0 rfl ?_
    obtain ⟨r4, hc6, h⟩ := bd_s h
    refine j_callI (pc := 10) X (tX8_wordRuns l hE G  hc6) muX8_wordRuns (by decide) q789 rfl rfl (Nat.le_of_ble_eq_true rfl) ⟨Nat.le_of_ble_eq_true rfl, Nat.le_of_ble_eq_true rfl⟩ dX8_reason_10 ?_
    refine j_if_ne (pc := 13) (tgt := 19) X dX8_reason_13 (by decide) (fun hc => ?_) (fun hc => ?_)
    · rw [if_neg hc] at h
      refine j_iconst (pc := 19) (v := 0) X dX8_reason_19 (by decide) ?_
      refine j_istore_n (pc := 20) (lv' := [(0, .ref (Ad E 22 0)), (1, .int a1), (2, .int (0 : Int32))]) X dX8_reason_20 rfl (by decide) rfl ?_
      refine j_aload_n (pc := 21) X dX8_reason_21 rfl 0 rfl ?_
      obtain ⟨r7, hc9, h⟩ := bd_s h
      refine j_callI (pc := 22) X (tX8_runs l hE G  hc9) muX8_runs (by decide) q717 rfl rfl (Nat.le_of_ble_eq_true rfl) ⟨Nat.le_of_ble_eq_true rfl, Nat.le_of_ble_eq_true rfl⟩ dX8_reason_22 ?_
      refine j_iconst (pc := 25) (v := 1) X dX8_reason_25 (by decide) ?_
      refine j_isub (pc := 26) X dX8_reason_26 ?_
      refine j_istore_n (pc := 27) (lv' := [(0, .ref (Ad E 22 0)), (1, .int a1), (2, .int (0 : Int32)), (3, .int (r7 - (1 : Int32)))]) X dX8_reason_27 rfl (by decide) rfl ?_
      exact tX8_reason_28 l hE X hr hk G a1 FU (0 : Int32) (r7 - (1 : Int32)) h
    · rw [if_pos hc] at h
      refine j_bipush (pc := 16) (v := (-5)) X dX8_reason_16 (by decide) ?_
      exact j_ret (pc := 18) X hr hk (vp_nar_int _) (Option.some.inj h) rfl dX8_reason_18
  · rw [if_pos hc] at h
    refine j_iconst (pc := 7) (v := (-1)) X dX8_reason_7 (by decide) ?_
    exact j_ret (pc := 8) X hr hk (vp_nar_int _) (Option.some.inj h) rfl dX8_reason_8
theorem dX8_ifPulled_0 : decode cX8_ifPulled 0 = .ok (.iload_n 1, 1) := by decide +kernel
theorem dX8_ifPulled_1 : decode cX8_ifPulled 1 = .ok (.iconst 1, 1) := by decide +kernel
theorem dX8_ifPulled_2 : decode cX8_ifPulled 2 = .ok (.bipush 9, 2) := by decide +kernel
theorem dX8_ifPulled_4 : decode cX8_ifPulled 4 = .ok (.invokestatic 28, 3) := by decide +kernel
theorem dX8_ifPulled_7 : decode cX8_ifPulled 7 = .ok (.ifCond .eq 12, 3) := by decide +kernel
theorem dX8_ifPulled_10 : decode cX8_ifPulled 10 = .ok (.iload_n 2, 1) := by decide +kernel
theorem dX8_ifPulled_11 : decode cX8_ifPulled 11 = .ok (.iconst 0, 1) := by decide +kernel
theorem dX8_ifPulled_12 : decode cX8_ifPulled 12 = .ok (.iconst 3, 1) := by decide +kernel
theorem dX8_ifPulled_13 : decode cX8_ifPulled 13 = .ok (.invokestatic 28, 3) := by decide +kernel
theorem dX8_ifPulled_16 : decode cX8_ifPulled 16 = .ok (.ifCond .ne 6, 3) := by decide +kernel
theorem dX8_ifPulled_19 : decode cX8_ifPulled 19 = .ok (.bipush (-2), 2) := by decide +kernel
theorem dX8_ifPulled_21 : decode cX8_ifPulled 21 = .ok (.ireturn, 1) := by decide +kernel
theorem dX8_ifPulled_22 : decode cX8_ifPulled 22 = .ok (.aload_n 0, 1) := by decide +kernel
theorem dX8_ifPulled_23 : decode cX8_ifPulled 23 = .ok (.invokevirtual 84, 3) := by decide +kernel
theorem dX8_ifPulled_26 : decode cX8_ifPulled 26 = .ok (.aload_n 0, 1) := by decide +kernel
theorem dX8_ifPulled_27 : decode cX8_ifPulled 27 = .ok (.iload_n 1, 1) := by decide +kernel
theorem dX8_ifPulled_28 : decode cX8_ifPulled 28 = .ok (.invokevirtual 87, 3) := by decide +kernel
theorem dX8_ifPulled_31 : decode cX8_ifPulled 31 = .ok (.istore_n 3, 1) := by decide +kernel
theorem dX8_ifPulled_32 : decode cX8_ifPulled 32 = .ok (.iload_n 2, 1) := by decide +kernel
theorem dX8_ifPulled_33 : decode cX8_ifPulled 33 = .ok (.ifCond .ne 7, 3) := by decide +kernel
theorem dX8_ifPulled_36 : decode cX8_ifPulled 36 = .ok (.iload_n 3, 1) := by decide +kernel
theorem dX8_ifPulled_37 : decode cX8_ifPulled 37 = .ok (.goto 31, 3) := by decide +kernel
theorem dX8_ifPulled_40 : decode cX8_ifPulled 40 = .ok (.iload_n 2, 1) := by decide +kernel
theorem dX8_ifPulled_41 : decode cX8_ifPulled 41 = .ok (.iconst 1, 1) := by decide +kernel
theorem dX8_ifPulled_42 : decode cX8_ifPulled 42 = .ok (.if_icmp .ne 10, 3) := by decide +kernel
theorem dX8_ifPulled_45 : decode cX8_ifPulled 45 = .ok (.aload_n 0, 1) := by decide +kernel
theorem dX8_ifPulled_46 : decode cX8_ifPulled 46 = .ok (.invokevirtual 57, 3) := by decide +kernel
theorem dX8_ifPulled_49 : decode cX8_ifPulled 49 = .ok (.goto 19, 3) := by decide +kernel
theorem dX8_ifPulled_52 : decode cX8_ifPulled 52 = .ok (.iload_n 2, 1) := by decide +kernel
theorem dX8_ifPulled_53 : decode cX8_ifPulled 53 = .ok (.iconst 2, 1) := by decide +kernel
theorem dX8_ifPulled_54 : decode cX8_ifPulled 54 = .ok (.if_icmp .ne 10, 3) := by decide +kernel
theorem dX8_ifPulled_57 : decode cX8_ifPulled 57 = .ok (.aload_n 0, 1) := by decide +kernel
theorem dX8_ifPulled_58 : decode cX8_ifPulled 58 = .ok (.invokevirtual 116, 3) := by decide +kernel
theorem dX8_ifPulled_61 : decode cX8_ifPulled 61 = .ok (.goto 7, 3) := by decide +kernel
theorem dX8_ifPulled_64 : decode cX8_ifPulled 64 = .ok (.aload_n 0, 1) := by decide +kernel
theorem dX8_ifPulled_65 : decode cX8_ifPulled 65 = .ok (.invokevirtual 122, 3) := by decide +kernel
theorem dX8_ifPulled_68 : decode cX8_ifPulled 68 = .ok (.istore 4, 2) := by decide +kernel
theorem dX8_ifPulled_70 : decode cX8_ifPulled 70 = .ok (.aload_n 0, 1) := by decide +kernel
theorem dX8_ifPulled_71 : decode cX8_ifPulled 71 = .ok (.invokevirtual 90, 3) := by decide +kernel
theorem dX8_ifPulled_74 : decode cX8_ifPulled 74 = .ok (.iload 4, 2) := by decide +kernel
theorem dX8_ifPulled_76 : decode cX8_ifPulled 76 = .ok (.ireturn, 1) := by decide +kernel
set_option maxHeartbeats 4000000 in
set_option maxRecDepth 100000 in
theorem tX8_ifPulled (l : Launch) {E : ET} (hE : Aj E) (G : GT) (a1 : Int32) (a2 : Int32) {r : Int32} {G' : GT} (h : fX8_ifPulled G a1 a2 = some (r, G')) : CI l E yX8_ifPulled cX8_ifPulled 5 (some .int) 7 [.ref (Ad E 22 0), .int a1, .int a2] G r G' := by
  refine Met_I (lv := [(0, .ref (Ad E 22 0)), (1, .int a1), (2, .int a2)]) (by decide +kernel) hE (Nat.le_of_ble_eq_true rfl) rfl ?_
  intro p e s m args below meth c X hr hk
  unfold fX8_ifPulled at h
  refine j_iload_n (pc := 0) X dX8_ifPulled_0 rfl 1 rfl ?_
  refine j_iconst (pc := 1) (v := 1) X dX8_ifPulled_1 (by decide) ?_
  refine j_bipush (pc := 2) (v := 9) X dX8_ifPulled_2 (by decide) ?_
  obtain ⟨r1, hc3, h⟩ := bd_s h
  refine j_staI (pc := 4) X (tX8_in l hE G a1 (1 : Int32) (9 : Int32) hc3) muX8_in (Or.inl q714) rfl rfl (Nat.le_of_ble_eq_true rfl) ⟨Nat.le_of_ble_eq_true rfl, Nat.le_of_ble_eq_true rfl⟩ dX8_ifPulled_4 ?_
  refine j_if_eq (pc := 7) (tgt := 19) X dX8_ifPulled_7 (by decide) (fun hc => ?_) (fun hc => ?_)
  · rw [if_pos hc] at h
    refine j_bipush (pc := 19) (v := (-2)) X dX8_ifPulled_19 (by decide) ?_
    exact j_ret (pc := 21) X hr hk (vp_nar_int _) (pr_s h).1 (pr_s h).2 dX8_ifPulled_21
  · rw [if_neg hc] at h
    refine j_iload_n (pc := 10) X dX8_ifPulled_10 rfl 2 rfl ?_
    refine j_iconst (pc := 11) (v := 0) X dX8_ifPulled_11 (by decide) ?_
    refine j_iconst (pc := 12) (v := 3) X dX8_ifPulled_12 (by decide) ?_
    obtain ⟨r4, hc6, h⟩ := bd_s h
    refine j_staI (pc := 13) X (tX8_in l hE G a2 (0 : Int32) (3 : Int32) hc6) muX8_in (Or.inl q714) rfl rfl (Nat.le_of_ble_eq_true rfl) ⟨Nat.le_of_ble_eq_true rfl, Nat.le_of_ble_eq_true rfl⟩ dX8_ifPulled_13 ?_
    refine j_if_ne (pc := 16) (tgt := 22) X dX8_ifPulled_16 (by decide) (fun hc => ?_) (fun hc => ?_)
    · rw [if_neg hc] at h
      refine j_aload_n (pc := 22) X dX8_ifPulled_22 rfl 0 rfl ?_
      obtain ⟨G8, hc9, h⟩ := bd_s h
      refine j_callV (pc := 23) X (tX8_putAside l hE G  hc9) muX8_putAside (by decide) q741 rfl rfl (Nat.le_of_ble_eq_true rfl) ⟨Nat.le_of_ble_eq_true rfl, Nat.le_of_ble_eq_true rfl⟩ dX8_ifPulled_23 ?_
      refine j_aload_n (pc := 26) X dX8_ifPulled_26 rfl 0 rfl ?_
      refine j_iload_n (pc := 27) X dX8_ifPulled_27 rfl 1 rfl ?_
      obtain ⟨r10, G11, hc12, h⟩ := bd2_s h
      refine j_callI (pc := 28) X (tX8_doPull l hE G8 a1 hc12) muX8_doPull (by decide) q745 rfl rfl (Nat.le_of_ble_eq_true rfl) ⟨Nat.le_of_ble_eq_true rfl, Nat.le_of_ble_eq_true rfl⟩ dX8_ifPulled_28 ?_
      refine j_istore_n (pc := 31) (lv' := [(0, .ref (Ad E 22 0)), (1, .int a1), (2, .int a2), (3, .int r10)]) X dX8_ifPulled_31 rfl (by decide) rfl ?_
      refine j_iload_n (pc := 32) X dX8_ifPulled_32 rfl 2 rfl ?_
      refine j_if_ne (pc := 33) (tgt := 40) X dX8_ifPulled_33 (by decide) (fun hc => ?_) (fun hc => ?_)
      · rw [if_neg hc] at h
        refine j_iload_n (pc := 40) X dX8_ifPulled_40 rfl 2 rfl ?_
        refine j_iconst (pc := 41) (v := 1) X dX8_ifPulled_41 (by decide) ?_
        refine j_icmp_ne (pc := 42) (tgt := 52) X dX8_ifPulled_42 (by decide) (fun hc => ?_) (fun hc => ?_)
        · rw [if_neg hc] at h
          refine j_iload_n (pc := 52) X dX8_ifPulled_52 rfl 2 rfl ?_
          refine j_iconst (pc := 53) (v := 2) X dX8_ifPulled_53 (by decide) ?_
          refine j_icmp_ne (pc := 54) (tgt := 64) X dX8_ifPulled_54 (by decide) (fun hc => ?_) (fun hc => ?_)
          · rw [if_neg hc] at h
            refine j_aload_n (pc := 64) X dX8_ifPulled_64 rfl 0 rfl ?_
            obtain ⟨r13, hc15, h⟩ := bd_s h
            refine j_callI (pc := 65) X (tX8_rightAnswer l hE G11  hc15) muX8_rightAnswer (by decide) q821 rfl rfl (Nat.le_of_ble_eq_true rfl) ⟨Nat.le_of_ble_eq_true rfl, Nat.le_of_ble_eq_true rfl⟩ dX8_ifPulled_65 ?_
            refine j_istore (pc := 68) (lv' := [(0, .ref (Ad E 22 0)), (1, .int a1), (2, .int a2), (3, .int r10), (4, .int r13)]) X dX8_ifPulled_68 (by decide) rfl ?_
            refine j_aload_n (pc := 70) X dX8_ifPulled_70 rfl 0 rfl ?_
            obtain ⟨G17, hc18, h⟩ := bd_s h
            refine j_callV (pc := 71) X (tX8_putBack l hE G11  hc18) muX8_putBack (by decide) q749 rfl rfl (Nat.le_of_ble_eq_true rfl) ⟨Nat.le_of_ble_eq_true rfl, Nat.le_of_ble_eq_true rfl⟩ dX8_ifPulled_71 ?_
            refine j_iload (pc := 74) X dX8_ifPulled_74 4 rfl ?_
            exact j_ret (pc := 76) X hr hk (vp_nar_int _) (pr_s h).1 (pr_s h).2 dX8_ifPulled_76
          · rw [if_pos hc] at h
            refine j_aload_n (pc := 57) X dX8_ifPulled_57 rfl 0 rfl ?_
            obtain ⟨r19, hc21, h⟩ := bd_s h
            refine j_callI (pc := 58) X (tX8_wordRuns l hE G11  hc21) muX8_wordRuns (by decide) q789 rfl rfl (Nat.le_of_ble_eq_true rfl) ⟨Nat.le_of_ble_eq_true rfl, Nat.le_of_ble_eq_true rfl⟩ dX8_ifPulled_58 ?_
            refine j_goto (pc := 61) (tgt := 68) X dX8_ifPulled_61 (by decide) ?_
            refine j_istore (pc := 68) (lv' := [(0, .ref (Ad E 22 0)), (1, .int a1), (2, .int a2), (3, .int r10), (4, .int r19)]) X dX8_ifPulled_68 (by decide) rfl ?_
            refine j_aload_n (pc := 70) X dX8_ifPulled_70 rfl 0 rfl ?_
            obtain ⟨G23, hc24, h⟩ := bd_s h
            refine j_callV (pc := 71) X (tX8_putBack l hE G11  hc24) muX8_putBack (by decide) q749 rfl rfl (Nat.le_of_ble_eq_true rfl) ⟨Nat.le_of_ble_eq_true rfl, Nat.le_of_ble_eq_true rfl⟩ dX8_ifPulled_71 ?_
            refine j_iload (pc := 74) X dX8_ifPulled_74 4 rfl ?_
            exact j_ret (pc := 76) X hr hk (vp_nar_int _) (pr_s h).1 (pr_s h).2 dX8_ifPulled_76
        · rw [if_pos hc] at h
          refine j_aload_n (pc := 45) X dX8_ifPulled_45 rfl 0 rfl ?_
          obtain ⟨r25, hc27, h⟩ := bd_s h
          refine j_callI (pc := 46) X (tX8_runs l hE G11  hc27) muX8_runs (by decide) q717 rfl rfl (Nat.le_of_ble_eq_true rfl) ⟨Nat.le_of_ble_eq_true rfl, Nat.le_of_ble_eq_true rfl⟩ dX8_ifPulled_46 ?_
          refine j_goto (pc := 49) (tgt := 68) X dX8_ifPulled_49 (by decide) ?_
          refine j_istore (pc := 68) (lv' := [(0, .ref (Ad E 22 0)), (1, .int a1), (2, .int a2), (3, .int r10), (4, .int r25)]) X dX8_ifPulled_68 (by decide) rfl ?_
          refine j_aload_n (pc := 70) X dX8_ifPulled_70 rfl 0 rfl ?_
          obtain ⟨G29, hc30, h⟩ := bd_s h
          refine j_callV (pc := 71) X (tX8_putBack l hE G11  hc30) muX8_putBack (by decide) q749 rfl rfl (Nat.le_of_ble_eq_true rfl) ⟨Nat.le_of_ble_eq_true rfl, Nat.le_of_ble_eq_true rfl⟩ dX8_ifPulled_71 ?_
          refine j_iload (pc := 74) X dX8_ifPulled_74 4 rfl ?_
          exact j_ret (pc := 76) X hr hk (vp_nar_int _) (pr_s h).1 (pr_s h).2 dX8_ifPulled_76
      · rw [if_pos hc] at h
        refine j_iload_n (pc := 36) X dX8_ifPulled_36 rfl 3 rfl ?_
        refine j_goto (pc := 37) (tgt := 68) X dX8_ifPulled_37 (by decide) ?_
        refine j_istore (pc := 68) (lv' := [(0, .ref (Ad E 22 0)), (1, .int a1), (2, .int a2), (3, .int r10), (4, .int r10)]) X dX8_ifPulled_68 (by decide) rfl ?_
        refine j_aload_n (pc := 70) X dX8_ifPulled_70 rfl 0 rfl ?_
        obtain ⟨G32, hc33, h⟩ := bd_s h
        refine j_callV (pc := 71) X (tX8_putBack l hE G11  hc33) muX8_putBack (by decide) q749 rfl rfl (Nat.le_of_ble_eq_true rfl) ⟨Nat.le_of_ble_eq_true rfl, Nat.le_of_ble_eq_true rfl⟩ dX8_ifPulled_71 ?_
        refine j_iload (pc := 74) X dX8_ifPulled_74 4 rfl ?_
        exact j_ret (pc := 76) X hr hk (vp_nar_int _) (pr_s h).1 (pr_s h).2 dX8_ifPulled_76
    · rw [if_pos hc] at h
      refine j_bipush (pc := 19) (v := (-2)) X dX8_ifPulled_19 (by decide) ?_
      exact j_ret (pc := 21) X hr hk (vp_nar_int _) (pr_s h).1 (pr_s h).2 dX8_ifPulled_21
theorem dX8_wordAt_0 : decode cX8_wordAt 0 = .ok (.iconst 0, 1) := by decide +kernel
theorem dX8_wordAt_1 : decode cX8_wordAt 1 = .ok (.istore_n 2, 1) := by decide +kernel
theorem dX8_wordAt_2 : decode cX8_wordAt 2 = .ok (.bipush (-5), 2) := by decide +kernel
theorem dX8_wordAt_4 : decode cX8_wordAt 4 = .ok (.istore_n 3, 1) := by decide +kernel
theorem dX8_wordAt_5 : decode cX8_wordAt 5 = .ok (.iconst 0, 1) := by decide +kernel
theorem dX8_wordAt_6 : decode cX8_wordAt 6 = .ok (.istore 4, 2) := by decide +kernel
theorem dX8_wordAt_8 : decode cX8_wordAt 8 = .ok (.iload 4, 2) := by decide +kernel
theorem dX8_wordAt_10 : decode cX8_wordAt 10 = .ok (.bipush 40, 2) := by decide +kernel
theorem dX8_wordAt_12 : decode cX8_wordAt 12 = .ok (.if_icmp .ge 46, 3) := by decide +kernel
theorem dX8_wordAt_15 : decode cX8_wordAt 15 = .ok (.aload_n 0, 1) := by decide +kernel
theorem dX8_wordAt_16 : decode cX8_wordAt 16 = .ok (.iload 4, 2) := by decide +kernel
theorem dX8_wordAt_18 : decode cX8_wordAt 18 = .ok (.invokevirtual 54, 3) := by decide +kernel
theorem dX8_wordAt_21 : decode cX8_wordAt 21 = .ok (.ifCond .eq 31, 3) := by decide +kernel
theorem dX8_wordAt_24 : decode cX8_wordAt 24 = .ok (.aload_n 0, 1) := by decide +kernel
theorem dX8_wordAt_25 : decode cX8_wordAt 25 = .ok (.iload 4, 2) := by decide +kernel
theorem dX8_wordAt_27 : decode cX8_wordAt 27 = .ok (.invokevirtual 78, 3) := by decide +kernel
theorem dX8_wordAt_30 : decode cX8_wordAt 30 = .ok (.ifCond .lt 22, 3) := by decide +kernel
theorem dX8_wordAt_33 : decode cX8_wordAt 33 = .ok (.iload_n 2, 1) := by decide +kernel
theorem dX8_wordAt_34 : decode cX8_wordAt 34 = .ok (.iload_n 1, 1) := by decide +kernel
theorem dX8_wordAt_35 : decode cX8_wordAt 35 = .ok (.if_icmp .ne 12, 3) := by decide +kernel
theorem dX8_wordAt_38 : decode cX8_wordAt 38 = .ok (.aload_n 0, 1) := by decide +kernel
theorem dX8_wordAt_39 : decode cX8_wordAt 39 = .ok (.iload 4, 2) := by decide +kernel
theorem dX8_wordAt_41 : decode cX8_wordAt 41 = .ok (.invokevirtual 78, 3) := by decide +kernel
theorem dX8_wordAt_44 : decode cX8_wordAt 44 = .ok (.goto 4, 3) := by decide +kernel
theorem dX8_wordAt_47 : decode cX8_wordAt 47 = .ok (.iload_n 3, 1) := by decide +kernel
theorem dX8_wordAt_48 : decode cX8_wordAt 48 = .ok (.istore_n 3, 1) := by decide +kernel
theorem dX8_wordAt_49 : decode cX8_wordAt 49 = .ok (.iinc 2 1, 3) := by decide +kernel
theorem dX8_wordAt_52 : decode cX8_wordAt 52 = .ok (.iinc 4 1, 3) := by decide +kernel
theorem dX8_wordAt_55 : decode cX8_wordAt 55 = .ok (.goto (-47), 3) := by decide +kernel
theorem dX8_wordAt_58 : decode cX8_wordAt 58 = .ok (.iload_n 3, 1) := by decide +kernel
theorem dX8_wordAt_59 : decode cX8_wordAt 59 = .ok (.ireturn, 1) := by decide +kernel
set_option maxHeartbeats 4000000 in
set_option maxRecDepth 100000 in
theorem tX8_wordAt_8 (l : Launch) {E : ET} (hE : Aj E) {p : Program} {e : Env} {s : State} {m : MethodId} {args : Array Value} {below : List Frame} {meth : Method} {c : Code} (X : Cx p (rmL 5) s m args c yX8_wordAt.cls cX8_wordAt 5 E (Aw E) 0 0) (hr : meth.sig.returnType = (some .int)) (hk : meth.locks = false) {r : Int32} (G : GT) (a1 : Int32) : ∀ (n : Nat) (a2 a3 a4 : Int32), fX8_wordAt_8 G a1 n a2 a3 a4 = some r → J p l e (rmL 5) s m args below meth c E (Aw E) s.heap 5 0 0 (MQ below (QI E r G) args s 0 0 (Aw E)) G 8 [(0, .ref (Ad E 22 0)), (1, .int a1), (2, .int a2), (3, .int a3), (4, .int a4)] [] := by
  intro n
  induction n with
  | zero =>
    intro a2 a3 a4 h
    simp [fX8_wordAt_8] at h
  | succ n ih =>
    intro a2 a3 a4 h
    rw [fX8_wordAt_8] at h
    refine j_iload (pc := 8) X dX8_wordAt_8 4 rfl ?_
    refine j_bipush (pc := 10) (v := 40) X dX8_wordAt_10 (by decide) ?_
    refine j_icmp_ge (pc := 12) (tgt := 58) X dX8_wordAt_12 (by decide) (fun hc => ?_) (fun hc => ?_)
    · rw [if_pos hc] at h
      refine j_iload_n (pc := 58) X dX8_wordAt_58 rfl 3 rfl ?_
      exact j_ret (pc := 59) X hr hk (vp_nar_int _) (Option.some.inj h) rfl dX8_wordAt_59
    · rw [if_neg hc] at h
      refine j_aload_n (pc := 15) X dX8_wordAt_15 rfl 0 rfl ?_
      refine j_iload (pc := 16) X dX8_wordAt_16 4 rfl ?_
      obtain ⟨r1, hc3, h⟩ := bd_s h
      refine j_callI (pc := 18) X (tX8_begins l hE G a4 hc3) muX8_begins (by decide) q721 rfl rfl (Nat.le_of_ble_eq_true rfl) ⟨Nat.le_of_ble_eq_true rfl, Nat.le_of_ble_eq_true rfl⟩ dX8_wordAt_18 ?_
      refine j_if_eq (pc := 21) (tgt := 52) X dX8_wordAt_21 (by decide) (fun hc => ?_) (fun hc => ?_)
      · rw [if_pos hc] at h
        refine j_iinc (pc := 52) (q := 4) (v := (a4 + (1 : Int32))) (lv' := [(0, .ref (Ad E 22 0)), (1, .int a1), (2, .int a2), (3, .int a3), (4, .int (a4 + (1 : Int32)))]) X dX8_wordAt_52 rfl rfl (by decide) rfl ?_
        refine j_goto (pc := 55) (tgt := 8) X dX8_wordAt_55 (by decide) ?_
        exact ih a2 a3 (a4 + (1 : Int32)) h
      · rw [if_neg hc] at h
        refine j_aload_n (pc := 24) X dX8_wordAt_24 rfl 0 rfl ?_
        refine j_iload (pc := 25) X dX8_wordAt_25 4 rfl ?_
        obtain ⟨r4, hc6, h⟩ := bd_s h
        refine j_callI (pc := 27) X (tX8_wordFrom l hE G a4 hc6) muX8_wordFrom (by decide) q793 rfl rfl (Nat.le_of_ble_eq_true rfl) ⟨Nat.le_of_ble_eq_true rfl, Nat.le_of_ble_eq_true rfl⟩ dX8_wordAt_27 ?_
        refine j_if_lt (pc := 30) (tgt := 52) X dX8_wordAt_30 (by decide) (fun hc => ?_) (fun hc => ?_)
        · rw [if_pos hc] at h
          refine j_iinc (pc := 52) (q := 4) (v := (a4 + (1 : Int32))) (lv' := [(0, .ref (Ad E 22 0)), (1, .int a1), (2, .int a2), (3, .int a3), (4, .int (a4 + (1 : Int32)))]) X dX8_wordAt_52 rfl rfl (by decide) rfl ?_
          refine j_goto (pc := 55) (tgt := 8) X dX8_wordAt_55 (by decide) ?_
          exact ih a2 a3 (a4 + (1 : Int32)) h
        · rw [if_neg hc] at h
          refine j_iload_n (pc := 33) X dX8_wordAt_33 rfl 2 rfl ?_
          refine j_iload_n (pc := 34) X dX8_wordAt_34 rfl 1 rfl ?_
          refine j_icmp_ne (pc := 35) (tgt := 47) X dX8_wordAt_35 (by decide) (fun hc => ?_) (fun hc => ?_)
          · rw [if_neg hc] at h
            refine j_iload_n (pc := 47) X dX8_wordAt_47 rfl 3 rfl ?_
            refine j_istore_n (pc := 48) (lv' := [(0, .ref (Ad E 22 0)), (1, .int a1), (2, .int a2), (3, .int a3), (4, .int a4)]) X dX8_wordAt_48 rfl (by decide) rfl ?_
            refine j_iinc (pc := 49) (q := 2) (v := (a2 + (1 : Int32))) (lv' := [(0, .ref (Ad E 22 0)), (1, .int a1), (2, .int (a2 + (1 : Int32))), (3, .int a3), (4, .int a4)]) X dX8_wordAt_49 rfl rfl (by decide) rfl ?_
            refine j_iinc (pc := 52) (q := 4) (v := (a4 + (1 : Int32))) (lv' := [(0, .ref (Ad E 22 0)), (1, .int a1), (2, .int (a2 + (1 : Int32))), (3, .int a3), (4, .int (a4 + (1 : Int32)))]) X dX8_wordAt_52 rfl rfl (by decide) rfl ?_
            refine j_goto (pc := 55) (tgt := 8) X dX8_wordAt_55 (by decide) ?_
            exact ih (a2 + (1 : Int32)) a3 (a4 + (1 : Int32)) h
          · rw [if_pos hc] at h
            refine j_aload_n (pc := 38) X dX8_wordAt_38 rfl 0 rfl ?_
            refine j_iload (pc := 39) X dX8_wordAt_39 4 rfl ?_
            obtain ⟨r7, hc9, h⟩ := bd_s h
            refine j_callI (pc := 41) X (tX8_wordFrom l hE G a4 hc9) muX8_wordFrom (by decide) q793 rfl rfl (Nat.le_of_ble_eq_true rfl) ⟨Nat.le_of_ble_eq_true rfl, Nat.le_of_ble_eq_true rfl⟩ dX8_wordAt_41 ?_
            refine j_goto (pc := 44) (tgt := 48) X dX8_wordAt_44 (by decide) ?_
            refine j_istore_n (pc := 48) (lv' := [(0, .ref (Ad E 22 0)), (1, .int a1), (2, .int a2), (3, .int r7), (4, .int a4)]) X dX8_wordAt_48 rfl (by decide) rfl ?_
            refine j_iinc (pc := 49) (q := 2) (v := (a2 + (1 : Int32))) (lv' := [(0, .ref (Ad E 22 0)), (1, .int a1), (2, .int (a2 + (1 : Int32))), (3, .int r7), (4, .int a4)]) X dX8_wordAt_49 rfl rfl (by decide) rfl ?_
            refine j_iinc (pc := 52) (q := 4) (v := (a4 + (1 : Int32))) (lv' := [(0, .ref (Ad E 22 0)), (1, .int a1), (2, .int (a2 + (1 : Int32))), (3, .int r7), (4, .int (a4 + (1 : Int32)))]) X dX8_wordAt_52 rfl rfl (by decide) rfl ?_
            refine j_goto (pc := 55) (tgt := 8) X dX8_wordAt_55 (by decide) ?_
            exact ih (a2 + (1 : Int32)) r7 (a4 + (1 : Int32)) h
set_option maxHeartbeats 4000000 in
set_option maxRecDepth 100000 in
theorem tX8_wordAt (l : Launch) {E : ET} (hE : Aj E) (G : GT) (a1 : Int32) {r : Int32} (h : fX8_wordAt G a1 = some r) : CI l E yX8_wordAt cX8_wordAt 5 (some .int) 5 [.ref (Ad E 22 0), .int a1] G r G := by
  refine Met_I (lv := [(0, .ref (Ad E 22 0)), (1, .int a1)]) (by decide +kernel) hE (Nat.le_of_ble_eq_true rfl) rfl ?_
  intro p e s m args below meth c X hr hk
  unfold fX8_wordAt at h
  refine j_iconst (pc := 0) (v := 0) X dX8_wordAt_0 (by decide) ?_
  refine j_istore_n (pc := 1) (lv' := [(0, .ref (Ad E 22 0)), (1, .int a1), (2, .int (0 : Int32))]) X dX8_wordAt_1 rfl (by decide) rfl ?_
  refine j_bipush (pc := 2) (v := (-5)) X dX8_wordAt_2 (by decide) ?_
  refine j_istore_n (pc := 4) (lv' := [(0, .ref (Ad E 22 0)), (1, .int a1), (2, .int (0 : Int32)), (3, .int (-5 : Int32))]) X dX8_wordAt_4 rfl (by decide) rfl ?_
  refine j_iconst (pc := 5) (v := 0) X dX8_wordAt_5 (by decide) ?_
  refine j_istore (pc := 6) (lv' := [(0, .ref (Ad E 22 0)), (1, .int a1), (2, .int (0 : Int32)), (3, .int (-5 : Int32)), (4, .int (0 : Int32))]) X dX8_wordAt_6 (by decide) rfl ?_
  exact tX8_wordAt_8 l hE X hr hk G a1 FU (0 : Int32) (-5 : Int32) (0 : Int32) h
