theorem dX8_runsOf_0 : decode cX8_runsOf 0 = .ok (.iconst 0, 1) := by decide +kernel
theorem dX8_runsOf_1 : decode cX8_runsOf 1 = .ok (.istore_n 2, 1) := by decide +kernel
theorem dX8_runsOf_2 : decode cX8_runsOf 2 = .ok (.iconst 0, 1) := by decide +kernel
theorem dX8_runsOf_3 : decode cX8_runsOf 3 = .ok (.istore_n 3, 1) := by decide +kernel
theorem dX8_runsOf_4 : decode cX8_runsOf 4 = .ok (.iload_n 3, 1) := by decide +kernel
theorem dX8_runsOf_5 : decode cX8_runsOf 5 = .ok (.bipush 40, 2) := by decide +kernel
theorem dX8_runsOf_7 : decode cX8_runsOf 7 = .ok (.if_icmp .ge 34, 3) := by decide +kernel
theorem dX8_runsOf_10 : decode cX8_runsOf 10 = .ok (.iload_n 2, 1) := by decide +kernel
theorem dX8_runsOf_11 : decode cX8_runsOf 11 = .ok (.aload_n 0, 1) := by decide +kernel
theorem dX8_runsOf_12 : decode cX8_runsOf 12 = .ok (.iload_n 3, 1) := by decide +kernel
theorem dX8_runsOf_13 : decode cX8_runsOf 13 = .ok (.invokevirtual 54, 3) := by decide +kernel
theorem dX8_runsOf_16 : decode cX8_runsOf 16 = .ok (.ifCond .eq 16, 3) := by decide +kernel
theorem dX8_runsOf_19 : decode cX8_runsOf 19 = .ok (.aload_n 0, 1) := by decide +kernel
theorem dX8_runsOf_20 : decode cX8_runsOf 20 = .ok (.iload_n 3, 1) := by decide +kernel
theorem dX8_runsOf_21 : decode cX8_runsOf 21 = .ok (.invokevirtual 78, 3) := by decide +kernel
theorem dX8_runsOf_24 : decode cX8_runsOf 24 = .ok (.iload_n 1, 1) := by decide +kernel
theorem dX8_runsOf_25 : decode cX8_runsOf 25 = .ok (.if_icmp .ne 7, 3) := by decide +kernel
theorem dX8_runsOf_28 : decode cX8_runsOf 28 = .ok (.iconst 1, 1) := by decide +kernel
theorem dX8_runsOf_29 : decode cX8_runsOf 29 = .ok (.goto 4, 3) := by decide +kernel
theorem dX8_runsOf_32 : decode cX8_runsOf 32 = .ok (.iconst 0, 1) := by decide +kernel
theorem dX8_runsOf_33 : decode cX8_runsOf 33 = .ok (.iadd, 1) := by decide +kernel
theorem dX8_runsOf_34 : decode cX8_runsOf 34 = .ok (.istore_n 2, 1) := by decide +kernel
theorem dX8_runsOf_35 : decode cX8_runsOf 35 = .ok (.iinc 3 1, 3) := by decide +kernel
theorem dX8_runsOf_38 : decode cX8_runsOf 38 = .ok (.goto (-34), 3) := by decide +kernel
theorem dX8_runsOf_41 : decode cX8_runsOf 41 = .ok (.iload_n 2, 1) := by decide +kernel
theorem dX8_runsOf_42 : decode cX8_runsOf 42 = .ok (.ireturn, 1) := by decide +kernel
set_option maxHeartbeats 4000000 in
set_option maxRecDepth 100000 in
theorem tX8_runsOf_4 (l : Launch) {E : ET} (hE : Aj E) {p : Program} {e : Env} {s : State} {m : MethodId} {args : Array Value} {below : List Frame} {meth : Method} {c : Code} (X : Cx p (rmL 5) s m args c yX8_runsOf.cls cX8_runsOf 4 E (Aw E) 0 0) (hr : meth.sig.returnType = (some .int)) (hk : meth.locks = false) {r : Int32} (G : GT) (a1 : Int32) : ∀ (n : Nat) (a2 a3 : Int32), fX8_runsOf_4 G a1 n a2 a3 = some r → J p l e (rmL 5) s m args below meth c E (Aw E) s.heap 4 0 0 (MQ below (QI E r G) args s 0 0 (Aw E)) G 4 [(0, .ref (Ad E 22 0)), (1, .int a1), (2, .int a2), (3, .int a3)] [] := by
  intro n
  induction n with
  | zero =>
    intro a2 a3 h
    simp [fX8_runsOf_4] at h
  | succ n ih =>
    intro a2 a3 h
    rw [fX8_runsOf_4] at h
    refine j_iload_n (pc := 4) X dX8_runsOf_4 rfl 3 rfl ?_
    refine j_bipush (pc := 5) (v := 40) X dX8_runsOf_5 (by decide) ?_
    refine j_icmp_ge (pc := 7) (tgt := 41) X dX8_runsOf_7 (by decide) (fun hc => ?_) (fun hc => ?_)
    · rw [if_pos hc] at h
      refine j_iload_n (pc := 41) X dX8_runsOf_41 rfl 2 rfl ?_
      exact j_ret (pc := 42) X hr hk (vp_nar_int _) (Option.some.inj h) rfl dX8_runsOf_42
    · rw [if_neg hc] at h
      refine j_iload_n (pc := 10) X dX8_runsOf_10 rfl 2 rfl ?_
      refine j_aload_n (pc := 11) X dX8_runsOf_11 rfl 0 rfl ?_
      refine j_iload_n (pc := 12) X dX8_runsOf_12 rfl 3 rfl ?_
      obtain ⟨r1, hc3, h⟩ := bd_s h
      refine j_callI (pc := 13) X (tX8_begins l hE G a3 hc3) muX8_begins (by decide) q721 rfl rfl (Nat.le_of_ble_eq_true rfl) ⟨Nat.le_of_ble_eq_true rfl, Nat.le_of_ble_eq_true rfl⟩ dX8_runsOf_13 ?_
      refine j_if_eq (pc := 16) (tgt := 32) X dX8_runsOf_16 (by decide) (fun hc => ?_) (fun hc => ?_)
      · rw [if_pos hc] at h
        refine j_iconst (pc := 32) (v := 0) X dX8_runsOf_32 (by decide) ?_
        refine j_iadd (pc := 33) X dX8_runsOf_33 ?_
        refine j_istore_n (pc := 34) (lv' := [(0, .ref (Ad E 22 0)), (1, .int a1), (2, .int (a2 + (0 : Int32))), (3, .int a3)]) X dX8_runsOf_34 rfl (by decide) rfl ?_
        refine j_iinc (pc := 35) (q := 3) (v := (a3 + (1 : Int32))) (lv' := [(0, .ref (Ad E 22 0)), (1, .int a1), (2, .int (a2 + (0 : Int32))), (3, .int (a3 + (1 : Int32)))]) X dX8_runsOf_35 rfl rfl (by decide) rfl ?_
        refine j_goto (pc := 38) (tgt := 4) X dX8_runsOf_38 (by decide) ?_
        exact ih (a2 + (0 : Int32)) (a3 + (1 : Int32)) h
      · rw [if_neg hc] at h
        refine j_aload_n (pc := 19) X dX8_runsOf_19 rfl 0 rfl ?_
        refine j_iload_n (pc := 20) X dX8_runsOf_20 rfl 3 rfl ?_
        obtain ⟨r4, hc6, h⟩ := bd_s h
        refine j_callI (pc := 21) X (tX8_wordFrom l hE G a3 hc6) muX8_wordFrom (by decide) q793 rfl rfl (Nat.le_of_ble_eq_true rfl) ⟨Nat.le_of_ble_eq_true rfl, Nat.le_of_ble_eq_true rfl⟩ dX8_runsOf_21 ?_
        refine j_iload_n (pc := 24) X dX8_runsOf_24 rfl 1 rfl ?_
        refine j_icmp_ne (pc := 25) (tgt := 32) X dX8_runsOf_25 (by decide) (fun hc => ?_) (fun hc => ?_)
        · rw [if_neg hc] at h
          refine j_iconst (pc := 32) (v := 0) X dX8_runsOf_32 (by decide) ?_
          refine j_iadd (pc := 33) X dX8_runsOf_33 ?_
          refine j_istore_n (pc := 34) (lv' := [(0, .ref (Ad E 22 0)), (1, .int a1), (2, .int (a2 + (0 : Int32))), (3, .int a3)]) X dX8_runsOf_34 rfl (by decide) rfl ?_
          refine j_iinc (pc := 35) (q := 3) (v := (a3 + (1 : Int32))) (lv' := [(0, .ref (Ad E 22 0)), (1, .int a1), (2, .int (a2 + (0 : Int32))), (3, .int (a3 + (1 : Int32)))]) X dX8_runsOf_35 rfl rfl (by decide) rfl ?_
          refine j_goto (pc := 38) (tgt := 4) X dX8_runsOf_38 (by decide) ?_
          exact ih (a2 + (0 : Int32)) (a3 + (1 : Int32)) h
        · rw [if_pos hc] at h
          refine j_iconst (pc := 28) (v := 1) X dX8_runsOf_28 (by decide) ?_
          refine j_goto (pc := 29) (tgt := 33) X dX8_runsOf_29 (by decide) ?_
          refine j_iadd (pc := 33) X dX8_runsOf_33 ?_
          refine j_istore_n (pc := 34) (lv' := [(0, .ref (Ad E 22 0)), (1, .int a1), (2, .int (a2 + (1 : Int32))), (3, .int a3)]) X dX8_runsOf_34 rfl (by decide) rfl ?_
          refine j_iinc (pc := 35) (q := 3) (v := (a3 + (1 : Int32))) (lv' := [(0, .ref (Ad E 22 0)), (1, .int a1), (2, .int (a2 + (1 : Int32))), (3, .int (a3 + (1 : Int32)))]) X dX8_runsOf_35 rfl rfl (by decide) rfl ?_
          refine j_goto (pc := 38) (tgt := 4) X dX8_runsOf_38 (by decide) ?_
          exact ih (a2 + (1 : Int32)) (a3 + (1 : Int32)) h
set_option maxHeartbeats 4000000 in
set_option maxRecDepth 100000 in
theorem tX8_runsOf (l : Launch) {E : ET} (hE : Aj E) (G : GT) (a1 : Int32) {r : Int32} (h : fX8_runsOf G a1 = some r) : CI l E yX8_runsOf cX8_runsOf 4 (some .int) 5 [.ref (Ad E 22 0), .int a1] G r G := by
  refine Met_I (lv := [(0, .ref (Ad E 22 0)), (1, .int a1)]) (by decide +kernel) hE (Nat.le_of_ble_eq_true rfl) rfl ?_
  intro p e s m args below meth c X hr hk
  unfold fX8_runsOf at h
  refine j_iconst (pc := 0) (v := 0) X dX8_runsOf_0 (by decide) ?_
  refine j_istore_n (pc := 1) (lv' := [(0, .ref (Ad E 22 0)), (1, .int a1), (2, .int (0 : Int32))]) X dX8_runsOf_1 rfl (by decide) rfl ?_
  refine j_iconst (pc := 2) (v := 0) X dX8_runsOf_2 (by decide) ?_
  refine j_istore_n (pc := 3) (lv' := [(0, .ref (Ad E 22 0)), (1, .int a1), (2, .int (0 : Int32)), (3, .int (0 : Int32))]) X dX8_runsOf_3 rfl (by decide) rfl ?_
  exact tX8_runsOf_4 l hE X hr hk G a1 FU (0 : Int32) (0 : Int32) h
theorem dX8_rightAnswer_0 : decode cX8_rightAnswer 0 = .ok (.iconst 0, 1) := by decide +kernel
theorem dX8_rightAnswer_1 : decode cX8_rightAnswer 1 = .ok (.istore_n 1, 1) := by decide +kernel
theorem dX8_rightAnswer_2 : decode cX8_rightAnswer 2 = .ok (.iconst 0, 1) := by decide +kernel
theorem dX8_rightAnswer_3 : decode cX8_rightAnswer 3 = .ok (.istore_n 2, 1) := by decide +kernel
theorem dX8_rightAnswer_4 : decode cX8_rightAnswer 4 = .ok (.iload_n 2, 1) := by decide +kernel
theorem dX8_rightAnswer_5 : decode cX8_rightAnswer 5 = .ok (.aload_n 0, 1) := by decide +kernel
theorem dX8_rightAnswer_6 : decode cX8_rightAnswer 6 = .ok (.getfield 7, 3) := by decide +kernel
theorem dX8_rightAnswer_9 : decode cX8_rightAnswer 9 = .ok (.bipush 80, 2) := by decide +kernel
theorem dX8_rightAnswer_11 : decode cX8_rightAnswer 11 = .ok (.iaload, 1) := by decide +kernel
theorem dX8_rightAnswer_12 : decode cX8_rightAnswer 12 = .ok (.if_icmp .ge 28, 3) := by decide +kernel
theorem dX8_rightAnswer_15 : decode cX8_rightAnswer 15 = .ok (.iload_n 1, 1) := by decide +kernel
theorem dX8_rightAnswer_16 : decode cX8_rightAnswer 16 = .ok (.aload_n 0, 1) := by decide +kernel
theorem dX8_rightAnswer_17 : decode cX8_rightAnswer 17 = .ok (.iload_n 2, 1) := by decide +kernel
theorem dX8_rightAnswer_18 : decode cX8_rightAnswer 18 = .ok (.invokevirtual 81, 3) := by decide +kernel
theorem dX8_rightAnswer_21 : decode cX8_rightAnswer 21 = .ok (.aload_n 0, 1) := by decide +kernel
theorem dX8_rightAnswer_22 : decode cX8_rightAnswer 22 = .ok (.getfield 7, 3) := by decide +kernel
theorem dX8_rightAnswer_25 : decode cX8_rightAnswer 25 = .ok (.sipush 161, 3) := by decide +kernel
theorem dX8_rightAnswer_28 : decode cX8_rightAnswer 28 = .ok (.iload_n 2, 1) := by decide +kernel
theorem dX8_rightAnswer_29 : decode cX8_rightAnswer 29 = .ok (.iadd, 1) := by decide +kernel
theorem dX8_rightAnswer_30 : decode cX8_rightAnswer 30 = .ok (.iaload, 1) := by decide +kernel
theorem dX8_rightAnswer_31 : decode cX8_rightAnswer 31 = .ok (.imul, 1) := by decide +kernel
theorem dX8_rightAnswer_32 : decode cX8_rightAnswer 32 = .ok (.iadd, 1) := by decide +kernel
theorem dX8_rightAnswer_33 : decode cX8_rightAnswer 33 = .ok (.istore_n 1, 1) := by decide +kernel
theorem dX8_rightAnswer_34 : decode cX8_rightAnswer 34 = .ok (.iinc 2 1, 3) := by decide +kernel
theorem dX8_rightAnswer_37 : decode cX8_rightAnswer 37 = .ok (.goto (-33), 3) := by decide +kernel
theorem dX8_rightAnswer_40 : decode cX8_rightAnswer 40 = .ok (.iload_n 1, 1) := by decide +kernel
theorem dX8_rightAnswer_41 : decode cX8_rightAnswer 41 = .ok (.ireturn, 1) := by decide +kernel
set_option maxHeartbeats 4000000 in
set_option maxRecDepth 100000 in
theorem tX8_rightAnswer_4 (l : Launch) {E : ET} (hE : Aj E) {p : Program} {e : Env} {s : State} {m : MethodId} {args : Array Value} {below : List Frame} {meth : Method} {c : Code} (X : Cx p (rmL 6) s m args c yX8_rightAnswer.cls cX8_rightAnswer 3 E (Aw E) 0 0) (hr : meth.sig.returnType = (some .int)) (hk : meth.locks = false) {r : Int32} (G : GT) : ∀ (n : Nat) (a1 a2 : Int32), fX8_rightAnswer_4 G n a1 a2 = some r → J p l e (rmL 6) s m args below meth c E (Aw E) s.heap 3 0 0 (MQ below (QI E r G) args s 0 0 (Aw E)) G 4 [(0, .ref (Ad E 22 0)), (1, .int a1), (2, .int a2)] [] := by
  intro n
  induction n with
  | zero =>
    intro a1 a2 h
    simp [fX8_rightAnswer_4] at h
  | succ n ih =>
    intro a1 a2 h
    rw [fX8_rightAnswer_4] at h
    refine j_iload_n (pc := 4) X dX8_rightAnswer_4 rfl 2 rfl ?_
    refine j_aload_n (pc := 5) X dX8_rightAnswer_5 rfl 0 rfl ?_
    refine j_get (pc := 6) (v := .ref (Ad E 23 0)) X gf_X8_7 (by decide) rfl rfl dX8_rightAnswer_6 ?_
    refine j_bipush (pc := 9) (v := 80) X dX8_rightAnswer_9 (by decide) ?_
    obtain ⟨hg1, h⟩ := gd_s h
    refine j_iald (pc := 11) (n := 289) X (by decide) rfl hg1 dX8_rightAnswer_11 ?_
    refine j_icmp_ge (pc := 12) (tgt := 40) X dX8_rightAnswer_12 (by decide) (fun hc => ?_) (fun hc => ?_)
    · rw [if_pos hc] at h
      refine j_iload_n (pc := 40) X dX8_rightAnswer_40 rfl 1 rfl ?_
      exact j_ret (pc := 41) X hr hk (vp_nar_int _) (Option.some.inj h) rfl dX8_rightAnswer_41
    · rw [if_neg hc] at h
      refine j_iload_n (pc := 15) X dX8_rightAnswer_15 rfl 1 rfl ?_
      refine j_aload_n (pc := 16) X dX8_rightAnswer_16 rfl 0 rfl ?_
      refine j_iload_n (pc := 17) X dX8_rightAnswer_17 rfl 2 rfl ?_
      obtain ⟨r2, hc4, h⟩ := bd_s h
      refine j_callI (pc := 18) X (tX8_runsOf l hE G a2 hc4) muX8_runsOf (by decide) q817 rfl rfl (Nat.le_of_ble_eq_true rfl) ⟨Nat.le_of_ble_eq_true rfl, Nat.le_of_ble_eq_true rfl⟩ dX8_rightAnswer_18 ?_
      refine j_aload_n (pc := 21) X dX8_rightAnswer_21 rfl 0 rfl ?_
      refine j_get (pc := 22) (v := .ref (Ad E 23 0)) X gf_X8_7 (by decide) rfl rfl dX8_rightAnswer_22 ?_
      refine j_sipush (pc := 25) (v := 161) X dX8_rightAnswer_25 (by decide) ?_
      refine j_iload_n (pc := 28) X dX8_rightAnswer_28 rfl 2 rfl ?_
      refine j_iadd (pc := 29) X dX8_rightAnswer_29 ?_
      obtain ⟨hg5, h⟩ := gd_s h
      refine j_iald (pc := 30) (n := 289) X (by decide) rfl hg5 dX8_rightAnswer_30 ?_
      refine j_imul (pc := 31) X dX8_rightAnswer_31 ?_
      refine j_iadd (pc := 32) X dX8_rightAnswer_32 ?_
      refine j_istore_n (pc := 33) (lv' := [(0, .ref (Ad E 22 0)), (1, .int (a1 + (r2 * (G 23 0 ((161 : Int32) + a2).toNatClampNeg)))), (2, .int a2)]) X dX8_rightAnswer_33 rfl (by decide) rfl ?_
      refine j_iinc (pc := 34) (q := 2) (v := (a2 + (1 : Int32))) (lv' := [(0, .ref (Ad E 22 0)), (1, .int (a1 + (r2 * (G 23 0 ((161 : Int32) + a2).toNatClampNeg)))), (2, .int (a2 + (1 : Int32)))]) X dX8_rightAnswer_34 rfl rfl (by decide) rfl ?_
      refine j_goto (pc := 37) (tgt := 4) X dX8_rightAnswer_37 (by decide) ?_
      exact ih (a1 + (r2 * (G 23 0 ((161 : Int32) + a2).toNatClampNeg))) (a2 + (1 : Int32)) h
set_option maxHeartbeats 4000000 in
set_option maxRecDepth 100000 in
theorem tX8_rightAnswer (l : Launch) {E : ET} (hE : Aj E) (G : GT) {r : Int32} (h : fX8_rightAnswer G = some r) : CI l E yX8_rightAnswer cX8_rightAnswer 3 (some .int) 6 [.ref (Ad E 22 0)] G r G := by
  refine Met_I (lv := [(0, .ref (Ad E 22 0))]) (by decide +kernel) hE (Nat.le_of_ble_eq_true rfl) rfl ?_
  intro p e s m args below meth c X hr hk
  unfold fX8_rightAnswer at h
  refine j_iconst (pc := 0) (v := 0) X dX8_rightAnswer_0 (by decide) ?_
  refine j_istore_n (pc := 1) (lv' := [(0, .ref (Ad E 22 0)), (1, .int (0 : Int32))]) X dX8_rightAnswer_1 rfl (by decide) rfl ?_
  refine j_iconst (pc := 2) (v := 0) X dX8_rightAnswer_2 (by decide) ?_
  refine j_istore_n (pc := 3) (lv' := [(0, .ref (Ad E 22 0)), (1, .int (0 : Int32)), (2, .int (0 : Int32))]) X dX8_rightAnswer_3 rfl (by decide) rfl ?_
  exact tX8_rightAnswer_4 l hE X hr hk G FU (0 : Int32) (0 : Int32) h
theorem dX8_tie_0 : decode cX8_tie 0 = .ok (.iload_n 1, 1) := by decide +kernel
theorem dX8_tie_1 : decode cX8_tie 1 = .ok (.invokestatic 47, 3) := by decide +kernel
theorem dX8_tie_4 : decode cX8_tie 4 = .ok (.ifCond .ne 5, 3) := by decide +kernel
theorem dX8_tie_7 : decode cX8_tie 7 = .ok (.iconst (-1), 1) := by decide +kernel
theorem dX8_tie_8 : decode cX8_tie 8 = .ok (.ireturn, 1) := by decide +kernel
theorem dX8_tie_9 : decode cX8_tie 9 = .ok (.iload_n 2, 1) := by decide +kernel
theorem dX8_tie_10 : decode cX8_tie 10 = .ok (.iconst 1, 1) := by decide +kernel
theorem dX8_tie_11 : decode cX8_tie 11 = .ok (.iconst 5, 1) := by decide +kernel
theorem dX8_tie_12 : decode cX8_tie 12 = .ok (.invokestatic 28, 3) := by decide +kernel
theorem dX8_tie_15 : decode cX8_tie 15 = .ok (.ifCond .eq 13, 3) := by decide +kernel
theorem dX8_tie_18 : decode cX8_tie 18 = .ok (.iload_n 3, 1) := by decide +kernel
theorem dX8_tie_19 : decode cX8_tie 19 = .ok (.iconst 1, 1) := by decide +kernel
theorem dX8_tie_20 : decode cX8_tie 20 = .ok (.bipush 9, 2) := by decide +kernel
theorem dX8_tie_22 : decode cX8_tie 22 = .ok (.invokestatic 28, 3) := by decide +kernel
theorem dX8_tie_25 : decode cX8_tie 25 = .ok (.ifCond .ne 6, 3) := by decide +kernel
theorem dX8_tie_28 : decode cX8_tie 28 = .ok (.bipush (-2), 2) := by decide +kernel
theorem dX8_tie_30 : decode cX8_tie 30 = .ok (.ireturn, 1) := by decide +kernel
theorem dX8_tie_31 : decode cX8_tie 31 = .ok (.aload_n 0, 1) := by decide +kernel
theorem dX8_tie_32 : decode cX8_tie 32 = .ok (.getfield 7, 3) := by decide +kernel
theorem dX8_tie_35 : decode cX8_tie 35 = .ok (.iconst 0, 1) := by decide +kernel
theorem dX8_tie_36 : decode cX8_tie 36 = .ok (.iload_n 1, 1) := by decide +kernel
theorem dX8_tie_37 : decode cX8_tie 37 = .ok (.iadd, 1) := by decide +kernel
theorem dX8_tie_38 : decode cX8_tie 38 = .ok (.iaload, 1) := by decide +kernel
theorem dX8_tie_39 : decode cX8_tie 39 = .ok (.iload_n 2, 1) := by decide +kernel
theorem dX8_tie_40 : decode cX8_tie 40 = .ok (.if_icmp .ne 19, 3) := by decide +kernel
theorem dX8_tie_43 : decode cX8_tie 43 = .ok (.aload_n 0, 1) := by decide +kernel
theorem dX8_tie_44 : decode cX8_tie 44 = .ok (.getfield 7, 3) := by decide +kernel
theorem dX8_tie_47 : decode cX8_tie 47 = .ok (.bipush 40, 2) := by decide +kernel
theorem dX8_tie_49 : decode cX8_tie 49 = .ok (.iload_n 1, 1) := by decide +kernel
theorem dX8_tie_50 : decode cX8_tie 50 = .ok (.iadd, 1) := by decide +kernel
theorem dX8_tie_51 : decode cX8_tie 51 = .ok (.iaload, 1) := by decide +kernel
theorem dX8_tie_52 : decode cX8_tie 52 = .ok (.iload_n 3, 1) := by decide +kernel
theorem dX8_tie_53 : decode cX8_tie 53 = .ok (.if_icmp .ne 6, 3) := by decide +kernel
theorem dX8_tie_56 : decode cX8_tie 56 = .ok (.bipush (-5), 2) := by decide +kernel
theorem dX8_tie_58 : decode cX8_tie 58 = .ok (.ireturn, 1) := by decide +kernel
theorem dX8_tie_59 : decode cX8_tie 59 = .ok (.aload_n 0, 1) := by decide +kernel
theorem dX8_tie_60 : decode cX8_tie 60 = .ok (.invokevirtual 44, 3) := by decide +kernel
theorem dX8_tie_63 : decode cX8_tie 63 = .ok (.aload_n 0, 1) := by decide +kernel
theorem dX8_tie_64 : decode cX8_tie 64 = .ok (.getfield 7, 3) := by decide +kernel
theorem dX8_tie_67 : decode cX8_tie 67 = .ok (.iconst 0, 1) := by decide +kernel
theorem dX8_tie_68 : decode cX8_tie 68 = .ok (.iload_n 1, 1) := by decide +kernel
theorem dX8_tie_69 : decode cX8_tie 69 = .ok (.iadd, 1) := by decide +kernel
theorem dX8_tie_70 : decode cX8_tie 70 = .ok (.iload_n 2, 1) := by decide +kernel
theorem dX8_tie_71 : decode cX8_tie 71 = .ok (.iastore, 1) := by decide +kernel
theorem dX8_tie_72 : decode cX8_tie 72 = .ok (.aload_n 0, 1) := by decide +kernel
theorem dX8_tie_73 : decode cX8_tie 73 = .ok (.getfield 7, 3) := by decide +kernel
theorem dX8_tie_76 : decode cX8_tie 76 = .ok (.bipush 40, 2) := by decide +kernel
theorem dX8_tie_78 : decode cX8_tie 78 = .ok (.iload_n 1, 1) := by decide +kernel
theorem dX8_tie_79 : decode cX8_tie 79 = .ok (.iadd, 1) := by decide +kernel
theorem dX8_tie_80 : decode cX8_tie 80 = .ok (.iload_n 3, 1) := by decide +kernel
theorem dX8_tie_81 : decode cX8_tie 81 = .ok (.iastore, 1) := by decide +kernel
theorem dX8_tie_82 : decode cX8_tie 82 = .ok (.aload_n 0, 1) := by decide +kernel
theorem dX8_tie_83 : decode cX8_tie 83 = .ok (.invokevirtual 57, 3) := by decide +kernel
theorem dX8_tie_86 : decode cX8_tie 86 = .ok (.ireturn, 1) := by decide +kernel
set_option maxHeartbeats 4000000 in
set_option maxRecDepth 100000 in
theorem tX8_tie_59 (l : Launch) {E : ET} (hE : Aj E) {p : Program} {e : Env} {s : State} {m : MethodId} {args : Array Value} {below : List Frame} {meth : Method} {c : Code} (X : Cx p (rmL 5) s m args c yX8_tie.cls cX8_tie 4 E (Aw E) 0 0) (hr : meth.sig.returnType = (some .int)) (hk : meth.locks = false) {r : Int32} {G' : GT} (G : GT) (a1 : Int32) (a2 : Int32) (a3 : Int32) (h : fX8_tie_59 G a1 a2 a3 = some (r, G')) : J p l e (rmL 5) s m args below meth c E (Aw E) s.heap 4 0 0 (MQ below (QI E r G') args s 0 0 (Aw E)) G 59 [(0, .ref (Ad E 22 0)), (1, .int a1), (2, .int a2), (3, .int a3)] [] := by
  unfold fX8_tie_59 at h
  refine j_aload_n (pc := 59) X dX8_tie_59 rfl 0 rfl ?_
  obtain ⟨G2, hc3, h⟩ := bd_s h
  refine j_callV (pc := 60) X (tX8_record l hE G  hc3) muX8_record (by decide) q703 rfl rfl (Nat.le_of_ble_eq_true rfl) ⟨Nat.le_of_ble_eq_true rfl, Nat.le_of_ble_eq_true rfl⟩ dX8_tie_60 ?_
  refine j_aload_n (pc := 63) X dX8_tie_63 rfl 0 rfl ?_
  refine j_get (pc := 64) (v := .ref (Ad E 23 0)) X gf_X8_7 (by decide) rfl rfl dX8_tie_64 ?_
  refine j_iconst (pc := 67) (v := 0) X dX8_tie_67 (by decide) ?_
  refine j_iload_n (pc := 68) X dX8_tie_68 rfl 1 rfl ?_
  refine j_iadd (pc := 69) X dX8_tie_69 ?_
  refine j_iload_n (pc := 70) X dX8_tie_70 rfl 2 rfl ?_
  obtain ⟨hg4, h⟩ := gd_s h
  obtain ⟨G5, hG5, h⟩ := st3_s h
  refine j_iast (pc := 71) (n := 289) X hG5 (by decide) (fun _ => rfl) hg4 dX8_tie_71 ?_
  refine j_aload_n (pc := 72) X dX8_tie_72 rfl 0 rfl ?_
  refine j_get (pc := 73) (v := .ref (Ad E 23 0)) X gf_X8_7 (by decide) rfl rfl dX8_tie_73 ?_
  refine j_bipush (pc := 76) (v := 40) X dX8_tie_76 (by decide) ?_
  refine j_iload_n (pc := 78) X dX8_tie_78 rfl 1 rfl ?_
  refine j_iadd (pc := 79) X dX8_tie_79 ?_
  refine j_iload_n (pc := 80) X dX8_tie_80 rfl 3 rfl ?_
  obtain ⟨hg6, h⟩ := gd_s h
  obtain ⟨G7, hG7, h⟩ := st3_s h
  refine j_iast (pc := 81) (n := 289) X hG7 (by decide) (fun _ => rfl) hg6 dX8_tie_81 ?_
  refine j_aload_n (pc := 82) X dX8_tie_82 rfl 0 rfl ?_
  obtain ⟨r8, hc10, h⟩ := bd_s h
  refine j_callI (pc := 83) X (tX8_runs l hE G7  hc10) muX8_runs (by decide) q717 rfl rfl (Nat.le_of_ble_eq_true rfl) ⟨Nat.le_of_ble_eq_true rfl, Nat.le_of_ble_eq_true rfl⟩ dX8_tie_83 ?_
  exact j_ret (pc := 86) X hr hk (vp_nar_int _) (pr_s h).1 (pr_s h).2 dX8_tie_86
set_option maxHeartbeats 4000000 in
set_option maxRecDepth 100000 in
theorem tX8_tie (l : Launch) {E : ET} (hE : Aj E) (G : GT) (a1 : Int32) (a2 : Int32) (a3 : Int32) {r : Int32} {G' : GT} (h : fX8_tie G a1 a2 a3 = some (r, G')) : CI l E yX8_tie cX8_tie 4 (some .int) 5 [.ref (Ad E 22 0), .int a1, .int a2, .int a3] G r G' := by
  refine Met_I (lv := [(0, .ref (Ad E 22 0)), (1, .int a1), (2, .int a2), (3, .int a3)]) (by decide +kernel) hE (Nat.le_of_ble_eq_true rfl) rfl ?_
  intro p e s m args below meth c X hr hk
  unfold fX8_tie at h
  refine j_iload_n (pc := 0) X dX8_tie_0 rfl 1 rfl ?_
  obtain ⟨r1, hc3, h⟩ := bd_s h
  refine j_staI (pc := 1) X (tX8_isPlace l hE G a1 hc3) muX8_isPlace (Or.inl q711) rfl rfl (Nat.le_of_ble_eq_true rfl) ⟨Nat.le_of_ble_eq_true rfl, Nat.le_of_ble_eq_true rfl⟩ dX8_tie_1 ?_
  refine j_if_ne (pc := 4) (tgt := 9) X dX8_tie_4 (by decide) (fun hc => ?_) (fun hc => ?_)
  · rw [if_neg hc] at h
    refine j_iload_n (pc := 9) X dX8_tie_9 rfl 2 rfl ?_
    refine j_iconst (pc := 10) (v := 1) X dX8_tie_10 (by decide) ?_
    refine j_iconst (pc := 11) (v := 5) X dX8_tie_11 (by decide) ?_
    obtain ⟨r4, hc6, h⟩ := bd_s h
    refine j_staI (pc := 12) X (tX8_in l hE G a2 (1 : Int32) (5 : Int32) hc6) muX8_in (Or.inl q714) rfl rfl (Nat.le_of_ble_eq_true rfl) ⟨Nat.le_of_ble_eq_true rfl, Nat.le_of_ble_eq_true rfl⟩ dX8_tie_12 ?_
    refine j_if_eq (pc := 15) (tgt := 28) X dX8_tie_15 (by decide) (fun hc => ?_) (fun hc => ?_)
    · rw [if_pos hc] at h
      refine j_bipush (pc := 28) (v := (-2)) X dX8_tie_28 (by decide) ?_
      exact j_ret (pc := 30) X hr hk (vp_nar_int _) (pr_s h).1 (pr_s h).2 dX8_tie_30
    · rw [if_neg hc] at h
      refine j_iload_n (pc := 18) X dX8_tie_18 rfl 3 rfl ?_
      refine j_iconst (pc := 19) (v := 1) X dX8_tie_19 (by decide) ?_
      refine j_bipush (pc := 20) (v := 9) X dX8_tie_20 (by decide) ?_
      obtain ⟨r7, hc9, h⟩ := bd_s h
      refine j_staI (pc := 22) X (tX8_in l hE G a3 (1 : Int32) (9 : Int32) hc9) muX8_in (Or.inl q714) rfl rfl (Nat.le_of_ble_eq_true rfl) ⟨Nat.le_of_ble_eq_true rfl, Nat.le_of_ble_eq_true rfl⟩ dX8_tie_22 ?_
      refine j_if_ne (pc := 25) (tgt := 31) X dX8_tie_25 (by decide) (fun hc => ?_) (fun hc => ?_)
      · rw [if_neg hc] at h
        refine j_aload_n (pc := 31) X dX8_tie_31 rfl 0 rfl ?_
        refine j_get (pc := 32) (v := .ref (Ad E 23 0)) X gf_X8_7 (by decide) rfl rfl dX8_tie_32 ?_
        refine j_iconst (pc := 35) (v := 0) X dX8_tie_35 (by decide) ?_
        refine j_iload_n (pc := 36) X dX8_tie_36 rfl 1 rfl ?_
        refine j_iadd (pc := 37) X dX8_tie_37 ?_
        obtain ⟨hg10, h⟩ := gd_s h
        refine j_iald (pc := 38) (n := 289) X (by decide) rfl hg10 dX8_tie_38 ?_
        refine j_iload_n (pc := 39) X dX8_tie_39 rfl 2 rfl ?_
        refine j_icmp_ne (pc := 40) (tgt := 59) X dX8_tie_40 (by decide) (fun hc => ?_) (fun hc => ?_)
        · rw [if_neg hc] at h
          exact tX8_tie_59 l hE X hr hk G a1 a2 a3 h
        · rw [if_pos hc] at h
          refine j_aload_n (pc := 43) X dX8_tie_43 rfl 0 rfl ?_
          refine j_get (pc := 44) (v := .ref (Ad E 23 0)) X gf_X8_7 (by decide) rfl rfl dX8_tie_44 ?_
          refine j_bipush (pc := 47) (v := 40) X dX8_tie_47 (by decide) ?_
          refine j_iload_n (pc := 49) X dX8_tie_49 rfl 1 rfl ?_
          refine j_iadd (pc := 50) X dX8_tie_50 ?_
          obtain ⟨hg11, h⟩ := gd_s h
          refine j_iald (pc := 51) (n := 289) X (by decide) rfl hg11 dX8_tie_51 ?_
          refine j_iload_n (pc := 52) X dX8_tie_52 rfl 3 rfl ?_
          refine j_icmp_ne (pc := 53) (tgt := 59) X dX8_tie_53 (by decide) (fun hc => ?_) (fun hc => ?_)
          · rw [if_neg hc] at h
            exact tX8_tie_59 l hE X hr hk G a1 a2 a3 h
          · rw [if_pos hc] at h
            refine j_bipush (pc := 56) (v := (-5)) X dX8_tie_56 (by decide) ?_
            exact j_ret (pc := 58) X hr hk (vp_nar_int _) (pr_s h).1 (pr_s h).2 dX8_tie_58
      · rw [if_pos hc] at h
        refine j_bipush (pc := 28) (v := (-2)) X dX8_tie_28 (by decide) ?_
        exact j_ret (pc := 30) X hr hk (vp_nar_int _) (pr_s h).1 (pr_s h).2 dX8_tie_30
  · rw [if_pos hc] at h
    refine j_iconst (pc := 7) (v := (-1)) X dX8_tie_7 (by decide) ?_
    exact j_ret (pc := 8) X hr hk (vp_nar_int _) (pr_s h).1 (pr_s h).2 dX8_tie_8
theorem dX8_untie_0 : decode cX8_untie 0 = .ok (.iload_n 1, 1) := by decide +kernel
theorem dX8_untie_1 : decode cX8_untie 1 = .ok (.invokestatic 47, 3) := by decide +kernel
theorem dX8_untie_4 : decode cX8_untie 4 = .ok (.ifCond .ne 5, 3) := by decide +kernel
theorem dX8_untie_7 : decode cX8_untie 7 = .ok (.iconst (-1), 1) := by decide +kernel
theorem dX8_untie_8 : decode cX8_untie 8 = .ok (.ireturn, 1) := by decide +kernel
theorem dX8_untie_9 : decode cX8_untie 9 = .ok (.aload_n 0, 1) := by decide +kernel
theorem dX8_untie_10 : decode cX8_untie 10 = .ok (.getfield 7, 3) := by decide +kernel
theorem dX8_untie_13 : decode cX8_untie 13 = .ok (.iconst 0, 1) := by decide +kernel
theorem dX8_untie_14 : decode cX8_untie 14 = .ok (.iload_n 1, 1) := by decide +kernel
theorem dX8_untie_15 : decode cX8_untie 15 = .ok (.iadd, 1) := by decide +kernel
theorem dX8_untie_16 : decode cX8_untie 16 = .ok (.iaload, 1) := by decide +kernel
theorem dX8_untie_17 : decode cX8_untie 17 = .ok (.istore_n 2, 1) := by decide +kernel
theorem dX8_untie_18 : decode cX8_untie 18 = .ok (.iload_n 2, 1) := by decide +kernel
theorem dX8_untie_19 : decode cX8_untie 19 = .ok (.ifCond .ne 6, 3) := by decide +kernel
theorem dX8_untie_22 : decode cX8_untie 22 = .ok (.bipush (-5), 2) := by decide +kernel
theorem dX8_untie_24 : decode cX8_untie 24 = .ok (.ireturn, 1) := by decide +kernel
theorem dX8_untie_25 : decode cX8_untie 25 = .ok (.aload_n 0, 1) := by decide +kernel
theorem dX8_untie_26 : decode cX8_untie 26 = .ok (.invokevirtual 44, 3) := by decide +kernel
theorem dX8_untie_29 : decode cX8_untie 29 = .ok (.aload_n 0, 1) := by decide +kernel
theorem dX8_untie_30 : decode cX8_untie 30 = .ok (.getfield 7, 3) := by decide +kernel
theorem dX8_untie_33 : decode cX8_untie 33 = .ok (.iconst 0, 1) := by decide +kernel
theorem dX8_untie_34 : decode cX8_untie 34 = .ok (.iload_n 1, 1) := by decide +kernel
theorem dX8_untie_35 : decode cX8_untie 35 = .ok (.iadd, 1) := by decide +kernel
theorem dX8_untie_36 : decode cX8_untie 36 = .ok (.iconst 0, 1) := by decide +kernel
theorem dX8_untie_37 : decode cX8_untie 37 = .ok (.iastore, 1) := by decide +kernel
theorem dX8_untie_38 : decode cX8_untie 38 = .ok (.aload_n 0, 1) := by decide +kernel
theorem dX8_untie_39 : decode cX8_untie 39 = .ok (.getfield 7, 3) := by decide +kernel
theorem dX8_untie_42 : decode cX8_untie 42 = .ok (.bipush 40, 2) := by decide +kernel
theorem dX8_untie_44 : decode cX8_untie 44 = .ok (.iload_n 1, 1) := by decide +kernel
theorem dX8_untie_45 : decode cX8_untie 45 = .ok (.iadd, 1) := by decide +kernel
theorem dX8_untie_46 : decode cX8_untie 46 = .ok (.iconst 0, 1) := by decide +kernel
theorem dX8_untie_47 : decode cX8_untie 47 = .ok (.iastore, 1) := by decide +kernel
theorem dX8_untie_48 : decode cX8_untie 48 = .ok (.iload_n 2, 1) := by decide +kernel
theorem dX8_untie_49 : decode cX8_untie 49 = .ok (.ireturn, 1) := by decide +kernel
set_option maxHeartbeats 4000000 in
set_option maxRecDepth 100000 in
theorem tX8_untie (l : Launch) {E : ET} (hE : Aj E) (G : GT) (a1 : Int32) {r : Int32} {G' : GT} (h : fX8_untie G a1 = some (r, G')) : CI l E yX8_untie cX8_untie 3 (some .int) 2 [.ref (Ad E 22 0), .int a1] G r G' := by
  refine Met_I (lv := [(0, .ref (Ad E 22 0)), (1, .int a1)]) (by decide +kernel) hE (Nat.le_of_ble_eq_true rfl) rfl ?_
  intro p e s m args below meth c X hr hk
  unfold fX8_untie at h
  refine j_iload_n (pc := 0) X dX8_untie_0 rfl 1 rfl ?_
  obtain ⟨r1, hc3, h⟩ := bd_s h
  refine j_staI (pc := 1) X (tX8_isPlace l hE G a1 hc3) muX8_isPlace (Or.inl q711) rfl rfl (Nat.le_of_ble_eq_true rfl) ⟨Nat.le_of_ble_eq_true rfl, Nat.le_of_ble_eq_true rfl⟩ dX8_untie_1 ?_
  refine j_if_ne (pc := 4) (tgt := 9) X dX8_untie_4 (by decide) (fun hc => ?_) (fun hc => ?_)
  · rw [if_neg hc] at h
    refine j_aload_n (pc := 9) X dX8_untie_9 rfl 0 rfl ?_
    refine j_get (pc := 10) (v := .ref (Ad E 23 0)) X gf_X8_7 (by decide) rfl rfl dX8_untie_10 ?_
    refine j_iconst (pc := 13) (v := 0) X dX8_untie_13 (by decide) ?_
    refine j_iload_n (pc := 14) X dX8_untie_14 rfl 1 rfl ?_
    refine j_iadd (pc := 15) X dX8_untie_15 ?_
    obtain ⟨hg4, h⟩ := gd_s h
    refine j_iald (pc := 16) (n := 289) X (by decide) rfl hg4 dX8_untie_16 ?_
    refine j_istore_n (pc := 17) (lv' := [(0, .ref (Ad E 22 0)), (1, .int a1), (2, .int (G 23 0 ((0 : Int32) + a1).toNatClampNeg))]) X dX8_untie_17 rfl (by decide) rfl ?_
    refine j_iload_n (pc := 18) X dX8_untie_18 rfl 2 rfl ?_
    refine j_if_ne (pc := 19) (tgt := 25) X dX8_untie_19 (by decide) (fun hc => ?_) (fun hc => ?_)
    · rw [if_neg hc] at h
      refine j_aload_n (pc := 25) X dX8_untie_25 rfl 0 rfl ?_
      obtain ⟨G6, hc7, h⟩ := bd_s h
      refine j_callV (pc := 26) X (tX8_record l hE G  hc7) muX8_record (by decide) q703 rfl rfl (Nat.le_of_ble_eq_true rfl) ⟨Nat.le_of_ble_eq_true rfl, Nat.le_of_ble_eq_true rfl⟩ dX8_untie_26 ?_
      refine j_aload_n (pc := 29) X dX8_untie_29 rfl 0 rfl ?_
      refine j_get (pc := 30) (v := .ref (Ad E 23 0)) X gf_X8_7 (by decide) rfl rfl dX8_untie_30 ?_
      refine j_iconst (pc := 33) (v := 0) X dX8_untie_33 (by decide) ?_
      refine j_iload_n (pc := 34) X dX8_untie_34 rfl 1 rfl ?_
      refine j_iadd (pc := 35) X dX8_untie_35 ?_
      refine j_iconst (pc := 36) (v := 0) X dX8_untie_36 (by decide) ?_
      obtain ⟨hg8, h⟩ := gd_s h
      obtain ⟨G9, hG9, h⟩ := st3_s h
      refine j_iast (pc := 37) (n := 289) X hG9 (by decide) (fun _ => rfl) hg8 dX8_untie_37 ?_
      refine j_aload_n (pc := 38) X dX8_untie_38 rfl 0 rfl ?_
      refine j_get (pc := 39) (v := .ref (Ad E 23 0)) X gf_X8_7 (by decide) rfl rfl dX8_untie_39 ?_
      refine j_bipush (pc := 42) (v := 40) X dX8_untie_42 (by decide) ?_
      refine j_iload_n (pc := 44) X dX8_untie_44 rfl 1 rfl ?_
      refine j_iadd (pc := 45) X dX8_untie_45 ?_
      refine j_iconst (pc := 46) (v := 0) X dX8_untie_46 (by decide) ?_
      obtain ⟨hg10, h⟩ := gd_s h
      obtain ⟨G11, hG11, h⟩ := st3_s h
      refine j_iast (pc := 47) (n := 289) X hG11 (by decide) (fun _ => rfl) hg10 dX8_untie_47 ?_
      refine j_iload_n (pc := 48) X dX8_untie_48 rfl 2 rfl ?_
      exact j_ret (pc := 49) X hr hk (vp_nar_int _) (pr_s h).1 (pr_s h).2 dX8_untie_49
    · rw [if_pos hc] at h
      refine j_bipush (pc := 22) (v := (-5)) X dX8_untie_22 (by decide) ?_
      exact j_ret (pc := 24) X hr hk (vp_nar_int _) (pr_s h).1 (pr_s h).2 dX8_untie_24
  · rw [if_pos hc] at h
    refine j_iconst (pc := 7) (v := (-1)) X dX8_untie_7 (by decide) ?_
    exact j_ret (pc := 8) X hr hk (vp_nar_int _) (pr_s h).1 (pr_s h).2 dX8_untie_8
theorem dX8_doPull_0 : decode cX8_doPull 0 = .ok (.iconst 0, 1) := by decide +kernel
theorem dX8_doPull_1 : decode cX8_doPull 1 = .ok (.istore_n 2, 1) := by decide +kernel
theorem dX8_doPull_2 : decode cX8_doPull 2 = .ok (.bipush 38, 2) := by decide +kernel
theorem dX8_doPull_4 : decode cX8_doPull 4 = .ok (.istore_n 3, 1) := by decide +kernel
theorem dX8_doPull_5 : decode cX8_doPull 5 = .ok (.iload_n 3, 1) := by decide +kernel
theorem dX8_doPull_6 : decode cX8_doPull 6 = .ok (.ifCond .lt 100, 3) := by decide +kernel
theorem dX8_doPull_9 : decode cX8_doPull 9 = .ok (.aload_n 0, 1) := by decide +kernel
theorem dX8_doPull_10 : decode cX8_doPull 10 = .ok (.iload_n 3, 1) := by decide +kernel
theorem dX8_doPull_11 : decode cX8_doPull 11 = .ok (.invokevirtual 51, 3) := by decide +kernel
theorem dX8_doPull_14 : decode cX8_doPull 14 = .ok (.ifCond .eq 86, 3) := by decide +kernel
theorem dX8_doPull_17 : decode cX8_doPull 17 = .ok (.aload_n 0, 1) := by decide +kernel
theorem dX8_doPull_18 : decode cX8_doPull 18 = .ok (.getfield 7, 3) := by decide +kernel
theorem dX8_doPull_21 : decode cX8_doPull 21 = .ok (.bipush 40, 2) := by decide +kernel
theorem dX8_doPull_23 : decode cX8_doPull 23 = .ok (.iload_n 3, 1) := by decide +kernel
theorem dX8_doPull_24 : decode cX8_doPull 24 = .ok (.iadd, 1) := by decide +kernel
theorem dX8_doPull_25 : decode cX8_doPull 25 = .ok (.iaload, 1) := by decide +kernel
theorem dX8_doPull_26 : decode cX8_doPull 26 = .ok (.iload_n 1, 1) := by decide +kernel
theorem dX8_doPull_27 : decode cX8_doPull 27 = .ok (.if_icmp .ge 73, 3) := by decide +kernel
theorem dX8_doPull_30 : decode cX8_doPull 30 = .ok (.aload_n 0, 1) := by decide +kernel
theorem dX8_doPull_31 : decode cX8_doPull 31 = .ok (.iload_n 3, 1) := by decide +kernel
theorem dX8_doPull_32 : decode cX8_doPull 32 = .ok (.iconst 1, 1) := by decide +kernel
theorem dX8_doPull_33 : decode cX8_doPull 33 = .ok (.iadd, 1) := by decide +kernel
theorem dX8_doPull_34 : decode cX8_doPull 34 = .ok (.invokevirtual 51, 3) := by decide +kernel
theorem dX8_doPull_37 : decode cX8_doPull 37 = .ok (.ifCond .ne 63, 3) := by decide +kernel
theorem dX8_doPull_40 : decode cX8_doPull 40 = .ok (.aload_n 0, 1) := by decide +kernel
theorem dX8_doPull_41 : decode cX8_doPull 41 = .ok (.getfield 7, 3) := by decide +kernel
theorem dX8_doPull_44 : decode cX8_doPull 44 = .ok (.iconst 0, 1) := by decide +kernel
theorem dX8_doPull_45 : decode cX8_doPull 45 = .ok (.iload_n 3, 1) := by decide +kernel
theorem dX8_doPull_46 : decode cX8_doPull 46 = .ok (.iadd, 1) := by decide +kernel
theorem dX8_doPull_47 : decode cX8_doPull 47 = .ok (.iconst 1, 1) := by decide +kernel
theorem dX8_doPull_48 : decode cX8_doPull 48 = .ok (.iadd, 1) := by decide +kernel
theorem dX8_doPull_49 : decode cX8_doPull 49 = .ok (.aload_n 0, 1) := by decide +kernel
theorem dX8_doPull_50 : decode cX8_doPull 50 = .ok (.getfield 7, 3) := by decide +kernel
theorem dX8_doPull_53 : decode cX8_doPull 53 = .ok (.iconst 0, 1) := by decide +kernel
theorem dX8_doPull_54 : decode cX8_doPull 54 = .ok (.iload_n 3, 1) := by decide +kernel
theorem dX8_doPull_55 : decode cX8_doPull 55 = .ok (.iadd, 1) := by decide +kernel
theorem dX8_doPull_56 : decode cX8_doPull 56 = .ok (.iaload, 1) := by decide +kernel
theorem dX8_doPull_57 : decode cX8_doPull 57 = .ok (.iastore, 1) := by decide +kernel
theorem dX8_doPull_58 : decode cX8_doPull 58 = .ok (.aload_n 0, 1) := by decide +kernel
theorem dX8_doPull_59 : decode cX8_doPull 59 = .ok (.getfield 7, 3) := by decide +kernel
theorem dX8_doPull_62 : decode cX8_doPull 62 = .ok (.bipush 40, 2) := by decide +kernel
theorem dX8_doPull_64 : decode cX8_doPull 64 = .ok (.iload_n 3, 1) := by decide +kernel
theorem dX8_doPull_65 : decode cX8_doPull 65 = .ok (.iadd, 1) := by decide +kernel
theorem dX8_doPull_66 : decode cX8_doPull 66 = .ok (.iconst 1, 1) := by decide +kernel
theorem dX8_doPull_67 : decode cX8_doPull 67 = .ok (.iadd, 1) := by decide +kernel
theorem dX8_doPull_68 : decode cX8_doPull 68 = .ok (.aload_n 0, 1) := by decide +kernel
theorem dX8_doPull_69 : decode cX8_doPull 69 = .ok (.getfield 7, 3) := by decide +kernel
theorem dX8_doPull_72 : decode cX8_doPull 72 = .ok (.bipush 40, 2) := by decide +kernel
theorem dX8_doPull_74 : decode cX8_doPull 74 = .ok (.iload_n 3, 1) := by decide +kernel
theorem dX8_doPull_75 : decode cX8_doPull 75 = .ok (.iadd, 1) := by decide +kernel
theorem dX8_doPull_76 : decode cX8_doPull 76 = .ok (.iaload, 1) := by decide +kernel
theorem dX8_doPull_77 : decode cX8_doPull 77 = .ok (.iastore, 1) := by decide +kernel
theorem dX8_doPull_78 : decode cX8_doPull 78 = .ok (.aload_n 0, 1) := by decide +kernel
theorem dX8_doPull_79 : decode cX8_doPull 79 = .ok (.getfield 7, 3) := by decide +kernel
theorem dX8_doPull_82 : decode cX8_doPull 82 = .ok (.iconst 0, 1) := by decide +kernel
theorem dX8_doPull_83 : decode cX8_doPull 83 = .ok (.iload_n 3, 1) := by decide +kernel
theorem dX8_doPull_84 : decode cX8_doPull 84 = .ok (.iadd, 1) := by decide +kernel
theorem dX8_doPull_85 : decode cX8_doPull 85 = .ok (.iconst 0, 1) := by decide +kernel
theorem dX8_doPull_86 : decode cX8_doPull 86 = .ok (.iastore, 1) := by decide +kernel
theorem dX8_doPull_87 : decode cX8_doPull 87 = .ok (.aload_n 0, 1) := by decide +kernel
theorem dX8_doPull_88 : decode cX8_doPull 88 = .ok (.getfield 7, 3) := by decide +kernel
theorem dX8_doPull_91 : decode cX8_doPull 91 = .ok (.bipush 40, 2) := by decide +kernel
theorem dX8_doPull_93 : decode cX8_doPull 93 = .ok (.iload_n 3, 1) := by decide +kernel
theorem dX8_doPull_94 : decode cX8_doPull 94 = .ok (.iadd, 1) := by decide +kernel
theorem dX8_doPull_95 : decode cX8_doPull 95 = .ok (.iconst 0, 1) := by decide +kernel
theorem dX8_doPull_96 : decode cX8_doPull 96 = .ok (.iastore, 1) := by decide +kernel
theorem dX8_doPull_97 : decode cX8_doPull 97 = .ok (.iinc 2 1, 3) := by decide +kernel
theorem dX8_doPull_100 : decode cX8_doPull 100 = .ok (.iinc 3 (-1), 3) := by decide +kernel
theorem dX8_doPull_103 : decode cX8_doPull 103 = .ok (.goto (-98), 3) := by decide +kernel
theorem dX8_doPull_106 : decode cX8_doPull 106 = .ok (.iload_n 2, 1) := by decide +kernel
theorem dX8_doPull_107 : decode cX8_doPull 107 = .ok (.ireturn, 1) := by decide +kernel
set_option maxHeartbeats 4000000 in
set_option maxRecDepth 100000 in
theorem tX8_doPull_5 (l : Launch) {E : ET} (hE : Aj E) {p : Program} {e : Env} {s : State} {m : MethodId} {args : Array Value} {below : List Frame} {meth : Method} {c : Code} (X : Cx p (rmL 3) s m args c yX8_doPull.cls cX8_doPull 4 E (Aw E) 0 0) (hr : meth.sig.returnType = (some .int)) (hk : meth.locks = false) {r : Int32} {G' : GT} (a1 : Int32) : ∀ (n : Nat) (G : GT) (a2 a3 : Int32), fX8_doPull_5 a1 n G a2 a3 = some (r, G') → J p l e (rmL 3) s m args below meth c E (Aw E) s.heap 4 0 0 (MQ below (QI E r G') args s 0 0 (Aw E)) G 5 [(0, .ref (Ad E 22 0)), (1, .int a1), (2, .int a2), (3, .int a3)] [] := by
  intro n
  induction n with
  | zero =>
    intro G a2 a3 h
    simp [fX8_doPull_5] at h
  | succ n ih =>
    intro G a2 a3 h
    rw [fX8_doPull_5] at h
    refine j_iload_n (pc := 5) X dX8_doPull_5 rfl 3 rfl ?_
    refine j_if_lt (pc := 6) (tgt := 106) X dX8_doPull_6 (by decide) (fun hc => ?_) (fun hc => ?_)
    · rw [if_pos hc] at h
      refine j_iload_n (pc := 106) X dX8_doPull_106 rfl 2 rfl ?_
      exact j_ret (pc := 107) X hr hk (vp_nar_int _) (pr_s h).1 (pr_s h).2 dX8_doPull_107
    · rw [if_neg hc] at h
      refine j_aload_n (pc := 9) X dX8_doPull_9 rfl 0 rfl ?_
      refine j_iload_n (pc := 10) X dX8_doPull_10 rfl 3 rfl ?_
      obtain ⟨r1, hc3, h⟩ := bd_s h
      refine j_callI (pc := 11) X (tX8_isKnot l hE G a3 hc3) muX8_isKnot (by decide) q725 rfl rfl (Nat.le_of_ble_eq_true rfl) ⟨Nat.le_of_ble_eq_true rfl, Nat.le_of_ble_eq_true rfl⟩ dX8_doPull_11 ?_
      refine j_if_eq (pc := 14) (tgt := 100) X dX8_doPull_14 (by decide) (fun hc => ?_) (fun hc => ?_)
      · rw [if_pos hc] at h
        refine j_iinc (pc := 100) (q := 3) (v := (a3 + (-1 : Int32))) (lv' := [(0, .ref (Ad E 22 0)), (1, .int a1), (2, .int a2), (3, .int (a3 + (-1 : Int32)))]) X dX8_doPull_100 rfl rfl (by decide) rfl ?_
        refine j_goto (pc := 103) (tgt := 5) X dX8_doPull_103 (by decide) ?_
        exact ih G a2 (a3 + (-1 : Int32)) h
      · rw [if_neg hc] at h
        refine j_aload_n (pc := 17) X dX8_doPull_17 rfl 0 rfl ?_
        refine j_get (pc := 18) (v := .ref (Ad E 23 0)) X gf_X8_7 (by decide) rfl rfl dX8_doPull_18 ?_
        refine j_bipush (pc := 21) (v := 40) X dX8_doPull_21 (by decide) ?_
        refine j_iload_n (pc := 23) X dX8_doPull_23 rfl 3 rfl ?_
        refine j_iadd (pc := 24) X dX8_doPull_24 ?_
        obtain ⟨hg4, h⟩ := gd_s h
        refine j_iald (pc := 25) (n := 289) X (by decide) rfl hg4 dX8_doPull_25 ?_
        refine j_iload_n (pc := 26) X dX8_doPull_26 rfl 1 rfl ?_
        refine j_icmp_ge (pc := 27) (tgt := 100) X dX8_doPull_27 (by decide) (fun hc => ?_) (fun hc => ?_)
        · rw [if_pos hc] at h
          refine j_iinc (pc := 100) (q := 3) (v := (a3 + (-1 : Int32))) (lv' := [(0, .ref (Ad E 22 0)), (1, .int a1), (2, .int a2), (3, .int (a3 + (-1 : Int32)))]) X dX8_doPull_100 rfl rfl (by decide) rfl ?_
          refine j_goto (pc := 103) (tgt := 5) X dX8_doPull_103 (by decide) ?_
          exact ih G a2 (a3 + (-1 : Int32)) h
        · rw [if_neg hc] at h
          refine j_aload_n (pc := 30) X dX8_doPull_30 rfl 0 rfl ?_
          refine j_iload_n (pc := 31) X dX8_doPull_31 rfl 3 rfl ?_
          refine j_iconst (pc := 32) (v := 1) X dX8_doPull_32 (by decide) ?_
          refine j_iadd (pc := 33) X dX8_doPull_33 ?_
          obtain ⟨r5, hc7, h⟩ := bd_s h
          refine j_callI (pc := 34) X (tX8_isKnot l hE G (a3 + (1 : Int32)) hc7) muX8_isKnot (by decide) q725 rfl rfl (Nat.le_of_ble_eq_true rfl) ⟨Nat.le_of_ble_eq_true rfl, Nat.le_of_ble_eq_true rfl⟩ dX8_doPull_34 ?_
          refine j_if_ne (pc := 37) (tgt := 100) X dX8_doPull_37 (by decide) (fun hc => ?_) (fun hc => ?_)
          · rw [if_neg hc] at h
            refine j_iinc (pc := 100) (q := 3) (v := (a3 + (-1 : Int32))) (lv' := [(0, .ref (Ad E 22 0)), (1, .int a1), (2, .int a2), (3, .int (a3 + (-1 : Int32)))]) X dX8_doPull_100 rfl rfl (by decide) rfl ?_
            refine j_goto (pc := 103) (tgt := 5) X dX8_doPull_103 (by decide) ?_
            exact ih G a2 (a3 + (-1 : Int32)) h
          · rw [if_pos hc] at h
            refine j_aload_n (pc := 40) X dX8_doPull_40 rfl 0 rfl ?_
            refine j_get (pc := 41) (v := .ref (Ad E 23 0)) X gf_X8_7 (by decide) rfl rfl dX8_doPull_41 ?_
            refine j_iconst (pc := 44) (v := 0) X dX8_doPull_44 (by decide) ?_
            refine j_iload_n (pc := 45) X dX8_doPull_45 rfl 3 rfl ?_
            refine j_iadd (pc := 46) X dX8_doPull_46 ?_
            refine j_iconst (pc := 47) (v := 1) X dX8_doPull_47 (by decide) ?_
            refine j_iadd (pc := 48) X dX8_doPull_48 ?_
            refine j_aload_n (pc := 49) X dX8_doPull_49 rfl 0 rfl ?_
            refine j_get (pc := 50) (v := .ref (Ad E 23 0)) X gf_X8_7 (by decide) rfl rfl dX8_doPull_50 ?_
            refine j_iconst (pc := 53) (v := 0) X dX8_doPull_53 (by decide) ?_
            refine j_iload_n (pc := 54) X dX8_doPull_54 rfl 3 rfl ?_
            refine j_iadd (pc := 55) X dX8_doPull_55 ?_
            obtain ⟨hg8, h⟩ := gd_s h
            refine j_iald (pc := 56) (n := 289) X (by decide) rfl hg8 dX8_doPull_56 ?_
            obtain ⟨hg9, h⟩ := gd_s h
            obtain ⟨G10, hG10, h⟩ := st3_s h
            refine j_iast (pc := 57) (n := 289) X hG10 (by decide) (fun _ => rfl) hg9 dX8_doPull_57 ?_
            refine j_aload_n (pc := 58) X dX8_doPull_58 rfl 0 rfl ?_
            refine j_get (pc := 59) (v := .ref (Ad E 23 0)) X gf_X8_7 (by decide) rfl rfl dX8_doPull_59 ?_
            refine j_bipush (pc := 62) (v := 40) X dX8_doPull_62 (by decide) ?_
            refine j_iload_n (pc := 64) X dX8_doPull_64 rfl 3 rfl ?_
            refine j_iadd (pc := 65) X dX8_doPull_65 ?_
            refine j_iconst (pc := 66) (v := 1) X dX8_doPull_66 (by decide) ?_
            refine j_iadd (pc := 67) X dX8_doPull_67 ?_
            refine j_aload_n (pc := 68) X dX8_doPull_68 rfl 0 rfl ?_
            refine j_get (pc := 69) (v := .ref (Ad E 23 0)) X gf_X8_7 (by decide) rfl rfl dX8_doPull_69 ?_
            refine j_bipush (pc := 72) (v := 40) X dX8_doPull_72 (by decide) ?_
            refine j_iload_n (pc := 74) X dX8_doPull_74 rfl 3 rfl ?_
            refine j_iadd (pc := 75) X dX8_doPull_75 ?_
            obtain ⟨hg11, h⟩ := gd_s h
            refine j_iald (pc := 76) (n := 289) X (by decide) rfl hg11 dX8_doPull_76 ?_
            obtain ⟨hg12, h⟩ := gd_s h
            obtain ⟨G13, hG13, h⟩ := st3_s h
            refine j_iast (pc := 77) (n := 289) X hG13 (by decide) (fun _ => rfl) hg12 dX8_doPull_77 ?_
            refine j_aload_n (pc := 78) X dX8_doPull_78 rfl 0 rfl ?_
            refine j_get (pc := 79) (v := .ref (Ad E 23 0)) X gf_X8_7 (by decide) rfl rfl dX8_doPull_79 ?_
            refine j_iconst (pc := 82) (v := 0) X dX8_doPull_82 (by decide) ?_
            refine j_iload_n (pc := 83) X dX8_doPull_83 rfl 3 rfl ?_
            refine j_iadd (pc := 84) X dX8_doPull_84 ?_
            refine j_iconst (pc := 85) (v := 0) X dX8_doPull_85 (by decide) ?_
            obtain ⟨hg14, h⟩ := gd_s h
            obtain ⟨G15, hG15, h⟩ := st3_s h
            refine j_iast (pc := 86) (n := 289) X hG15 (by decide) (fun _ => rfl) hg14 dX8_doPull_86 ?_
            refine j_aload_n (pc := 87) X dX8_doPull_87 rfl 0 rfl ?_
            refine j_get (pc := 88) (v := .ref (Ad E 23 0)) X gf_X8_7 (by decide) rfl rfl dX8_doPull_88 ?_
            refine j_bipush (pc := 91) (v := 40) X dX8_doPull_91 (by decide) ?_
            refine j_iload_n (pc := 93) X dX8_doPull_93 rfl 3 rfl ?_
            refine j_iadd (pc := 94) X dX8_doPull_94 ?_
            refine j_iconst (pc := 95) (v := 0) X dX8_doPull_95 (by decide) ?_
            obtain ⟨hg16, h⟩ := gd_s h
            obtain ⟨G17, hG17, h⟩ := st3_s h
            refine j_iast (pc := 96) (n := 289) X hG17 (by decide) (fun _ => rfl) hg16 dX8_doPull_96 ?_
            refine j_iinc (pc := 97) (q := 2) (v := (a2 + (1 : Int32))) (lv' := [(0, .ref (Ad E 22 0)), (1, .int a1), (2, .int (a2 + (1 : Int32))), (3, .int a3)]) X dX8_doPull_97 rfl rfl (by decide) rfl ?_
            refine j_iinc (pc := 100) (q := 3) (v := (a3 + (-1 : Int32))) (lv' := [(0, .ref (Ad E 22 0)), (1, .int a1), (2, .int (a2 + (1 : Int32))), (3, .int (a3 + (-1 : Int32)))]) X dX8_doPull_100 rfl rfl (by decide) rfl ?_
            refine j_goto (pc := 103) (tgt := 5) X dX8_doPull_103 (by decide) ?_
            exact ih G17 (a2 + (1 : Int32)) (a3 + (-1 : Int32)) h
set_option maxHeartbeats 4000000 in
set_option maxRecDepth 100000 in
theorem tX8_doPull (l : Launch) {E : ET} (hE : Aj E) (G : GT) (a1 : Int32) {r : Int32} {G' : GT} (h : fX8_doPull G a1 = some (r, G')) : CI l E yX8_doPull cX8_doPull 4 (some .int) 3 [.ref (Ad E 22 0), .int a1] G r G' := by
  refine Met_I (lv := [(0, .ref (Ad E 22 0)), (1, .int a1)]) (by decide +kernel) hE (Nat.le_of_ble_eq_true rfl) rfl ?_
  intro p e s m args below meth c X hr hk
  unfold fX8_doPull at h
  refine j_iconst (pc := 0) (v := 0) X dX8_doPull_0 (by decide) ?_
  refine j_istore_n (pc := 1) (lv' := [(0, .ref (Ad E 22 0)), (1, .int a1), (2, .int (0 : Int32))]) X dX8_doPull_1 rfl (by decide) rfl ?_
  refine j_bipush (pc := 2) (v := 38) X dX8_doPull_2 (by decide) ?_
  refine j_istore_n (pc := 4) (lv' := [(0, .ref (Ad E 22 0)), (1, .int a1), (2, .int (0 : Int32)), (3, .int (38 : Int32))]) X dX8_doPull_4 rfl (by decide) rfl ?_
  exact tX8_doPull_5 l hE X hr hk a1 FU G (0 : Int32) (38 : Int32) h
theorem dX8_slipsOf_0 : decode cX8_slipsOf 0 = .ok (.aload_n 0, 1) := by decide +kernel
theorem dX8_slipsOf_1 : decode cX8_slipsOf 1 = .ok (.invokevirtual 84, 3) := by decide +kernel
theorem dX8_slipsOf_4 : decode cX8_slipsOf 4 = .ok (.aload_n 0, 1) := by decide +kernel
theorem dX8_slipsOf_5 : decode cX8_slipsOf 5 = .ok (.iload_n 1, 1) := by decide +kernel
theorem dX8_slipsOf_6 : decode cX8_slipsOf 6 = .ok (.invokevirtual 87, 3) := by decide +kernel
theorem dX8_slipsOf_9 : decode cX8_slipsOf 9 = .ok (.istore_n 2, 1) := by decide +kernel
theorem dX8_slipsOf_10 : decode cX8_slipsOf 10 = .ok (.aload_n 0, 1) := by decide +kernel
theorem dX8_slipsOf_11 : decode cX8_slipsOf 11 = .ok (.invokevirtual 90, 3) := by decide +kernel
theorem dX8_slipsOf_14 : decode cX8_slipsOf 14 = .ok (.iload_n 2, 1) := by decide +kernel
theorem dX8_slipsOf_15 : decode cX8_slipsOf 15 = .ok (.ireturn, 1) := by decide +kernel
set_option maxHeartbeats 4000000 in
set_option maxRecDepth 100000 in
theorem tX8_slipsOf (l : Launch) {E : ET} (hE : Aj E) (G : GT) (a1 : Int32) {r : Int32} {G' : GT} (h : fX8_slipsOf G a1 = some (r, G')) : CI l E yX8_slipsOf cX8_slipsOf 3 (some .int) 4 [.ref (Ad E 22 0), .int a1] G r G' := by
  refine Met_I (lv := [(0, .ref (Ad E 22 0)), (1, .int a1)]) (by decide +kernel) hE (Nat.le_of_ble_eq_true rfl) rfl ?_
  intro p e s m args below meth c X hr hk
  unfold fX8_slipsOf at h
  refine j_aload_n (pc := 0) X dX8_slipsOf_0 rfl 0 rfl ?_
  obtain ⟨G2, hc3, h⟩ := bd_s h
  refine j_callV (pc := 1) X (tX8_putAside l hE G  hc3) muX8_putAside (by decide) q741 rfl rfl (Nat.le_of_ble_eq_true rfl) ⟨Nat.le_of_ble_eq_true rfl, Nat.le_of_ble_eq_true rfl⟩ dX8_slipsOf_1 ?_
  refine j_aload_n (pc := 4) X dX8_slipsOf_4 rfl 0 rfl ?_
  refine j_iload_n (pc := 5) X dX8_slipsOf_5 rfl 1 rfl ?_
  obtain ⟨r4, G5, hc6, h⟩ := bd2_s h
  refine j_callI (pc := 6) X (tX8_doPull l hE G2 a1 hc6) muX8_doPull (by decide) q745 rfl rfl (Nat.le_of_ble_eq_true rfl) ⟨Nat.le_of_ble_eq_true rfl, Nat.le_of_ble_eq_true rfl⟩ dX8_slipsOf_6 ?_
  refine j_istore_n (pc := 9) (lv' := [(0, .ref (Ad E 22 0)), (1, .int a1), (2, .int r4)]) X dX8_slipsOf_9 rfl (by decide) rfl ?_
  refine j_aload_n (pc := 10) X dX8_slipsOf_10 rfl 0 rfl ?_
  obtain ⟨G8, hc9, h⟩ := bd_s h
  refine j_callV (pc := 11) X (tX8_putBack l hE G5  hc9) muX8_putBack (by decide) q749 rfl rfl (Nat.le_of_ble_eq_true rfl) ⟨Nat.le_of_ble_eq_true rfl, Nat.le_of_ble_eq_true rfl⟩ dX8_slipsOf_11 ?_
  refine j_iload_n (pc := 14) X dX8_slipsOf_14 rfl 2 rfl ?_
  exact j_ret (pc := 15) X hr hk (vp_nar_int _) (pr_s h).1 (pr_s h).2 dX8_slipsOf_15
theorem dX8_pull_0 : decode cX8_pull 0 = .ok (.iload_n 1, 1) := by decide +kernel
theorem dX8_pull_1 : decode cX8_pull 1 = .ok (.iconst 1, 1) := by decide +kernel
theorem dX8_pull_2 : decode cX8_pull 2 = .ok (.bipush 9, 2) := by decide +kernel
theorem dX8_pull_4 : decode cX8_pull 4 = .ok (.invokestatic 28, 3) := by decide +kernel
theorem dX8_pull_7 : decode cX8_pull 7 = .ok (.ifCond .ne 6, 3) := by decide +kernel
theorem dX8_pull_10 : decode cX8_pull 10 = .ok (.bipush (-2), 2) := by decide +kernel
theorem dX8_pull_12 : decode cX8_pull 12 = .ok (.ireturn, 1) := by decide +kernel
theorem dX8_pull_13 : decode cX8_pull 13 = .ok (.aload_n 0, 1) := by decide +kernel
theorem dX8_pull_14 : decode cX8_pull 14 = .ok (.iload_n 1, 1) := by decide +kernel
theorem dX8_pull_15 : decode cX8_pull 15 = .ok (.invokevirtual 93, 3) := by decide +kernel
theorem dX8_pull_18 : decode cX8_pull 18 = .ok (.ifCond .ne 6, 3) := by decide +kernel
theorem dX8_pull_21 : decode cX8_pull 21 = .ok (.bipush (-5), 2) := by decide +kernel
theorem dX8_pull_23 : decode cX8_pull 23 = .ok (.ireturn, 1) := by decide +kernel
theorem dX8_pull_24 : decode cX8_pull 24 = .ok (.aload_n 0, 1) := by decide +kernel
theorem dX8_pull_25 : decode cX8_pull 25 = .ok (.invokevirtual 44, 3) := by decide +kernel
theorem dX8_pull_28 : decode cX8_pull 28 = .ok (.aload_n 0, 1) := by decide +kernel
theorem dX8_pull_29 : decode cX8_pull 29 = .ok (.iload_n 1, 1) := by decide +kernel
theorem dX8_pull_30 : decode cX8_pull 30 = .ok (.invokevirtual 87, 3) := by decide +kernel
theorem dX8_pull_33 : decode cX8_pull 33 = .ok (.istore_n 2, 1) := by decide +kernel
theorem dX8_pull_34 : decode cX8_pull 34 = .ok (.aload_n 0, 1) := by decide +kernel
theorem dX8_pull_35 : decode cX8_pull 35 = .ok (.getfield 7, 3) := by decide +kernel
theorem dX8_pull_38 : decode cX8_pull 38 = .ok (.sipush 286, 3) := by decide +kernel
theorem dX8_pull_41 : decode cX8_pull 41 = .ok (.dup2, 1) := by decide +kernel
theorem dX8_pull_42 : decode cX8_pull 42 = .ok (.iaload, 1) := by decide +kernel
theorem dX8_pull_43 : decode cX8_pull 43 = .ok (.iconst 1, 1) := by decide +kernel
theorem dX8_pull_44 : decode cX8_pull 44 = .ok (.iadd, 1) := by decide +kernel
theorem dX8_pull_45 : decode cX8_pull 45 = .ok (.iastore, 1) := by decide +kernel
theorem dX8_pull_46 : decode cX8_pull 46 = .ok (.aload_n 0, 1) := by decide +kernel
theorem dX8_pull_47 : decode cX8_pull 47 = .ok (.getfield 7, 3) := by decide +kernel
theorem dX8_pull_50 : decode cX8_pull 50 = .ok (.sipush 287, 3) := by decide +kernel
theorem dX8_pull_53 : decode cX8_pull 53 = .ok (.dup2, 1) := by decide +kernel
theorem dX8_pull_54 : decode cX8_pull 54 = .ok (.iaload, 1) := by decide +kernel
theorem dX8_pull_55 : decode cX8_pull 55 = .ok (.iload_n 2, 1) := by decide +kernel
theorem dX8_pull_56 : decode cX8_pull 56 = .ok (.iadd, 1) := by decide +kernel
theorem dX8_pull_57 : decode cX8_pull 57 = .ok (.iastore, 1) := by decide +kernel
theorem dX8_pull_58 : decode cX8_pull 58 = .ok (.iload_n 2, 1) := by decide +kernel
theorem dX8_pull_59 : decode cX8_pull 59 = .ok (.ireturn, 1) := by decide +kernel
set_option maxHeartbeats 4000000 in
set_option maxRecDepth 100000 in
theorem tX8_pull (l : Launch) {E : ET} (hE : Aj E) (G : GT) (a1 : Int32) {r : Int32} {G' : GT} (h : fX8_pull G a1 = some (r, G')) : CI l E yX8_pull cX8_pull 3 (some .int) 5 [.ref (Ad E 22 0), .int a1] G r G' := by
  refine Met_I (lv := [(0, .ref (Ad E 22 0)), (1, .int a1)]) (by decide +kernel) hE (Nat.le_of_ble_eq_true rfl) rfl ?_
  intro p e s m args below meth c X hr hk
  unfold fX8_pull at h
  refine j_iload_n (pc := 0) X dX8_pull_0 rfl 1 rfl ?_
  refine j_iconst (pc := 1) (v := 1) X dX8_pull_1 (by decide) ?_
  refine j_bipush (pc := 2) (v := 9) X dX8_pull_2 (by decide) ?_
  obtain ⟨r1, hc3, h⟩ := bd_s h
  refine j_staI (pc := 4) X (tX8_in l hE G a1 (1 : Int32) (9 : Int32) hc3) muX8_in (Or.inl q714) rfl rfl (Nat.le_of_ble_eq_true rfl) ⟨Nat.le_of_ble_eq_true rfl, Nat.le_of_ble_eq_true rfl⟩ dX8_pull_4 ?_
  refine j_if_ne (pc := 7) (tgt := 13) X dX8_pull_7 (by decide) (fun hc => ?_) (fun hc => ?_)
  · rw [if_neg hc] at h
    refine j_aload_n (pc := 13) X dX8_pull_13 rfl 0 rfl ?_
    refine j_iload_n (pc := 14) X dX8_pull_14 rfl 1 rfl ?_
    obtain ⟨r4, G5, hc6, h⟩ := bd2_s h
    refine j_callI (pc := 15) X (tX8_slipsOf l hE G a1 hc6) muX8_slipsOf (by decide) q737 rfl rfl (Nat.le_of_ble_eq_true rfl) ⟨Nat.le_of_ble_eq_true rfl, Nat.le_of_ble_eq_true rfl⟩ dX8_pull_15 ?_
    refine j_if_ne (pc := 18) (tgt := 24) X dX8_pull_18 (by decide) (fun hc => ?_) (fun hc => ?_)
    · rw [if_neg hc] at h
      refine j_aload_n (pc := 24) X dX8_pull_24 rfl 0 rfl ?_
      obtain ⟨G8, hc9, h⟩ := bd_s h
      refine j_callV (pc := 25) X (tX8_record l hE G5  hc9) muX8_record (by decide) q703 rfl rfl (Nat.le_of_ble_eq_true rfl) ⟨Nat.le_of_ble_eq_true rfl, Nat.le_of_ble_eq_true rfl⟩ dX8_pull_25 ?_
      refine j_aload_n (pc := 28) X dX8_pull_28 rfl 0 rfl ?_
      refine j_iload_n (pc := 29) X dX8_pull_29 rfl 1 rfl ?_
      obtain ⟨r10, G11, hc12, h⟩ := bd2_s h
      refine j_callI (pc := 30) X (tX8_doPull l hE G8 a1 hc12) muX8_doPull (by decide) q745 rfl rfl (Nat.le_of_ble_eq_true rfl) ⟨Nat.le_of_ble_eq_true rfl, Nat.le_of_ble_eq_true rfl⟩ dX8_pull_30 ?_
      refine j_istore_n (pc := 33) (lv' := [(0, .ref (Ad E 22 0)), (1, .int a1), (2, .int r10)]) X dX8_pull_33 rfl (by decide) rfl ?_
      refine j_aload_n (pc := 34) X dX8_pull_34 rfl 0 rfl ?_
      refine j_get (pc := 35) (v := .ref (Ad E 23 0)) X gf_X8_7 (by decide) rfl rfl dX8_pull_35 ?_
      refine j_sipush (pc := 38) (v := 286) X dX8_pull_38 (by decide) ?_
      refine j_dup2 (pc := 41) X dX8_pull_41 rfl rfl ?_
      obtain ⟨hg13, h⟩ := gd_s h
      refine j_iald (pc := 42) (n := 289) X (by decide) rfl hg13 dX8_pull_42 ?_
      refine j_iconst (pc := 43) (v := 1) X dX8_pull_43 (by decide) ?_
      refine j_iadd (pc := 44) X dX8_pull_44 ?_
      obtain ⟨hg14, h⟩ := gd_s h
      obtain ⟨G15, hG15, h⟩ := st3_s h
      refine j_iast (pc := 45) (n := 289) X hG15 (by decide) (fun _ => rfl) hg14 dX8_pull_45 ?_
      refine j_aload_n (pc := 46) X dX8_pull_46 rfl 0 rfl ?_
      refine j_get (pc := 47) (v := .ref (Ad E 23 0)) X gf_X8_7 (by decide) rfl rfl dX8_pull_47 ?_
      refine j_sipush (pc := 50) (v := 287) X dX8_pull_50 (by decide) ?_
      refine j_dup2 (pc := 53) X dX8_pull_53 rfl rfl ?_
      obtain ⟨hg16, h⟩ := gd_s h
      refine j_iald (pc := 54) (n := 289) X (by decide) rfl hg16 dX8_pull_54 ?_
      refine j_iload_n (pc := 55) X dX8_pull_55 rfl 2 rfl ?_
      refine j_iadd (pc := 56) X dX8_pull_56 ?_
      obtain ⟨hg17, h⟩ := gd_s h
      obtain ⟨G18, hG18, h⟩ := st3_s h
      refine j_iast (pc := 57) (n := 289) X hG18 (by decide) (fun _ => rfl) hg17 dX8_pull_57 ?_
      refine j_iload_n (pc := 58) X dX8_pull_58 rfl 2 rfl ?_
      exact j_ret (pc := 59) X hr hk (vp_nar_int _) (pr_s h).1 (pr_s h).2 dX8_pull_59
    · rw [if_pos hc] at h
      refine j_bipush (pc := 21) (v := (-5)) X dX8_pull_21 (by decide) ?_
      exact j_ret (pc := 23) X hr hk (vp_nar_int _) (pr_s h).1 (pr_s h).2 dX8_pull_23
  · rw [if_pos hc] at h
    refine j_bipush (pc := 10) (v := (-2)) X dX8_pull_10 (by decide) ?_
    exact j_ret (pc := 12) X hr hk (vp_nar_int _) (pr_s h).1 (pr_s h).2 dX8_pull_12
theorem dX8_findFault_0 : decode cX8_findFault 0 = .ok (.iconst 0, 1) := by decide +kernel
theorem dX8_findFault_1 : decode cX8_findFault 1 = .ok (.istore_n 2, 1) := by decide +kernel
theorem dX8_findFault_2 : decode cX8_findFault 2 = .ok (.iconst 0, 1) := by decide +kernel
theorem dX8_findFault_3 : decode cX8_findFault 3 = .ok (.istore_n 3, 1) := by decide +kernel
theorem dX8_findFault_4 : decode cX8_findFault 4 = .ok (.iload_n 3, 1) := by decide +kernel
theorem dX8_findFault_5 : decode cX8_findFault 5 = .ok (.aload_n 0, 1) := by decide +kernel
theorem dX8_findFault_6 : decode cX8_findFault 6 = .ok (.getfield 100, 3) := by decide +kernel
theorem dX8_findFault_9 : decode cX8_findFault 9 = .ok (.if_icmp .ge 163, 3) := by decide +kernel
theorem dX8_findFault_12 : decode cX8_findFault 12 = .ok (.aload_n 0, 1) := by decide +kernel
theorem dX8_findFault_13 : decode cX8_findFault 13 = .ok (.getfield 22, 3) := by decide +kernel
theorem dX8_findFault_16 : decode cX8_findFault 16 = .ok (.iload_n 3, 1) := by decide +kernel
theorem dX8_findFault_17 : decode cX8_findFault 17 = .ok (.iaload, 1) := by decide +kernel
theorem dX8_findFault_18 : decode cX8_findFault 18 = .ok (.istore 4, 2) := by decide +kernel
theorem dX8_findFault_20 : decode cX8_findFault 20 = .ok (.iload 4, 2) := by decide +kernel
theorem dX8_findFault_22 : decode cX8_findFault 22 = .ok (.bipush 49, 2) := by decide +kernel
theorem dX8_findFault_24 : decode cX8_findFault 24 = .ok (.bipush 53, 2) := by decide +kernel
theorem dX8_findFault_26 : decode cX8_findFault 26 = .ok (.invokestatic 28, 3) := by decide +kernel
theorem dX8_findFault_29 : decode cX8_findFault 29 = .ok (.istore 5, 2) := by decide +kernel
theorem dX8_findFault_31 : decode cX8_findFault 31 = .ok (.iload 5, 2) := by decide +kernel
theorem dX8_findFault_33 : decode cX8_findFault 33 = .ok (.ifCond .ne 14, 3) := by decide +kernel
theorem dX8_findFault_36 : decode cX8_findFault 36 = .ok (.iload_n 1, 1) := by decide +kernel
theorem dX8_findFault_37 : decode cX8_findFault 37 = .ok (.ifCond .eq 14, 3) := by decide +kernel
theorem dX8_findFault_40 : decode cX8_findFault 40 = .ok (.iload 4, 2) := by decide +kernel
theorem dX8_findFault_42 : decode cX8_findFault 42 = .ok (.bipush 46, 2) := by decide +kernel
theorem dX8_findFault_44 : decode cX8_findFault 44 = .ok (.if_icmp .ne 7, 3) := by decide +kernel
theorem dX8_findFault_47 : decode cX8_findFault 47 = .ok (.iconst 1, 1) := by decide +kernel
theorem dX8_findFault_48 : decode cX8_findFault 48 = .ok (.goto 4, 3) := by decide +kernel
theorem dX8_findFault_51 : decode cX8_findFault 51 = .ok (.iconst 0, 1) := by decide +kernel
theorem dX8_findFault_52 : decode cX8_findFault 52 = .ok (.istore 6, 2) := by decide +kernel
theorem dX8_findFault_54 : decode cX8_findFault 54 = .ok (.iload_n 1, 1) := by decide +kernel
theorem dX8_findFault_55 : decode cX8_findFault 55 = .ok (.ifCond .eq 36, 3) := by decide +kernel
theorem dX8_findFault_58 : decode cX8_findFault 58 = .ok (.iload 4, 2) := by decide +kernel
theorem dX8_findFault_60 : decode cX8_findFault 60 = .ok (.bipush 33, 2) := by decide +kernel
theorem dX8_findFault_62 : decode cX8_findFault 62 = .ok (.if_icmp .ne 29, 3) := by decide +kernel
theorem dX8_findFault_65 : decode cX8_findFault 65 = .ok (.iload_n 3, 1) := by decide +kernel
theorem dX8_findFault_66 : decode cX8_findFault 66 = .ok (.ifCond .le 25, 3) := by decide +kernel
theorem dX8_findFault_69 : decode cX8_findFault 69 = .ok (.aload_n 0, 1) := by decide +kernel
theorem dX8_findFault_70 : decode cX8_findFault 70 = .ok (.getfield 22, 3) := by decide +kernel
theorem dX8_findFault_73 : decode cX8_findFault 73 = .ok (.iload_n 3, 1) := by decide +kernel
theorem dX8_findFault_74 : decode cX8_findFault 74 = .ok (.iconst 1, 1) := by decide +kernel
theorem dX8_findFault_75 : decode cX8_findFault 75 = .ok (.isub, 1) := by decide +kernel
theorem dX8_findFault_76 : decode cX8_findFault 76 = .ok (.iaload, 1) := by decide +kernel
theorem dX8_findFault_77 : decode cX8_findFault 77 = .ok (.bipush 49, 2) := by decide +kernel
theorem dX8_findFault_79 : decode cX8_findFault 79 = .ok (.bipush 53, 2) := by decide +kernel
theorem dX8_findFault_81 : decode cX8_findFault 81 = .ok (.invokestatic 28, 3) := by decide +kernel
theorem dX8_findFault_84 : decode cX8_findFault 84 = .ok (.ifCond .eq 7, 3) := by decide +kernel
theorem dX8_findFault_87 : decode cX8_findFault 87 = .ok (.iconst 1, 1) := by decide +kernel
theorem dX8_findFault_88 : decode cX8_findFault 88 = .ok (.goto 4, 3) := by decide +kernel
theorem dX8_findFault_91 : decode cX8_findFault 91 = .ok (.iconst 0, 1) := by decide +kernel
theorem dX8_findFault_92 : decode cX8_findFault 92 = .ok (.istore 7, 2) := by decide +kernel
theorem dX8_findFault_94 : decode cX8_findFault 94 = .ok (.iload 7, 2) := by decide +kernel
theorem dX8_findFault_96 : decode cX8_findFault 96 = .ok (.ifCond .ne 31, 3) := by decide +kernel
theorem dX8_findFault_99 : decode cX8_findFault 99 = .ok (.iload 6, 2) := by decide +kernel
theorem dX8_findFault_101 : decode cX8_findFault 101 = .ok (.ifCond .ne 26, 3) := by decide +kernel
theorem dX8_findFault_104 : decode cX8_findFault 104 = .ok (.aload_n 0, 1) := by decide +kernel
theorem dX8_findFault_105 : decode cX8_findFault 105 = .ok (.iload 4, 2) := by decide +kernel
theorem dX8_findFault_107 : decode cX8_findFault 107 = .ok (.bipush 48, 2) := by decide +kernel
theorem dX8_findFault_109 : decode cX8_findFault 109 = .ok (.bipush 57, 2) := by decide +kernel
theorem dX8_findFault_111 : decode cX8_findFault 111 = .ok (.invokestatic 28, 3) := by decide +kernel
theorem dX8_findFault_114 : decode cX8_findFault 114 = .ok (.ifCond .eq 7, 3) := by decide +kernel
theorem dX8_findFault_117 : decode cX8_findFault 117 = .ok (.iconst 2, 1) := by decide +kernel
theorem dX8_findFault_118 : decode cX8_findFault 118 = .ok (.goto 4, 3) := by decide +kernel
theorem dX8_findFault_121 : decode cX8_findFault 121 = .ok (.iconst 4, 1) := by decide +kernel
theorem dX8_findFault_122 : decode cX8_findFault 122 = .ok (.putfield 128, 3) := by decide +kernel
theorem dX8_findFault_125 : decode cX8_findFault 125 = .ok (.iload_n 3, 1) := by decide +kernel
theorem dX8_findFault_126 : decode cX8_findFault 126 = .ok (.ireturn, 1) := by decide +kernel
theorem dX8_findFault_127 : decode cX8_findFault 127 = .ok (.iload 6, 2) := by decide +kernel
theorem dX8_findFault_129 : decode cX8_findFault 129 = .ok (.ifCond .eq 24, 3) := by decide +kernel
theorem dX8_findFault_132 : decode cX8_findFault 132 = .ok (.iload_n 2, 1) := by decide +kernel
theorem dX8_findFault_133 : decode cX8_findFault 133 = .ok (.iload_n 1, 1) := by decide +kernel
theorem dX8_findFault_134 : decode cX8_findFault 134 = .ok (.ifCond .eq 8, 3) := by decide +kernel
theorem dX8_findFault_137 : decode cX8_findFault 137 = .ok (.bipush 40, 2) := by decide +kernel
theorem dX8_findFault_139 : decode cX8_findFault 139 = .ok (.goto 4, 3) := by decide +kernel
theorem dX8_findFault_142 : decode cX8_findFault 142 = .ok (.iconst 5, 1) := by decide +kernel
theorem dX8_findFault_143 : decode cX8_findFault 143 = .ok (.if_icmp .ne 10, 3) := by decide +kernel
theorem dX8_findFault_146 : decode cX8_findFault 146 = .ok (.aload_n 0, 1) := by decide +kernel
theorem dX8_findFault_147 : decode cX8_findFault 147 = .ok (.iconst 3, 1) := by decide +kernel
theorem dX8_findFault_148 : decode cX8_findFault 148 = .ok (.putfield 128, 3) := by decide +kernel
theorem dX8_findFault_151 : decode cX8_findFault 151 = .ok (.iload_n 3, 1) := by decide +kernel
theorem dX8_findFault_152 : decode cX8_findFault 152 = .ok (.ireturn, 1) := by decide +kernel
theorem dX8_findFault_153 : decode cX8_findFault 153 = .ok (.iload_n 2, 1) := by decide +kernel
theorem dX8_findFault_154 : decode cX8_findFault 154 = .ok (.iload 6, 2) := by decide +kernel
theorem dX8_findFault_156 : decode cX8_findFault 156 = .ok (.ifCond .eq 7, 3) := by decide +kernel
theorem dX8_findFault_159 : decode cX8_findFault 159 = .ok (.iconst 1, 1) := by decide +kernel
theorem dX8_findFault_160 : decode cX8_findFault 160 = .ok (.goto 4, 3) := by decide +kernel
theorem dX8_findFault_163 : decode cX8_findFault 163 = .ok (.iconst 0, 1) := by decide +kernel
theorem dX8_findFault_164 : decode cX8_findFault 164 = .ok (.iadd, 1) := by decide +kernel
theorem dX8_findFault_165 : decode cX8_findFault 165 = .ok (.istore_n 2, 1) := by decide +kernel
theorem dX8_findFault_166 : decode cX8_findFault 166 = .ok (.iinc 3 1, 3) := by decide +kernel
theorem dX8_findFault_169 : decode cX8_findFault 169 = .ok (.goto (-165), 3) := by decide +kernel
theorem dX8_findFault_172 : decode cX8_findFault 172 = .ok (.aload_n 0, 1) := by decide +kernel
theorem dX8_findFault_173 : decode cX8_findFault 173 = .ok (.iconst 1, 1) := by decide +kernel
theorem dX8_findFault_174 : decode cX8_findFault 174 = .ok (.putfield 128, 3) := by decide +kernel
theorem dX8_findFault_177 : decode cX8_findFault 177 = .ok (.aload_n 0, 1) := by decide +kernel
theorem dX8_findFault_178 : decode cX8_findFault 178 = .ok (.getfield 100, 3) := by decide +kernel
theorem dX8_findFault_181 : decode cX8_findFault 181 = .ok (.ifCond .ne 7, 3) := by decide +kernel
theorem dX8_findFault_184 : decode cX8_findFault 184 = .ok (.iconst 0, 1) := by decide +kernel
theorem dX8_findFault_185 : decode cX8_findFault 185 = .ok (.goto 5, 3) := by decide +kernel
theorem dX8_findFault_188 : decode cX8_findFault 188 = .ok (.bipush (-5), 2) := by decide +kernel
theorem dX8_findFault_190 : decode cX8_findFault 190 = .ok (.ireturn, 1) := by decide +kernel
set_option maxHeartbeats 4000000 in
set_option maxRecDepth 100000 in
theorem tX8_findFault_153 (l : Launch) {E : ET} (hE : Aj E) {p : Program} {e : Env} {s : State} {m : MethodId} {args : Array Value} {below : List Frame} {meth : Method} {c : Code} (X : Cx p (rmL 1) s m args c yX8_findFault.cls cX8_findFault 8 E (Aw E) 0 0) (hr : meth.sig.returnType = (some .int)) (hk : meth.locks = false) {r : Int32} {G' : GT} (G : GT) (a1 : Int32) (a2 : Int32) (a3 : Int32) (a6 : Int32) (k4 : Int32 → Int32 → Option (Int32 × GT)) (hk4 : ∀ (a2 a3 : Int32), k4 a2 a3 = some (r, G') → J p l e (rmL 1) s m args below meth c E (Aw E) s.heap 8 0 0 (MQ below (QI E r G') args s 0 0 (Aw E)) G 4 [(0, .ref (Ad E 22 0)), (1, .int a1), (2, .int a2), (3, .int a3)] []) (h : fX8_findFault_153 G a1 a2 a3 a6 k4 = some (r, G')) : J p l e (rmL 1) s m args below meth c E (Aw E) s.heap 8 0 0 (MQ below (QI E r G') args s 0 0 (Aw E)) G 153 [(0, .ref (Ad E 22 0)), (1, .int a1), (2, .int a2), (3, .int a3), (6, .int a6)] [] := by
  unfold fX8_findFault_153 at h
  refine j_iload_n (pc := 153) X dX8_findFault_153 rfl 2 rfl ?_
  refine j_iload (pc := 154) X dX8_findFault_154 4 rfl ?_
  refine j_if_eq (pc := 156) (tgt := 163) X dX8_findFault_156 (by decide) (fun hc => ?_) (fun hc => ?_)
  · rw [if_pos hc] at h
    refine j_iconst (pc := 163) (v := 0) X dX8_findFault_163 (by decide) ?_
    refine j_iadd (pc := 164) X dX8_findFault_164 ?_
    refine j_istore_n (pc := 165) (lv' := [(0, .ref (Ad E 22 0)), (1, .int a1), (2, .int (a2 + (0 : Int32))), (3, .int a3), (6, .int a6)]) X dX8_findFault_165 rfl (by decide) rfl ?_
    refine j_iinc (pc := 166) (q := 3) (v := (a3 + (1 : Int32))) (lv' := [(0, .ref (Ad E 22 0)), (1, .int a1), (2, .int (a2 + (0 : Int32))), (3, .int (a3 + (1 : Int32))), (6, .int a6)]) X dX8_findFault_166 rfl rfl (by decide) rfl ?_
    refine j_goto (pc := 169) (tgt := 4) X dX8_findFault_169 (by decide) ?_
    refine j_lv (lv' := [(0, .ref (Ad E 22 0)), (1, .int a1), (2, .int (a2 + (0 : Int32))), (3, .int (a3 + (1 : Int32)))]) [0, 1, 2, 3] rfl ?_
    exact hk4 (a2 + (0 : Int32)) (a3 + (1 : Int32)) h
  · rw [if_neg hc] at h
    refine j_iconst (pc := 159) (v := 1) X dX8_findFault_159 (by decide) ?_
    refine j_goto (pc := 160) (tgt := 164) X dX8_findFault_160 (by decide) ?_
    refine j_iadd (pc := 164) X dX8_findFault_164 ?_
    refine j_istore_n (pc := 165) (lv' := [(0, .ref (Ad E 22 0)), (1, .int a1), (2, .int (a2 + (1 : Int32))), (3, .int a3), (6, .int a6)]) X dX8_findFault_165 rfl (by decide) rfl ?_
    refine j_iinc (pc := 166) (q := 3) (v := (a3 + (1 : Int32))) (lv' := [(0, .ref (Ad E 22 0)), (1, .int a1), (2, .int (a2 + (1 : Int32))), (3, .int (a3 + (1 : Int32))), (6, .int a6)]) X dX8_findFault_166 rfl rfl (by decide) rfl ?_
    refine j_goto (pc := 169) (tgt := 4) X dX8_findFault_169 (by decide) ?_
    refine j_lv (lv' := [(0, .ref (Ad E 22 0)), (1, .int a1), (2, .int (a2 + (1 : Int32))), (3, .int (a3 + (1 : Int32)))]) [0, 1, 2, 3] rfl ?_
    exact hk4 (a2 + (1 : Int32)) (a3 + (1 : Int32)) h
set_option maxHeartbeats 4000000 in
set_option maxRecDepth 100000 in
theorem tX8_findFault_143 (l : Launch) {E : ET} (hE : Aj E) {p : Program} {e : Env} {s : State} {m : MethodId} {args : Array Value} {below : List Frame} {meth : Method} {c : Code} (X : Cx p (rmL 1) s m args c yX8_findFault.cls cX8_findFault 8 E (Aw E) 0 0) (hr : meth.sig.returnType = (some .int)) (hk : meth.locks = false) {r : Int32} {G' : GT} (G : GT) (a1 : Int32) (a2 : Int32) (a3 : Int32) (a6 : Int32) (s0 : Int32) (s1 : Int32) (k4 : Int32 → Int32 → Option (Int32 × GT)) (hk4 : ∀ (a2 a3 : Int32), k4 a2 a3 = some (r, G') → J p l e (rmL 1) s m args below meth c E (Aw E) s.heap 8 0 0 (MQ below (QI E r G') args s 0 0 (Aw E)) G 4 [(0, .ref (Ad E 22 0)), (1, .int a1), (2, .int a2), (3, .int a3)] []) (h : fX8_findFault_143 G a1 a2 a3 a6 s0 s1 k4 = some (r, G')) : J p l e (rmL 1) s m args below meth c E (Aw E) s.heap 8 0 0 (MQ below (QI E r G') args s 0 0 (Aw E)) G 143 [(0, .ref (Ad E 22 0)), (1, .int a1), (2, .int a2), (3, .int a3), (6, .int a6)] [.int s1, .int s0] := by
  unfold fX8_findFault_143 at h
  refine j_icmp_ne (pc := 143) (tgt := 153) X dX8_findFault_143 (by decide) (fun hc => ?_) (fun hc => ?_)
  · rw [if_neg hc] at h
    exact tX8_findFault_153 l hE X hr hk G a1 a2 a3 a6 k4 hk4 h
  · rw [if_pos hc] at h
    refine j_aload_n (pc := 146) X dX8_findFault_146 rfl 0 rfl ?_
    refine j_iconst (pc := 147) (v := 3) X dX8_findFault_147 (by decide) ?_
    obtain ⟨G1, hG1, h⟩ := st3_s h
    refine j_put (pc := 148) X hG1 gf_X8_128 tyX8 tyX8_ok nmX8 (by decide) rfl rfl (Nat.le_of_ble_eq_true rfl) rfl rfl rfl dX8_findFault_148 ?_
    refine j_iload_n (pc := 151) X dX8_findFault_151 rfl 3 rfl ?_
    exact j_ret (pc := 152) X hr hk (vp_nar_int _) (pr_s h).1 (pr_s h).2 dX8_findFault_152
set_option maxHeartbeats 4000000 in
set_option maxRecDepth 100000 in
theorem tX8_findFault_127 (l : Launch) {E : ET} (hE : Aj E) {p : Program} {e : Env} {s : State} {m : MethodId} {args : Array Value} {below : List Frame} {meth : Method} {c : Code} (X : Cx p (rmL 1) s m args c yX8_findFault.cls cX8_findFault 8 E (Aw E) 0 0) (hr : meth.sig.returnType = (some .int)) (hk : meth.locks = false) {r : Int32} {G' : GT} (G : GT) (a1 : Int32) (a2 : Int32) (a3 : Int32) (a6 : Int32) (k4 : Int32 → Int32 → Option (Int32 × GT)) (hk4 : ∀ (a2 a3 : Int32), k4 a2 a3 = some (r, G') → J p l e (rmL 1) s m args below meth c E (Aw E) s.heap 8 0 0 (MQ below (QI E r G') args s 0 0 (Aw E)) G 4 [(0, .ref (Ad E 22 0)), (1, .int a1), (2, .int a2), (3, .int a3)] []) (h : fX8_findFault_127 G a1 a2 a3 a6 k4 = some (r, G')) : J p l e (rmL 1) s m args below meth c E (Aw E) s.heap 8 0 0 (MQ below (QI E r G') args s 0 0 (Aw E)) G 127 [(0, .ref (Ad E 22 0)), (1, .int a1), (2, .int a2), (3, .int a3), (6, .int a6)] [] := by
  unfold fX8_findFault_127 at h
  refine j_iload (pc := 127) X dX8_findFault_127 4 rfl ?_
  refine j_if_eq (pc := 129) (tgt := 153) X dX8_findFault_129 (by decide) (fun hc => ?_) (fun hc => ?_)
  · rw [if_pos hc] at h
    exact tX8_findFault_153 l hE X hr hk G a1 a2 a3 a6 k4 hk4 h
  · rw [if_neg hc] at h
    refine j_iload_n (pc := 132) X dX8_findFault_132 rfl 2 rfl ?_
    refine j_iload_n (pc := 133) X dX8_findFault_133 rfl 1 rfl ?_
    refine j_if_eq (pc := 134) (tgt := 142) X dX8_findFault_134 (by decide) (fun hc => ?_) (fun hc => ?_)
    · rw [if_pos hc] at h
      refine j_iconst (pc := 142) (v := 5) X dX8_findFault_142 (by decide) ?_
      exact tX8_findFault_143 l hE X hr hk G a1 a2 a3 a6 a2 (5 : Int32) k4 hk4 h
    · rw [if_neg hc] at h
      refine j_bipush (pc := 137) (v := 40) X dX8_findFault_137 (by decide) ?_
      refine j_goto (pc := 139) (tgt := 143) X dX8_findFault_139 (by decide) ?_
      exact tX8_findFault_143 l hE X hr hk G a1 a2 a3 a6 a2 (40 : Int32) k4 hk4 h
set_option maxHeartbeats 4000000 in
set_option maxRecDepth 100000 in
theorem tX8_findFault_92 (l : Launch) {E : ET} (hE : Aj E) {p : Program} {e : Env} {s : State} {m : MethodId} {args : Array Value} {below : List Frame} {meth : Method} {c : Code} (X : Cx p (rmL 1) s m args c yX8_findFault.cls cX8_findFault 8 E (Aw E) 0 0) (hr : meth.sig.returnType = (some .int)) (hk : meth.locks = false) {r : Int32} {G' : GT} (G : GT) (a1 : Int32) (a2 : Int32) (a3 : Int32) (a4 : Int32) (a6 : Int32) (s0 : Int32) (k4 : Int32 → Int32 → Option (Int32 × GT)) (hk4 : ∀ (a2 a3 : Int32), k4 a2 a3 = some (r, G') → J p l e (rmL 1) s m args below meth c E (Aw E) s.heap 8 0 0 (MQ below (QI E r G') args s 0 0 (Aw E)) G 4 [(0, .ref (Ad E 22 0)), (1, .int a1), (2, .int a2), (3, .int a3)] []) (h : fX8_findFault_92 G a1 a2 a3 a4 a6 s0 k4 = some (r, G')) : J p l e (rmL 1) s m args below meth c E (Aw E) s.heap 8 0 0 (MQ below (QI E r G') args s 0 0 (Aw E)) G 92 [(0, .ref (Ad E 22 0)), (1, .int a1), (2, .int a2), (3, .int a3), (4, .int a4), (6, .int a6)] [.int s0] := by
  unfold fX8_findFault_92 at h
  refine j_istore (pc := 92) (lv' := [(0, .ref (Ad E 22 0)), (1, .int a1), (2, .int a2), (3, .int a3), (4, .int a4), (6, .int a6), (7, .int s0)]) X dX8_findFault_92 (by decide) rfl ?_
  refine j_iload (pc := 94) X dX8_findFault_94 6 rfl ?_
  refine j_if_ne (pc := 96) (tgt := 127) X dX8_findFault_96 (by decide) (fun hc => ?_) (fun hc => ?_)
  · rw [if_neg hc] at h
    refine j_lv (lv' := [(0, .ref (Ad E 22 0)), (1, .int a1), (2, .int a2), (3, .int a3), (6, .int a6)]) [0, 1, 2, 3, 5] rfl ?_
    exact tX8_findFault_127 l hE X hr hk G a1 a2 a3 a6 k4 hk4 h
  · rw [if_pos hc] at h
    refine j_iload (pc := 99) X dX8_findFault_99 5 rfl ?_
    refine j_if_ne (pc := 101) (tgt := 127) X dX8_findFault_101 (by decide) (fun hc => ?_) (fun hc => ?_)
    · rw [if_neg hc] at h
      refine j_lv (lv' := [(0, .ref (Ad E 22 0)), (1, .int a1), (2, .int a2), (3, .int a3), (6, .int a6)]) [0, 1, 2, 3, 5] rfl ?_
      exact tX8_findFault_127 l hE X hr hk G a1 a2 a3 a6 k4 hk4 h
    · rw [if_pos hc] at h
      refine j_aload_n (pc := 104) X dX8_findFault_104 rfl 0 rfl ?_
      refine j_iload (pc := 105) X dX8_findFault_105 4 rfl ?_
      refine j_bipush (pc := 107) (v := 48) X dX8_findFault_107 (by decide) ?_
      refine j_bipush (pc := 109) (v := 57) X dX8_findFault_109 (by decide) ?_
      obtain ⟨r1, hc3, h⟩ := bd_s h
      refine j_staI (pc := 111) X (tX8_in l hE G a4 (48 : Int32) (57 : Int32) hc3) muX8_in (Or.inl q714) rfl rfl (Nat.le_of_ble_eq_true rfl) ⟨Nat.le_of_ble_eq_true rfl, Nat.le_of_ble_eq_true rfl⟩ dX8_findFault_111 ?_
      refine j_if_eq (pc := 114) (tgt := 121) X dX8_findFault_114 (by decide) (fun hc => ?_) (fun hc => ?_)
      · rw [if_pos hc] at h
        refine j_iconst (pc := 121) (v := 4) X dX8_findFault_121 (by decide) ?_
        obtain ⟨G4, hG4, h⟩ := st3_s h
        refine j_put (pc := 122) X hG4 gf_X8_128 tyX8 tyX8_ok nmX8 (by decide) rfl rfl (Nat.le_of_ble_eq_true rfl) rfl rfl rfl dX8_findFault_122 ?_
        refine j_iload_n (pc := 125) X dX8_findFault_125 rfl 3 rfl ?_
        exact j_ret (pc := 126) X hr hk (vp_nar_int _) (pr_s h).1 (pr_s h).2 dX8_findFault_126
      · rw [if_neg hc] at h
        refine j_iconst (pc := 117) (v := 2) X dX8_findFault_117 (by decide) ?_
        refine j_goto (pc := 118) (tgt := 122) X dX8_findFault_118 (by decide) ?_
        obtain ⟨G5, hG5, h⟩ := st3_s h
        refine j_put (pc := 122) X hG5 gf_X8_128 tyX8 tyX8_ok nmX8 (by decide) rfl rfl (Nat.le_of_ble_eq_true rfl) rfl rfl rfl dX8_findFault_122 ?_
        refine j_iload_n (pc := 125) X dX8_findFault_125 rfl 3 rfl ?_
        exact j_ret (pc := 126) X hr hk (vp_nar_int _) (pr_s h).1 (pr_s h).2 dX8_findFault_126
set_option maxHeartbeats 4000000 in
set_option maxRecDepth 100000 in
theorem tX8_findFault_91 (l : Launch) {E : ET} (hE : Aj E) {p : Program} {e : Env} {s : State} {m : MethodId} {args : Array Value} {below : List Frame} {meth : Method} {c : Code} (X : Cx p (rmL 1) s m args c yX8_findFault.cls cX8_findFault 8 E (Aw E) 0 0) (hr : meth.sig.returnType = (some .int)) (hk : meth.locks = false) {r : Int32} {G' : GT} (G : GT) (a1 : Int32) (a2 : Int32) (a3 : Int32) (a4 : Int32) (a6 : Int32) (k4 : Int32 → Int32 → Option (Int32 × GT)) (hk4 : ∀ (a2 a3 : Int32), k4 a2 a3 = some (r, G') → J p l e (rmL 1) s m args below meth c E (Aw E) s.heap 8 0 0 (MQ below (QI E r G') args s 0 0 (Aw E)) G 4 [(0, .ref (Ad E 22 0)), (1, .int a1), (2, .int a2), (3, .int a3)] []) (h : fX8_findFault_91 G a1 a2 a3 a4 a6 k4 = some (r, G')) : J p l e (rmL 1) s m args below meth c E (Aw E) s.heap 8 0 0 (MQ below (QI E r G') args s 0 0 (Aw E)) G 91 [(0, .ref (Ad E 22 0)), (1, .int a1), (2, .int a2), (3, .int a3), (4, .int a4), (6, .int a6)] [] := by
  unfold fX8_findFault_91 at h
  refine j_iconst (pc := 91) (v := 0) X dX8_findFault_91 (by decide) ?_
  exact tX8_findFault_92 l hE X hr hk G a1 a2 a3 a4 a6 (0 : Int32) k4 hk4 h
set_option maxHeartbeats 4000000 in
set_option maxRecDepth 100000 in
theorem tX8_findFault_52 (l : Launch) {E : ET} (hE : Aj E) {p : Program} {e : Env} {s : State} {m : MethodId} {args : Array Value} {below : List Frame} {meth : Method} {c : Code} (X : Cx p (rmL 1) s m args c yX8_findFault.cls cX8_findFault 8 E (Aw E) 0 0) (hr : meth.sig.returnType = (some .int)) (hk : meth.locks = false) {r : Int32} {G' : GT} (G : GT) (a1 : Int32) (a2 : Int32) (a3 : Int32) (a4 : Int32) (s0 : Int32) (k4 : Int32 → Int32 → Option (Int32 × GT)) (hk4 : ∀ (a2 a3 : Int32), k4 a2 a3 = some (r, G') → J p l e (rmL 1) s m args below meth c E (Aw E) s.heap 8 0 0 (MQ below (QI E r G') args s 0 0 (Aw E)) G 4 [(0, .ref (Ad E 22 0)), (1, .int a1), (2, .int a2), (3, .int a3)] []) (h : fX8_findFault_52 G a1 a2 a3 a4 s0 k4 = some (r, G')) : J p l e (rmL 1) s m args below meth c E (Aw E) s.heap 8 0 0 (MQ below (QI E r G') args s 0 0 (Aw E)) G 52 [(0, .ref (Ad E 22 0)), (1, .int a1), (2, .int a2), (3, .int a3), (4, .int a4)] [.int s0] := by
  unfold fX8_findFault_52 at h
  refine j_istore (pc := 52) (lv' := [(0, .ref (Ad E 22 0)), (1, .int a1), (2, .int a2), (3, .int a3), (4, .int a4), (6, .int s0)]) X dX8_findFault_52 (by decide) rfl ?_
  refine j_iload_n (pc := 54) X dX8_findFault_54 rfl 1 rfl ?_
  refine j_if_eq (pc := 55) (tgt := 91) X dX8_findFault_55 (by decide) (fun hc => ?_) (fun hc => ?_)
  · rw [if_pos hc] at h
    exact tX8_findFault_91 l hE X hr hk G a1 a2 a3 a4 s0 k4 hk4 h
  · rw [if_neg hc] at h
    refine j_iload (pc := 58) X dX8_findFault_58 4 rfl ?_
    refine j_bipush (pc := 60) (v := 33) X dX8_findFault_60 (by decide) ?_
    refine j_icmp_ne (pc := 62) (tgt := 91) X dX8_findFault_62 (by decide) (fun hc => ?_) (fun hc => ?_)
    · rw [if_neg hc] at h
      exact tX8_findFault_91 l hE X hr hk G a1 a2 a3 a4 s0 k4 hk4 h
    · rw [if_pos hc] at h
      refine j_iload_n (pc := 65) X dX8_findFault_65 rfl 3 rfl ?_
      refine j_if_le (pc := 66) (tgt := 91) X dX8_findFault_66 (by decide) (fun hc => ?_) (fun hc => ?_)
      · rw [if_pos hc] at h
        exact tX8_findFault_91 l hE X hr hk G a1 a2 a3 a4 s0 k4 hk4 h
      · rw [if_neg hc] at h
        refine j_aload_n (pc := 69) X dX8_findFault_69 rfl 0 rfl ?_
        refine j_get (pc := 70) (v := .ref (Ad E 27 0)) X gf_X8_22 (by decide) rfl rfl dX8_findFault_70 ?_
        refine j_iload_n (pc := 73) X dX8_findFault_73 rfl 3 rfl ?_
        refine j_iconst (pc := 74) (v := 1) X dX8_findFault_74 (by decide) ?_
        refine j_isub (pc := 75) X dX8_findFault_75 ?_
        obtain ⟨hg1, h⟩ := gd_s h
        refine j_iald (pc := 76) (n := 50) X (by decide) rfl hg1 dX8_findFault_76 ?_
        refine j_bipush (pc := 77) (v := 49) X dX8_findFault_77 (by decide) ?_
        refine j_bipush (pc := 79) (v := 53) X dX8_findFault_79 (by decide) ?_
        obtain ⟨r2, hc4, h⟩ := bd_s h
        refine j_staI (pc := 81) X (tX8_in l hE G (G 27 0 (a3 - (1 : Int32)).toNatClampNeg) (49 : Int32) (53 : Int32) hc4) muX8_in (Or.inl q714) rfl rfl (Nat.le_of_ble_eq_true rfl) ⟨Nat.le_of_ble_eq_true rfl, Nat.le_of_ble_eq_true rfl⟩ dX8_findFault_81 ?_
        refine j_if_eq (pc := 84) (tgt := 91) X dX8_findFault_84 (by decide) (fun hc => ?_) (fun hc => ?_)
        · rw [if_pos hc] at h
          exact tX8_findFault_91 l hE X hr hk G a1 a2 a3 a4 s0 k4 hk4 h
        · rw [if_neg hc] at h
          refine j_iconst (pc := 87) (v := 1) X dX8_findFault_87 (by decide) ?_
          refine j_goto (pc := 88) (tgt := 92) X dX8_findFault_88 (by decide) ?_
          exact tX8_findFault_92 l hE X hr hk G a1 a2 a3 a4 s0 (1 : Int32) k4 hk4 h
set_option maxHeartbeats 4000000 in
set_option maxRecDepth 100000 in
theorem tX8_findFault_47 (l : Launch) {E : ET} (hE : Aj E) {p : Program} {e : Env} {s : State} {m : MethodId} {args : Array Value} {below : List Frame} {meth : Method} {c : Code} (X : Cx p (rmL 1) s m args c yX8_findFault.cls cX8_findFault 8 E (Aw E) 0 0) (hr : meth.sig.returnType = (some .int)) (hk : meth.locks = false) {r : Int32} {G' : GT} (G : GT) (a1 : Int32) (a2 : Int32) (a3 : Int32) (a4 : Int32) (k4 : Int32 → Int32 → Option (Int32 × GT)) (hk4 : ∀ (a2 a3 : Int32), k4 a2 a3 = some (r, G') → J p l e (rmL 1) s m args below meth c E (Aw E) s.heap 8 0 0 (MQ below (QI E r G') args s 0 0 (Aw E)) G 4 [(0, .ref (Ad E 22 0)), (1, .int a1), (2, .int a2), (3, .int a3)] []) (h : fX8_findFault_47 G a1 a2 a3 a4 k4 = some (r, G')) : J p l e (rmL 1) s m args below meth c E (Aw E) s.heap 8 0 0 (MQ below (QI E r G') args s 0 0 (Aw E)) G 47 [(0, .ref (Ad E 22 0)), (1, .int a1), (2, .int a2), (3, .int a3), (4, .int a4)] [] := by
  unfold fX8_findFault_47 at h
  refine j_iconst (pc := 47) (v := 1) X dX8_findFault_47 (by decide) ?_
  refine j_goto (pc := 48) (tgt := 52) X dX8_findFault_48 (by decide) ?_
  exact tX8_findFault_52 l hE X hr hk G a1 a2 a3 a4 (1 : Int32) k4 hk4 h
set_option maxHeartbeats 4000000 in
set_option maxRecDepth 100000 in
theorem tX8_findFault_51 (l : Launch) {E : ET} (hE : Aj E) {p : Program} {e : Env} {s : State} {m : MethodId} {args : Array Value} {below : List Frame} {meth : Method} {c : Code} (X : Cx p (rmL 1) s m args c yX8_findFault.cls cX8_findFault 8 E (Aw E) 0 0) (hr : meth.sig.returnType = (some .int)) (hk : meth.locks = false) {r : Int32} {G' : GT} (G : GT) (a1 : Int32) (a2 : Int32) (a3 : Int32) (a4 : Int32) (k4 : Int32 → Int32 → Option (Int32 × GT)) (hk4 : ∀ (a2 a3 : Int32), k4 a2 a3 = some (r, G') → J p l e (rmL 1) s m args below meth c E (Aw E) s.heap 8 0 0 (MQ below (QI E r G') args s 0 0 (Aw E)) G 4 [(0, .ref (Ad E 22 0)), (1, .int a1), (2, .int a2), (3, .int a3)] []) (h : fX8_findFault_51 G a1 a2 a3 a4 k4 = some (r, G')) : J p l e (rmL 1) s m args below meth c E (Aw E) s.heap 8 0 0 (MQ below (QI E r G') args s 0 0 (Aw E)) G 51 [(0, .ref (Ad E 22 0)), (1, .int a1), (2, .int a2), (3, .int a3), (4, .int a4)] [] := by
  unfold fX8_findFault_51 at h
  refine j_iconst (pc := 51) (v := 0) X dX8_findFault_51 (by decide) ?_
  exact tX8_findFault_52 l hE X hr hk G a1 a2 a3 a4 (0 : Int32) k4 hk4 h
set_option maxHeartbeats 4000000 in
set_option maxRecDepth 100000 in
theorem tX8_findFault_4 (l : Launch) {E : ET} (hE : Aj E) {p : Program} {e : Env} {s : State} {m : MethodId} {args : Array Value} {below : List Frame} {meth : Method} {c : Code} (X : Cx p (rmL 1) s m args c yX8_findFault.cls cX8_findFault 8 E (Aw E) 0 0) (hr : meth.sig.returnType = (some .int)) (hk : meth.locks = false) {r : Int32} {G' : GT} (G : GT) (a1 : Int32) : ∀ (n : Nat) (a2 a3 : Int32), fX8_findFault_4 G a1 n a2 a3 = some (r, G') → J p l e (rmL 1) s m args below meth c E (Aw E) s.heap 8 0 0 (MQ below (QI E r G') args s 0 0 (Aw E)) G 4 [(0, .ref (Ad E 22 0)), (1, .int a1), (2, .int a2), (3, .int a3)] [] := by
  intro n
  induction n with
  | zero =>
    intro a2 a3 h
    simp [fX8_findFault_4] at h
  | succ n ih =>
    intro a2 a3 h
    rw [fX8_findFault_4] at h
    refine j_iload_n (pc := 4) X dX8_findFault_4 rfl 3 rfl ?_
    refine j_aload_n (pc := 5) X dX8_findFault_5 rfl 0 rfl ?_
    refine j_get (pc := 6) (v := .int (G 22 0 7)) X gf_X8_100 (by decide) rfl rfl dX8_findFault_6 ?_
    refine j_icmp_ge (pc := 9) (tgt := 172) X dX8_findFault_9 (by decide) (fun hc => ?_) (fun hc => ?_)
    · rw [if_pos hc] at h
      refine j_aload_n (pc := 172) X dX8_findFault_172 rfl 0 rfl ?_
      refine j_iconst (pc := 173) (v := 1) X dX8_findFault_173 (by decide) ?_
      obtain ⟨G1, hG1, h⟩ := st3_s h
      refine j_put (pc := 174) X hG1 gf_X8_128 tyX8 tyX8_ok nmX8 (by decide) rfl rfl (Nat.le_of_ble_eq_true rfl) rfl rfl rfl dX8_findFault_174 ?_
      refine j_aload_n (pc := 177) X dX8_findFault_177 rfl 0 rfl ?_
      refine j_get (pc := 178) (v := .int (G1 22 0 7)) X gf_X8_100 (by decide) rfl rfl dX8_findFault_178 ?_
      refine j_if_ne (pc := 181) (tgt := 188) X dX8_findFault_181 (by decide) (fun hc => ?_) (fun hc => ?_)
      · rw [if_neg hc] at h
        refine j_bipush (pc := 188) (v := (-5)) X dX8_findFault_188 (by decide) ?_
        exact j_ret (pc := 190) X hr hk (vp_nar_int _) (pr_s h).1 (pr_s h).2 dX8_findFault_190
      · rw [if_pos hc] at h
        refine j_iconst (pc := 184) (v := 0) X dX8_findFault_184 (by decide) ?_
        refine j_goto (pc := 185) (tgt := 190) X dX8_findFault_185 (by decide) ?_
        exact j_ret (pc := 190) X hr hk (vp_nar_int _) (pr_s h).1 (pr_s h).2 dX8_findFault_190
    · rw [if_neg hc] at h
      refine j_aload_n (pc := 12) X dX8_findFault_12 rfl 0 rfl ?_
      refine j_get (pc := 13) (v := .ref (Ad E 27 0)) X gf_X8_22 (by decide) rfl rfl dX8_findFault_13 ?_
      refine j_iload_n (pc := 16) X dX8_findFault_16 rfl 3 rfl ?_
      obtain ⟨hg2, h⟩ := gd_s h
      refine j_iald (pc := 17) (n := 50) X (by decide) rfl hg2 dX8_findFault_17 ?_
      refine j_istore (pc := 18) (lv' := [(0, .ref (Ad E 22 0)), (1, .int a1), (2, .int a2), (3, .int a3), (4, .int (G 27 0 a3.toNatClampNeg))]) X dX8_findFault_18 (by decide) rfl ?_
      refine j_iload (pc := 20) X dX8_findFault_20 4 rfl ?_
      refine j_bipush (pc := 22) (v := 49) X dX8_findFault_22 (by decide) ?_
      refine j_bipush (pc := 24) (v := 53) X dX8_findFault_24 (by decide) ?_
      obtain ⟨r3, hc5, h⟩ := bd_s h
      refine j_staI (pc := 26) X (tX8_in l hE G (G 27 0 a3.toNatClampNeg) (49 : Int32) (53 : Int32) hc5) muX8_in (Or.inl q714) rfl rfl (Nat.le_of_ble_eq_true rfl) ⟨Nat.le_of_ble_eq_true rfl, Nat.le_of_ble_eq_true rfl⟩ dX8_findFault_26 ?_
      refine j_istore (pc := 29) (lv' := [(0, .ref (Ad E 22 0)), (1, .int a1), (2, .int a2), (3, .int a3), (4, .int (G 27 0 a3.toNatClampNeg)), (5, .int r3)]) X dX8_findFault_29 (by decide) rfl ?_
      refine j_iload (pc := 31) X dX8_findFault_31 5 rfl ?_
      refine j_if_ne (pc := 33) (tgt := 47) X dX8_findFault_33 (by decide) (fun hc => ?_) (fun hc => ?_)
      · rw [if_neg hc] at h
        refine j_lv (lv' := [(0, .ref (Ad E 22 0)), (1, .int a1), (2, .int a2), (3, .int a3), (4, .int (G 27 0 a3.toNatClampNeg))]) [0, 1, 2, 3, 4] rfl ?_
        exact tX8_findFault_47 l hE X hr hk G a1 a2 a3 (G 27 0 a3.toNatClampNeg) (fX8_findFault_4 G a1 n) ih h
      · rw [if_pos hc] at h
        refine j_iload_n (pc := 36) X dX8_findFault_36 rfl 1 rfl ?_
        refine j_if_eq (pc := 37) (tgt := 51) X dX8_findFault_37 (by decide) (fun hc => ?_) (fun hc => ?_)
        · rw [if_pos hc] at h
          refine j_lv (lv' := [(0, .ref (Ad E 22 0)), (1, .int a1), (2, .int a2), (3, .int a3), (4, .int (G 27 0 a3.toNatClampNeg))]) [0, 1, 2, 3, 4] rfl ?_
          exact tX8_findFault_51 l hE X hr hk G a1 a2 a3 (G 27 0 a3.toNatClampNeg) (fX8_findFault_4 G a1 n) ih h
        · rw [if_neg hc] at h
          refine j_iload (pc := 40) X dX8_findFault_40 4 rfl ?_
          refine j_bipush (pc := 42) (v := 46) X dX8_findFault_42 (by decide) ?_
          refine j_icmp_ne (pc := 44) (tgt := 51) X dX8_findFault_44 (by decide) (fun hc => ?_) (fun hc => ?_)
          · rw [if_neg hc] at h
            refine j_lv (lv' := [(0, .ref (Ad E 22 0)), (1, .int a1), (2, .int a2), (3, .int a3), (4, .int (G 27 0 a3.toNatClampNeg))]) [0, 1, 2, 3, 4] rfl ?_
            exact tX8_findFault_51 l hE X hr hk G a1 a2 a3 (G 27 0 a3.toNatClampNeg) (fX8_findFault_4 G a1 n) ih h
          · rw [if_pos hc] at h
            refine j_lv (lv' := [(0, .ref (Ad E 22 0)), (1, .int a1), (2, .int a2), (3, .int a3), (4, .int (G 27 0 a3.toNatClampNeg))]) [0, 1, 2, 3, 4] rfl ?_
            exact tX8_findFault_47 l hE X hr hk G a1 a2 a3 (G 27 0 a3.toNatClampNeg) (fX8_findFault_4 G a1 n) ih h
set_option maxHeartbeats 4000000 in
set_option maxRecDepth 100000 in
theorem tX8_findFault (l : Launch) {E : ET} (hE : Aj E) (G : GT) (a1 : Int32) {r : Int32} {G' : GT} (h : fX8_findFault G a1 = some (r, G')) : CI l E yX8_findFault cX8_findFault 8 (some .int) 1 [.ref (Ad E 22 0), .int a1] G r G' := by
  refine Met_I (lv := [(0, .ref (Ad E 22 0)), (1, .int a1)]) (by decide +kernel) hE (Nat.le_of_ble_eq_true rfl) rfl ?_
  intro p e s m args below meth c X hr hk
  unfold fX8_findFault at h
  refine j_iconst (pc := 0) (v := 0) X dX8_findFault_0 (by decide) ?_
  refine j_istore_n (pc := 1) (lv' := [(0, .ref (Ad E 22 0)), (1, .int a1), (2, .int (0 : Int32))]) X dX8_findFault_1 rfl (by decide) rfl ?_
  refine j_iconst (pc := 2) (v := 0) X dX8_findFault_2 (by decide) ?_
  refine j_istore_n (pc := 3) (lv' := [(0, .ref (Ad E 22 0)), (1, .int a1), (2, .int (0 : Int32)), (3, .int (0 : Int32))]) X dX8_findFault_3 rfl (by decide) rfl ?_
  exact tX8_findFault_4 l hE X hr hk G a1 FU (0 : Int32) (0 : Int32) h
theorem dX8_layRope_0 : decode cX8_layRope 0 = .ok (.aload_n 0, 1) := by decide +kernel
theorem dX8_layRope_1 : decode cX8_layRope 1 = .ok (.iconst 1, 1) := by decide +kernel
theorem dX8_layRope_2 : decode cX8_layRope 2 = .ok (.invokevirtual 96, 3) := by decide +kernel
theorem dX8_layRope_5 : decode cX8_layRope 5 = .ok (.istore_n 1, 1) := by decide +kernel
theorem dX8_layRope_6 : decode cX8_layRope 6 = .ok (.iload_n 1, 1) := by decide +kernel
theorem dX8_layRope_7 : decode cX8_layRope 7 = .ok (.ifCond .lt 8, 3) := by decide +kernel
theorem dX8_layRope_10 : decode cX8_layRope 10 = .ok (.bipush (-100), 2) := by decide +kernel
theorem dX8_layRope_12 : decode cX8_layRope 12 = .ok (.iload_n 1, 1) := by decide +kernel
theorem dX8_layRope_13 : decode cX8_layRope 13 = .ok (.isub, 1) := by decide +kernel
theorem dX8_layRope_14 : decode cX8_layRope 14 = .ok (.ireturn, 1) := by decide +kernel
theorem dX8_layRope_15 : decode cX8_layRope 15 = .ok (.aload_n 0, 1) := by decide +kernel
theorem dX8_layRope_16 : decode cX8_layRope 16 = .ok (.invokevirtual 44, 3) := by decide +kernel
theorem dX8_layRope_19 : decode cX8_layRope 19 = .ok (.iconst 0, 1) := by decide +kernel
theorem dX8_layRope_20 : decode cX8_layRope 20 = .ok (.istore_n 2, 1) := by decide +kernel
theorem dX8_layRope_21 : decode cX8_layRope 21 = .ok (.iload_n 2, 1) := by decide +kernel
theorem dX8_layRope_22 : decode cX8_layRope 22 = .ok (.bipush 40, 2) := by decide +kernel
theorem dX8_layRope_24 : decode cX8_layRope 24 = .ok (.if_icmp .ge 28, 3) := by decide +kernel
theorem dX8_layRope_27 : decode cX8_layRope 27 = .ok (.aload_n 0, 1) := by decide +kernel
theorem dX8_layRope_28 : decode cX8_layRope 28 = .ok (.getfield 7, 3) := by decide +kernel
theorem dX8_layRope_31 : decode cX8_layRope 31 = .ok (.iconst 0, 1) := by decide +kernel
theorem dX8_layRope_32 : decode cX8_layRope 32 = .ok (.iload_n 2, 1) := by decide +kernel
theorem dX8_layRope_33 : decode cX8_layRope 33 = .ok (.iadd, 1) := by decide +kernel
theorem dX8_layRope_34 : decode cX8_layRope 34 = .ok (.iconst 0, 1) := by decide +kernel
theorem dX8_layRope_35 : decode cX8_layRope 35 = .ok (.iastore, 1) := by decide +kernel
theorem dX8_layRope_36 : decode cX8_layRope 36 = .ok (.aload_n 0, 1) := by decide +kernel
theorem dX8_layRope_37 : decode cX8_layRope 37 = .ok (.getfield 7, 3) := by decide +kernel
theorem dX8_layRope_40 : decode cX8_layRope 40 = .ok (.bipush 40, 2) := by decide +kernel
theorem dX8_layRope_42 : decode cX8_layRope 42 = .ok (.iload_n 2, 1) := by decide +kernel
theorem dX8_layRope_43 : decode cX8_layRope 43 = .ok (.iadd, 1) := by decide +kernel
theorem dX8_layRope_44 : decode cX8_layRope 44 = .ok (.iconst 0, 1) := by decide +kernel
theorem dX8_layRope_45 : decode cX8_layRope 45 = .ok (.iastore, 1) := by decide +kernel
theorem dX8_layRope_46 : decode cX8_layRope 46 = .ok (.iinc 2 1, 3) := by decide +kernel
theorem dX8_layRope_49 : decode cX8_layRope 49 = .ok (.goto (-28), 3) := by decide +kernel
theorem dX8_layRope_52 : decode cX8_layRope 52 = .ok (.iconst 0, 1) := by decide +kernel
theorem dX8_layRope_53 : decode cX8_layRope 53 = .ok (.istore_n 2, 1) := by decide +kernel
theorem dX8_layRope_54 : decode cX8_layRope 54 = .ok (.iconst 0, 1) := by decide +kernel
theorem dX8_layRope_55 : decode cX8_layRope 55 = .ok (.istore_n 3, 1) := by decide +kernel
theorem dX8_layRope_56 : decode cX8_layRope 56 = .ok (.iload_n 3, 1) := by decide +kernel
theorem dX8_layRope_57 : decode cX8_layRope 57 = .ok (.aload_n 0, 1) := by decide +kernel
theorem dX8_layRope_58 : decode cX8_layRope 58 = .ok (.getfield 100, 3) := by decide +kernel
theorem dX8_layRope_61 : decode cX8_layRope 61 = .ok (.if_icmp .ge 96, 3) := by decide +kernel
theorem dX8_layRope_64 : decode cX8_layRope 64 = .ok (.aload_n 0, 1) := by decide +kernel
theorem dX8_layRope_65 : decode cX8_layRope 65 = .ok (.getfield 22, 3) := by decide +kernel
theorem dX8_layRope_68 : decode cX8_layRope 68 = .ok (.iload_n 3, 1) := by decide +kernel
theorem dX8_layRope_69 : decode cX8_layRope 69 = .ok (.iaload, 1) := by decide +kernel
theorem dX8_layRope_70 : decode cX8_layRope 70 = .ok (.bipush 33, 2) := by decide +kernel
theorem dX8_layRope_72 : decode cX8_layRope 72 = .ok (.if_icmp .ne 19, 3) := by decide +kernel
theorem dX8_layRope_75 : decode cX8_layRope 75 = .ok (.aload_n 0, 1) := by decide +kernel
theorem dX8_layRope_76 : decode cX8_layRope 76 = .ok (.getfield 7, 3) := by decide +kernel
theorem dX8_layRope_79 : decode cX8_layRope 79 = .ok (.bipush 40, 2) := by decide +kernel
theorem dX8_layRope_81 : decode cX8_layRope 81 = .ok (.iload_n 2, 1) := by decide +kernel
theorem dX8_layRope_82 : decode cX8_layRope 82 = .ok (.iadd, 1) := by decide +kernel
theorem dX8_layRope_83 : decode cX8_layRope 83 = .ok (.iconst 1, 1) := by decide +kernel
theorem dX8_layRope_84 : decode cX8_layRope 84 = .ok (.isub, 1) := by decide +kernel
theorem dX8_layRope_85 : decode cX8_layRope 85 = .ok (.bipush 9, 2) := by decide +kernel
theorem dX8_layRope_87 : decode cX8_layRope 87 = .ok (.iastore, 1) := by decide +kernel
theorem dX8_layRope_88 : decode cX8_layRope 88 = .ok (.goto 63, 3) := by decide +kernel
theorem dX8_layRope_91 : decode cX8_layRope 91 = .ok (.aload_n 0, 1) := by decide +kernel
theorem dX8_layRope_92 : decode cX8_layRope 92 = .ok (.getfield 7, 3) := by decide +kernel
theorem dX8_layRope_95 : decode cX8_layRope 95 = .ok (.iconst 0, 1) := by decide +kernel
theorem dX8_layRope_96 : decode cX8_layRope 96 = .ok (.iload_n 2, 1) := by decide +kernel
theorem dX8_layRope_97 : decode cX8_layRope 97 = .ok (.iadd, 1) := by decide +kernel
theorem dX8_layRope_98 : decode cX8_layRope 98 = .ok (.aload_n 0, 1) := by decide +kernel
theorem dX8_layRope_99 : decode cX8_layRope 99 = .ok (.getfield 22, 3) := by decide +kernel
theorem dX8_layRope_102 : decode cX8_layRope 102 = .ok (.iload_n 3, 1) := by decide +kernel
theorem dX8_layRope_103 : decode cX8_layRope 103 = .ok (.iaload, 1) := by decide +kernel
theorem dX8_layRope_104 : decode cX8_layRope 104 = .ok (.bipush 46, 2) := by decide +kernel
theorem dX8_layRope_106 : decode cX8_layRope 106 = .ok (.if_icmp .ne 7, 3) := by decide +kernel
theorem dX8_layRope_109 : decode cX8_layRope 109 = .ok (.iconst 0, 1) := by decide +kernel
theorem dX8_layRope_110 : decode cX8_layRope 110 = .ok (.goto 12, 3) := by decide +kernel
theorem dX8_layRope_113 : decode cX8_layRope 113 = .ok (.aload_n 0, 1) := by decide +kernel
theorem dX8_layRope_114 : decode cX8_layRope 114 = .ok (.getfield 22, 3) := by decide +kernel
theorem dX8_layRope_117 : decode cX8_layRope 117 = .ok (.iload_n 3, 1) := by decide +kernel
theorem dX8_layRope_118 : decode cX8_layRope 118 = .ok (.iaload, 1) := by decide +kernel
theorem dX8_layRope_119 : decode cX8_layRope 119 = .ok (.bipush 48, 2) := by decide +kernel
theorem dX8_layRope_121 : decode cX8_layRope 121 = .ok (.isub, 1) := by decide +kernel
theorem dX8_layRope_122 : decode cX8_layRope 122 = .ok (.iastore, 1) := by decide +kernel
theorem dX8_layRope_123 : decode cX8_layRope 123 = .ok (.aload_n 0, 1) := by decide +kernel
theorem dX8_layRope_124 : decode cX8_layRope 124 = .ok (.getfield 7, 3) := by decide +kernel
theorem dX8_layRope_127 : decode cX8_layRope 127 = .ok (.bipush 40, 2) := by decide +kernel
theorem dX8_layRope_129 : decode cX8_layRope 129 = .ok (.iload_n 2, 1) := by decide +kernel
theorem dX8_layRope_130 : decode cX8_layRope 130 = .ok (.iadd, 1) := by decide +kernel
theorem dX8_layRope_131 : decode cX8_layRope 131 = .ok (.aload_n 0, 1) := by decide +kernel
theorem dX8_layRope_132 : decode cX8_layRope 132 = .ok (.getfield 22, 3) := by decide +kernel
theorem dX8_layRope_135 : decode cX8_layRope 135 = .ok (.iload_n 3, 1) := by decide +kernel
theorem dX8_layRope_136 : decode cX8_layRope 136 = .ok (.iaload, 1) := by decide +kernel
theorem dX8_layRope_137 : decode cX8_layRope 137 = .ok (.bipush 46, 2) := by decide +kernel
theorem dX8_layRope_139 : decode cX8_layRope 139 = .ok (.if_icmp .ne 7, 3) := by decide +kernel
theorem dX8_layRope_142 : decode cX8_layRope 142 = .ok (.iconst 0, 1) := by decide +kernel
theorem dX8_layRope_143 : decode cX8_layRope 143 = .ok (.goto 4, 3) := by decide +kernel
theorem dX8_layRope_146 : decode cX8_layRope 146 = .ok (.iconst 5, 1) := by decide +kernel
theorem dX8_layRope_147 : decode cX8_layRope 147 = .ok (.iastore, 1) := by decide +kernel
theorem dX8_layRope_148 : decode cX8_layRope 148 = .ok (.iinc 2 1, 3) := by decide +kernel
theorem dX8_layRope_151 : decode cX8_layRope 151 = .ok (.iinc 3 1, 3) := by decide +kernel
theorem dX8_layRope_154 : decode cX8_layRope 154 = .ok (.goto (-98), 3) := by decide +kernel
theorem dX8_layRope_157 : decode cX8_layRope 157 = .ok (.aload_n 0, 1) := by decide +kernel
theorem dX8_layRope_158 : decode cX8_layRope 158 = .ok (.invokevirtual 40, 3) := by decide +kernel
theorem dX8_layRope_161 : decode cX8_layRope 161 = .ok (.ireturn, 1) := by decide +kernel
set_option maxHeartbeats 4000000 in
set_option maxRecDepth 100000 in
theorem tX8_layRope_122 (l : Launch) {E : ET} (hE : Aj E) {p : Program} {e : Env} {s : State} {m : MethodId} {args : Array Value} {below : List Frame} {meth : Method} {c : Code} (X : Cx p (rmL 2) s m args c yX8_layRope.cls cX8_layRope 4 E (Aw E) 0 0) (hr : meth.sig.returnType = (some .int)) (hk : meth.locks = false) {r : Int32} {G' : GT} (G : GT) (a2 : Int32) (a3 : Int32) (s1 : Int32) (s2 : Int32) (k56 : GT → Int32 → Int32 → Option (Int32 × GT)) (hk56 : ∀ (G : GT) (a2 a3 : Int32), k56 G a2 a3 = some (r, G') → J p l e (rmL 2) s m args below meth c E (Aw E) s.heap 4 0 0 (MQ below (QI E r G') args s 0 0 (Aw E)) G 56 [(0, .ref (Ad E 22 0)), (2, .int a2), (3, .int a3)] []) (h : fX8_layRope_122 G a2 a3 s1 s2 k56 = some (r, G')) : J p l e (rmL 2) s m args below meth c E (Aw E) s.heap 4 0 0 (MQ below (QI E r G') args s 0 0 (Aw E)) G 122 [(0, .ref (Ad E 22 0)), (2, .int a2), (3, .int a3)] [.int s2, .int s1, .ref (Ad E 23 0)] := by
  unfold fX8_layRope_122 at h
  obtain ⟨hg1, h⟩ := gd_s h
  obtain ⟨G2, hG2, h⟩ := st3_s h
  refine j_iast (pc := 122) (n := 289) X hG2 (by decide) (fun _ => rfl) hg1 dX8_layRope_122 ?_
  refine j_aload_n (pc := 123) X dX8_layRope_123 rfl 0 rfl ?_
  refine j_get (pc := 124) (v := .ref (Ad E 23 0)) X gf_X8_7 (by decide) rfl rfl dX8_layRope_124 ?_
  refine j_bipush (pc := 127) (v := 40) X dX8_layRope_127 (by decide) ?_
  refine j_iload_n (pc := 129) X dX8_layRope_129 rfl 1 rfl ?_
  refine j_iadd (pc := 130) X dX8_layRope_130 ?_
  refine j_aload_n (pc := 131) X dX8_layRope_131 rfl 0 rfl ?_
  refine j_get (pc := 132) (v := .ref (Ad E 27 0)) X gf_X8_22 (by decide) rfl rfl dX8_layRope_132 ?_
  refine j_iload_n (pc := 135) X dX8_layRope_135 rfl 2 rfl ?_
  obtain ⟨hg3, h⟩ := gd_s h
  refine j_iald (pc := 136) (n := 50) X (by decide) rfl hg3 dX8_layRope_136 ?_
  refine j_bipush (pc := 137) (v := 46) X dX8_layRope_137 (by decide) ?_
  refine j_icmp_ne (pc := 139) (tgt := 146) X dX8_layRope_139 (by decide) (fun hc => ?_) (fun hc => ?_)
  · rw [if_neg hc] at h
    refine j_iconst (pc := 146) (v := 5) X dX8_layRope_146 (by decide) ?_
    obtain ⟨hg4, h⟩ := gd_s h
    obtain ⟨G5, hG5, h⟩ := st3_s h
    refine j_iast (pc := 147) (n := 289) X hG5 (by decide) (fun _ => rfl) hg4 dX8_layRope_147 ?_
    refine j_iinc (pc := 148) (q := 1) (v := (a2 + (1 : Int32))) (lv' := [(0, .ref (Ad E 22 0)), (2, .int (a2 + (1 : Int32))), (3, .int a3)]) X dX8_layRope_148 rfl rfl (by decide) rfl ?_
    refine j_iinc (pc := 151) (q := 2) (v := (a3 + (1 : Int32))) (lv' := [(0, .ref (Ad E 22 0)), (2, .int (a2 + (1 : Int32))), (3, .int (a3 + (1 : Int32)))]) X dX8_layRope_151 rfl rfl (by decide) rfl ?_
    refine j_goto (pc := 154) (tgt := 56) X dX8_layRope_154 (by decide) ?_
    exact hk56 G5 (a2 + (1 : Int32)) (a3 + (1 : Int32)) h
  · rw [if_pos hc] at h
    refine j_iconst (pc := 142) (v := 0) X dX8_layRope_142 (by decide) ?_
    refine j_goto (pc := 143) (tgt := 147) X dX8_layRope_143 (by decide) ?_
    obtain ⟨hg6, h⟩ := gd_s h
    obtain ⟨G7, hG7, h⟩ := st3_s h
    refine j_iast (pc := 147) (n := 289) X hG7 (by decide) (fun _ => rfl) hg6 dX8_layRope_147 ?_
    refine j_iinc (pc := 148) (q := 1) (v := (a2 + (1 : Int32))) (lv' := [(0, .ref (Ad E 22 0)), (2, .int (a2 + (1 : Int32))), (3, .int a3)]) X dX8_layRope_148 rfl rfl (by decide) rfl ?_
    refine j_iinc (pc := 151) (q := 2) (v := (a3 + (1 : Int32))) (lv' := [(0, .ref (Ad E 22 0)), (2, .int (a2 + (1 : Int32))), (3, .int (a3 + (1 : Int32)))]) X dX8_layRope_151 rfl rfl (by decide) rfl ?_
    refine j_goto (pc := 154) (tgt := 56) X dX8_layRope_154 (by decide) ?_
    exact hk56 G7 (a2 + (1 : Int32)) (a3 + (1 : Int32)) h
set_option maxHeartbeats 4000000 in
set_option maxRecDepth 100000 in
theorem tX8_layRope_56 (l : Launch) {E : ET} (hE : Aj E) {p : Program} {e : Env} {s : State} {m : MethodId} {args : Array Value} {below : List Frame} {meth : Method} {c : Code} (X : Cx p (rmL 2) s m args c yX8_layRope.cls cX8_layRope 4 E (Aw E) 0 0) (hr : meth.sig.returnType = (some .int)) (hk : meth.locks = false) {r : Int32} {G' : GT}  : ∀ (n : Nat) (G : GT) (a2 a3 : Int32), fX8_layRope_56  n G a2 a3 = some (r, G') → J p l e (rmL 2) s m args below meth c E (Aw E) s.heap 4 0 0 (MQ below (QI E r G') args s 0 0 (Aw E)) G 56 [(0, .ref (Ad E 22 0)), (2, .int a2), (3, .int a3)] [] := by
  intro n
  induction n with
  | zero =>
    intro G a2 a3 h
    simp [fX8_layRope_56] at h
  | succ n ih =>
    intro G a2 a3 h
    rw [fX8_layRope_56] at h
    refine j_iload_n (pc := 56) X dX8_layRope_56 rfl 2 rfl ?_
    refine j_aload_n (pc := 57) X dX8_layRope_57 rfl 0 rfl ?_
    refine j_get (pc := 58) (v := .int (G 22 0 7)) X gf_X8_100 (by decide) rfl rfl dX8_layRope_58 ?_
    refine j_icmp_ge (pc := 61) (tgt := 157) X dX8_layRope_61 (by decide) (fun hc => ?_) (fun hc => ?_)
    · rw [if_pos hc] at h
      refine j_aload_n (pc := 157) X dX8_layRope_157 rfl 0 rfl ?_
      obtain ⟨r1, hc3, h⟩ := bd_s h
      refine j_callI (pc := 158) X (tX8_knots l hE G  hc3) muX8_knots (by decide) q695 rfl rfl (Nat.le_of_ble_eq_true rfl) ⟨Nat.le_of_ble_eq_true rfl, Nat.le_of_ble_eq_true rfl⟩ dX8_layRope_158 ?_
      exact j_ret (pc := 161) X hr hk (vp_nar_int _) (pr_s h).1 (pr_s h).2 dX8_layRope_161
    · rw [if_neg hc] at h
      refine j_aload_n (pc := 64) X dX8_layRope_64 rfl 0 rfl ?_
      refine j_get (pc := 65) (v := .ref (Ad E 27 0)) X gf_X8_22 (by decide) rfl rfl dX8_layRope_65 ?_
      refine j_iload_n (pc := 68) X dX8_layRope_68 rfl 2 rfl ?_
      obtain ⟨hg4, h⟩ := gd_s h
      refine j_iald (pc := 69) (n := 50) X (by decide) rfl hg4 dX8_layRope_69 ?_
      refine j_bipush (pc := 70) (v := 33) X dX8_layRope_70 (by decide) ?_
      refine j_icmp_ne (pc := 72) (tgt := 91) X dX8_layRope_72 (by decide) (fun hc => ?_) (fun hc => ?_)
      · rw [if_neg hc] at h
        refine j_aload_n (pc := 91) X dX8_layRope_91 rfl 0 rfl ?_
        refine j_get (pc := 92) (v := .ref (Ad E 23 0)) X gf_X8_7 (by decide) rfl rfl dX8_layRope_92 ?_
        refine j_iconst (pc := 95) (v := 0) X dX8_layRope_95 (by decide) ?_
        refine j_iload_n (pc := 96) X dX8_layRope_96 rfl 1 rfl ?_
        refine j_iadd (pc := 97) X dX8_layRope_97 ?_
        refine j_aload_n (pc := 98) X dX8_layRope_98 rfl 0 rfl ?_
        refine j_get (pc := 99) (v := .ref (Ad E 27 0)) X gf_X8_22 (by decide) rfl rfl dX8_layRope_99 ?_
        refine j_iload_n (pc := 102) X dX8_layRope_102 rfl 2 rfl ?_
        obtain ⟨hg5, h⟩ := gd_s h
        refine j_iald (pc := 103) (n := 50) X (by decide) rfl hg5 dX8_layRope_103 ?_
        refine j_bipush (pc := 104) (v := 46) X dX8_layRope_104 (by decide) ?_
        refine j_icmp_ne (pc := 106) (tgt := 113) X dX8_layRope_106 (by decide) (fun hc => ?_) (fun hc => ?_)
        · rw [if_neg hc] at h
          refine j_aload_n (pc := 113) X dX8_layRope_113 rfl 0 rfl ?_
          refine j_get (pc := 114) (v := .ref (Ad E 27 0)) X gf_X8_22 (by decide) rfl rfl dX8_layRope_114 ?_
          refine j_iload_n (pc := 117) X dX8_layRope_117 rfl 2 rfl ?_
          obtain ⟨hg6, h⟩ := gd_s h
          refine j_iald (pc := 118) (n := 50) X (by decide) rfl hg6 dX8_layRope_118 ?_
          refine j_bipush (pc := 119) (v := 48) X dX8_layRope_119 (by decide) ?_
          refine j_isub (pc := 121) X dX8_layRope_121 ?_
          exact tX8_layRope_122 l hE X hr hk G a2 a3 ((0 : Int32) + a2) ((G 27 0 a3.toNatClampNeg) - (48 : Int32)) (fX8_layRope_56  n) ih h
        · rw [if_pos hc] at h
          refine j_iconst (pc := 109) (v := 0) X dX8_layRope_109 (by decide) ?_
          refine j_goto (pc := 110) (tgt := 122) X dX8_layRope_110 (by decide) ?_
          exact tX8_layRope_122 l hE X hr hk G a2 a3 ((0 : Int32) + a2) (0 : Int32) (fX8_layRope_56  n) ih h
      · rw [if_pos hc] at h
        refine j_aload_n (pc := 75) X dX8_layRope_75 rfl 0 rfl ?_
        refine j_get (pc := 76) (v := .ref (Ad E 23 0)) X gf_X8_7 (by decide) rfl rfl dX8_layRope_76 ?_
        refine j_bipush (pc := 79) (v := 40) X dX8_layRope_79 (by decide) ?_
        refine j_iload_n (pc := 81) X dX8_layRope_81 rfl 1 rfl ?_
        refine j_iadd (pc := 82) X dX8_layRope_82 ?_
        refine j_iconst (pc := 83) (v := 1) X dX8_layRope_83 (by decide) ?_
        refine j_isub (pc := 84) X dX8_layRope_84 ?_
        refine j_bipush (pc := 85) (v := 9) X dX8_layRope_85 (by decide) ?_
        obtain ⟨hg7, h⟩ := gd_s h
        obtain ⟨G8, hG8, h⟩ := st3_s h
        refine j_iast (pc := 87) (n := 289) X hG8 (by decide) (fun _ => rfl) hg7 dX8_layRope_87 ?_
        refine j_goto (pc := 88) (tgt := 151) X dX8_layRope_88 (by decide) ?_
        refine j_iinc (pc := 151) (q := 2) (v := (a3 + (1 : Int32))) (lv' := [(0, .ref (Ad E 22 0)), (2, .int a2), (3, .int (a3 + (1 : Int32)))]) X dX8_layRope_151 rfl rfl (by decide) rfl ?_
        refine j_goto (pc := 154) (tgt := 56) X dX8_layRope_154 (by decide) ?_
        exact ih G8 a2 (a3 + (1 : Int32)) h
set_option maxHeartbeats 4000000 in
set_option maxRecDepth 100000 in
theorem tX8_layRope_21 (l : Launch) {E : ET} (hE : Aj E) {p : Program} {e : Env} {s : State} {m : MethodId} {args : Array Value} {below : List Frame} {meth : Method} {c : Code} (X : Cx p (rmL 2) s m args c yX8_layRope.cls cX8_layRope 4 E (Aw E) 0 0) (hr : meth.sig.returnType = (some .int)) (hk : meth.locks = false) {r : Int32} {G' : GT}  : ∀ (n : Nat) (G : GT) (a2 : Int32), fX8_layRope_21  n G a2 = some (r, G') → J p l e (rmL 2) s m args below meth c E (Aw E) s.heap 4 0 0 (MQ below (QI E r G') args s 0 0 (Aw E)) G 21 [(0, .ref (Ad E 22 0)), (2, .int a2)] [] := by
  intro n
  induction n with
  | zero =>
    intro G a2 h
    simp [fX8_layRope_21] at h
  | succ n ih =>
    intro G a2 h
    rw [fX8_layRope_21] at h
    refine j_iload_n (pc := 21) X dX8_layRope_21 rfl 1 rfl ?_
    refine j_bipush (pc := 22) (v := 40) X dX8_layRope_22 (by decide) ?_
    refine j_icmp_ge (pc := 24) (tgt := 52) X dX8_layRope_24 (by decide) (fun hc => ?_) (fun hc => ?_)
    · rw [if_pos hc] at h
      refine j_iconst (pc := 52) (v := 0) X dX8_layRope_52 (by decide) ?_
      refine j_istore_n (pc := 53) (lv' := [(0, .ref (Ad E 22 0)), (2, .int (0 : Int32))]) X dX8_layRope_53 rfl (by decide) rfl ?_
      refine j_iconst (pc := 54) (v := 0) X dX8_layRope_54 (by decide) ?_
      refine j_istore_n (pc := 55) (lv' := [(0, .ref (Ad E 22 0)), (2, .int (0 : Int32)), (3, .int (0 : Int32))]) X dX8_layRope_55 rfl (by decide) rfl ?_
      exact tX8_layRope_56 l hE X hr hk  FU G (0 : Int32) (0 : Int32) h
    · rw [if_neg hc] at h
      refine j_aload_n (pc := 27) X dX8_layRope_27 rfl 0 rfl ?_
      refine j_get (pc := 28) (v := .ref (Ad E 23 0)) X gf_X8_7 (by decide) rfl rfl dX8_layRope_28 ?_
      refine j_iconst (pc := 31) (v := 0) X dX8_layRope_31 (by decide) ?_
      refine j_iload_n (pc := 32) X dX8_layRope_32 rfl 1 rfl ?_
      refine j_iadd (pc := 33) X dX8_layRope_33 ?_
      refine j_iconst (pc := 34) (v := 0) X dX8_layRope_34 (by decide) ?_
      obtain ⟨hg1, h⟩ := gd_s h
      obtain ⟨G2, hG2, h⟩ := st3_s h
      refine j_iast (pc := 35) (n := 289) X hG2 (by decide) (fun _ => rfl) hg1 dX8_layRope_35 ?_
      refine j_aload_n (pc := 36) X dX8_layRope_36 rfl 0 rfl ?_
      refine j_get (pc := 37) (v := .ref (Ad E 23 0)) X gf_X8_7 (by decide) rfl rfl dX8_layRope_37 ?_
      refine j_bipush (pc := 40) (v := 40) X dX8_layRope_40 (by decide) ?_
      refine j_iload_n (pc := 42) X dX8_layRope_42 rfl 1 rfl ?_
      refine j_iadd (pc := 43) X dX8_layRope_43 ?_
      refine j_iconst (pc := 44) (v := 0) X dX8_layRope_44 (by decide) ?_
      obtain ⟨hg3, h⟩ := gd_s h
      obtain ⟨G4, hG4, h⟩ := st3_s h
      refine j_iast (pc := 45) (n := 289) X hG4 (by decide) (fun _ => rfl) hg3 dX8_layRope_45 ?_
      refine j_iinc (pc := 46) (q := 1) (v := (a2 + (1 : Int32))) (lv' := [(0, .ref (Ad E 22 0)), (2, .int (a2 + (1 : Int32)))]) X dX8_layRope_46 rfl rfl (by decide) rfl ?_
      refine j_goto (pc := 49) (tgt := 21) X dX8_layRope_49 (by decide) ?_
      exact ih G4 (a2 + (1 : Int32)) h
set_option maxHeartbeats 4000000 in
set_option maxRecDepth 100000 in
theorem tX8_layRope (l : Launch) {E : ET} (hE : Aj E) (G : GT) {r : Int32} {G' : GT} (h : fX8_layRope G = some (r, G')) : CI l E yX8_layRope cX8_layRope 4 (some .int) 2 [.ref (Ad E 22 0)] G r G' := by
  refine Met_I (lv := [(0, .ref (Ad E 22 0))]) (by decide +kernel) hE (Nat.le_of_ble_eq_true rfl) rfl ?_
  intro p e s m args below meth c X hr hk
  unfold fX8_layRope at h
  refine j_aload_n (pc := 0) X dX8_layRope_0 rfl 0 rfl ?_
  refine j_iconst (pc := 1) (v := 1) X dX8_layRope_1 (by decide) ?_
  obtain ⟨r1, G2, hc3, h⟩ := bd2_s h
  refine j_callI (pc := 2) X (tX8_findFault l hE G (1 : Int32) hc3) muX8_findFault (by decide) q757 rfl rfl (Nat.le_of_ble_eq_true rfl) ⟨Nat.le_of_ble_eq_true rfl, Nat.le_of_ble_eq_true rfl⟩ dX8_layRope_2 ?_
  refine j_istore_n (pc := 5) (lv' := [(0, .ref (Ad E 22 0)), (1, .int r1)]) X dX8_layRope_5 rfl (by decide) rfl ?_
  refine j_iload_n (pc := 6) X dX8_layRope_6 rfl 1 rfl ?_
  refine j_if_lt (pc := 7) (tgt := 15) X dX8_layRope_7 (by decide) (fun hc => ?_) (fun hc => ?_)
  · rw [if_pos hc] at h
    refine j_aload_n (pc := 15) X dX8_layRope_15 rfl 0 rfl ?_
    obtain ⟨G5, hc6, h⟩ := bd_s h
    refine j_callV (pc := 16) X (tX8_record l hE G2  hc6) muX8_record (by decide) q703 rfl rfl (Nat.le_of_ble_eq_true rfl) ⟨Nat.le_of_ble_eq_true rfl, Nat.le_of_ble_eq_true rfl⟩ dX8_layRope_16 ?_
    refine j_iconst (pc := 19) (v := 0) X dX8_layRope_19 (by decide) ?_
    refine j_istore_n (pc := 20) (lv' := [(0, .ref (Ad E 22 0)), (1, .int r1), (2, .int (0 : Int32))]) X dX8_layRope_20 rfl (by decide) rfl ?_
    refine j_lv (lv' := [(0, .ref (Ad E 22 0)), (2, .int (0 : Int32))]) [0, 2] rfl ?_
    exact tX8_layRope_21 l hE X hr hk  FU G5 (0 : Int32) h
  · rw [if_neg hc] at h
    refine j_bipush (pc := 10) (v := (-100)) X dX8_layRope_10 (by decide) ?_
    refine j_iload_n (pc := 12) X dX8_layRope_12 rfl 1 rfl ?_
    refine j_isub (pc := 13) X dX8_layRope_13 ?_
    exact j_ret (pc := 14) X hr hk (vp_nar_int _) (pr_s h).1 (pr_s h).2 dX8_layRope_14
theorem dX8_isTaught_0 : decode cX8_isTaught 0 = .ok (.iconst 0, 1) := by decide +kernel
theorem dX8_isTaught_1 : decode cX8_isTaught 1 = .ok (.istore_n 1, 1) := by decide +kernel
theorem dX8_isTaught_2 : decode cX8_isTaught 2 = .ok (.iconst 0, 1) := by decide +kernel
theorem dX8_isTaught_3 : decode cX8_isTaught 3 = .ok (.istore_n 2, 1) := by decide +kernel
theorem dX8_isTaught_4 : decode cX8_isTaught 4 = .ok (.iload_n 2, 1) := by decide +kernel
theorem dX8_isTaught_5 : decode cX8_isTaught 5 = .ok (.aload_n 0, 1) := by decide +kernel
theorem dX8_isTaught_6 : decode cX8_isTaught 6 = .ok (.getfield 7, 3) := by decide +kernel
theorem dX8_isTaught_9 : decode cX8_isTaught 9 = .ok (.bipush 80, 2) := by decide +kernel
theorem dX8_isTaught_11 : decode cX8_isTaught 11 = .ok (.iaload, 1) := by decide +kernel
theorem dX8_isTaught_12 : decode cX8_isTaught 12 = .ok (.if_icmp .ge 89, 3) := by decide +kernel
theorem dX8_isTaught_15 : decode cX8_isTaught 15 = .ok (.aload_n 0, 1) := by decide +kernel
theorem dX8_isTaught_16 : decode cX8_isTaught 16 = .ok (.iload_n 2, 1) := by decide +kernel
theorem dX8_isTaught_17 : decode cX8_isTaught 17 = .ok (.invokevirtual 64, 3) := by decide +kernel
theorem dX8_isTaught_20 : decode cX8_isTaught 20 = .ok (.aload_n 0, 1) := by decide +kernel
theorem dX8_isTaught_21 : decode cX8_isTaught 21 = .ok (.getfield 100, 3) := by decide +kernel
theorem dX8_isTaught_24 : decode cX8_isTaught 24 = .ok (.if_icmp .ne 7, 3) := by decide +kernel
theorem dX8_isTaught_27 : decode cX8_isTaught 27 = .ok (.iconst 1, 1) := by decide +kernel
theorem dX8_isTaught_28 : decode cX8_isTaught 28 = .ok (.goto 4, 3) := by decide +kernel
theorem dX8_isTaught_31 : decode cX8_isTaught 31 = .ok (.iconst 0, 1) := by decide +kernel
theorem dX8_isTaught_32 : decode cX8_isTaught 32 = .ok (.istore_n 3, 1) := by decide +kernel
theorem dX8_isTaught_33 : decode cX8_isTaught 33 = .ok (.iconst 0, 1) := by decide +kernel
theorem dX8_isTaught_34 : decode cX8_isTaught 34 = .ok (.istore 4, 2) := by decide +kernel
theorem dX8_isTaught_36 : decode cX8_isTaught 36 = .ok (.iload 4, 2) := by decide +kernel
theorem dX8_isTaught_38 : decode cX8_isTaught 38 = .ok (.aload_n 0, 1) := by decide +kernel
theorem dX8_isTaught_39 : decode cX8_isTaught 39 = .ok (.getfield 100, 3) := by decide +kernel
theorem dX8_isTaught_42 : decode cX8_isTaught 42 = .ok (.if_icmp .ge 39, 3) := by decide +kernel
theorem dX8_isTaught_45 : decode cX8_isTaught 45 = .ok (.iload_n 3, 1) := by decide +kernel
theorem dX8_isTaught_46 : decode cX8_isTaught 46 = .ok (.ifCond .eq 27, 3) := by decide +kernel
theorem dX8_isTaught_49 : decode cX8_isTaught 49 = .ok (.aload_n 0, 1) := by decide +kernel
theorem dX8_isTaught_50 : decode cX8_isTaught 50 = .ok (.iload_n 2, 1) := by decide +kernel
theorem dX8_isTaught_51 : decode cX8_isTaught 51 = .ok (.iload 4, 2) := by decide +kernel
theorem dX8_isTaught_53 : decode cX8_isTaught 53 = .ok (.invokevirtual 60, 3) := by decide +kernel
theorem dX8_isTaught_56 : decode cX8_isTaught 56 = .ok (.aload_n 0, 1) := by decide +kernel
theorem dX8_isTaught_57 : decode cX8_isTaught 57 = .ok (.getfield 22, 3) := by decide +kernel
theorem dX8_isTaught_60 : decode cX8_isTaught 60 = .ok (.iload 4, 2) := by decide +kernel
theorem dX8_isTaught_62 : decode cX8_isTaught 62 = .ok (.iaload, 1) := by decide +kernel
theorem dX8_isTaught_63 : decode cX8_isTaught 63 = .ok (.bipush 48, 2) := by decide +kernel
theorem dX8_isTaught_65 : decode cX8_isTaught 65 = .ok (.isub, 1) := by decide +kernel
theorem dX8_isTaught_66 : decode cX8_isTaught 66 = .ok (.if_icmp .ne 7, 3) := by decide +kernel
theorem dX8_isTaught_69 : decode cX8_isTaught 69 = .ok (.iconst 1, 1) := by decide +kernel
theorem dX8_isTaught_70 : decode cX8_isTaught 70 = .ok (.goto 4, 3) := by decide +kernel
theorem dX8_isTaught_73 : decode cX8_isTaught 73 = .ok (.iconst 0, 1) := by decide +kernel
theorem dX8_isTaught_74 : decode cX8_isTaught 74 = .ok (.istore_n 3, 1) := by decide +kernel
theorem dX8_isTaught_75 : decode cX8_isTaught 75 = .ok (.iinc 4 1, 3) := by decide +kernel
theorem dX8_isTaught_78 : decode cX8_isTaught 78 = .ok (.goto (-42), 3) := by decide +kernel
theorem dX8_isTaught_81 : decode cX8_isTaught 81 = .ok (.iload_n 1, 1) := by decide +kernel
theorem dX8_isTaught_82 : decode cX8_isTaught 82 = .ok (.ifCond .ne 7, 3) := by decide +kernel
theorem dX8_isTaught_85 : decode cX8_isTaught 85 = .ok (.iload_n 3, 1) := by decide +kernel
theorem dX8_isTaught_86 : decode cX8_isTaught 86 = .ok (.ifCond .eq 7, 3) := by decide +kernel
theorem dX8_isTaught_89 : decode cX8_isTaught 89 = .ok (.iconst 1, 1) := by decide +kernel
theorem dX8_isTaught_90 : decode cX8_isTaught 90 = .ok (.goto 4, 3) := by decide +kernel
theorem dX8_isTaught_93 : decode cX8_isTaught 93 = .ok (.iconst 0, 1) := by decide +kernel
theorem dX8_isTaught_94 : decode cX8_isTaught 94 = .ok (.istore_n 1, 1) := by decide +kernel
theorem dX8_isTaught_95 : decode cX8_isTaught 95 = .ok (.iinc 2 1, 3) := by decide +kernel
theorem dX8_isTaught_98 : decode cX8_isTaught 98 = .ok (.goto (-94), 3) := by decide +kernel
theorem dX8_isTaught_101 : decode cX8_isTaught 101 = .ok (.iload_n 1, 1) := by decide +kernel
theorem dX8_isTaught_102 : decode cX8_isTaught 102 = .ok (.ireturn, 1) := by decide +kernel
set_option maxHeartbeats 4000000 in
set_option maxRecDepth 100000 in
theorem tX8_isTaught_36 (l : Launch) {E : ET} (hE : Aj E) {p : Program} {e : Env} {s : State} {m : MethodId} {args : Array Value} {below : List Frame} {meth : Method} {c : Code} (X : Cx p (rmL 2) s m args c yX8_isTaught.cls cX8_isTaught 5 E (Aw E) 0 0) (hr : meth.sig.returnType = (some .boolean)) (hk : meth.locks = false) {r : Int32} (G : GT) (a1 : Int32) (a2 : Int32) (k4 : Int32 → Int32 → Option Int32) (hk4 : ∀ (a1 a2 : Int32), k4 a1 a2 = some r → J p l e (rmL 2) s m args below meth c E (Aw E) s.heap 5 0 0 (MQ below (QI E r G) args s 0 0 (Aw E)) G 4 [(0, .ref (Ad E 22 0)), (1, .int a1), (2, .int a2)] []) : ∀ (n : Nat) (a3 a4 : Int32), fX8_isTaught_36 G a1 a2 k4 n a3 a4 = some r → J p l e (rmL 2) s m args below meth c E (Aw E) s.heap 5 0 0 (MQ below (QI E r G) args s 0 0 (Aw E)) G 36 [(0, .ref (Ad E 22 0)), (1, .int a1), (2, .int a2), (3, .int a3), (4, .int a4)] [] := by
  intro n
  induction n with
  | zero =>
    intro a3 a4 h
    simp [fX8_isTaught_36] at h
  | succ n ih =>
    intro a3 a4 h
    rw [fX8_isTaught_36] at h
    refine j_iload (pc := 36) X dX8_isTaught_36 4 rfl ?_
    refine j_aload_n (pc := 38) X dX8_isTaught_38 rfl 0 rfl ?_
    refine j_get (pc := 39) (v := .int (G 22 0 7)) X gf_X8_100 (by decide) rfl rfl dX8_isTaught_39 ?_
    refine j_icmp_ge (pc := 42) (tgt := 81) X dX8_isTaught_42 (by decide) (fun hc => ?_) (fun hc => ?_)
    · rw [if_pos hc] at h
      refine j_iload_n (pc := 81) X dX8_isTaught_81 rfl 1 rfl ?_
      refine j_if_ne (pc := 82) (tgt := 89) X dX8_isTaught_82 (by decide) (fun hc => ?_) (fun hc => ?_)
      · rw [if_neg hc] at h
        refine j_iconst (pc := 89) (v := 1) X dX8_isTaught_89 (by decide) ?_
        refine j_goto (pc := 90) (tgt := 94) X dX8_isTaught_90 (by decide) ?_
        refine j_istore_n (pc := 94) (lv' := [(0, .ref (Ad E 22 0)), (1, .int (1 : Int32)), (2, .int a2), (3, .int a3), (4, .int a4)]) X dX8_isTaught_94 rfl (by decide) rfl ?_
        refine j_iinc (pc := 95) (q := 2) (v := (a2 + (1 : Int32))) (lv' := [(0, .ref (Ad E 22 0)), (1, .int (1 : Int32)), (2, .int (a2 + (1 : Int32))), (3, .int a3), (4, .int a4)]) X dX8_isTaught_95 rfl rfl (by decide) rfl ?_
        refine j_goto (pc := 98) (tgt := 4) X dX8_isTaught_98 (by decide) ?_
        refine j_lv (lv' := [(0, .ref (Ad E 22 0)), (1, .int (1 : Int32)), (2, .int (a2 + (1 : Int32)))]) [0, 1, 2] rfl ?_
        exact hk4 (1 : Int32) (a2 + (1 : Int32)) h
      · rw [if_pos hc] at h
        refine j_iload_n (pc := 85) X dX8_isTaught_85 rfl 3 rfl ?_
        refine j_if_eq (pc := 86) (tgt := 93) X dX8_isTaught_86 (by decide) (fun hc => ?_) (fun hc => ?_)
        · rw [if_pos hc] at h
          refine j_iconst (pc := 93) (v := 0) X dX8_isTaught_93 (by decide) ?_
          refine j_istore_n (pc := 94) (lv' := [(0, .ref (Ad E 22 0)), (1, .int (0 : Int32)), (2, .int a2), (3, .int a3), (4, .int a4)]) X dX8_isTaught_94 rfl (by decide) rfl ?_
          refine j_iinc (pc := 95) (q := 2) (v := (a2 + (1 : Int32))) (lv' := [(0, .ref (Ad E 22 0)), (1, .int (0 : Int32)), (2, .int (a2 + (1 : Int32))), (3, .int a3), (4, .int a4)]) X dX8_isTaught_95 rfl rfl (by decide) rfl ?_
          refine j_goto (pc := 98) (tgt := 4) X dX8_isTaught_98 (by decide) ?_
          refine j_lv (lv' := [(0, .ref (Ad E 22 0)), (1, .int (0 : Int32)), (2, .int (a2 + (1 : Int32)))]) [0, 1, 2] rfl ?_
          exact hk4 (0 : Int32) (a2 + (1 : Int32)) h
        · rw [if_neg hc] at h
          refine j_iconst (pc := 89) (v := 1) X dX8_isTaught_89 (by decide) ?_
          refine j_goto (pc := 90) (tgt := 94) X dX8_isTaught_90 (by decide) ?_
          refine j_istore_n (pc := 94) (lv' := [(0, .ref (Ad E 22 0)), (1, .int (1 : Int32)), (2, .int a2), (3, .int a3), (4, .int a4)]) X dX8_isTaught_94 rfl (by decide) rfl ?_
          refine j_iinc (pc := 95) (q := 2) (v := (a2 + (1 : Int32))) (lv' := [(0, .ref (Ad E 22 0)), (1, .int (1 : Int32)), (2, .int (a2 + (1 : Int32))), (3, .int a3), (4, .int a4)]) X dX8_isTaught_95 rfl rfl (by decide) rfl ?_
          refine j_goto (pc := 98) (tgt := 4) X dX8_isTaught_98 (by decide) ?_
          refine j_lv (lv' := [(0, .ref (Ad E 22 0)), (1, .int (1 : Int32)), (2, .int (a2 + (1 : Int32)))]) [0, 1, 2] rfl ?_
          exact hk4 (1 : Int32) (a2 + (1 : Int32)) h
    · rw [if_neg hc] at h
      refine j_iload_n (pc := 45) X dX8_isTaught_45 rfl 3 rfl ?_
      refine j_if_eq (pc := 46) (tgt := 73) X dX8_isTaught_46 (by decide) (fun hc => ?_) (fun hc => ?_)
      · rw [if_pos hc] at h
        refine j_iconst (pc := 73) (v := 0) X dX8_isTaught_73 (by decide) ?_
        refine j_istore_n (pc := 74) (lv' := [(0, .ref (Ad E 22 0)), (1, .int a1), (2, .int a2), (3, .int (0 : Int32)), (4, .int a4)]) X dX8_isTaught_74 rfl (by decide) rfl ?_
        refine j_iinc (pc := 75) (q := 4) (v := (a4 + (1 : Int32))) (lv' := [(0, .ref (Ad E 22 0)), (1, .int a1), (2, .int a2), (3, .int (0 : Int32)), (4, .int (a4 + (1 : Int32)))]) X dX8_isTaught_75 rfl rfl (by decide) rfl ?_
        refine j_goto (pc := 78) (tgt := 36) X dX8_isTaught_78 (by decide) ?_
        exact ih (0 : Int32) (a4 + (1 : Int32)) h
      · rw [if_neg hc] at h
        refine j_aload_n (pc := 49) X dX8_isTaught_49 rfl 0 rfl ?_
        refine j_iload_n (pc := 50) X dX8_isTaught_50 rfl 2 rfl ?_
        refine j_iload (pc := 51) X dX8_isTaught_51 4 rfl ?_
        obtain ⟨r1, hc3, h⟩ := bd_s h
        refine j_callI (pc := 53) X (tX8_patternAt l hE G a2 a4 hc3) muX8_patternAt (by decide) q773 rfl rfl (Nat.le_of_ble_eq_true rfl) ⟨Nat.le_of_ble_eq_true rfl, Nat.le_of_ble_eq_true rfl⟩ dX8_isTaught_53 ?_
        refine j_aload_n (pc := 56) X dX8_isTaught_56 rfl 0 rfl ?_
        refine j_get (pc := 57) (v := .ref (Ad E 27 0)) X gf_X8_22 (by decide) rfl rfl dX8_isTaught_57 ?_
        refine j_iload (pc := 60) X dX8_isTaught_60 4 rfl ?_
        obtain ⟨hg4, h⟩ := gd_s h
        refine j_iald (pc := 62) (n := 50) X (by decide) rfl hg4 dX8_isTaught_62 ?_
        refine j_bipush (pc := 63) (v := 48) X dX8_isTaught_63 (by decide) ?_
        refine j_isub (pc := 65) X dX8_isTaught_65 ?_
        refine j_icmp_ne (pc := 66) (tgt := 73) X dX8_isTaught_66 (by decide) (fun hc => ?_) (fun hc => ?_)
        · rw [if_neg hc] at h
          refine j_iconst (pc := 73) (v := 0) X dX8_isTaught_73 (by decide) ?_
          refine j_istore_n (pc := 74) (lv' := [(0, .ref (Ad E 22 0)), (1, .int a1), (2, .int a2), (3, .int (0 : Int32)), (4, .int a4)]) X dX8_isTaught_74 rfl (by decide) rfl ?_
          refine j_iinc (pc := 75) (q := 4) (v := (a4 + (1 : Int32))) (lv' := [(0, .ref (Ad E 22 0)), (1, .int a1), (2, .int a2), (3, .int (0 : Int32)), (4, .int (a4 + (1 : Int32)))]) X dX8_isTaught_75 rfl rfl (by decide) rfl ?_
          refine j_goto (pc := 78) (tgt := 36) X dX8_isTaught_78 (by decide) ?_
          exact ih (0 : Int32) (a4 + (1 : Int32)) h
        · rw [if_pos hc] at h
          refine j_iconst (pc := 69) (v := 1) X dX8_isTaught_69 (by decide) ?_
          refine j_goto (pc := 70) (tgt := 74) X dX8_isTaught_70 (by decide) ?_
          refine j_istore_n (pc := 74) (lv' := [(0, .ref (Ad E 22 0)), (1, .int a1), (2, .int a2), (3, .int (1 : Int32)), (4, .int a4)]) X dX8_isTaught_74 rfl (by decide) rfl ?_
          refine j_iinc (pc := 75) (q := 4) (v := (a4 + (1 : Int32))) (lv' := [(0, .ref (Ad E 22 0)), (1, .int a1), (2, .int a2), (3, .int (1 : Int32)), (4, .int (a4 + (1 : Int32)))]) X dX8_isTaught_75 rfl rfl (by decide) rfl ?_
          refine j_goto (pc := 78) (tgt := 36) X dX8_isTaught_78 (by decide) ?_
          exact ih (1 : Int32) (a4 + (1 : Int32)) h
set_option maxHeartbeats 4000000 in
set_option maxRecDepth 100000 in
theorem tX8_isTaught_4 (l : Launch) {E : ET} (hE : Aj E) {p : Program} {e : Env} {s : State} {m : MethodId} {args : Array Value} {below : List Frame} {meth : Method} {c : Code} (X : Cx p (rmL 2) s m args c yX8_isTaught.cls cX8_isTaught 5 E (Aw E) 0 0) (hr : meth.sig.returnType = (some .boolean)) (hk : meth.locks = false) {r : Int32} (G : GT) : ∀ (n : Nat) (a1 a2 : Int32), fX8_isTaught_4 G n a1 a2 = some r → J p l e (rmL 2) s m args below meth c E (Aw E) s.heap 5 0 0 (MQ below (QI E r G) args s 0 0 (Aw E)) G 4 [(0, .ref (Ad E 22 0)), (1, .int a1), (2, .int a2)] [] := by
  intro n
  induction n with
  | zero =>
    intro a1 a2 h
    simp [fX8_isTaught_4] at h
  | succ n ih =>
    intro a1 a2 h
    rw [fX8_isTaught_4] at h
    refine j_iload_n (pc := 4) X dX8_isTaught_4 rfl 2 rfl ?_
    refine j_aload_n (pc := 5) X dX8_isTaught_5 rfl 0 rfl ?_
    refine j_get (pc := 6) (v := .ref (Ad E 23 0)) X gf_X8_7 (by decide) rfl rfl dX8_isTaught_6 ?_
    refine j_bipush (pc := 9) (v := 80) X dX8_isTaught_9 (by decide) ?_
    obtain ⟨hg1, h⟩ := gd_s h
    refine j_iald (pc := 11) (n := 289) X (by decide) rfl hg1 dX8_isTaught_11 ?_
    refine j_icmp_ge (pc := 12) (tgt := 101) X dX8_isTaught_12 (by decide) (fun hc => ?_) (fun hc => ?_)
    · rw [if_pos hc] at h
      refine j_iload_n (pc := 101) X dX8_isTaught_101 rfl 1 rfl ?_
      obtain ⟨hg2, h⟩ := gd_s h
      exact j_ret (pc := 102) X hr hk (of_decide_eq_true hg2) (Option.some.inj h) rfl dX8_isTaught_102
    · rw [if_neg hc] at h
      refine j_aload_n (pc := 15) X dX8_isTaught_15 rfl 0 rfl ?_
      refine j_iload_n (pc := 16) X dX8_isTaught_16 rfl 2 rfl ?_
      obtain ⟨r3, hc5, h⟩ := bd_s h
      refine j_callI (pc := 17) X (tX8_lengthOf l hE G a2 hc5) muX8_lengthOf (by decide) q769 rfl rfl (Nat.le_of_ble_eq_true rfl) ⟨Nat.le_of_ble_eq_true rfl, Nat.le_of_ble_eq_true rfl⟩ dX8_isTaught_17 ?_
      refine j_aload_n (pc := 20) X dX8_isTaught_20 rfl 0 rfl ?_
      refine j_get (pc := 21) (v := .int (G 22 0 7)) X gf_X8_100 (by decide) rfl rfl dX8_isTaught_21 ?_
      refine j_icmp_ne (pc := 24) (tgt := 31) X dX8_isTaught_24 (by decide) (fun hc => ?_) (fun hc => ?_)
      · rw [if_neg hc] at h
        refine j_iconst (pc := 31) (v := 0) X dX8_isTaught_31 (by decide) ?_
        refine j_istore_n (pc := 32) (lv' := [(0, .ref (Ad E 22 0)), (1, .int a1), (2, .int a2), (3, .int (0 : Int32))]) X dX8_isTaught_32 rfl (by decide) rfl ?_
        refine j_iconst (pc := 33) (v := 0) X dX8_isTaught_33 (by decide) ?_
        refine j_istore (pc := 34) (lv' := [(0, .ref (Ad E 22 0)), (1, .int a1), (2, .int a2), (3, .int (0 : Int32)), (4, .int (0 : Int32))]) X dX8_isTaught_34 (by decide) rfl ?_
        exact tX8_isTaught_36 l hE X hr hk G a1 a2 (fX8_isTaught_4 G n) ih FU (0 : Int32) (0 : Int32) h
      · rw [if_pos hc] at h
        refine j_iconst (pc := 27) (v := 1) X dX8_isTaught_27 (by decide) ?_
        refine j_goto (pc := 28) (tgt := 32) X dX8_isTaught_28 (by decide) ?_
        refine j_istore_n (pc := 32) (lv' := [(0, .ref (Ad E 22 0)), (1, .int a1), (2, .int a2), (3, .int (1 : Int32))]) X dX8_isTaught_32 rfl (by decide) rfl ?_
        refine j_iconst (pc := 33) (v := 0) X dX8_isTaught_33 (by decide) ?_
        refine j_istore (pc := 34) (lv' := [(0, .ref (Ad E 22 0)), (1, .int a1), (2, .int a2), (3, .int (1 : Int32)), (4, .int (0 : Int32))]) X dX8_isTaught_34 (by decide) rfl ?_
        exact tX8_isTaught_36 l hE X hr hk G a1 a2 (fX8_isTaught_4 G n) ih FU (1 : Int32) (0 : Int32) h
set_option maxHeartbeats 4000000 in
set_option maxRecDepth 100000 in
theorem tX8_isTaught (l : Launch) {E : ET} (hE : Aj E) (G : GT) {r : Int32} (h : fX8_isTaught G = some r) : CI l E yX8_isTaught cX8_isTaught 5 (some .boolean) 2 [.ref (Ad E 22 0)] G r G := by
  refine Met_I (lv := [(0, .ref (Ad E 22 0))]) (by decide +kernel) hE (Nat.le_of_ble_eq_true rfl) rfl ?_
  intro p e s m args below meth c X hr hk
  unfold fX8_isTaught at h
  refine j_iconst (pc := 0) (v := 0) X dX8_isTaught_0 (by decide) ?_
  refine j_istore_n (pc := 1) (lv' := [(0, .ref (Ad E 22 0)), (1, .int (0 : Int32))]) X dX8_isTaught_1 rfl (by decide) rfl ?_
  refine j_iconst (pc := 2) (v := 0) X dX8_isTaught_2 (by decide) ?_
  refine j_istore_n (pc := 3) (lv' := [(0, .ref (Ad E 22 0)), (1, .int (0 : Int32)), (2, .int (0 : Int32))]) X dX8_isTaught_3 rfl (by decide) rfl ?_
  exact tX8_isTaught_4 l hE X hr hk G FU (0 : Int32) (0 : Int32) h
theorem dX8_teach_0 : decode cX8_teach 0 = .ok (.iload_n 1, 1) := by decide +kernel
theorem dX8_teach_1 : decode cX8_teach 1 = .ok (.iconst 1, 1) := by decide +kernel
theorem dX8_teach_2 : decode cX8_teach 2 = .ok (.bipush 9, 2) := by decide +kernel
theorem dX8_teach_4 : decode cX8_teach 4 = .ok (.invokestatic 28, 3) := by decide +kernel
theorem dX8_teach_7 : decode cX8_teach 7 = .ok (.ifCond .ne 6, 3) := by decide +kernel
theorem dX8_teach_10 : decode cX8_teach 10 = .ok (.bipush (-2), 2) := by decide +kernel
theorem dX8_teach_12 : decode cX8_teach 12 = .ok (.ireturn, 1) := by decide +kernel
theorem dX8_teach_13 : decode cX8_teach 13 = .ok (.aload_n 0, 1) := by decide +kernel
theorem dX8_teach_14 : decode cX8_teach 14 = .ok (.iconst 0, 1) := by decide +kernel
theorem dX8_teach_15 : decode cX8_teach 15 = .ok (.invokevirtual 96, 3) := by decide +kernel
theorem dX8_teach_18 : decode cX8_teach 18 = .ok (.istore_n 2, 1) := by decide +kernel
theorem dX8_teach_19 : decode cX8_teach 19 = .ok (.iload_n 2, 1) := by decide +kernel
theorem dX8_teach_20 : decode cX8_teach 20 = .ok (.ifCond .lt 8, 3) := by decide +kernel
theorem dX8_teach_23 : decode cX8_teach 23 = .ok (.bipush (-100), 2) := by decide +kernel
theorem dX8_teach_25 : decode cX8_teach 25 = .ok (.iload_n 2, 1) := by decide +kernel
theorem dX8_teach_26 : decode cX8_teach 26 = .ok (.isub, 1) := by decide +kernel
theorem dX8_teach_27 : decode cX8_teach 27 = .ok (.ireturn, 1) := by decide +kernel
theorem dX8_teach_28 : decode cX8_teach 28 = .ok (.aload_n 0, 1) := by decide +kernel
theorem dX8_teach_29 : decode cX8_teach 29 = .ok (.invokevirtual 103, 3) := by decide +kernel
theorem dX8_teach_32 : decode cX8_teach 32 = .ok (.ifCond .eq 6, 3) := by decide +kernel
theorem dX8_teach_35 : decode cX8_teach 35 = .ok (.bipush (-4), 2) := by decide +kernel
theorem dX8_teach_37 : decode cX8_teach 37 = .ok (.ireturn, 1) := by decide +kernel
theorem dX8_teach_38 : decode cX8_teach 38 = .ok (.aload_n 0, 1) := by decide +kernel
theorem dX8_teach_39 : decode cX8_teach 39 = .ok (.getfield 7, 3) := by decide +kernel
theorem dX8_teach_42 : decode cX8_teach 42 = .ok (.bipush 80, 2) := by decide +kernel
theorem dX8_teach_44 : decode cX8_teach 44 = .ok (.iaload, 1) := by decide +kernel
theorem dX8_teach_45 : decode cX8_teach 45 = .ok (.bipush 16, 2) := by decide +kernel
theorem dX8_teach_47 : decode cX8_teach 47 = .ok (.if_icmp .ne 6, 3) := by decide +kernel
theorem dX8_teach_50 : decode cX8_teach 50 = .ok (.bipush (-3), 2) := by decide +kernel
theorem dX8_teach_52 : decode cX8_teach 52 = .ok (.ireturn, 1) := by decide +kernel
theorem dX8_teach_53 : decode cX8_teach 53 = .ok (.aload_n 0, 1) := by decide +kernel
theorem dX8_teach_54 : decode cX8_teach 54 = .ok (.invokevirtual 44, 3) := by decide +kernel
theorem dX8_teach_57 : decode cX8_teach 57 = .ok (.aload_n 0, 1) := by decide +kernel
theorem dX8_teach_58 : decode cX8_teach 58 = .ok (.getfield 7, 3) := by decide +kernel
theorem dX8_teach_61 : decode cX8_teach 61 = .ok (.bipush 80, 2) := by decide +kernel
theorem dX8_teach_63 : decode cX8_teach 63 = .ok (.iaload, 1) := by decide +kernel
theorem dX8_teach_64 : decode cX8_teach 64 = .ok (.istore_n 3, 1) := by decide +kernel
theorem dX8_teach_65 : decode cX8_teach 65 = .ok (.iconst 0, 1) := by decide +kernel
theorem dX8_teach_66 : decode cX8_teach 66 = .ok (.istore 4, 2) := by decide +kernel
theorem dX8_teach_68 : decode cX8_teach 68 = .ok (.iload 4, 2) := by decide +kernel
theorem dX8_teach_70 : decode cX8_teach 70 = .ok (.iconst 5, 1) := by decide +kernel
theorem dX8_teach_71 : decode cX8_teach 71 = .ok (.if_icmp .ge 46, 3) := by decide +kernel
theorem dX8_teach_74 : decode cX8_teach 74 = .ok (.aload_n 0, 1) := by decide +kernel
theorem dX8_teach_75 : decode cX8_teach 75 = .ok (.getfield 7, 3) := by decide +kernel
theorem dX8_teach_78 : decode cX8_teach 78 = .ok (.bipush 81, 2) := by decide +kernel
theorem dX8_teach_80 : decode cX8_teach 80 = .ok (.iconst 5, 1) := by decide +kernel
theorem dX8_teach_81 : decode cX8_teach 81 = .ok (.iload_n 3, 1) := by decide +kernel
theorem dX8_teach_82 : decode cX8_teach 82 = .ok (.imul, 1) := by decide +kernel
theorem dX8_teach_83 : decode cX8_teach 83 = .ok (.iadd, 1) := by decide +kernel
theorem dX8_teach_84 : decode cX8_teach 84 = .ok (.iload 4, 2) := by decide +kernel
theorem dX8_teach_86 : decode cX8_teach 86 = .ok (.iadd, 1) := by decide +kernel
theorem dX8_teach_87 : decode cX8_teach 87 = .ok (.iload 4, 2) := by decide +kernel
theorem dX8_teach_89 : decode cX8_teach 89 = .ok (.aload_n 0, 1) := by decide +kernel
theorem dX8_teach_90 : decode cX8_teach 90 = .ok (.getfield 100, 3) := by decide +kernel
theorem dX8_teach_93 : decode cX8_teach 93 = .ok (.if_icmp .ge 16, 3) := by decide +kernel
theorem dX8_teach_96 : decode cX8_teach 96 = .ok (.aload_n 0, 1) := by decide +kernel
theorem dX8_teach_97 : decode cX8_teach 97 = .ok (.getfield 22, 3) := by decide +kernel
theorem dX8_teach_100 : decode cX8_teach 100 = .ok (.iload 4, 2) := by decide +kernel
theorem dX8_teach_102 : decode cX8_teach 102 = .ok (.iaload, 1) := by decide +kernel
theorem dX8_teach_103 : decode cX8_teach 103 = .ok (.bipush 48, 2) := by decide +kernel
theorem dX8_teach_105 : decode cX8_teach 105 = .ok (.isub, 1) := by decide +kernel
theorem dX8_teach_106 : decode cX8_teach 106 = .ok (.goto 4, 3) := by decide +kernel
theorem dX8_teach_109 : decode cX8_teach 109 = .ok (.iconst 0, 1) := by decide +kernel
theorem dX8_teach_110 : decode cX8_teach 110 = .ok (.iastore, 1) := by decide +kernel
theorem dX8_teach_111 : decode cX8_teach 111 = .ok (.iinc 4 1, 3) := by decide +kernel
theorem dX8_teach_114 : decode cX8_teach 114 = .ok (.goto (-46), 3) := by decide +kernel
theorem dX8_teach_117 : decode cX8_teach 117 = .ok (.aload_n 0, 1) := by decide +kernel
theorem dX8_teach_118 : decode cX8_teach 118 = .ok (.getfield 7, 3) := by decide +kernel
theorem dX8_teach_121 : decode cX8_teach 121 = .ok (.sipush 161, 3) := by decide +kernel
theorem dX8_teach_124 : decode cX8_teach 124 = .ok (.iload_n 3, 1) := by decide +kernel
theorem dX8_teach_125 : decode cX8_teach 125 = .ok (.iadd, 1) := by decide +kernel
theorem dX8_teach_126 : decode cX8_teach 126 = .ok (.iload_n 1, 1) := by decide +kernel
theorem dX8_teach_127 : decode cX8_teach 127 = .ok (.iastore, 1) := by decide +kernel
theorem dX8_teach_128 : decode cX8_teach 128 = .ok (.aload_n 0, 1) := by decide +kernel
theorem dX8_teach_129 : decode cX8_teach 129 = .ok (.getfield 7, 3) := by decide +kernel
theorem dX8_teach_132 : decode cX8_teach 132 = .ok (.bipush 80, 2) := by decide +kernel
theorem dX8_teach_134 : decode cX8_teach 134 = .ok (.dup2, 1) := by decide +kernel
theorem dX8_teach_135 : decode cX8_teach 135 = .ok (.iaload, 1) := by decide +kernel
theorem dX8_teach_136 : decode cX8_teach 136 = .ok (.iconst 1, 1) := by decide +kernel
theorem dX8_teach_137 : decode cX8_teach 137 = .ok (.iadd, 1) := by decide +kernel
theorem dX8_teach_138 : decode cX8_teach 138 = .ok (.iastore, 1) := by decide +kernel
theorem dX8_teach_139 : decode cX8_teach 139 = .ok (.iload_n 3, 1) := by decide +kernel
theorem dX8_teach_140 : decode cX8_teach 140 = .ok (.ireturn, 1) := by decide +kernel
set_option maxHeartbeats 4000000 in
set_option maxRecDepth 100000 in
theorem tX8_teach_68 (l : Launch) {E : ET} (hE : Aj E) {p : Program} {e : Env} {s : State} {m : MethodId} {args : Array Value} {below : List Frame} {meth : Method} {c : Code} (X : Cx p (rmL 3) s m args c yX8_teach.cls cX8_teach 5 E (Aw E) 0 0) (hr : meth.sig.returnType = (some .int)) (hk : meth.locks = false) {r : Int32} {G' : GT} (a1 : Int32) (a3 : Int32) : ∀ (n : Nat) (G : GT) (a4 : Int32), fX8_teach_68 a1 a3 n G a4 = some (r, G') → J p l e (rmL 3) s m args below meth c E (Aw E) s.heap 5 0 0 (MQ below (QI E r G') args s 0 0 (Aw E)) G 68 [(0, .ref (Ad E 22 0)), (1, .int a1), (3, .int a3), (4, .int a4)] [] := by
  intro n
  induction n with
  | zero =>
    intro G a4 h
    simp [fX8_teach_68] at h
  | succ n ih =>
    intro G a4 h
    rw [fX8_teach_68] at h
    refine j_iload (pc := 68) X dX8_teach_68 3 rfl ?_
    refine j_iconst (pc := 70) (v := 5) X dX8_teach_70 (by decide) ?_
    refine j_icmp_ge (pc := 71) (tgt := 117) X dX8_teach_71 (by decide) (fun hc => ?_) (fun hc => ?_)
    · rw [if_pos hc] at h
      refine j_aload_n (pc := 117) X dX8_teach_117 rfl 0 rfl ?_
      refine j_get (pc := 118) (v := .ref (Ad E 23 0)) X gf_X8_7 (by decide) rfl rfl dX8_teach_118 ?_
      refine j_sipush (pc := 121) (v := 161) X dX8_teach_121 (by decide) ?_
      refine j_iload_n (pc := 124) X dX8_teach_124 rfl 2 rfl ?_
      refine j_iadd (pc := 125) X dX8_teach_125 ?_
      refine j_iload_n (pc := 126) X dX8_teach_126 rfl 1 rfl ?_
      obtain ⟨hg1, h⟩ := gd_s h
      obtain ⟨G2, hG2, h⟩ := st3_s h
      refine j_iast (pc := 127) (n := 289) X hG2 (by decide) (fun _ => rfl) hg1 dX8_teach_127 ?_
      refine j_aload_n (pc := 128) X dX8_teach_128 rfl 0 rfl ?_
      refine j_get (pc := 129) (v := .ref (Ad E 23 0)) X gf_X8_7 (by decide) rfl rfl dX8_teach_129 ?_
      refine j_bipush (pc := 132) (v := 80) X dX8_teach_132 (by decide) ?_
      refine j_dup2 (pc := 134) X dX8_teach_134 rfl rfl ?_
      obtain ⟨hg3, h⟩ := gd_s h
      refine j_iald (pc := 135) (n := 289) X (by decide) rfl hg3 dX8_teach_135 ?_
      refine j_iconst (pc := 136) (v := 1) X dX8_teach_136 (by decide) ?_
      refine j_iadd (pc := 137) X dX8_teach_137 ?_
      obtain ⟨hg4, h⟩ := gd_s h
      obtain ⟨G5, hG5, h⟩ := st3_s h
      refine j_iast (pc := 138) (n := 289) X hG5 (by decide) (fun _ => rfl) hg4 dX8_teach_138 ?_
      refine j_iload_n (pc := 139) X dX8_teach_139 rfl 2 rfl ?_
      exact j_ret (pc := 140) X hr hk (vp_nar_int _) (pr_s h).1 (pr_s h).2 dX8_teach_140
    · rw [if_neg hc] at h
      refine j_aload_n (pc := 74) X dX8_teach_74 rfl 0 rfl ?_
      refine j_get (pc := 75) (v := .ref (Ad E 23 0)) X gf_X8_7 (by decide) rfl rfl dX8_teach_75 ?_
      refine j_bipush (pc := 78) (v := 81) X dX8_teach_78 (by decide) ?_
      refine j_iconst (pc := 80) (v := 5) X dX8_teach_80 (by decide) ?_
      refine j_iload_n (pc := 81) X dX8_teach_81 rfl 2 rfl ?_
      refine j_imul (pc := 82) X dX8_teach_82 ?_
      refine j_iadd (pc := 83) X dX8_teach_83 ?_
      refine j_iload (pc := 84) X dX8_teach_84 3 rfl ?_
      refine j_iadd (pc := 86) X dX8_teach_86 ?_
      refine j_iload (pc := 87) X dX8_teach_87 3 rfl ?_
      refine j_aload_n (pc := 89) X dX8_teach_89 rfl 0 rfl ?_
      refine j_get (pc := 90) (v := .int (G 22 0 7)) X gf_X8_100 (by decide) rfl rfl dX8_teach_90 ?_
      refine j_icmp_ge (pc := 93) (tgt := 109) X dX8_teach_93 (by decide) (fun hc => ?_) (fun hc => ?_)
      · rw [if_pos hc] at h
        refine j_iconst (pc := 109) (v := 0) X dX8_teach_109 (by decide) ?_
        obtain ⟨hg6, h⟩ := gd_s h
        obtain ⟨G7, hG7, h⟩ := st3_s h
        refine j_iast (pc := 110) (n := 289) X hG7 (by decide) (fun _ => rfl) hg6 dX8_teach_110 ?_
        refine j_iinc (pc := 111) (q := 3) (v := (a4 + (1 : Int32))) (lv' := [(0, .ref (Ad E 22 0)), (1, .int a1), (3, .int a3), (4, .int (a4 + (1 : Int32)))]) X dX8_teach_111 rfl rfl (by decide) rfl ?_
        refine j_goto (pc := 114) (tgt := 68) X dX8_teach_114 (by decide) ?_
        exact ih G7 (a4 + (1 : Int32)) h
      · rw [if_neg hc] at h
        refine j_aload_n (pc := 96) X dX8_teach_96 rfl 0 rfl ?_
        refine j_get (pc := 97) (v := .ref (Ad E 27 0)) X gf_X8_22 (by decide) rfl rfl dX8_teach_97 ?_
        refine j_iload (pc := 100) X dX8_teach_100 3 rfl ?_
        obtain ⟨hg8, h⟩ := gd_s h
        refine j_iald (pc := 102) (n := 50) X (by decide) rfl hg8 dX8_teach_102 ?_
        refine j_bipush (pc := 103) (v := 48) X dX8_teach_103 (by decide) ?_
        refine j_isub (pc := 105) X dX8_teach_105 ?_
        refine j_goto (pc := 106) (tgt := 110) X dX8_teach_106 (by decide) ?_
        obtain ⟨hg9, h⟩ := gd_s h
        obtain ⟨G10, hG10, h⟩ := st3_s h
        refine j_iast (pc := 110) (n := 289) X hG10 (by decide) (fun _ => rfl) hg9 dX8_teach_110 ?_
        refine j_iinc (pc := 111) (q := 3) (v := (a4 + (1 : Int32))) (lv' := [(0, .ref (Ad E 22 0)), (1, .int a1), (3, .int a3), (4, .int (a4 + (1 : Int32)))]) X dX8_teach_111 rfl rfl (by decide) rfl ?_
        refine j_goto (pc := 114) (tgt := 68) X dX8_teach_114 (by decide) ?_
        exact ih G10 (a4 + (1 : Int32)) h
set_option maxHeartbeats 4000000 in
set_option maxRecDepth 100000 in
theorem tX8_teach (l : Launch) {E : ET} (hE : Aj E) (G : GT) (a1 : Int32) {r : Int32} {G' : GT} (h : fX8_teach G a1 = some (r, G')) : CI l E yX8_teach cX8_teach 5 (some .int) 3 [.ref (Ad E 22 0), .int a1] G r G' := by
  refine Met_I (lv := [(0, .ref (Ad E 22 0)), (1, .int a1)]) (by decide +kernel) hE (Nat.le_of_ble_eq_true rfl) rfl ?_
  intro p e s m args below meth c X hr hk
  unfold fX8_teach at h
  refine j_iload_n (pc := 0) X dX8_teach_0 rfl 1 rfl ?_
  refine j_iconst (pc := 1) (v := 1) X dX8_teach_1 (by decide) ?_
  refine j_bipush (pc := 2) (v := 9) X dX8_teach_2 (by decide) ?_
  obtain ⟨r1, hc3, h⟩ := bd_s h
  refine j_staI (pc := 4) X (tX8_in l hE G a1 (1 : Int32) (9 : Int32) hc3) muX8_in (Or.inl q714) rfl rfl (Nat.le_of_ble_eq_true rfl) ⟨Nat.le_of_ble_eq_true rfl, Nat.le_of_ble_eq_true rfl⟩ dX8_teach_4 ?_
  refine j_if_ne (pc := 7) (tgt := 13) X dX8_teach_7 (by decide) (fun hc => ?_) (fun hc => ?_)
  · rw [if_neg hc] at h
    refine j_aload_n (pc := 13) X dX8_teach_13 rfl 0 rfl ?_
    refine j_iconst (pc := 14) (v := 0) X dX8_teach_14 (by decide) ?_
    obtain ⟨r4, G5, hc6, h⟩ := bd2_s h
    refine j_callI (pc := 15) X (tX8_findFault l hE G (0 : Int32) hc6) muX8_findFault (by decide) q757 rfl rfl (Nat.le_of_ble_eq_true rfl) ⟨Nat.le_of_ble_eq_true rfl, Nat.le_of_ble_eq_true rfl⟩ dX8_teach_15 ?_
    refine j_istore_n (pc := 18) (lv' := [(0, .ref (Ad E 22 0)), (1, .int a1), (2, .int r4)]) X dX8_teach_18 rfl (by decide) rfl ?_
    refine j_iload_n (pc := 19) X dX8_teach_19 rfl 2 rfl ?_
    refine j_if_lt (pc := 20) (tgt := 28) X dX8_teach_20 (by decide) (fun hc => ?_) (fun hc => ?_)
    · rw [if_pos hc] at h
      refine j_aload_n (pc := 28) X dX8_teach_28 rfl 0 rfl ?_
      obtain ⟨r7, hc9, h⟩ := bd_s h
      refine j_callI (pc := 29) X (tX8_isTaught l hE G5  hc9) muX8_isTaught (by decide) q765 rfl rfl (Nat.le_of_ble_eq_true rfl) ⟨Nat.le_of_ble_eq_true rfl, Nat.le_of_ble_eq_true rfl⟩ dX8_teach_29 ?_
      refine j_if_eq (pc := 32) (tgt := 38) X dX8_teach_32 (by decide) (fun hc => ?_) (fun hc => ?_)
      · rw [if_pos hc] at h
        refine j_aload_n (pc := 38) X dX8_teach_38 rfl 0 rfl ?_
        refine j_get (pc := 39) (v := .ref (Ad E 23 0)) X gf_X8_7 (by decide) rfl rfl dX8_teach_39 ?_
        refine j_bipush (pc := 42) (v := 80) X dX8_teach_42 (by decide) ?_
        obtain ⟨hg10, h⟩ := gd_s h
        refine j_iald (pc := 44) (n := 289) X (by decide) rfl hg10 dX8_teach_44 ?_
        refine j_bipush (pc := 45) (v := 16) X dX8_teach_45 (by decide) ?_
        refine j_icmp_ne (pc := 47) (tgt := 53) X dX8_teach_47 (by decide) (fun hc => ?_) (fun hc => ?_)
        · rw [if_neg hc] at h
          refine j_aload_n (pc := 53) X dX8_teach_53 rfl 0 rfl ?_
          obtain ⟨G12, hc13, h⟩ := bd_s h
          refine j_callV (pc := 54) X (tX8_record l hE G5  hc13) muX8_record (by decide) q703 rfl rfl (Nat.le_of_ble_eq_true rfl) ⟨Nat.le_of_ble_eq_true rfl, Nat.le_of_ble_eq_true rfl⟩ dX8_teach_54 ?_
          refine j_aload_n (pc := 57) X dX8_teach_57 rfl 0 rfl ?_
          refine j_get (pc := 58) (v := .ref (Ad E 23 0)) X gf_X8_7 (by decide) rfl rfl dX8_teach_58 ?_
          refine j_bipush (pc := 61) (v := 80) X dX8_teach_61 (by decide) ?_
          obtain ⟨hg14, h⟩ := gd_s h
          refine j_iald (pc := 63) (n := 289) X (by decide) rfl hg14 dX8_teach_63 ?_
          refine j_istore_n (pc := 64) (lv' := [(0, .ref (Ad E 22 0)), (1, .int a1), (2, .int r4), (3, .int (G12 23 0 (80 : Int32).toNatClampNeg))]) X dX8_teach_64 rfl (by decide) rfl ?_
          refine j_iconst (pc := 65) (v := 0) X dX8_teach_65 (by decide) ?_
          refine j_istore (pc := 66) (lv' := [(0, .ref (Ad E 22 0)), (1, .int a1), (2, .int r4), (3, .int (G12 23 0 (80 : Int32).toNatClampNeg)), (4, .int (0 : Int32))]) X dX8_teach_66 (by decide) rfl ?_
          refine j_lv (lv' := [(0, .ref (Ad E 22 0)), (1, .int a1), (3, .int (G12 23 0 (80 : Int32).toNatClampNeg)), (4, .int (0 : Int32))]) [0, 1, 3, 4] rfl ?_
          exact tX8_teach_68 l hE X hr hk a1 (G12 23 0 (80 : Int32).toNatClampNeg) FU G12 (0 : Int32) h
        · rw [if_pos hc] at h
          refine j_bipush (pc := 50) (v := (-3)) X dX8_teach_50 (by decide) ?_
          exact j_ret (pc := 52) X hr hk (vp_nar_int _) (pr_s h).1 (pr_s h).2 dX8_teach_52
      · rw [if_neg hc] at h
        refine j_bipush (pc := 35) (v := (-4)) X dX8_teach_35 (by decide) ?_
        exact j_ret (pc := 37) X hr hk (vp_nar_int _) (pr_s h).1 (pr_s h).2 dX8_teach_37
    · rw [if_neg hc] at h
      refine j_bipush (pc := 23) (v := (-100)) X dX8_teach_23 (by decide) ?_
      refine j_iload_n (pc := 25) X dX8_teach_25 rfl 2 rfl ?_
      refine j_isub (pc := 26) X dX8_teach_26 ?_
      exact j_ret (pc := 27) X hr hk (vp_nar_int _) (pr_s h).1 (pr_s h).2 dX8_teach_27
  · rw [if_pos hc] at h
    refine j_bipush (pc := 10) (v := (-2)) X dX8_teach_10 (by decide) ?_
    exact j_ret (pc := 12) X hr hk (vp_nar_int _) (pr_s h).1 (pr_s h).2 dX8_teach_12
theorem dX8_setRings_0 : decode cX8_setRings 0 = .ok (.aload_n 0, 1) := by decide +kernel
theorem dX8_setRings_1 : decode cX8_setRings 1 = .ok (.iload_n 1, 1) := by decide +kernel
theorem dX8_setRings_2 : decode cX8_setRings 2 = .ok (.invokevirtual 107, 3) := by decide +kernel
theorem dX8_setRings_5 : decode cX8_setRings 5 = .ok (.ifCond .ne 5, 3) := by decide +kernel
theorem dX8_setRings_8 : decode cX8_setRings 8 = .ok (.iconst (-1), 1) := by decide +kernel
theorem dX8_setRings_9 : decode cX8_setRings 9 = .ok (.ireturn, 1) := by decide +kernel
theorem dX8_setRings_10 : decode cX8_setRings 10 = .ok (.iload_n 2, 1) := by decide +kernel
theorem dX8_setRings_11 : decode cX8_setRings 11 = .ok (.iconst 1, 1) := by decide +kernel
theorem dX8_setRings_12 : decode cX8_setRings 12 = .ok (.bipush 9, 2) := by decide +kernel
theorem dX8_setRings_14 : decode cX8_setRings 14 = .ok (.invokestatic 28, 3) := by decide +kernel
theorem dX8_setRings_17 : decode cX8_setRings 17 = .ok (.ifCond .ne 6, 3) := by decide +kernel
theorem dX8_setRings_20 : decode cX8_setRings 20 = .ok (.bipush (-2), 2) := by decide +kernel
theorem dX8_setRings_22 : decode cX8_setRings 22 = .ok (.ireturn, 1) := by decide +kernel
theorem dX8_setRings_23 : decode cX8_setRings 23 = .ok (.aload_n 0, 1) := by decide +kernel
theorem dX8_setRings_24 : decode cX8_setRings 24 = .ok (.getfield 7, 3) := by decide +kernel
theorem dX8_setRings_27 : decode cX8_setRings 27 = .ok (.sipush 161, 3) := by decide +kernel
theorem dX8_setRings_30 : decode cX8_setRings 30 = .ok (.iload_n 1, 1) := by decide +kernel
theorem dX8_setRings_31 : decode cX8_setRings 31 = .ok (.iadd, 1) := by decide +kernel
theorem dX8_setRings_32 : decode cX8_setRings 32 = .ok (.iaload, 1) := by decide +kernel
theorem dX8_setRings_33 : decode cX8_setRings 33 = .ok (.istore_n 3, 1) := by decide +kernel
theorem dX8_setRings_34 : decode cX8_setRings 34 = .ok (.iload_n 3, 1) := by decide +kernel
theorem dX8_setRings_35 : decode cX8_setRings 35 = .ok (.iload_n 2, 1) := by decide +kernel
theorem dX8_setRings_36 : decode cX8_setRings 36 = .ok (.if_icmp .ne 6, 3) := by decide +kernel
theorem dX8_setRings_39 : decode cX8_setRings 39 = .ok (.bipush (-5), 2) := by decide +kernel
theorem dX8_setRings_41 : decode cX8_setRings 41 = .ok (.ireturn, 1) := by decide +kernel
theorem dX8_setRings_42 : decode cX8_setRings 42 = .ok (.aload_n 0, 1) := by decide +kernel
theorem dX8_setRings_43 : decode cX8_setRings 43 = .ok (.invokevirtual 44, 3) := by decide +kernel
theorem dX8_setRings_46 : decode cX8_setRings 46 = .ok (.aload_n 0, 1) := by decide +kernel
theorem dX8_setRings_47 : decode cX8_setRings 47 = .ok (.getfield 7, 3) := by decide +kernel
theorem dX8_setRings_50 : decode cX8_setRings 50 = .ok (.sipush 161, 3) := by decide +kernel
theorem dX8_setRings_53 : decode cX8_setRings 53 = .ok (.iload_n 1, 1) := by decide +kernel
theorem dX8_setRings_54 : decode cX8_setRings 54 = .ok (.iadd, 1) := by decide +kernel
theorem dX8_setRings_55 : decode cX8_setRings 55 = .ok (.iload_n 2, 1) := by decide +kernel
theorem dX8_setRings_56 : decode cX8_setRings 56 = .ok (.iastore, 1) := by decide +kernel
theorem dX8_setRings_57 : decode cX8_setRings 57 = .ok (.iload_n 3, 1) := by decide +kernel
theorem dX8_setRings_58 : decode cX8_setRings 58 = .ok (.ireturn, 1) := by decide +kernel
set_option maxHeartbeats 4000000 in
set_option maxRecDepth 100000 in
theorem tX8_setRings (l : Launch) {E : ET} (hE : Aj E) (G : GT) (a1 : Int32) (a2 : Int32) {r : Int32} {G' : GT} (h : fX8_setRings G a1 a2 = some (r, G')) : CI l E yX8_setRings cX8_setRings 4 (some .int) 2 [.ref (Ad E 22 0), .int a1, .int a2] G r G' := by
  refine Met_I (lv := [(0, .ref (Ad E 22 0)), (1, .int a1), (2, .int a2)]) (by decide +kernel) hE (Nat.le_of_ble_eq_true rfl) rfl ?_
  intro p e s m args below meth c X hr hk
  unfold fX8_setRings at h
  refine j_aload_n (pc := 0) X dX8_setRings_0 rfl 0 rfl ?_
  refine j_iload_n (pc := 1) X dX8_setRings_1 rfl 1 rfl ?_
  obtain ⟨r1, hc3, h⟩ := bd_s h
  refine j_callI (pc := 2) X (tX8_isWord l hE G a1 hc3) muX8_isWord (by decide) q781 rfl rfl (Nat.le_of_ble_eq_true rfl) ⟨Nat.le_of_ble_eq_true rfl, Nat.le_of_ble_eq_true rfl⟩ dX8_setRings_2 ?_
  refine j_if_ne (pc := 5) (tgt := 10) X dX8_setRings_5 (by decide) (fun hc => ?_) (fun hc => ?_)
  · rw [if_neg hc] at h
    refine j_iload_n (pc := 10) X dX8_setRings_10 rfl 2 rfl ?_
    refine j_iconst (pc := 11) (v := 1) X dX8_setRings_11 (by decide) ?_
    refine j_bipush (pc := 12) (v := 9) X dX8_setRings_12 (by decide) ?_
    obtain ⟨r4, hc6, h⟩ := bd_s h
    refine j_staI (pc := 14) X (tX8_in l hE G a2 (1 : Int32) (9 : Int32) hc6) muX8_in (Or.inl q714) rfl rfl (Nat.le_of_ble_eq_true rfl) ⟨Nat.le_of_ble_eq_true rfl, Nat.le_of_ble_eq_true rfl⟩ dX8_setRings_14 ?_
    refine j_if_ne (pc := 17) (tgt := 23) X dX8_setRings_17 (by decide) (fun hc => ?_) (fun hc => ?_)
    · rw [if_neg hc] at h
      refine j_aload_n (pc := 23) X dX8_setRings_23 rfl 0 rfl ?_
      refine j_get (pc := 24) (v := .ref (Ad E 23 0)) X gf_X8_7 (by decide) rfl rfl dX8_setRings_24 ?_
      refine j_sipush (pc := 27) (v := 161) X dX8_setRings_27 (by decide) ?_
      refine j_iload_n (pc := 30) X dX8_setRings_30 rfl 1 rfl ?_
      refine j_iadd (pc := 31) X dX8_setRings_31 ?_
      obtain ⟨hg7, h⟩ := gd_s h
      refine j_iald (pc := 32) (n := 289) X (by decide) rfl hg7 dX8_setRings_32 ?_
      refine j_istore_n (pc := 33) (lv' := [(0, .ref (Ad E 22 0)), (1, .int a1), (2, .int a2), (3, .int (G 23 0 ((161 : Int32) + a1).toNatClampNeg))]) X dX8_setRings_33 rfl (by decide) rfl ?_
      refine j_iload_n (pc := 34) X dX8_setRings_34 rfl 3 rfl ?_
      refine j_iload_n (pc := 35) X dX8_setRings_35 rfl 2 rfl ?_
      refine j_icmp_ne (pc := 36) (tgt := 42) X dX8_setRings_36 (by decide) (fun hc => ?_) (fun hc => ?_)
      · rw [if_neg hc] at h
        refine j_aload_n (pc := 42) X dX8_setRings_42 rfl 0 rfl ?_
        obtain ⟨G9, hc10, h⟩ := bd_s h
        refine j_callV (pc := 43) X (tX8_record l hE G  hc10) muX8_record (by decide) q703 rfl rfl (Nat.le_of_ble_eq_true rfl) ⟨Nat.le_of_ble_eq_true rfl, Nat.le_of_ble_eq_true rfl⟩ dX8_setRings_43 ?_
        refine j_aload_n (pc := 46) X dX8_setRings_46 rfl 0 rfl ?_
        refine j_get (pc := 47) (v := .ref (Ad E 23 0)) X gf_X8_7 (by decide) rfl rfl dX8_setRings_47 ?_
        refine j_sipush (pc := 50) (v := 161) X dX8_setRings_50 (by decide) ?_
        refine j_iload_n (pc := 53) X dX8_setRings_53 rfl 1 rfl ?_
        refine j_iadd (pc := 54) X dX8_setRings_54 ?_
        refine j_iload_n (pc := 55) X dX8_setRings_55 rfl 2 rfl ?_
        obtain ⟨hg11, h⟩ := gd_s h
        obtain ⟨G12, hG12, h⟩ := st3_s h
        refine j_iast (pc := 56) (n := 289) X hG12 (by decide) (fun _ => rfl) hg11 dX8_setRings_56 ?_
        refine j_iload_n (pc := 57) X dX8_setRings_57 rfl 3 rfl ?_
        exact j_ret (pc := 58) X hr hk (vp_nar_int _) (pr_s h).1 (pr_s h).2 dX8_setRings_58
      · rw [if_pos hc] at h
        refine j_bipush (pc := 39) (v := (-5)) X dX8_setRings_39 (by decide) ?_
        exact j_ret (pc := 41) X hr hk (vp_nar_int _) (pr_s h).1 (pr_s h).2 dX8_setRings_41
    · rw [if_pos hc] at h
      refine j_bipush (pc := 20) (v := (-2)) X dX8_setRings_20 (by decide) ?_
      exact j_ret (pc := 22) X hr hk (vp_nar_int _) (pr_s h).1 (pr_s h).2 dX8_setRings_22
  · rw [if_pos hc] at h
    refine j_iconst (pc := 8) (v := (-1)) X dX8_setRings_8 (by decide) ?_
    exact j_ret (pc := 9) X hr hk (vp_nar_int _) (pr_s h).1 (pr_s h).2 dX8_setRings_9
theorem dX8_heardOf_0 : decode cX8_heardOf 0 = .ok (.aload_n 0, 1) := by decide +kernel
theorem dX8_heardOf_1 : decode cX8_heardOf 1 = .ok (.getfield 7, 3) := by decide +kernel
theorem dX8_heardOf_4 : decode cX8_heardOf 4 = .ok (.sipush 177, 3) := by decide +kernel
theorem dX8_heardOf_7 : decode cX8_heardOf 7 = .ok (.bipush 16, 2) := by decide +kernel
theorem dX8_heardOf_9 : decode cX8_heardOf 9 = .ok (.iload_n 1, 1) := by decide +kernel
theorem dX8_heardOf_10 : decode cX8_heardOf 10 = .ok (.imul, 1) := by decide +kernel
theorem dX8_heardOf_11 : decode cX8_heardOf 11 = .ok (.iadd, 1) := by decide +kernel
theorem dX8_heardOf_12 : decode cX8_heardOf 12 = .ok (.iload_n 2, 1) := by decide +kernel
theorem dX8_heardOf_13 : decode cX8_heardOf 13 = .ok (.iadd, 1) := by decide +kernel
theorem dX8_heardOf_14 : decode cX8_heardOf 14 = .ok (.iaload, 1) := by decide +kernel
theorem dX8_heardOf_15 : decode cX8_heardOf 15 = .ok (.ireturn, 1) := by decide +kernel
set_option maxHeartbeats 4000000 in
set_option maxRecDepth 100000 in
theorem tX8_heardOf (l : Launch) {E : ET} (hE : Aj E) (G : GT) (a1 : Int32) (a2 : Int32) {r : Int32} (h : fX8_heardOf G a1 a2 = some r) : CI l E yX8_heardOf cX8_heardOf 3 (some .int) 0 [.ref (Ad E 22 0), .int a1, .int a2] G r G := by
  refine Met_I (lv := [(0, .ref (Ad E 22 0)), (1, .int a1), (2, .int a2)]) (by decide +kernel) hE (Nat.le_of_ble_eq_true rfl) rfl ?_
  intro p e s m args below meth c X hr hk
  unfold fX8_heardOf at h
  refine j_aload_n (pc := 0) X dX8_heardOf_0 rfl 0 rfl ?_
  refine j_get (pc := 1) (v := .ref (Ad E 23 0)) X gf_X8_7 (by decide) rfl rfl dX8_heardOf_1 ?_
  refine j_sipush (pc := 4) (v := 177) X dX8_heardOf_4 (by decide) ?_
  refine j_bipush (pc := 7) (v := 16) X dX8_heardOf_7 (by decide) ?_
  refine j_iload_n (pc := 9) X dX8_heardOf_9 rfl 1 rfl ?_
  refine j_imul (pc := 10) X dX8_heardOf_10 ?_
  refine j_iadd (pc := 11) X dX8_heardOf_11 ?_
  refine j_iload_n (pc := 12) X dX8_heardOf_12 rfl 2 rfl ?_
  refine j_iadd (pc := 13) X dX8_heardOf_13 ?_
  obtain ⟨hg1, h⟩ := gd_s h
  refine j_iald (pc := 14) (n := 289) X (by decide) rfl hg1 dX8_heardOf_14 ?_
  exact j_ret (pc := 15) X hr hk (vp_nar_int _) (Option.some.inj h) rfl dX8_heardOf_15
theorem dX8_knows_0 : decode cX8_knows 0 = .ok (.aload_n 0, 1) := by decide +kernel
theorem dX8_knows_1 : decode cX8_knows 1 = .ok (.iload_n 1, 1) := by decide +kernel
theorem dX8_knows_2 : decode cX8_knows 2 = .ok (.iload_n 2, 1) := by decide +kernel
theorem dX8_knows_3 : decode cX8_knows 3 = .ok (.invokevirtual 110, 3) := by decide +kernel
theorem dX8_knows_6 : decode cX8_knows 6 = .ok (.aload_n 0, 1) := by decide +kernel
theorem dX8_knows_7 : decode cX8_knows 7 = .ok (.getfield 7, 3) := by decide +kernel
theorem dX8_knows_10 : decode cX8_knows 10 = .ok (.sipush 285, 3) := by decide +kernel
theorem dX8_knows_13 : decode cX8_knows 13 = .ok (.iaload, 1) := by decide +kernel
theorem dX8_knows_14 : decode cX8_knows 14 = .ok (.if_icmp .lt 7, 3) := by decide +kernel
theorem dX8_knows_17 : decode cX8_knows 17 = .ok (.iconst 1, 1) := by decide +kernel
theorem dX8_knows_18 : decode cX8_knows 18 = .ok (.goto 4, 3) := by decide +kernel
theorem dX8_knows_21 : decode cX8_knows 21 = .ok (.iconst 0, 1) := by decide +kernel
theorem dX8_knows_22 : decode cX8_knows 22 = .ok (.ireturn, 1) := by decide +kernel
set_option maxHeartbeats 4000000 in
set_option maxRecDepth 100000 in
theorem tX8_knows (l : Launch) {E : ET} (hE : Aj E) (G : GT) (a1 : Int32) (a2 : Int32) {r : Int32} (h : fX8_knows G a1 a2 = some r) : CI l E yX8_knows cX8_knows 3 (some .boolean) 1 [.ref (Ad E 22 0), .int a1, .int a2] G r G := by
  refine Met_I (lv := [(0, .ref (Ad E 22 0)), (1, .int a1), (2, .int a2)]) (by decide +kernel) hE (Nat.le_of_ble_eq_true rfl) rfl ?_
  intro p e s m args below meth c X hr hk
  unfold fX8_knows at h
  refine j_aload_n (pc := 0) X dX8_knows_0 rfl 0 rfl ?_
  refine j_iload_n (pc := 1) X dX8_knows_1 rfl 1 rfl ?_
  refine j_iload_n (pc := 2) X dX8_knows_2 rfl 2 rfl ?_
  obtain ⟨r1, hc3, h⟩ := bd_s h
  refine j_callI (pc := 3) X (tX8_heardOf l hE G a1 a2 hc3) muX8_heardOf (by decide) q813 rfl rfl (Nat.le_of_ble_eq_true rfl) ⟨Nat.le_of_ble_eq_true rfl, Nat.le_of_ble_eq_true rfl⟩ dX8_knows_3 ?_
  refine j_aload_n (pc := 6) X dX8_knows_6 rfl 0 rfl ?_
  refine j_get (pc := 7) (v := .ref (Ad E 23 0)) X gf_X8_7 (by decide) rfl rfl dX8_knows_7 ?_
  refine j_sipush (pc := 10) (v := 285) X dX8_knows_10 (by decide) ?_
  obtain ⟨hg4, h⟩ := gd_s h
  refine j_iald (pc := 13) (n := 289) X (by decide) rfl hg4 dX8_knows_13 ?_
  refine j_icmp_lt (pc := 14) (tgt := 21) X dX8_knows_14 (by decide) (fun hc => ?_) (fun hc => ?_)
  · rw [if_pos hc] at h
    refine j_iconst (pc := 21) (v := 0) X dX8_knows_21 (by decide) ?_
    exact j_ret (pc := 22) X hr hk rfl (Option.some.inj h) rfl dX8_knows_22
  · rw [if_neg hc] at h
    refine j_iconst (pc := 17) (v := 1) X dX8_knows_17 (by decide) ?_
    refine j_goto (pc := 18) (tgt := 22) X dX8_knows_18 (by decide) ?_
    exact j_ret (pc := 22) X hr hk rfl (Option.some.inj h) rfl dX8_knows_22
theorem dX8_answerOf_0 : decode cX8_answerOf 0 = .ok (.iconst 0, 1) := by decide +kernel
theorem dX8_answerOf_1 : decode cX8_answerOf 1 = .ok (.istore_n 2, 1) := by decide +kernel
theorem dX8_answerOf_2 : decode cX8_answerOf 2 = .ok (.iconst 0, 1) := by decide +kernel
theorem dX8_answerOf_3 : decode cX8_answerOf 3 = .ok (.istore_n 3, 1) := by decide +kernel
theorem dX8_answerOf_4 : decode cX8_answerOf 4 = .ok (.iload_n 3, 1) := by decide +kernel
theorem dX8_answerOf_5 : decode cX8_answerOf 5 = .ok (.aload_n 0, 1) := by decide +kernel
theorem dX8_answerOf_6 : decode cX8_answerOf 6 = .ok (.getfield 7, 3) := by decide +kernel
theorem dX8_answerOf_9 : decode cX8_answerOf 9 = .ok (.bipush 80, 2) := by decide +kernel
theorem dX8_answerOf_11 : decode cX8_answerOf 11 = .ok (.iaload, 1) := by decide +kernel
theorem dX8_answerOf_12 : decode cX8_answerOf 12 = .ok (.if_icmp .ge 41, 3) := by decide +kernel
theorem dX8_answerOf_15 : decode cX8_answerOf 15 = .ok (.iload_n 2, 1) := by decide +kernel
theorem dX8_answerOf_16 : decode cX8_answerOf 16 = .ok (.aload_n 0, 1) := by decide +kernel
theorem dX8_answerOf_17 : decode cX8_answerOf 17 = .ok (.iload_n 1, 1) := by decide +kernel
theorem dX8_answerOf_18 : decode cX8_answerOf 18 = .ok (.iload_n 3, 1) := by decide +kernel
theorem dX8_answerOf_19 : decode cX8_answerOf 19 = .ok (.invokevirtual 113, 3) := by decide +kernel
theorem dX8_answerOf_22 : decode cX8_answerOf 22 = .ok (.ifCond .eq 22, 3) := by decide +kernel
theorem dX8_answerOf_25 : decode cX8_answerOf 25 = .ok (.aload_n 0, 1) := by decide +kernel
theorem dX8_answerOf_26 : decode cX8_answerOf 26 = .ok (.iload_n 3, 1) := by decide +kernel
theorem dX8_answerOf_27 : decode cX8_answerOf 27 = .ok (.invokevirtual 81, 3) := by decide +kernel
theorem dX8_answerOf_30 : decode cX8_answerOf 30 = .ok (.aload_n 0, 1) := by decide +kernel
theorem dX8_answerOf_31 : decode cX8_answerOf 31 = .ok (.getfield 7, 3) := by decide +kernel
theorem dX8_answerOf_34 : decode cX8_answerOf 34 = .ok (.sipush 161, 3) := by decide +kernel
theorem dX8_answerOf_37 : decode cX8_answerOf 37 = .ok (.iload_n 3, 1) := by decide +kernel
theorem dX8_answerOf_38 : decode cX8_answerOf 38 = .ok (.iadd, 1) := by decide +kernel
theorem dX8_answerOf_39 : decode cX8_answerOf 39 = .ok (.iaload, 1) := by decide +kernel
theorem dX8_answerOf_40 : decode cX8_answerOf 40 = .ok (.imul, 1) := by decide +kernel
theorem dX8_answerOf_41 : decode cX8_answerOf 41 = .ok (.goto 4, 3) := by decide +kernel
theorem dX8_answerOf_44 : decode cX8_answerOf 44 = .ok (.iconst 0, 1) := by decide +kernel
theorem dX8_answerOf_45 : decode cX8_answerOf 45 = .ok (.iadd, 1) := by decide +kernel
theorem dX8_answerOf_46 : decode cX8_answerOf 46 = .ok (.istore_n 2, 1) := by decide +kernel
theorem dX8_answerOf_47 : decode cX8_answerOf 47 = .ok (.iinc 3 1, 3) := by decide +kernel
theorem dX8_answerOf_50 : decode cX8_answerOf 50 = .ok (.goto (-46), 3) := by decide +kernel
theorem dX8_answerOf_53 : decode cX8_answerOf 53 = .ok (.iload_n 2, 1) := by decide +kernel
theorem dX8_answerOf_54 : decode cX8_answerOf 54 = .ok (.ireturn, 1) := by decide +kernel
set_option maxHeartbeats 4000000 in
set_option maxRecDepth 100000 in
theorem tX8_answerOf_4 (l : Launch) {E : ET} (hE : Aj E) {p : Program} {e : Env} {s : State} {m : MethodId} {args : Array Value} {below : List Frame} {meth : Method} {c : Code} (X : Cx p (rmL 6) s m args c yX8_answerOf.cls cX8_answerOf 4 E (Aw E) 0 0) (hr : meth.sig.returnType = (some .int)) (hk : meth.locks = false) {r : Int32} (G : GT) (a1 : Int32) : ∀ (n : Nat) (a2 a3 : Int32), fX8_answerOf_4 G a1 n a2 a3 = some r → J p l e (rmL 6) s m args below meth c E (Aw E) s.heap 4 0 0 (MQ below (QI E r G) args s 0 0 (Aw E)) G 4 [(0, .ref (Ad E 22 0)), (1, .int a1), (2, .int a2), (3, .int a3)] [] := by
  intro n
  induction n with
  | zero =>
    intro a2 a3 h
    simp [fX8_answerOf_4] at h
  | succ n ih =>
    intro a2 a3 h
    rw [fX8_answerOf_4] at h
    refine j_iload_n (pc := 4) X dX8_answerOf_4 rfl 3 rfl ?_
    refine j_aload_n (pc := 5) X dX8_answerOf_5 rfl 0 rfl ?_
    refine j_get (pc := 6) (v := .ref (Ad E 23 0)) X gf_X8_7 (by decide) rfl rfl dX8_answerOf_6 ?_
    refine j_bipush (pc := 9) (v := 80) X dX8_answerOf_9 (by decide) ?_
    obtain ⟨hg1, h⟩ := gd_s h
    refine j_iald (pc := 11) (n := 289) X (by decide) rfl hg1 dX8_answerOf_11 ?_
    refine j_icmp_ge (pc := 12) (tgt := 53) X dX8_answerOf_12 (by decide) (fun hc => ?_) (fun hc => ?_)
    · rw [if_pos hc] at h
      refine j_iload_n (pc := 53) X dX8_answerOf_53 rfl 2 rfl ?_
      exact j_ret (pc := 54) X hr hk (vp_nar_int _) (Option.some.inj h) rfl dX8_answerOf_54
    · rw [if_neg hc] at h
      refine j_iload_n (pc := 15) X dX8_answerOf_15 rfl 2 rfl ?_
      refine j_aload_n (pc := 16) X dX8_answerOf_16 rfl 0 rfl ?_
      refine j_iload_n (pc := 17) X dX8_answerOf_17 rfl 1 rfl ?_
      refine j_iload_n (pc := 18) X dX8_answerOf_18 rfl 3 rfl ?_
      obtain ⟨r2, hc4, h⟩ := bd_s h
      refine j_callI (pc := 19) X (tX8_knows l hE G a1 a3 hc4) muX8_knows (by decide) q809 rfl rfl (Nat.le_of_ble_eq_true rfl) ⟨Nat.le_of_ble_eq_true rfl, Nat.le_of_ble_eq_true rfl⟩ dX8_answerOf_19 ?_
      refine j_if_eq (pc := 22) (tgt := 44) X dX8_answerOf_22 (by decide) (fun hc => ?_) (fun hc => ?_)
      · rw [if_pos hc] at h
        refine j_iconst (pc := 44) (v := 0) X dX8_answerOf_44 (by decide) ?_
        refine j_iadd (pc := 45) X dX8_answerOf_45 ?_
        refine j_istore_n (pc := 46) (lv' := [(0, .ref (Ad E 22 0)), (1, .int a1), (2, .int (a2 + (0 : Int32))), (3, .int a3)]) X dX8_answerOf_46 rfl (by decide) rfl ?_
        refine j_iinc (pc := 47) (q := 3) (v := (a3 + (1 : Int32))) (lv' := [(0, .ref (Ad E 22 0)), (1, .int a1), (2, .int (a2 + (0 : Int32))), (3, .int (a3 + (1 : Int32)))]) X dX8_answerOf_47 rfl rfl (by decide) rfl ?_
        refine j_goto (pc := 50) (tgt := 4) X dX8_answerOf_50 (by decide) ?_
        exact ih (a2 + (0 : Int32)) (a3 + (1 : Int32)) h
      · rw [if_neg hc] at h
        refine j_aload_n (pc := 25) X dX8_answerOf_25 rfl 0 rfl ?_
        refine j_iload_n (pc := 26) X dX8_answerOf_26 rfl 3 rfl ?_
        obtain ⟨r5, hc7, h⟩ := bd_s h
        refine j_callI (pc := 27) X (tX8_runsOf l hE G a3 hc7) muX8_runsOf (by decide) q817 rfl rfl (Nat.le_of_ble_eq_true rfl) ⟨Nat.le_of_ble_eq_true rfl, Nat.le_of_ble_eq_true rfl⟩ dX8_answerOf_27 ?_
        refine j_aload_n (pc := 30) X dX8_answerOf_30 rfl 0 rfl ?_
        refine j_get (pc := 31) (v := .ref (Ad E 23 0)) X gf_X8_7 (by decide) rfl rfl dX8_answerOf_31 ?_
        refine j_sipush (pc := 34) (v := 161) X dX8_answerOf_34 (by decide) ?_
        refine j_iload_n (pc := 37) X dX8_answerOf_37 rfl 3 rfl ?_
        refine j_iadd (pc := 38) X dX8_answerOf_38 ?_
        obtain ⟨hg8, h⟩ := gd_s h
        refine j_iald (pc := 39) (n := 289) X (by decide) rfl hg8 dX8_answerOf_39 ?_
        refine j_imul (pc := 40) X dX8_answerOf_40 ?_
        refine j_goto (pc := 41) (tgt := 45) X dX8_answerOf_41 (by decide) ?_
        refine j_iadd (pc := 45) X dX8_answerOf_45 ?_
        refine j_istore_n (pc := 46) (lv' := [(0, .ref (Ad E 22 0)), (1, .int a1), (2, .int (a2 + (r5 * (G 23 0 ((161 : Int32) + a3).toNatClampNeg)))), (3, .int a3)]) X dX8_answerOf_46 rfl (by decide) rfl ?_
        refine j_iinc (pc := 47) (q := 3) (v := (a3 + (1 : Int32))) (lv' := [(0, .ref (Ad E 22 0)), (1, .int a1), (2, .int (a2 + (r5 * (G 23 0 ((161 : Int32) + a3).toNatClampNeg)))), (3, .int (a3 + (1 : Int32)))]) X dX8_answerOf_47 rfl rfl (by decide) rfl ?_
        refine j_goto (pc := 50) (tgt := 4) X dX8_answerOf_50 (by decide) ?_
        exact ih (a2 + (r5 * (G 23 0 ((161 : Int32) + a3).toNatClampNeg))) (a3 + (1 : Int32)) h
set_option maxHeartbeats 4000000 in
set_option maxRecDepth 100000 in
theorem tX8_answerOf (l : Launch) {E : ET} (hE : Aj E) (G : GT) (a1 : Int32) {r : Int32} (h : fX8_answerOf G a1 = some r) : CI l E yX8_answerOf cX8_answerOf 4 (some .int) 6 [.ref (Ad E 22 0), .int a1] G r G := by
  refine Met_I (lv := [(0, .ref (Ad E 22 0)), (1, .int a1)]) (by decide +kernel) hE (Nat.le_of_ble_eq_true rfl) rfl ?_
  intro p e s m args below meth c X hr hk
  unfold fX8_answerOf at h
  refine j_iconst (pc := 0) (v := 0) X dX8_answerOf_0 (by decide) ?_
  refine j_istore_n (pc := 1) (lv' := [(0, .ref (Ad E 22 0)), (1, .int a1), (2, .int (0 : Int32))]) X dX8_answerOf_1 rfl (by decide) rfl ?_
  refine j_iconst (pc := 2) (v := 0) X dX8_answerOf_2 (by decide) ?_
  refine j_istore_n (pc := 3) (lv' := [(0, .ref (Ad E 22 0)), (1, .int a1), (2, .int (0 : Int32)), (3, .int (0 : Int32))]) X dX8_answerOf_3 rfl (by decide) rfl ?_
  exact tX8_answerOf_4 l hE X hr hk G a1 FU (0 : Int32) (0 : Int32) h
theorem dX8_ring_0 : decode cX8_ring 0 = .ok (.aload_n 0, 1) := by decide +kernel
theorem dX8_ring_1 : decode cX8_ring 1 = .ok (.invokevirtual 116, 3) := by decide +kernel
theorem dX8_ring_4 : decode cX8_ring 4 = .ok (.ifCond .ne 6, 3) := by decide +kernel
theorem dX8_ring_7 : decode cX8_ring 7 = .ok (.bipush (-5), 2) := by decide +kernel
theorem dX8_ring_9 : decode cX8_ring 9 = .ok (.ireturn, 1) := by decide +kernel
theorem dX8_ring_10 : decode cX8_ring 10 = .ok (.aload_n 0, 1) := by decide +kernel
theorem dX8_ring_11 : decode cX8_ring 11 = .ok (.invokevirtual 44, 3) := by decide +kernel
theorem dX8_ring_14 : decode cX8_ring 14 = .ok (.iconst 0, 1) := by decide +kernel
theorem dX8_ring_15 : decode cX8_ring 15 = .ok (.istore_n 1, 1) := by decide +kernel
theorem dX8_ring_16 : decode cX8_ring 16 = .ok (.iconst 0, 1) := by decide +kernel
theorem dX8_ring_17 : decode cX8_ring 17 = .ok (.istore_n 2, 1) := by decide +kernel
theorem dX8_ring_18 : decode cX8_ring 18 = .ok (.iload_n 2, 1) := by decide +kernel
theorem dX8_ring_19 : decode cX8_ring 19 = .ok (.bipush 6, 2) := by decide +kernel
theorem dX8_ring_21 : decode cX8_ring 21 = .ok (.if_icmp .ge 129, 3) := by decide +kernel
theorem dX8_ring_24 : decode cX8_ring 24 = .ok (.aload_n 0, 1) := by decide +kernel
theorem dX8_ring_25 : decode cX8_ring 25 = .ok (.iload_n 2, 1) := by decide +kernel
theorem dX8_ring_26 : decode cX8_ring 26 = .ok (.invokevirtual 119, 3) := by decide +kernel
theorem dX8_ring_29 : decode cX8_ring 29 = .ok (.aload_n 0, 1) := by decide +kernel
theorem dX8_ring_30 : decode cX8_ring 30 = .ok (.invokevirtual 122, 3) := by decide +kernel
theorem dX8_ring_33 : decode cX8_ring 33 = .ok (.if_icmp .ne 7, 3) := by decide +kernel
theorem dX8_ring_36 : decode cX8_ring 36 = .ok (.iconst 1, 1) := by decide +kernel
theorem dX8_ring_37 : decode cX8_ring 37 = .ok (.goto 4, 3) := by decide +kernel
theorem dX8_ring_40 : decode cX8_ring 40 = .ok (.iconst 0, 1) := by decide +kernel
theorem dX8_ring_41 : decode cX8_ring 41 = .ok (.istore_n 3, 1) := by decide +kernel
theorem dX8_ring_42 : decode cX8_ring 42 = .ok (.iload_n 1, 1) := by decide +kernel
theorem dX8_ring_43 : decode cX8_ring 43 = .ok (.iload_n 3, 1) := by decide +kernel
theorem dX8_ring_44 : decode cX8_ring 44 = .ok (.ifCond .eq 7, 3) := by decide +kernel
theorem dX8_ring_47 : decode cX8_ring 47 = .ok (.iconst 1, 1) := by decide +kernel
theorem dX8_ring_48 : decode cX8_ring 48 = .ok (.goto 4, 3) := by decide +kernel
theorem dX8_ring_51 : decode cX8_ring 51 = .ok (.iconst 0, 1) := by decide +kernel
theorem dX8_ring_52 : decode cX8_ring 52 = .ok (.iadd, 1) := by decide +kernel
theorem dX8_ring_53 : decode cX8_ring 53 = .ok (.istore_n 1, 1) := by decide +kernel
theorem dX8_ring_54 : decode cX8_ring 54 = .ok (.aload_n 0, 1) := by decide +kernel
theorem dX8_ring_55 : decode cX8_ring 55 = .ok (.getfield 7, 3) := by decide +kernel
theorem dX8_ring_58 : decode cX8_ring 58 = .ok (.sipush 273, 3) := by decide +kernel
theorem dX8_ring_61 : decode cX8_ring 61 = .ok (.iload_n 2, 1) := by decide +kernel
theorem dX8_ring_62 : decode cX8_ring 62 = .ok (.iadd, 1) := by decide +kernel
theorem dX8_ring_63 : decode cX8_ring 63 = .ok (.dup2, 1) := by decide +kernel
theorem dX8_ring_64 : decode cX8_ring 64 = .ok (.iaload, 1) := by decide +kernel
theorem dX8_ring_65 : decode cX8_ring 65 = .ok (.iload_n 3, 1) := by decide +kernel
theorem dX8_ring_66 : decode cX8_ring 66 = .ok (.ifCond .eq 7, 3) := by decide +kernel
theorem dX8_ring_69 : decode cX8_ring 69 = .ok (.iconst 1, 1) := by decide +kernel
theorem dX8_ring_70 : decode cX8_ring 70 = .ok (.goto 4, 3) := by decide +kernel
theorem dX8_ring_73 : decode cX8_ring 73 = .ok (.iconst 0, 1) := by decide +kernel
theorem dX8_ring_74 : decode cX8_ring 74 = .ok (.iadd, 1) := by decide +kernel
theorem dX8_ring_75 : decode cX8_ring 75 = .ok (.iastore, 1) := by decide +kernel
theorem dX8_ring_76 : decode cX8_ring 76 = .ok (.aload_n 0, 1) := by decide +kernel
theorem dX8_ring_77 : decode cX8_ring 77 = .ok (.getfield 7, 3) := by decide +kernel
theorem dX8_ring_80 : decode cX8_ring 80 = .ok (.sipush 279, 3) := by decide +kernel
theorem dX8_ring_83 : decode cX8_ring 83 = .ok (.iload_n 2, 1) := by decide +kernel
theorem dX8_ring_84 : decode cX8_ring 84 = .ok (.iadd, 1) := by decide +kernel
theorem dX8_ring_85 : decode cX8_ring 85 = .ok (.dup2, 1) := by decide +kernel
theorem dX8_ring_86 : decode cX8_ring 86 = .ok (.iaload, 1) := by decide +kernel
theorem dX8_ring_87 : decode cX8_ring 87 = .ok (.iload_n 3, 1) := by decide +kernel
theorem dX8_ring_88 : decode cX8_ring 88 = .ok (.ifCond .eq 7, 3) := by decide +kernel
theorem dX8_ring_91 : decode cX8_ring 91 = .ok (.iconst 0, 1) := by decide +kernel
theorem dX8_ring_92 : decode cX8_ring 92 = .ok (.goto 4, 3) := by decide +kernel
theorem dX8_ring_95 : decode cX8_ring 95 = .ok (.iconst 1, 1) := by decide +kernel
theorem dX8_ring_96 : decode cX8_ring 96 = .ok (.iadd, 1) := by decide +kernel
theorem dX8_ring_97 : decode cX8_ring 97 = .ok (.iastore, 1) := by decide +kernel
theorem dX8_ring_98 : decode cX8_ring 98 = .ok (.iconst 0, 1) := by decide +kernel
theorem dX8_ring_99 : decode cX8_ring 99 = .ok (.istore 4, 2) := by decide +kernel
theorem dX8_ring_101 : decode cX8_ring 101 = .ok (.iload 4, 2) := by decide +kernel
theorem dX8_ring_103 : decode cX8_ring 103 = .ok (.aload_n 0, 1) := by decide +kernel
theorem dX8_ring_104 : decode cX8_ring 104 = .ok (.getfield 7, 3) := by decide +kernel
theorem dX8_ring_107 : decode cX8_ring 107 = .ok (.bipush 80, 2) := by decide +kernel
theorem dX8_ring_109 : decode cX8_ring 109 = .ok (.iaload, 1) := by decide +kernel
theorem dX8_ring_110 : decode cX8_ring 110 = .ok (.if_icmp .ge 34, 3) := by decide +kernel
theorem dX8_ring_113 : decode cX8_ring 113 = .ok (.aload_n 0, 1) := by decide +kernel
theorem dX8_ring_114 : decode cX8_ring 114 = .ok (.getfield 7, 3) := by decide +kernel
theorem dX8_ring_117 : decode cX8_ring 117 = .ok (.sipush 177, 3) := by decide +kernel
theorem dX8_ring_120 : decode cX8_ring 120 = .ok (.bipush 16, 2) := by decide +kernel
theorem dX8_ring_122 : decode cX8_ring 122 = .ok (.iload_n 2, 1) := by decide +kernel
theorem dX8_ring_123 : decode cX8_ring 123 = .ok (.imul, 1) := by decide +kernel
theorem dX8_ring_124 : decode cX8_ring 124 = .ok (.iadd, 1) := by decide +kernel
theorem dX8_ring_125 : decode cX8_ring 125 = .ok (.iload 4, 2) := by decide +kernel
theorem dX8_ring_127 : decode cX8_ring 127 = .ok (.iadd, 1) := by decide +kernel
theorem dX8_ring_128 : decode cX8_ring 128 = .ok (.dup2, 1) := by decide +kernel
theorem dX8_ring_129 : decode cX8_ring 129 = .ok (.iaload, 1) := by decide +kernel
theorem dX8_ring_130 : decode cX8_ring 130 = .ok (.aload_n 0, 1) := by decide +kernel
theorem dX8_ring_131 : decode cX8_ring 131 = .ok (.iload 4, 2) := by decide +kernel
theorem dX8_ring_133 : decode cX8_ring 133 = .ok (.invokevirtual 81, 3) := by decide +kernel
theorem dX8_ring_136 : decode cX8_ring 136 = .ok (.iadd, 1) := by decide +kernel
theorem dX8_ring_137 : decode cX8_ring 137 = .ok (.iastore, 1) := by decide +kernel
theorem dX8_ring_138 : decode cX8_ring 138 = .ok (.iinc 4 1, 3) := by decide +kernel
theorem dX8_ring_141 : decode cX8_ring 141 = .ok (.goto (-40), 3) := by decide +kernel
theorem dX8_ring_144 : decode cX8_ring 144 = .ok (.iinc 2 1, 3) := by decide +kernel
theorem dX8_ring_147 : decode cX8_ring 147 = .ok (.goto (-129), 3) := by decide +kernel
theorem dX8_ring_150 : decode cX8_ring 150 = .ok (.aload_n 0, 1) := by decide +kernel
theorem dX8_ring_151 : decode cX8_ring 151 = .ok (.getfield 7, 3) := by decide +kernel
theorem dX8_ring_154 : decode cX8_ring 154 = .ok (.sipush 288, 3) := by decide +kernel
theorem dX8_ring_157 : decode cX8_ring 157 = .ok (.dup2, 1) := by decide +kernel
theorem dX8_ring_158 : decode cX8_ring 158 = .ok (.iaload, 1) := by decide +kernel
theorem dX8_ring_159 : decode cX8_ring 159 = .ok (.iconst 1, 1) := by decide +kernel
theorem dX8_ring_160 : decode cX8_ring 160 = .ok (.iadd, 1) := by decide +kernel
theorem dX8_ring_161 : decode cX8_ring 161 = .ok (.iastore, 1) := by decide +kernel
theorem dX8_ring_162 : decode cX8_ring 162 = .ok (.iload_n 1, 1) := by decide +kernel
theorem dX8_ring_163 : decode cX8_ring 163 = .ok (.ireturn, 1) := by decide +kernel
set_option maxHeartbeats 4000000 in
set_option maxRecDepth 100000 in
theorem tX8_ring_101 (l : Launch) {E : ET} (hE : Aj E) {p : Program} {e : Env} {s : State} {m : MethodId} {args : Array Value} {below : List Frame} {meth : Method} {c : Code} (X : Cx p (rmL 7) s m args c yX8_ring.cls cX8_ring 5 E (Aw E) 0 0) (hr : meth.sig.returnType = (some .int)) (hk : meth.locks = false) {r : Int32} {G' : GT} (a1 : Int32) (a2 : Int32) (k18 : GT → Int32 → Int32 → Option (Int32 × GT)) (hk18 : ∀ (G : GT) (a1 a2 : Int32), k18 G a1 a2 = some (r, G') → J p l e (rmL 7) s m args below meth c E (Aw E) s.heap 5 0 0 (MQ below (QI E r G') args s 0 0 (Aw E)) G 18 [(0, .ref (Ad E 22 0)), (1, .int a1), (2, .int a2)] []) : ∀ (n : Nat) (G : GT) (a4 : Int32), fX8_ring_101 a1 a2 k18 n G a4 = some (r, G') → J p l e (rmL 7) s m args below meth c E (Aw E) s.heap 5 0 0 (MQ below (QI E r G') args s 0 0 (Aw E)) G 101 [(0, .ref (Ad E 22 0)), (1, .int a1), (2, .int a2), (4, .int a4)] [] := by
  intro n
  induction n with
  | zero =>
    intro G a4 h
    simp [fX8_ring_101] at h
  | succ n ih =>
    intro G a4 h
    rw [fX8_ring_101] at h
    refine j_iload (pc := 101) X dX8_ring_101 3 rfl ?_
    refine j_aload_n (pc := 103) X dX8_ring_103 rfl 0 rfl ?_
    refine j_get (pc := 104) (v := .ref (Ad E 23 0)) X gf_X8_7 (by decide) rfl rfl dX8_ring_104 ?_
    refine j_bipush (pc := 107) (v := 80) X dX8_ring_107 (by decide) ?_
    obtain ⟨hg1, h⟩ := gd_s h
    refine j_iald (pc := 109) (n := 289) X (by decide) rfl hg1 dX8_ring_109 ?_
    refine j_icmp_ge (pc := 110) (tgt := 144) X dX8_ring_110 (by decide) (fun hc => ?_) (fun hc => ?_)
    · rw [if_pos hc] at h
      refine j_iinc (pc := 144) (q := 2) (v := (a2 + (1 : Int32))) (lv' := [(0, .ref (Ad E 22 0)), (1, .int a1), (2, .int (a2 + (1 : Int32))), (4, .int a4)]) X dX8_ring_144 rfl rfl (by decide) rfl ?_
      refine j_goto (pc := 147) (tgt := 18) X dX8_ring_147 (by decide) ?_
      refine j_lv (lv' := [(0, .ref (Ad E 22 0)), (1, .int a1), (2, .int (a2 + (1 : Int32)))]) [0, 1, 2] rfl ?_
      exact hk18 G a1 (a2 + (1 : Int32)) h
    · rw [if_neg hc] at h
      refine j_aload_n (pc := 113) X dX8_ring_113 rfl 0 rfl ?_
      refine j_get (pc := 114) (v := .ref (Ad E 23 0)) X gf_X8_7 (by decide) rfl rfl dX8_ring_114 ?_
      refine j_sipush (pc := 117) (v := 177) X dX8_ring_117 (by decide) ?_
      refine j_bipush (pc := 120) (v := 16) X dX8_ring_120 (by decide) ?_
      refine j_iload_n (pc := 122) X dX8_ring_122 rfl 2 rfl ?_
      refine j_imul (pc := 123) X dX8_ring_123 ?_
      refine j_iadd (pc := 124) X dX8_ring_124 ?_
      refine j_iload (pc := 125) X dX8_ring_125 3 rfl ?_
      refine j_iadd (pc := 127) X dX8_ring_127 ?_
      refine j_dup2 (pc := 128) X dX8_ring_128 rfl rfl ?_
      obtain ⟨hg2, h⟩ := gd_s h
      refine j_iald (pc := 129) (n := 289) X (by decide) rfl hg2 dX8_ring_129 ?_
      refine j_aload_n (pc := 130) X dX8_ring_130 rfl 0 rfl ?_
      refine j_iload (pc := 131) X dX8_ring_131 3 rfl ?_
      obtain ⟨r3, hc5, h⟩ := bd_s h
      refine j_callI (pc := 133) X (tX8_runsOf l hE G a4 hc5) muX8_runsOf (by decide) q817 rfl rfl (Nat.le_of_ble_eq_true rfl) ⟨Nat.le_of_ble_eq_true rfl, Nat.le_of_ble_eq_true rfl⟩ dX8_ring_133 ?_
      refine j_iadd (pc := 136) X dX8_ring_136 ?_
      obtain ⟨hg6, h⟩ := gd_s h
      obtain ⟨G7, hG7, h⟩ := st3_s h
      refine j_iast (pc := 137) (n := 289) X hG7 (by decide) (fun _ => rfl) hg6 dX8_ring_137 ?_
      refine j_iinc (pc := 138) (q := 3) (v := (a4 + (1 : Int32))) (lv' := [(0, .ref (Ad E 22 0)), (1, .int a1), (2, .int a2), (4, .int (a4 + (1 : Int32)))]) X dX8_ring_138 rfl rfl (by decide) rfl ?_
      refine j_goto (pc := 141) (tgt := 101) X dX8_ring_141 (by decide) ?_
      exact ih G7 (a4 + (1 : Int32)) h
set_option maxHeartbeats 4000000 in
set_option maxRecDepth 100000 in
theorem tX8_ring_74 (l : Launch) {E : ET} (hE : Aj E) {p : Program} {e : Env} {s : State} {m : MethodId} {args : Array Value} {below : List Frame} {meth : Method} {c : Code} (X : Cx p (rmL 7) s m args c yX8_ring.cls cX8_ring 5 E (Aw E) 0 0) (hr : meth.sig.returnType = (some .int)) (hk : meth.locks = false) {r : Int32} {G' : GT} (G : GT) (a1 : Int32) (a2 : Int32) (a3 : Int32) (s1 : Int32) (s2 : Int32) (s3 : Int32) (k18 : GT → Int32 → Int32 → Option (Int32 × GT)) (hk18 : ∀ (G : GT) (a1 a2 : Int32), k18 G a1 a2 = some (r, G') → J p l e (rmL 7) s m args below meth c E (Aw E) s.heap 5 0 0 (MQ below (QI E r G') args s 0 0 (Aw E)) G 18 [(0, .ref (Ad E 22 0)), (1, .int a1), (2, .int a2)] []) (h : fX8_ring_74 G a1 a2 a3 s1 s2 s3 k18 = some (r, G')) : J p l e (rmL 7) s m args below meth c E (Aw E) s.heap 5 0 0 (MQ below (QI E r G') args s 0 0 (Aw E)) G 74 [(0, .ref (Ad E 22 0)), (1, .int a1), (2, .int a2), (3, .int a3)] [.int s3, .int s2, .int s1, .ref (Ad E 23 0)] := by
  unfold fX8_ring_74 at h
  refine j_iadd (pc := 74) X dX8_ring_74 ?_
  obtain ⟨hg1, h⟩ := gd_s h
  obtain ⟨G2, hG2, h⟩ := st3_s h
  refine j_iast (pc := 75) (n := 289) X hG2 (by decide) (fun _ => rfl) hg1 dX8_ring_75 ?_
  refine j_aload_n (pc := 76) X dX8_ring_76 rfl 0 rfl ?_
  refine j_get (pc := 77) (v := .ref (Ad E 23 0)) X gf_X8_7 (by decide) rfl rfl dX8_ring_77 ?_
  refine j_sipush (pc := 80) (v := 279) X dX8_ring_80 (by decide) ?_
  refine j_iload_n (pc := 83) X dX8_ring_83 rfl 2 rfl ?_
  refine j_iadd (pc := 84) X dX8_ring_84 ?_
  refine j_dup2 (pc := 85) X dX8_ring_85 rfl rfl ?_
  obtain ⟨hg3, h⟩ := gd_s h
  refine j_iald (pc := 86) (n := 289) X (by decide) rfl hg3 dX8_ring_86 ?_
  refine j_iload_n (pc := 87) X dX8_ring_87 rfl 3 rfl ?_
  refine j_if_eq (pc := 88) (tgt := 95) X dX8_ring_88 (by decide) (fun hc => ?_) (fun hc => ?_)
  · rw [if_pos hc] at h
    refine j_iconst (pc := 95) (v := 1) X dX8_ring_95 (by decide) ?_
    refine j_iadd (pc := 96) X dX8_ring_96 ?_
    obtain ⟨hg4, h⟩ := gd_s h
    obtain ⟨G5, hG5, h⟩ := st3_s h
    refine j_iast (pc := 97) (n := 289) X hG5 (by decide) (fun _ => rfl) hg4 dX8_ring_97 ?_
    refine j_iconst (pc := 98) (v := 0) X dX8_ring_98 (by decide) ?_
    refine j_istore (pc := 99) (lv' := [(0, .ref (Ad E 22 0)), (1, .int a1), (2, .int a2), (3, .int a3), (4, .int (0 : Int32))]) X dX8_ring_99 (by decide) rfl ?_
    refine j_lv (lv' := [(0, .ref (Ad E 22 0)), (1, .int a1), (2, .int a2), (4, .int (0 : Int32))]) [0, 1, 2, 4] rfl ?_
    exact tX8_ring_101 l hE X hr hk a1 a2 k18 hk18 FU G5 (0 : Int32) h
  · rw [if_neg hc] at h
    refine j_iconst (pc := 91) (v := 0) X dX8_ring_91 (by decide) ?_
    refine j_goto (pc := 92) (tgt := 96) X dX8_ring_92 (by decide) ?_
    refine j_iadd (pc := 96) X dX8_ring_96 ?_
    obtain ⟨hg6, h⟩ := gd_s h
    obtain ⟨G7, hG7, h⟩ := st3_s h
    refine j_iast (pc := 97) (n := 289) X hG7 (by decide) (fun _ => rfl) hg6 dX8_ring_97 ?_
    refine j_iconst (pc := 98) (v := 0) X dX8_ring_98 (by decide) ?_
    refine j_istore (pc := 99) (lv' := [(0, .ref (Ad E 22 0)), (1, .int a1), (2, .int a2), (3, .int a3), (4, .int (0 : Int32))]) X dX8_ring_99 (by decide) rfl ?_
    refine j_lv (lv' := [(0, .ref (Ad E 22 0)), (1, .int a1), (2, .int a2), (4, .int (0 : Int32))]) [0, 1, 2, 4] rfl ?_
    exact tX8_ring_101 l hE X hr hk a1 a2 k18 hk18 FU G7 (0 : Int32) h
set_option maxHeartbeats 4000000 in
set_option maxRecDepth 100000 in
theorem tX8_ring_52 (l : Launch) {E : ET} (hE : Aj E) {p : Program} {e : Env} {s : State} {m : MethodId} {args : Array Value} {below : List Frame} {meth : Method} {c : Code} (X : Cx p (rmL 7) s m args c yX8_ring.cls cX8_ring 5 E (Aw E) 0 0) (hr : meth.sig.returnType = (some .int)) (hk : meth.locks = false) {r : Int32} {G' : GT} (G : GT) (a2 : Int32) (a3 : Int32) (s0 : Int32) (s1 : Int32) (k18 : GT → Int32 → Int32 → Option (Int32 × GT)) (hk18 : ∀ (G : GT) (a1 a2 : Int32), k18 G a1 a2 = some (r, G') → J p l e (rmL 7) s m args below meth c E (Aw E) s.heap 5 0 0 (MQ below (QI E r G') args s 0 0 (Aw E)) G 18 [(0, .ref (Ad E 22 0)), (1, .int a1), (2, .int a2)] []) (h : fX8_ring_52 G a2 a3 s0 s1 k18 = some (r, G')) : J p l e (rmL 7) s m args below meth c E (Aw E) s.heap 5 0 0 (MQ below (QI E r G') args s 0 0 (Aw E)) G 52 [(0, .ref (Ad E 22 0)), (2, .int a2), (3, .int a3)] [.int s1, .int s0] := by
  unfold fX8_ring_52 at h
  refine j_iadd (pc := 52) X dX8_ring_52 ?_
  refine j_istore_n (pc := 53) (lv' := [(0, .ref (Ad E 22 0)), (1, .int (s0 + s1)), (2, .int a2), (3, .int a3)]) X dX8_ring_53 rfl (by decide) rfl ?_
  refine j_aload_n (pc := 54) X dX8_ring_54 rfl 0 rfl ?_
  refine j_get (pc := 55) (v := .ref (Ad E 23 0)) X gf_X8_7 (by decide) rfl rfl dX8_ring_55 ?_
  refine j_sipush (pc := 58) (v := 273) X dX8_ring_58 (by decide) ?_
  refine j_iload_n (pc := 61) X dX8_ring_61 rfl 2 rfl ?_
  refine j_iadd (pc := 62) X dX8_ring_62 ?_
  refine j_dup2 (pc := 63) X dX8_ring_63 rfl rfl ?_
  obtain ⟨hg1, h⟩ := gd_s h
  refine j_iald (pc := 64) (n := 289) X (by decide) rfl hg1 dX8_ring_64 ?_
  refine j_iload_n (pc := 65) X dX8_ring_65 rfl 3 rfl ?_
  refine j_if_eq (pc := 66) (tgt := 73) X dX8_ring_66 (by decide) (fun hc => ?_) (fun hc => ?_)
  · rw [if_pos hc] at h
    refine j_iconst (pc := 73) (v := 0) X dX8_ring_73 (by decide) ?_
    exact tX8_ring_74 l hE X hr hk G (s0 + s1) a2 a3 ((273 : Int32) + a2) (G 23 0 ((273 : Int32) + a2).toNatClampNeg) (0 : Int32) k18 hk18 h
  · rw [if_neg hc] at h
    refine j_iconst (pc := 69) (v := 1) X dX8_ring_69 (by decide) ?_
    refine j_goto (pc := 70) (tgt := 74) X dX8_ring_70 (by decide) ?_
    exact tX8_ring_74 l hE X hr hk G (s0 + s1) a2 a3 ((273 : Int32) + a2) (G 23 0 ((273 : Int32) + a2).toNatClampNeg) (1 : Int32) k18 hk18 h
set_option maxHeartbeats 4000000 in
set_option maxRecDepth 100000 in
theorem tX8_ring_41 (l : Launch) {E : ET} (hE : Aj E) {p : Program} {e : Env} {s : State} {m : MethodId} {args : Array Value} {below : List Frame} {meth : Method} {c : Code} (X : Cx p (rmL 7) s m args c yX8_ring.cls cX8_ring 5 E (Aw E) 0 0) (hr : meth.sig.returnType = (some .int)) (hk : meth.locks = false) {r : Int32} {G' : GT} (G : GT) (a1 : Int32) (a2 : Int32) (s0 : Int32) (k18 : GT → Int32 → Int32 → Option (Int32 × GT)) (hk18 : ∀ (G : GT) (a1 a2 : Int32), k18 G a1 a2 = some (r, G') → J p l e (rmL 7) s m args below meth c E (Aw E) s.heap 5 0 0 (MQ below (QI E r G') args s 0 0 (Aw E)) G 18 [(0, .ref (Ad E 22 0)), (1, .int a1), (2, .int a2)] []) (h : fX8_ring_41 G a1 a2 s0 k18 = some (r, G')) : J p l e (rmL 7) s m args below meth c E (Aw E) s.heap 5 0 0 (MQ below (QI E r G') args s 0 0 (Aw E)) G 41 [(0, .ref (Ad E 22 0)), (1, .int a1), (2, .int a2)] [.int s0] := by
  unfold fX8_ring_41 at h
  refine j_istore_n (pc := 41) (lv' := [(0, .ref (Ad E 22 0)), (1, .int a1), (2, .int a2), (3, .int s0)]) X dX8_ring_41 rfl (by decide) rfl ?_
  refine j_iload_n (pc := 42) X dX8_ring_42 rfl 1 rfl ?_
  refine j_iload_n (pc := 43) X dX8_ring_43 rfl 3 rfl ?_
  refine j_if_eq (pc := 44) (tgt := 51) X dX8_ring_44 (by decide) (fun hc => ?_) (fun hc => ?_)
  · rw [if_pos hc] at h
    refine j_iconst (pc := 51) (v := 0) X dX8_ring_51 (by decide) ?_
    refine j_lv (lv' := [(0, .ref (Ad E 22 0)), (2, .int a2), (3, .int s0)]) [0, 2, 3] rfl ?_
    exact tX8_ring_52 l hE X hr hk G a2 s0 a1 (0 : Int32) k18 hk18 h
  · rw [if_neg hc] at h
    refine j_iconst (pc := 47) (v := 1) X dX8_ring_47 (by decide) ?_
    refine j_goto (pc := 48) (tgt := 52) X dX8_ring_48 (by decide) ?_
    refine j_lv (lv' := [(0, .ref (Ad E 22 0)), (2, .int a2), (3, .int s0)]) [0, 2, 3] rfl ?_
    exact tX8_ring_52 l hE X hr hk G a2 s0 a1 (1 : Int32) k18 hk18 h
set_option maxHeartbeats 4000000 in
set_option maxRecDepth 100000 in
theorem tX8_ring_18 (l : Launch) {E : ET} (hE : Aj E) {p : Program} {e : Env} {s : State} {m : MethodId} {args : Array Value} {below : List Frame} {meth : Method} {c : Code} (X : Cx p (rmL 7) s m args c yX8_ring.cls cX8_ring 5 E (Aw E) 0 0) (hr : meth.sig.returnType = (some .int)) (hk : meth.locks = false) {r : Int32} {G' : GT}  : ∀ (n : Nat) (G : GT) (a1 a2 : Int32), fX8_ring_18  n G a1 a2 = some (r, G') → J p l e (rmL 7) s m args below meth c E (Aw E) s.heap 5 0 0 (MQ below (QI E r G') args s 0 0 (Aw E)) G 18 [(0, .ref (Ad E 22 0)), (1, .int a1), (2, .int a2)] [] := by
  intro n
  induction n with
  | zero =>
    intro G a1 a2 h
    simp [fX8_ring_18] at h
  | succ n ih =>
    intro G a1 a2 h
    rw [fX8_ring_18] at h
    refine j_iload_n (pc := 18) X dX8_ring_18 rfl 2 rfl ?_
    refine j_bipush (pc := 19) (v := 6) X dX8_ring_19 (by decide) ?_
    refine j_icmp_ge (pc := 21) (tgt := 150) X dX8_ring_21 (by decide) (fun hc => ?_) (fun hc => ?_)
    · rw [if_pos hc] at h
      refine j_aload_n (pc := 150) X dX8_ring_150 rfl 0 rfl ?_
      refine j_get (pc := 151) (v := .ref (Ad E 23 0)) X gf_X8_7 (by decide) rfl rfl dX8_ring_151 ?_
      refine j_sipush (pc := 154) (v := 288) X dX8_ring_154 (by decide) ?_
      refine j_dup2 (pc := 157) X dX8_ring_157 rfl rfl ?_
      obtain ⟨hg1, h⟩ := gd_s h
      refine j_iald (pc := 158) (n := 289) X (by decide) rfl hg1 dX8_ring_158 ?_
      refine j_iconst (pc := 159) (v := 1) X dX8_ring_159 (by decide) ?_
      refine j_iadd (pc := 160) X dX8_ring_160 ?_
      obtain ⟨hg2, h⟩ := gd_s h
      obtain ⟨G3, hG3, h⟩ := st3_s h
      refine j_iast (pc := 161) (n := 289) X hG3 (by decide) (fun _ => rfl) hg2 dX8_ring_161 ?_
      refine j_iload_n (pc := 162) X dX8_ring_162 rfl 1 rfl ?_
      exact j_ret (pc := 163) X hr hk (vp_nar_int _) (pr_s h).1 (pr_s h).2 dX8_ring_163
    · rw [if_neg hc] at h
      refine j_aload_n (pc := 24) X dX8_ring_24 rfl 0 rfl ?_
      refine j_iload_n (pc := 25) X dX8_ring_25 rfl 2 rfl ?_
      obtain ⟨r4, hc6, h⟩ := bd_s h
      refine j_callI (pc := 26) X (tX8_answerOf l hE G a2 hc6) muX8_answerOf (by decide) q805 rfl rfl (Nat.le_of_ble_eq_true rfl) ⟨Nat.le_of_ble_eq_true rfl, Nat.le_of_ble_eq_true rfl⟩ dX8_ring_26 ?_
      refine j_aload_n (pc := 29) X dX8_ring_29 rfl 0 rfl ?_
      obtain ⟨r7, hc9, h⟩ := bd_s h
      refine j_callI (pc := 30) X (tX8_rightAnswer l hE G  hc9) muX8_rightAnswer (by decide) q821 rfl rfl (Nat.le_of_ble_eq_true rfl) ⟨Nat.le_of_ble_eq_true rfl, Nat.le_of_ble_eq_true rfl⟩ dX8_ring_30 ?_
      refine j_icmp_ne (pc := 33) (tgt := 40) X dX8_ring_33 (by decide) (fun hc => ?_) (fun hc => ?_)
      · rw [if_neg hc] at h
        refine j_iconst (pc := 40) (v := 0) X dX8_ring_40 (by decide) ?_
        exact tX8_ring_41 l hE X hr hk G a1 a2 (0 : Int32) (fX8_ring_18  n) ih h
      · rw [if_pos hc] at h
        refine j_iconst (pc := 36) (v := 1) X dX8_ring_36 (by decide) ?_
        refine j_goto (pc := 37) (tgt := 41) X dX8_ring_37 (by decide) ?_
        exact tX8_ring_41 l hE X hr hk G a1 a2 (1 : Int32) (fX8_ring_18  n) ih h
set_option maxHeartbeats 4000000 in
set_option maxRecDepth 100000 in
theorem tX8_ring (l : Launch) {E : ET} (hE : Aj E) (G : GT) {r : Int32} {G' : GT} (h : fX8_ring G = some (r, G')) : CI l E yX8_ring cX8_ring 5 (some .int) 7 [.ref (Ad E 22 0)] G r G' := by
  refine Met_I (lv := [(0, .ref (Ad E 22 0))]) (by decide +kernel) hE (Nat.le_of_ble_eq_true rfl) rfl ?_
  intro p e s m args below meth c X hr hk
  unfold fX8_ring at h
  refine j_aload_n (pc := 0) X dX8_ring_0 rfl 0 rfl ?_
  obtain ⟨r1, hc3, h⟩ := bd_s h
  refine j_callI (pc := 1) X (tX8_wordRuns l hE G  hc3) muX8_wordRuns (by decide) q789 rfl rfl (Nat.le_of_ble_eq_true rfl) ⟨Nat.le_of_ble_eq_true rfl, Nat.le_of_ble_eq_true rfl⟩ dX8_ring_1 ?_
  refine j_if_ne (pc := 4) (tgt := 10) X dX8_ring_4 (by decide) (fun hc => ?_) (fun hc => ?_)
  · rw [if_neg hc] at h
    refine j_aload_n (pc := 10) X dX8_ring_10 rfl 0 rfl ?_
    obtain ⟨G5, hc6, h⟩ := bd_s h
    refine j_callV (pc := 11) X (tX8_record l hE G  hc6) muX8_record (by decide) q703 rfl rfl (Nat.le_of_ble_eq_true rfl) ⟨Nat.le_of_ble_eq_true rfl, Nat.le_of_ble_eq_true rfl⟩ dX8_ring_11 ?_
    refine j_iconst (pc := 14) (v := 0) X dX8_ring_14 (by decide) ?_
    refine j_istore_n (pc := 15) (lv' := [(0, .ref (Ad E 22 0)), (1, .int (0 : Int32))]) X dX8_ring_15 rfl (by decide) rfl ?_
    refine j_iconst (pc := 16) (v := 0) X dX8_ring_16 (by decide) ?_
    refine j_istore_n (pc := 17) (lv' := [(0, .ref (Ad E 22 0)), (1, .int (0 : Int32)), (2, .int (0 : Int32))]) X dX8_ring_17 rfl (by decide) rfl ?_
    exact tX8_ring_18 l hE X hr hk  FU G5 (0 : Int32) (0 : Int32) h
  · rw [if_pos hc] at h
    refine j_bipush (pc := 7) (v := (-5)) X dX8_ring_7 (by decide) ?_
    exact j_ret (pc := 9) X hr hk (vp_nar_int _) (pr_s h).1 (pr_s h).2 dX8_ring_9
