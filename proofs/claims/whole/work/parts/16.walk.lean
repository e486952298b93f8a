theorem dX8_isSafe_0 : decode cX8_isSafe 0 = .ok (.iconst 1, 1) := by decide +kernel
theorem dX8_isSafe_1 : decode cX8_isSafe 1 = .ok (.istore_n 2, 1) := by decide +kernel
theorem dX8_isSafe_2 : decode cX8_isSafe 2 = .ok (.iconst 0, 1) := by decide +kernel
theorem dX8_isSafe_3 : decode cX8_isSafe 3 = .ok (.istore_n 3, 1) := by decide +kernel
theorem dX8_isSafe_4 : decode cX8_isSafe 4 = .ok (.iload_n 3, 1) := by decide +kernel
theorem dX8_isSafe_5 : decode cX8_isSafe 5 = .ok (.bipush 20, 2) := by decide +kernel
theorem dX8_isSafe_7 : decode cX8_isSafe 7 = .ok (.if_icmp .gt 50, 3) := by decide +kernel
theorem dX8_isSafe_10 : decode cX8_isSafe 10 = .ok (.aload_n 0, 1) := by decide +kernel
theorem dX8_isSafe_11 : decode cX8_isSafe 11 = .ok (.iload_n 3, 1) := by decide +kernel
theorem dX8_isSafe_12 : decode cX8_isSafe 12 = .ok (.invokevirtual 155, 3) := by decide +kernel
theorem dX8_isSafe_15 : decode cX8_isSafe 15 = .ok (.istore 4, 2) := by decide +kernel
theorem dX8_isSafe_17 : decode cX8_isSafe 17 = .ok (.aload_n 0, 1) := by decide +kernel
theorem dX8_isSafe_18 : decode cX8_isSafe 18 = .ok (.invokevirtual 84, 3) := by decide +kernel
theorem dX8_isSafe_21 : decode cX8_isSafe 21 = .ok (.aload_n 0, 1) := by decide +kernel
theorem dX8_isSafe_22 : decode cX8_isSafe 22 = .ok (.iload_n 1, 1) := by decide +kernel
theorem dX8_isSafe_23 : decode cX8_isSafe 23 = .ok (.invokevirtual 87, 3) := by decide +kernel
theorem dX8_isSafe_26 : decode cX8_isSafe 26 = .ok (.pop, 1) := by decide +kernel
theorem dX8_isSafe_27 : decode cX8_isSafe 27 = .ok (.iload_n 2, 1) := by decide +kernel
theorem dX8_isSafe_28 : decode cX8_isSafe 28 = .ok (.ifCond .eq 17, 3) := by decide +kernel
theorem dX8_isSafe_31 : decode cX8_isSafe 31 = .ok (.aload_n 0, 1) := by decide +kernel
theorem dX8_isSafe_32 : decode cX8_isSafe 32 = .ok (.iload_n 3, 1) := by decide +kernel
theorem dX8_isSafe_33 : decode cX8_isSafe 33 = .ok (.invokevirtual 155, 3) := by decide +kernel
theorem dX8_isSafe_36 : decode cX8_isSafe 36 = .ok (.iload 4, 2) := by decide +kernel
theorem dX8_isSafe_38 : decode cX8_isSafe 38 = .ok (.if_icmp .ne 7, 3) := by decide +kernel
theorem dX8_isSafe_41 : decode cX8_isSafe 41 = .ok (.iconst 1, 1) := by decide +kernel
theorem dX8_isSafe_42 : decode cX8_isSafe 42 = .ok (.goto 4, 3) := by decide +kernel
theorem dX8_isSafe_45 : decode cX8_isSafe 45 = .ok (.iconst 0, 1) := by decide +kernel
theorem dX8_isSafe_46 : decode cX8_isSafe 46 = .ok (.istore_n 2, 1) := by decide +kernel
theorem dX8_isSafe_47 : decode cX8_isSafe 47 = .ok (.aload_n 0, 1) := by decide +kernel
theorem dX8_isSafe_48 : decode cX8_isSafe 48 = .ok (.invokevirtual 90, 3) := by decide +kernel
theorem dX8_isSafe_51 : decode cX8_isSafe 51 = .ok (.iinc 3 1, 3) := by decide +kernel
theorem dX8_isSafe_54 : decode cX8_isSafe 54 = .ok (.goto (-50), 3) := by decide +kernel
theorem dX8_isSafe_57 : decode cX8_isSafe 57 = .ok (.iload_n 2, 1) := by decide +kernel
theorem dX8_isSafe_58 : decode cX8_isSafe 58 = .ok (.ireturn, 1) := by decide +kernel
set_option maxHeartbeats 4000000 in
set_option maxRecDepth 100000 in
theorem tX8_isSafe_4 (l : Launch) {E : ET} (hE : Aj E) {p : Program} {e : Env} {s : State} {m : MethodId} {args : Array Value} {below : List Frame} {meth : Method} {c : Code} (X : Cx p (rmL 6) s m args c yX8_isSafe.cls cX8_isSafe 5 E (Aw E) 0 0) (hr : meth.sig.returnType = (some .boolean)) (hk : meth.locks = false) {r : Int32} {G' : GT} (a1 : Int32) : ∀ (n : Nat) (G : GT) (a2 a3 : Int32), fX8_isSafe_4 a1 n G a2 a3 = some (r, G') → J p l e (rmL 6) s m args below meth c E (Aw E) s.heap 5 0 0 (MQ below (QI E r G') args s 0 0 (Aw E)) G 4 [(0, .ref (Ad E 22 0)), (1, .int a1), (2, .int a2), (3, .int a3)] [] := by
  intro n
  induction n with
  | zero =>
    intro G a2 a3 h
    simp [fX8_isSafe_4] at h
  | succ n ih =>
    intro G a2 a3 h
    rw [fX8_isSafe_4] at h
    refine j_iload_n (pc := 4) X dX8_isSafe_4 rfl 3 rfl ?_
    refine j_bipush (pc := 5) (v := 20) X dX8_isSafe_5 (by decide) ?_
    refine j_icmp_gt (pc := 7) (tgt := 57) X dX8_isSafe_7 (by decide) (fun hc => ?_) (fun hc => ?_)
    · rw [if_pos hc] at h
      refine j_iload_n (pc := 57) X dX8_isSafe_57 rfl 2 rfl ?_
      obtain ⟨hg1, h⟩ := gd_s h
      exact j_ret (pc := 58) X hr hk (of_decide_eq_true hg1) (pr_s h).1 (pr_s h).2 dX8_isSafe_58
    · rw [if_neg hc] at h
      refine j_aload_n (pc := 10) X dX8_isSafe_10 rfl 0 rfl ?_
      refine j_iload_n (pc := 11) X dX8_isSafe_11 rfl 3 rfl ?_
      obtain ⟨r2, hc4, h⟩ := bd_s h
      refine j_callI (pc := 12) X (tX8_wordAt l hE G a3 hc4) muX8_wordAt (by decide) q936 rfl rfl (Nat.le_of_ble_eq_true rfl) ⟨Nat.le_of_ble_eq_true rfl, Nat.le_of_ble_eq_true rfl⟩ dX8_isSafe_12 ?_
      refine j_istore (pc := 15) (lv' := [(0, .ref (Ad E 22 0)), (1, .int a1), (2, .int a2), (3, .int a3), (4, .int r2)]) X dX8_isSafe_15 (by decide) rfl ?_
      refine j_aload_n (pc := 17) X dX8_isSafe_17 rfl 0 rfl ?_
      obtain ⟨G6, hc7, h⟩ := bd_s h
      refine j_callV (pc := 18) X (tX8_putAside l hE G  hc7) muX8_putAside (by decide) q741 rfl rfl (Nat.le_of_ble_eq_true rfl) ⟨Nat.le_of_ble_eq_true rfl, Nat.le_of_ble_eq_true rfl⟩ dX8_isSafe_18 ?_
      refine j_aload_n (pc := 21) X dX8_isSafe_21 rfl 0 rfl ?_
      refine j_iload_n (pc := 22) X dX8_isSafe_22 rfl 1 rfl ?_
      obtain ⟨r8, G9, hc10, h⟩ := bd2_s h
      refine j_callI (pc := 23) X (tX8_doPull l hE G6 a1 hc10) muX8_doPull (by decide) q745 rfl rfl (Nat.le_of_ble_eq_true rfl) ⟨Nat.le_of_ble_eq_true rfl, Nat.le_of_ble_eq_true rfl⟩ dX8_isSafe_23 ?_
      refine j_pop (pc := 26) X dX8_isSafe_26 rfl ?_
      refine j_iload_n (pc := 27) X dX8_isSafe_27 rfl 2 rfl ?_
      refine j_if_eq (pc := 28) (tgt := 45) X dX8_isSafe_28 (by decide) (fun hc => ?_) (fun hc => ?_)
      · rw [if_pos hc] at h
        refine j_iconst (pc := 45) (v := 0) X dX8_isSafe_45 (by decide) ?_
        refine j_istore_n (pc := 46) (lv' := [(0, .ref (Ad E 22 0)), (1, .int a1), (2, .int (0 : Int32)), (3, .int a3), (4, .int r2)]) X dX8_isSafe_46 rfl (by decide) rfl ?_
        refine j_aload_n (pc := 47) X dX8_isSafe_47 rfl 0 rfl ?_
        obtain ⟨G12, hc13, h⟩ := bd_s h
        refine j_callV (pc := 48) X (tX8_putBack l hE G9  hc13) muX8_putBack (by decide) q749 rfl rfl (Nat.le_of_ble_eq_true rfl) ⟨Nat.le_of_ble_eq_true rfl, Nat.le_of_ble_eq_true rfl⟩ dX8_isSafe_48 ?_
        refine j_iinc (pc := 51) (q := 3) (v := (a3 + (1 : Int32))) (lv' := [(0, .ref (Ad E 22 0)), (1, .int a1), (2, .int (0 : Int32)), (3, .int (a3 + (1 : Int32))), (4, .int r2)]) X dX8_isSafe_51 rfl rfl (by decide) rfl ?_
        refine j_goto (pc := 54) (tgt := 4) X dX8_isSafe_54 (by decide) ?_
        refine j_lv (lv' := [(0, .ref (Ad E 22 0)), (1, .int a1), (2, .int (0 : Int32)), (3, .int (a3 + (1 : Int32)))]) [0, 1, 2, 3] rfl ?_
        exact ih G12 (0 : Int32) (a3 + (1 : Int32)) h
      · rw [if_neg hc] at h
        refine j_aload_n (pc := 31) X dX8_isSafe_31 rfl 0 rfl ?_
        refine j_iload_n (pc := 32) X dX8_isSafe_32 rfl 3 rfl ?_
        obtain ⟨r14, hc16, h⟩ := bd_s h
        refine j_callI (pc := 33) X (tX8_wordAt l hE G9 a3 hc16) muX8_wordAt (by decide) q936 rfl rfl (Nat.le_of_ble_eq_true rfl) ⟨Nat.le_of_ble_eq_true rfl, Nat.le_of_ble_eq_true rfl⟩ dX8_isSafe_33 ?_
        refine j_iload (pc := 36) X dX8_isSafe_36 4 rfl ?_
        refine j_icmp_ne (pc := 38) (tgt := 45) X dX8_isSafe_38 (by decide) (fun hc => ?_) (fun hc => ?_)
        · rw [if_neg hc] at h
          refine j_iconst (pc := 45) (v := 0) X dX8_isSafe_45 (by decide) ?_
          refine j_istore_n (pc := 46) (lv' := [(0, .ref (Ad E 22 0)), (1, .int a1), (2, .int (0 : Int32)), (3, .int a3), (4, .int r2)]) X dX8_isSafe_46 rfl (by decide) rfl ?_
          refine j_aload_n (pc := 47) X dX8_isSafe_47 rfl 0 rfl ?_
          obtain ⟨G18, hc19, h⟩ := bd_s h
          refine j_callV (pc := 48) X (tX8_putBack l hE G9  hc19) muX8_putBack (by decide) q749 rfl rfl (Nat.le_of_ble_eq_true rfl) ⟨Nat.le_of_ble_eq_true rfl, Nat.le_of_ble_eq_true rfl⟩ dX8_isSafe_48 ?_
          refine j_iinc (pc := 51) (q := 3) (v := (a3 + (1 : Int32))) (lv' := [(0, .ref (Ad E 22 0)), (1, .int a1), (2, .int (0 : Int32)), (3, .int (a3 + (1 : Int32))), (4, .int r2)]) X dX8_isSafe_51 rfl rfl (by decide) rfl ?_
          refine j_goto (pc := 54) (tgt := 4) X dX8_isSafe_54 (by decide) ?_
          refine j_lv (lv' := [(0, .ref (Ad E 22 0)), (1, .int a1), (2, .int (0 : Int32)), (3, .int (a3 + (1 : Int32)))]) [0, 1, 2, 3] rfl ?_
          exact ih G18 (0 : Int32) (a3 + (1 : Int32)) h
        · rw [if_pos hc] at h
          refine j_iconst (pc := 41) (v := 1) X dX8_isSafe_41 (by decide) ?_
          refine j_goto (pc := 42) (tgt := 46) X dX8_isSafe_42 (by decide) ?_
          refine j_istore_n (pc := 46) (lv' := [(0, .ref (Ad E 22 0)), (1, .int a1), (2, .int (1 : Int32)), (3, .int a3), (4, .int r2)]) X dX8_isSafe_46 rfl (by decide) rfl ?_
          refine j_aload_n (pc := 47) X dX8_isSafe_47 rfl 0 rfl ?_
          obtain ⟨G21, hc22, h⟩ := bd_s h
          refine j_callV (pc := 48) X (tX8_putBack l hE G9  hc22) muX8_putBack (by decide) q749 rfl rfl (Nat.le_of_ble_eq_true rfl) ⟨Nat.le_of_ble_eq_true rfl, Nat.le_of_ble_eq_true rfl⟩ dX8_isSafe_48 ?_
          refine j_iinc (pc := 51) (q := 3) (v := (a3 + (1 : Int32))) (lv' := [(0, .ref (Ad E 22 0)), (1, .int a1), (2, .int (1 : Int32)), (3, .int (a3 + (1 : Int32))), (4, .int r2)]) X dX8_isSafe_51 rfl rfl (by decide) rfl ?_
          refine j_goto (pc := 54) (tgt := 4) X dX8_isSafe_54 (by decide) ?_
          refine j_lv (lv' := [(0, .ref (Ad E 22 0)), (1, .int a1), (2, .int (1 : Int32)), (3, .int (a3 + (1 : Int32)))]) [0, 1, 2, 3] rfl ?_
          exact ih G21 (1 : Int32) (a3 + (1 : Int32)) h
set_option maxHeartbeats 4000000 in
set_option maxRecDepth 100000 in
theorem tX8_isSafe (l : Launch) {E : ET} (hE : Aj E) (G : GT) (a1 : Int32) {r : Int32} {G' : GT} (h : fX8_isSafe G a1 = some (r, G')) : CI l E yX8_isSafe cX8_isSafe 5 (some .boolean) 6 [.ref (Ad E 22 0), .int a1] G r G' := by
  refine Met_I (lv := [(0, .ref (Ad E 22 0)), (1, .int a1)]) (by decide +kernel) hE (Nat.le_of_ble_eq_true rfl) rfl ?_
  intro p e s m args below meth c X hr hk
  unfold fX8_isSafe at h
  refine j_iconst (pc := 0) (v := 1) X dX8_isSafe_0 (by decide) ?_
  refine j_istore_n (pc := 1) (lv' := [(0, .ref (Ad E 22 0)), (1, .int a1), (2, .int (1 : Int32))]) X dX8_isSafe_1 rfl (by decide) rfl ?_
  refine j_iconst (pc := 2) (v := 0) X dX8_isSafe_2 (by decide) ?_
  refine j_istore_n (pc := 3) (lv' := [(0, .ref (Ad E 22 0)), (1, .int a1), (2, .int (1 : Int32)), (3, .int (0 : Int32))]) X dX8_isSafe_3 rfl (by decide) rfl ?_
  exact tX8_isSafe_4 l hE X hr hk a1 FU G (1 : Int32) (0 : Int32) h
theorem dX8_safePull_0 : decode cX8_safePull 0 = .ok (.iconst 1, 1) := by decide +kernel
theorem dX8_safePull_1 : decode cX8_safePull 1 = .ok (.istore_n 1, 1) := by decide +kernel
theorem dX8_safePull_2 : decode cX8_safePull 2 = .ok (.iconst 2, 1) := by decide +kernel
theorem dX8_safePull_3 : decode cX8_safePull 3 = .ok (.istore_n 2, 1) := by decide +kernel
theorem dX8_safePull_4 : decode cX8_safePull 4 = .ok (.iload_n 2, 1) := by decide +kernel
theorem dX8_safePull_5 : decode cX8_safePull 5 = .ok (.bipush 9, 2) := by decide +kernel
theorem dX8_safePull_7 : decode cX8_safePull 7 = .ok (.if_icmp .gt 23, 3) := by decide +kernel
theorem dX8_safePull_10 : decode cX8_safePull 10 = .ok (.aload_n 0, 1) := by decide +kernel
theorem dX8_safePull_11 : decode cX8_safePull 11 = .ok (.iload_n 2, 1) := by decide +kernel
theorem dX8_safePull_12 : decode cX8_safePull 12 = .ok (.invokevirtual 158, 3) := by decide +kernel
theorem dX8_safePull_15 : decode cX8_safePull 15 = .ok (.ifCond .eq 7, 3) := by decide +kernel
theorem dX8_safePull_18 : decode cX8_safePull 18 = .ok (.iload_n 2, 1) := by decide +kernel
theorem dX8_safePull_19 : decode cX8_safePull 19 = .ok (.goto 4, 3) := by decide +kernel
theorem dX8_safePull_22 : decode cX8_safePull 22 = .ok (.iload_n 1, 1) := by decide +kernel
theorem dX8_safePull_23 : decode cX8_safePull 23 = .ok (.istore_n 1, 1) := by decide +kernel
theorem dX8_safePull_24 : decode cX8_safePull 24 = .ok (.iinc 2 1, 3) := by decide +kernel
theorem dX8_safePull_27 : decode cX8_safePull 27 = .ok (.goto (-23), 3) := by decide +kernel
theorem dX8_safePull_30 : decode cX8_safePull 30 = .ok (.iload_n 1, 1) := by decide +kernel
theorem dX8_safePull_31 : decode cX8_safePull 31 = .ok (.ireturn, 1) := by decide +kernel
set_option maxHeartbeats 4000000 in
set_option maxRecDepth 100000 in
theorem tX8_safePull_4 (l : Launch) {E : ET} (hE : Aj E) {p : Program} {e : Env} {s : State} {m : MethodId} {args : Array Value} {below : List Frame} {meth : Method} {c : Code} (X : Cx p (rmL 7) s m args c yX8_safePull.cls cX8_safePull 3 E (Aw E) 0 0) (hr : meth.sig.returnType = (some .int)) (hk : meth.locks = false) {r : Int32} {G' : GT}  : ∀ (n : Nat) (G : GT) (a1 a2 : Int32), fX8_safePull_4  n G a1 a2 = some (r, G') → J p l e (rmL 7) s m args below meth c E (Aw E) s.heap 3 0 0 (MQ below (QI E r G') args s 0 0 (Aw E)) G 4 [(0, .ref (Ad E 22 0)), (1, .int a1), (2, .int a2)] [] := by
  intro n
  induction n with
  | zero =>
    intro G a1 a2 h
    simp [fX8_safePull_4] at h
  | succ n ih =>
    intro G a1 a2 h
    rw [fX8_safePull_4] at h
    refine j_iload_n (pc := 4) X dX8_safePull_4 rfl 2 rfl ?_
    refine j_bipush (pc := 5) (v := 9) X dX8_safePull_5 (by decide) ?_
    refine j_icmp_gt (pc := 7) (tgt := 30) X dX8_safePull_7 (by decide) (fun hc => ?_) (fun hc => ?_)
    · rw [if_pos hc] at h
      refine j_iload_n (pc := 30) X dX8_safePull_30 rfl 1 rfl ?_
      exact j_ret (pc := 31) X hr hk (vp_nar_int _) (pr_s h).1 (pr_s h).2 dX8_safePull_31
    · rw [if_neg hc] at h
      refine j_aload_n (pc := 10) X dX8_safePull_10 rfl 0 rfl ?_
      refine j_iload_n (pc := 11) X dX8_safePull_11 rfl 2 rfl ?_
      obtain ⟨r1, G2, hc3, h⟩ := bd2_s h
      refine j_callI (pc := 12) X (tX8_isSafe l hE G a2 hc3) muX8_isSafe (by decide) q932 rfl rfl (Nat.le_of_ble_eq_true rfl) ⟨Nat.le_of_ble_eq_true rfl, Nat.le_of_ble_eq_true rfl⟩ dX8_safePull_12 ?_
      refine j_if_eq (pc := 15) (tgt := 22) X dX8_safePull_15 (by decide) (fun hc => ?_) (fun hc => ?_)
      · rw [if_pos hc] at h
        refine j_iload_n (pc := 22) X dX8_safePull_22 rfl 1 rfl ?_
        refine j_istore_n (pc := 23) (lv' := [(0, .ref (Ad E 22 0)), (1, .int a1), (2, .int a2)]) X dX8_safePull_23 rfl (by decide) rfl ?_
        refine j_iinc (pc := 24) (q := 2) (v := (a2 + (1 : Int32))) (lv' := [(0, .ref (Ad E 22 0)), (1, .int a1), (2, .int (a2 + (1 : Int32)))]) X dX8_safePull_24 rfl rfl (by decide) rfl ?_
        refine j_goto (pc := 27) (tgt := 4) X dX8_safePull_27 (by decide) ?_
        exact ih G2 a1 (a2 + (1 : Int32)) h
      · rw [if_neg hc] at h
        refine j_iload_n (pc := 18) X dX8_safePull_18 rfl 2 rfl ?_
        refine j_goto (pc := 19) (tgt := 23) X dX8_safePull_19 (by decide) ?_
        refine j_istore_n (pc := 23) (lv' := [(0, .ref (Ad E 22 0)), (1, .int a2), (2, .int a2)]) X dX8_safePull_23 rfl (by decide) rfl ?_
        refine j_iinc (pc := 24) (q := 2) (v := (a2 + (1 : Int32))) (lv' := [(0, .ref (Ad E 22 0)), (1, .int a2), (2, .int (a2 + (1 : Int32)))]) X dX8_safePull_24 rfl rfl (by decide) rfl ?_
        refine j_goto (pc := 27) (tgt := 4) X dX8_safePull_27 (by decide) ?_
        exact ih G2 a2 (a2 + (1 : Int32)) h
set_option maxHeartbeats 4000000 in
set_option maxRecDepth 100000 in
theorem tX8_safePull (l : Launch) {E : ET} (hE : Aj E) (G : GT) {r : Int32} {G' : GT} (h : fX8_safePull G = some (r, G')) : CI l E yX8_safePull cX8_safePull 3 (some .int) 7 [.ref (Ad E 22 0)] G r G' := by
  refine Met_I (lv := [(0, .ref (Ad E 22 0))]) (by decide +kernel) hE (Nat.le_of_ble_eq_true rfl) rfl ?_
  intro p e s m args below meth c X hr hk
  unfold fX8_safePull at h
  refine j_iconst (pc := 0) (v := 1) X dX8_safePull_0 (by decide) ?_
  refine j_istore_n (pc := 1) (lv' := [(0, .ref (Ad E 22 0)), (1, .int (1 : Int32))]) X dX8_safePull_1 rfl (by decide) rfl ?_
  refine j_iconst (pc := 2) (v := 2) X dX8_safePull_2 (by decide) ?_
  refine j_istore_n (pc := 3) (lv' := [(0, .ref (Ad E 22 0)), (1, .int (1 : Int32)), (2, .int (2 : Int32))]) X dX8_safePull_3 rfl (by decide) rfl ?_
  exact tX8_safePull_4 l hE X hr hk  FU G (1 : Int32) (2 : Int32) h
theorem dX8_allRightIn_0 : decode cX8_allRightIn 0 = .ok (.aload_n 0, 1) := by decide +kernel
theorem dX8_allRightIn_1 : decode cX8_allRightIn 1 = .ok (.invokevirtual 116, 3) := by decide +kernel
theorem dX8_allRightIn_4 : decode cX8_allRightIn 4 = .ok (.ifCond .ne 6, 3) := by decide +kernel
theorem dX8_allRightIn_7 : decode cX8_allRightIn 7 = .ok (.bipush (-5), 2) := by decide +kernel
theorem dX8_allRightIn_9 : decode cX8_allRightIn 9 = .ok (.ireturn, 1) := by decide +kernel
theorem dX8_allRightIn_10 : decode cX8_allRightIn 10 = .ok (.iconst 0, 1) := by decide +kernel
theorem dX8_allRightIn_11 : decode cX8_allRightIn 11 = .ok (.istore_n 1, 1) := by decide +kernel
theorem dX8_allRightIn_12 : decode cX8_allRightIn 12 = .ok (.iconst 0, 1) := by decide +kernel
theorem dX8_allRightIn_13 : decode cX8_allRightIn 13 = .ok (.istore_n 2, 1) := by decide +kernel
theorem dX8_allRightIn_14 : decode cX8_allRightIn 14 = .ok (.iload_n 2, 1) := by decide +kernel
theorem dX8_allRightIn_15 : decode cX8_allRightIn 15 = .ok (.aload_n 0, 1) := by decide +kernel
theorem dX8_allRightIn_16 : decode cX8_allRightIn 16 = .ok (.getfield 7, 3) := by decide +kernel
theorem dX8_allRightIn_19 : decode cX8_allRightIn 19 = .ok (.bipush 80, 2) := by decide +kernel
theorem dX8_allRightIn_21 : decode cX8_allRightIn 21 = .ok (.iaload, 1) := by decide +kernel
theorem dX8_allRightIn_22 : decode cX8_allRightIn 22 = .ok (.if_icmp .ge 85, 3) := by decide +kernel
theorem dX8_allRightIn_25 : decode cX8_allRightIn 25 = .ok (.aload_n 0, 1) := by decide +kernel
theorem dX8_allRightIn_26 : decode cX8_allRightIn 26 = .ok (.iload_n 2, 1) := by decide +kernel
theorem dX8_allRightIn_27 : decode cX8_allRightIn 27 = .ok (.invokevirtual 81, 3) := by decide +kernel
theorem dX8_allRightIn_30 : decode cX8_allRightIn 30 = .ok (.istore_n 3, 1) := by decide +kernel
theorem dX8_allRightIn_31 : decode cX8_allRightIn 31 = .ok (.iconst 0, 1) := by decide +kernel
theorem dX8_allRightIn_32 : decode cX8_allRightIn 32 = .ok (.istore 4, 2) := by decide +kernel
theorem dX8_allRightIn_34 : decode cX8_allRightIn 34 = .ok (.iload 4, 2) := by decide +kernel
theorem dX8_allRightIn_36 : decode cX8_allRightIn 36 = .ok (.bipush 6, 2) := by decide +kernel
theorem dX8_allRightIn_38 : decode cX8_allRightIn 38 = .ok (.if_icmp .ge 63, 3) := by decide +kernel
theorem dX8_allRightIn_41 : decode cX8_allRightIn 41 = .ok (.iload_n 3, 1) := by decide +kernel
theorem dX8_allRightIn_42 : decode cX8_allRightIn 42 = .ok (.ifCond .le 59, 3) := by decide +kernel
theorem dX8_allRightIn_45 : decode cX8_allRightIn 45 = .ok (.aload_n 0, 1) := by decide +kernel
theorem dX8_allRightIn_46 : decode cX8_allRightIn 46 = .ok (.getfield 7, 3) := by decide +kernel
theorem dX8_allRightIn_49 : decode cX8_allRightIn 49 = .ok (.sipush 285, 3) := by decide +kernel
theorem dX8_allRightIn_52 : decode cX8_allRightIn 52 = .ok (.iaload, 1) := by decide +kernel
theorem dX8_allRightIn_53 : decode cX8_allRightIn 53 = .ok (.aload_n 0, 1) := by decide +kernel
theorem dX8_allRightIn_54 : decode cX8_allRightIn 54 = .ok (.iload 4, 2) := by decide +kernel
theorem dX8_allRightIn_56 : decode cX8_allRightIn 56 = .ok (.iload_n 2, 1) := by decide +kernel
theorem dX8_allRightIn_57 : decode cX8_allRightIn 57 = .ok (.invokevirtual 110, 3) := by decide +kernel
theorem dX8_allRightIn_60 : decode cX8_allRightIn 60 = .ok (.isub, 1) := by decide +kernel
theorem dX8_allRightIn_61 : decode cX8_allRightIn 61 = .ok (.istore 5, 2) := by decide +kernel
theorem dX8_allRightIn_63 : decode cX8_allRightIn 63 = .ok (.iload 5, 2) := by decide +kernel
theorem dX8_allRightIn_65 : decode cX8_allRightIn 65 = .ok (.ifCond .le 14, 3) := by decide +kernel
theorem dX8_allRightIn_68 : decode cX8_allRightIn 68 = .ok (.iload 5, 2) := by decide +kernel
theorem dX8_allRightIn_70 : decode cX8_allRightIn 70 = .ok (.iload_n 3, 1) := by decide +kernel
theorem dX8_allRightIn_71 : decode cX8_allRightIn 71 = .ok (.iadd, 1) := by decide +kernel
theorem dX8_allRightIn_72 : decode cX8_allRightIn 72 = .ok (.iconst 1, 1) := by decide +kernel
theorem dX8_allRightIn_73 : decode cX8_allRightIn 73 = .ok (.isub, 1) := by decide +kernel
theorem dX8_allRightIn_74 : decode cX8_allRightIn 74 = .ok (.iload_n 3, 1) := by decide +kernel
theorem dX8_allRightIn_75 : decode cX8_allRightIn 75 = .ok (.idiv, 1) := by decide +kernel
theorem dX8_allRightIn_76 : decode cX8_allRightIn 76 = .ok (.goto 4, 3) := by decide +kernel
theorem dX8_allRightIn_79 : decode cX8_allRightIn 79 = .ok (.iconst 0, 1) := by decide +kernel
theorem dX8_allRightIn_80 : decode cX8_allRightIn 80 = .ok (.istore 6, 2) := by decide +kernel
theorem dX8_allRightIn_82 : decode cX8_allRightIn 82 = .ok (.iload 6, 2) := by decide +kernel
theorem dX8_allRightIn_84 : decode cX8_allRightIn 84 = .ok (.iload_n 1, 1) := by decide +kernel
theorem dX8_allRightIn_85 : decode cX8_allRightIn 85 = .ok (.if_icmp .le 8, 3) := by decide +kernel
theorem dX8_allRightIn_88 : decode cX8_allRightIn 88 = .ok (.iload 6, 2) := by decide +kernel
theorem dX8_allRightIn_90 : decode cX8_allRightIn 90 = .ok (.goto 4, 3) := by decide +kernel
theorem dX8_allRightIn_93 : decode cX8_allRightIn 93 = .ok (.iload_n 1, 1) := by decide +kernel
theorem dX8_allRightIn_94 : decode cX8_allRightIn 94 = .ok (.istore_n 1, 1) := by decide +kernel
theorem dX8_allRightIn_95 : decode cX8_allRightIn 95 = .ok (.iinc 4 1, 3) := by decide +kernel
theorem dX8_allRightIn_98 : decode cX8_allRightIn 98 = .ok (.goto (-64), 3) := by decide +kernel
theorem dX8_allRightIn_101 : decode cX8_allRightIn 101 = .ok (.iinc 2 1, 3) := by decide +kernel
theorem dX8_allRightIn_104 : decode cX8_allRightIn 104 = .ok (.goto (-90), 3) := by decide +kernel
theorem dX8_allRightIn_107 : decode cX8_allRightIn 107 = .ok (.iload_n 1, 1) := by decide +kernel
theorem dX8_allRightIn_108 : decode cX8_allRightIn 108 = .ok (.ireturn, 1) := by decide +kernel
set_option maxHeartbeats 4000000 in
set_option maxRecDepth 100000 in
theorem tX8_allRightIn_80 (l : Launch) {E : ET} (hE : Aj E) {p : Program} {e : Env} {s : State} {m : MethodId} {args : Array Value} {below : List Frame} {meth : Method} {c : Code} (X : Cx p (rmL 6) s m args c yX8_allRightIn.cls cX8_allRightIn 7 E (Aw E) 0 0) (hr : meth.sig.returnType = (some .int)) (hk : meth.locks = false) {r : Int32} (G : GT) (a1 : Int32) (a2 : Int32) (a3 : Int32) (a4 : Int32) (s0 : Int32) (k14 : Int32 → Int32 → Option Int32) (k34 : Int32 → Int32 → Option Int32) (hk14 : ∀ (a1 a2 : Int32), k14 a1 a2 = some r → J p l e (rmL 6) s m args below meth c E (Aw E) s.heap 7 0 0 (MQ below (QI E r G) args s 0 0 (Aw E)) G 14 [(0, .ref (Ad E 22 0)), (1, .int a1), (2, .int a2)] []) (hk34 : ∀ (a1 a4 : Int32), k34 a1 a4 = some r → J p l e (rmL 6) s m args below meth c E (Aw E) s.heap 7 0 0 (MQ below (QI E r G) args s 0 0 (Aw E)) G 34 [(0, .ref (Ad E 22 0)), (1, .int a1), (2, .int a2), (3, .int a3), (4, .int a4)] []) (h : fX8_allRightIn_80 G a1 a2 a3 a4 s0 k14 k34 = some r) : J p l e (rmL 6) s m args below meth c E (Aw E) s.heap 7 0 0 (MQ below (QI E r G) args s 0 0 (Aw E)) G 80 [(0, .ref (Ad E 22 0)), (1, .int a1), (2, .int a2), (3, .int a3), (4, .int a4)] [.int s0] := by
  unfold fX8_allRightIn_80 at h
  refine j_istore (pc := 80) (lv' := [(0, .ref (Ad E 22 0)), (1, .int a1), (2, .int a2), (3, .int a3), (4, .int a4), (6, .int s0)]) X dX8_allRightIn_80 (by decide) rfl ?_
  refine j_iload (pc := 82) X dX8_allRightIn_82 5 rfl ?_
  refine j_iload_n (pc := 84) X dX8_allRightIn_84 rfl 1 rfl ?_
  refine j_icmp_le (pc := 85) (tgt := 93) X dX8_allRightIn_85 (by decide) (fun hc => ?_) (fun hc => ?_)
  · rw [if_pos hc] at h
    refine j_iload_n (pc := 93) X dX8_allRightIn_93 rfl 1 rfl ?_
    refine j_istore_n (pc := 94) (lv' := [(0, .ref (Ad E 22 0)), (1, .int a1), (2, .int a2), (3, .int a3), (4, .int a4), (6, .int s0)]) X dX8_allRightIn_94 rfl (by decide) rfl ?_
    refine j_iinc (pc := 95) (q := 4) (v := (a4 + (1 : Int32))) (lv' := [(0, .ref (Ad E 22 0)), (1, .int a1), (2, .int a2), (3, .int a3), (4, .int (a4 + (1 : Int32))), (6, .int s0)]) X dX8_allRightIn_95 rfl rfl (by decide) rfl ?_
    refine j_goto (pc := 98) (tgt := 34) X dX8_allRightIn_98 (by decide) ?_
    refine j_lv (lv' := [(0, .ref (Ad E 22 0)), (1, .int a1), (2, .int a2), (3, .int a3), (4, .int (a4 + (1 : Int32)))]) [0, 1, 2, 3, 4] rfl ?_
    exact hk34 a1 (a4 + (1 : Int32)) h
  · rw [if_neg hc] at h
    refine j_iload (pc := 88) X dX8_allRightIn_88 5 rfl ?_
    refine j_goto (pc := 90) (tgt := 94) X dX8_allRightIn_90 (by decide) ?_
    refine j_istore_n (pc := 94) (lv' := [(0, .ref (Ad E 22 0)), (1, .int s0), (2, .int a2), (3, .int a3), (4, .int a4), (6, .int s0)]) X dX8_allRightIn_94 rfl (by decide) rfl ?_
    refine j_iinc (pc := 95) (q := 4) (v := (a4 + (1 : Int32))) (lv' := [(0, .ref (Ad E 22 0)), (1, .int s0), (2, .int a2), (3, .int a3), (4, .int (a4 + (1 : Int32))), (6, .int s0)]) X dX8_allRightIn_95 rfl rfl (by decide) rfl ?_
    refine j_goto (pc := 98) (tgt := 34) X dX8_allRightIn_98 (by decide) ?_
    refine j_lv (lv' := [(0, .ref (Ad E 22 0)), (1, .int s0), (2, .int a2), (3, .int a3), (4, .int (a4 + (1 : Int32)))]) [0, 1, 2, 3, 4] rfl ?_
    exact hk34 s0 (a4 + (1 : Int32)) h
set_option maxHeartbeats 4000000 in
set_option maxRecDepth 100000 in
theorem tX8_allRightIn_34 (l : Launch) {E : ET} (hE : Aj E) {p : Program} {e : Env} {s : State} {m : MethodId} {args : Array Value} {below : List Frame} {meth : Method} {c : Code} (X : Cx p (rmL 6) s m args c yX8_allRightIn.cls cX8_allRightIn 7 E (Aw E) 0 0) (hr : meth.sig.returnType = (some .int)) (hk : meth.locks = false) {r : Int32} (G : GT) (a2 : Int32) (a3 : Int32) (k14 : Int32 → Int32 → Option Int32) (hk14 : ∀ (a1 a2 : Int32), k14 a1 a2 = some r → J p l e (rmL 6) s m args below meth c E (Aw E) s.heap 7 0 0 (MQ below (QI E r G) args s 0 0 (Aw E)) G 14 [(0, .ref (Ad E 22 0)), (1, .int a1), (2, .int a2)] []) : ∀ (n : Nat) (a1 a4 : Int32), fX8_allRightIn_34 G a2 a3 k14 n a1 a4 = some r → J p l e (rmL 6) s m args below meth c E (Aw E) s.heap 7 0 0 (MQ below (QI E r G) args s 0 0 (Aw E)) G 34 [(0, .ref (Ad E 22 0)), (1, .int a1), (2, .int a2), (3, .int a3), (4, .int a4)] [] := by
  intro n
  induction n with
  | zero =>
    intro a1 a4 h
    simp [fX8_allRightIn_34] at h
  | succ n ih =>
    intro a1 a4 h
    rw [fX8_allRightIn_34] at h
    refine j_iload (pc := 34) X dX8_allRightIn_34 4 rfl ?_
    refine j_bipush (pc := 36) (v := 6) X dX8_allRightIn_36 (by decide) ?_
    refine j_icmp_ge (pc := 38) (tgt := 101) X dX8_allRightIn_38 (by decide) (fun hc => ?_) (fun hc => ?_)
    · rw [if_pos hc] at h
      refine j_iinc (pc := 101) (q := 2) (v := (a2 + (1 : Int32))) (lv' := [(0, .ref (Ad E 22 0)), (1, .int a1), (2, .int (a2 + (1 : Int32))), (3, .int a3), (4, .int a4)]) X dX8_allRightIn_101 rfl rfl (by decide) rfl ?_
      refine j_goto (pc := 104) (tgt := 14) X dX8_allRightIn_104 (by decide) ?_
      refine j_lv (lv' := [(0, .ref (Ad E 22 0)), (1, .int a1), (2, .int (a2 + (1 : Int32)))]) [0, 1, 2] rfl ?_
      exact hk14 a1 (a2 + (1 : Int32)) h
    · rw [if_neg hc] at h
      refine j_iload_n (pc := 41) X dX8_allRightIn_41 rfl 3 rfl ?_
      refine j_if_le (pc := 42) (tgt := 101) X dX8_allRightIn_42 (by decide) (fun hc => ?_) (fun hc => ?_)
      · rw [if_pos hc] at h
        refine j_iinc (pc := 101) (q := 2) (v := (a2 + (1 : Int32))) (lv' := [(0, .ref (Ad E 22 0)), (1, .int a1), (2, .int (a2 + (1 : Int32))), (3, .int a3), (4, .int a4)]) X dX8_allRightIn_101 rfl rfl (by decide) rfl ?_
        refine j_goto (pc := 104) (tgt := 14) X dX8_allRightIn_104 (by decide) ?_
        refine j_lv (lv' := [(0, .ref (Ad E 22 0)), (1, .int a1), (2, .int (a2 + (1 : Int32)))]) [0, 1, 2] rfl ?_
        exact hk14 a1 (a2 + (1 : Int32)) h
      · rw [if_neg hc] at h
        refine j_aload_n (pc := 45) X dX8_allRightIn_45 rfl 0 rfl ?_
        refine j_get (pc := 46) (v := .ref (Ad E 23 0)) X gf_X8_7 (by decide) rfl rfl dX8_allRightIn_46 ?_
        refine j_sipush (pc := 49) (v := 285) X dX8_allRightIn_49 (by decide) ?_
        obtain ⟨hg1, h⟩ := gd_s h
        refine j_iald (pc := 52) (n := 289) X (by decide) rfl hg1 dX8_allRightIn_52 ?_
        refine j_aload_n (pc := 53) X dX8_allRightIn_53 rfl 0 rfl ?_
        refine j_iload (pc := 54) X dX8_allRightIn_54 4 rfl ?_
        refine j_iload_n (pc := 56) X dX8_allRightIn_56 rfl 2 rfl ?_
        obtain ⟨r2, hc4, h⟩ := bd_s h
        refine j_callI (pc := 57) X (tX8_heardOf l hE G a4 a2 hc4) muX8_heardOf (by decide) q813 rfl rfl (Nat.le_of_ble_eq_true rfl) ⟨Nat.le_of_ble_eq_true rfl, Nat.le_of_ble_eq_true rfl⟩ dX8_allRightIn_57 ?_
        refine j_isub (pc := 60) X dX8_allRightIn_60 ?_
        refine j_istore (pc := 61) (lv' := [(0, .ref (Ad E 22 0)), (1, .int a1), (2, .int a2), (3, .int a3), (4, .int a4), (5, .int ((G 23 0 (285 : Int32).toNatClampNeg) - r2))]) X dX8_allRightIn_61 (by decide) rfl ?_
        refine j_iload (pc := 63) X dX8_allRightIn_63 5 rfl ?_
        refine j_if_le (pc := 65) (tgt := 79) X dX8_allRightIn_65 (by decide) (fun hc => ?_) (fun hc => ?_)
        · rw [if_pos hc] at h
          refine j_iconst (pc := 79) (v := 0) X dX8_allRightIn_79 (by decide) ?_
          refine j_lv (lv' := [(0, .ref (Ad E 22 0)), (1, .int a1), (2, .int a2), (3, .int a3), (4, .int a4)]) [0, 1, 2, 3, 4] rfl ?_
          exact tX8_allRightIn_80 l hE X hr hk G a1 a2 a3 a4 (0 : Int32) k14 (fX8_allRightIn_34 G a2 a3 k14 n) hk14 ih h
        · rw [if_neg hc] at h
          refine j_iload (pc := 68) X dX8_allRightIn_68 5 rfl ?_
          refine j_iload_n (pc := 70) X dX8_allRightIn_70 rfl 3 rfl ?_
          refine j_iadd (pc := 71) X dX8_allRightIn_71 ?_
          refine j_iconst (pc := 72) (v := 1) X dX8_allRightIn_72 (by decide) ?_
          refine j_isub (pc := 73) X dX8_allRightIn_73 ?_
          refine j_iload_n (pc := 74) X dX8_allRightIn_74 rfl 3 rfl ?_
          obtain ⟨hg5, h⟩ := gd_s h
          refine j_idiv (pc := 75) X dX8_allRightIn_75 hg5 ?_
          refine j_goto (pc := 76) (tgt := 80) X dX8_allRightIn_76 (by decide) ?_
          refine j_lv (lv' := [(0, .ref (Ad E 22 0)), (1, .int a1), (2, .int a2), (3, .int a3), (4, .int a4)]) [0, 1, 2, 3, 4] rfl ?_
          exact tX8_allRightIn_80 l hE X hr hk G a1 a2 a3 a4 (((((G 23 0 (285 : Int32).toNatClampNeg) - r2) + a3) - (1 : Int32)) / a3) k14 (fX8_allRightIn_34 G a2 a3 k14 n) hk14 ih h
set_option maxHeartbeats 4000000 in
set_option maxRecDepth 100000 in
theorem tX8_allRightIn_14 (l : Launch) {E : ET} (hE : Aj E) {p : Program} {e : Env} {s : State} {m : MethodId} {args : Array Value} {below : List Frame} {meth : Method} {c : Code} (X : Cx p (rmL 6) s m args c yX8_allRightIn.cls cX8_allRightIn 7 E (Aw E) 0 0) (hr : meth.sig.returnType = (some .int)) (hk : meth.locks = false) {r : Int32} (G : GT) : ∀ (n : Nat) (a1 a2 : Int32), fX8_allRightIn_14 G n a1 a2 = some r → J p l e (rmL 6) s m args below meth c E (Aw E) s.heap 7 0 0 (MQ below (QI E r G) args s 0 0 (Aw E)) G 14 [(0, .ref (Ad E 22 0)), (1, .int a1), (2, .int a2)] [] := by
  intro n
  induction n with
  | zero =>
    intro a1 a2 h
    simp [fX8_allRightIn_14] at h
  | succ n ih =>
    intro a1 a2 h
    rw [fX8_allRightIn_14] at h
    refine j_iload_n (pc := 14) X dX8_allRightIn_14 rfl 2 rfl ?_
    refine j_aload_n (pc := 15) X dX8_allRightIn_15 rfl 0 rfl ?_
    refine j_get (pc := 16) (v := .ref (Ad E 23 0)) X gf_X8_7 (by decide) rfl rfl dX8_allRightIn_16 ?_
    refine j_bipush (pc := 19) (v := 80) X dX8_allRightIn_19 (by decide) ?_
    obtain ⟨hg1, h⟩ := gd_s h
    refine j_iald (pc := 21) (n := 289) X (by decide) rfl hg1 dX8_allRightIn_21 ?_
    refine j_icmp_ge (pc := 22) (tgt := 107) X dX8_allRightIn_22 (by decide) (fun hc => ?_) (fun hc => ?_)
    · rw [if_pos hc] at h
      refine j_iload_n (pc := 107) X dX8_allRightIn_107 rfl 1 rfl ?_
      exact j_ret (pc := 108) X hr hk (vp_nar_int _) (Option.some.inj h) rfl dX8_allRightIn_108
    · rw [if_neg hc] at h
      refine j_aload_n (pc := 25) X dX8_allRightIn_25 rfl 0 rfl ?_
      refine j_iload_n (pc := 26) X dX8_allRightIn_26 rfl 2 rfl ?_
      obtain ⟨r2, hc4, h⟩ := bd_s h
      refine j_callI (pc := 27) X (tX8_runsOf l hE G a2 hc4) muX8_runsOf (by decide) q817 rfl rfl (Nat.le_of_ble_eq_true rfl) ⟨Nat.le_of_ble_eq_true rfl, Nat.le_of_ble_eq_true rfl⟩ dX8_allRightIn_27 ?_
      refine j_istore_n (pc := 30) (lv' := [(0, .ref (Ad E 22 0)), (1, .int a1), (2, .int a2), (3, .int r2)]) X dX8_allRightIn_30 rfl (by decide) rfl ?_
      refine j_iconst (pc := 31) (v := 0) X dX8_allRightIn_31 (by decide) ?_
      refine j_istore (pc := 32) (lv' := [(0, .ref (Ad E 22 0)), (1, .int a1), (2, .int a2), (3, .int r2), (4, .int (0 : Int32))]) X dX8_allRightIn_32 (by decide) rfl ?_
      exact tX8_allRightIn_34 l hE X hr hk G a2 r2 (fX8_allRightIn_14 G n) ih FU a1 (0 : Int32) h
set_option maxHeartbeats 4000000 in
set_option maxRecDepth 100000 in
theorem tX8_allRightIn (l : Launch) {E : ET} (hE : Aj E) (G : GT) {r : Int32} (h : fX8_allRightIn G = some r) : CI l E yX8_allRightIn cX8_allRightIn 7 (some .int) 6 [.ref (Ad E 22 0)] G r G := by
  refine Met_I (lv := [(0, .ref (Ad E 22 0))]) (by decide +kernel) hE (Nat.le_of_ble_eq_true rfl) rfl ?_
  intro p e s m args below meth c X hr hk
  unfold fX8_allRightIn at h
  refine j_aload_n (pc := 0) X dX8_allRightIn_0 rfl 0 rfl ?_
  obtain ⟨r1, hc3, h⟩ := bd_s h
  refine j_callI (pc := 1) X (tX8_wordRuns l hE G  hc3) muX8_wordRuns (by decide) q789 rfl rfl (Nat.le_of_ble_eq_true rfl) ⟨Nat.le_of_ble_eq_true rfl, Nat.le_of_ble_eq_true rfl⟩ dX8_allRightIn_1 ?_
  refine j_if_ne (pc := 4) (tgt := 10) X dX8_allRightIn_4 (by decide) (fun hc => ?_) (fun hc => ?_)
  · rw [if_neg hc] at h
    refine j_iconst (pc := 10) (v := 0) X dX8_allRightIn_10 (by decide) ?_
    refine j_istore_n (pc := 11) (lv' := [(0, .ref (Ad E 22 0)), (1, .int (0 : Int32))]) X dX8_allRightIn_11 rfl (by decide) rfl ?_
    refine j_iconst (pc := 12) (v := 0) X dX8_allRightIn_12 (by decide) ?_
    refine j_istore_n (pc := 13) (lv' := [(0, .ref (Ad E 22 0)), (1, .int (0 : Int32)), (2, .int (0 : Int32))]) X dX8_allRightIn_13 rfl (by decide) rfl ?_
    exact tX8_allRightIn_14 l hE X hr hk G FU (0 : Int32) (0 : Int32) h
  · rw [if_pos hc] at h
    refine j_bipush (pc := 7) (v := (-5)) X dX8_allRightIn_7 (by decide) ?_
    exact j_ret (pc := 9) X hr hk (vp_nar_int _) (Option.some.inj h) rfl dX8_allRightIn_9
theorem dX8_answers_0 : decode cX8_answers 0 = .ok (.iconst 0, 1) := by decide +kernel
theorem dX8_answers_1 : decode cX8_answers 1 = .ok (.istore_n 2, 1) := by decide +kernel
theorem dX8_answers_2 : decode cX8_answers 2 = .ok (.iconst 0, 1) := by decide +kernel
theorem dX8_answers_3 : decode cX8_answers 3 = .ok (.istore_n 3, 1) := by decide +kernel
theorem dX8_answers_4 : decode cX8_answers 4 = .ok (.iload_n 3, 1) := by decide +kernel
theorem dX8_answers_5 : decode cX8_answers 5 = .ok (.bipush 6, 2) := by decide +kernel
theorem dX8_answers_7 : decode cX8_answers 7 = .ok (.if_icmp .ge 20, 3) := by decide +kernel
theorem dX8_answers_10 : decode cX8_answers 10 = .ok (.iload_n 2, 1) := by decide +kernel
theorem dX8_answers_11 : decode cX8_answers 11 = .ok (.aload_n 0, 1) := by decide +kernel
theorem dX8_answers_12 : decode cX8_answers 12 = .ok (.getfield 7, 3) := by decide +kernel
theorem dX8_answers_15 : decode cX8_answers 15 = .ok (.iload_n 1, 1) := by decide +kernel
theorem dX8_answers_16 : decode cX8_answers 16 = .ok (.iload_n 3, 1) := by decide +kernel
theorem dX8_answers_17 : decode cX8_answers 17 = .ok (.iadd, 1) := by decide +kernel
theorem dX8_answers_18 : decode cX8_answers 18 = .ok (.iaload, 1) := by decide +kernel
theorem dX8_answers_19 : decode cX8_answers 19 = .ok (.iadd, 1) := by decide +kernel
theorem dX8_answers_20 : decode cX8_answers 20 = .ok (.istore_n 2, 1) := by decide +kernel
theorem dX8_answers_21 : decode cX8_answers 21 = .ok (.iinc 3 1, 3) := by decide +kernel
theorem dX8_answers_24 : decode cX8_answers 24 = .ok (.goto (-20), 3) := by decide +kernel
theorem dX8_answers_27 : decode cX8_answers 27 = .ok (.iload_n 2, 1) := by decide +kernel
theorem dX8_answers_28 : decode cX8_answers 28 = .ok (.ireturn, 1) := by decide +kernel
set_option maxHeartbeats 4000000 in
set_option maxRecDepth 100000 in
theorem tX8_answers_4 (l : Launch) {E : ET} (hE : Aj E) {p : Program} {e : Env} {s : State} {m : MethodId} {args : Array Value} {below : List Frame} {meth : Method} {c : Code} (X : Cx p (rmL 0) s m args c yX8_answers.cls cX8_answers 4 E (Aw E) 0 0) (hr : meth.sig.returnType = (some .int)) (hk : meth.locks = false) {r : Int32} (G : GT) (a1 : Int32) : ∀ (n : Nat) (a2 a3 : Int32), fX8_answers_4 G a1 n a2 a3 = some r → J p l e (rmL 0) s m args below meth c E (Aw E) s.heap 4 0 0 (MQ below (QI E r G) args s 0 0 (Aw E)) G 4 [(0, .ref (Ad E 22 0)), (1, .int a1), (2, .int a2), (3, .int a3)] [] := by
  intro n
  induction n with
  | zero =>
    intro a2 a3 h
    simp [fX8_answers_4] at h
  | succ n ih =>
    intro a2 a3 h
    rw [fX8_answers_4] at h
    refine j_iload_n (pc := 4) X dX8_answers_4 rfl 3 rfl ?_
    refine j_bipush (pc := 5) (v := 6) X dX8_answers_5 (by decide) ?_
    refine j_icmp_ge (pc := 7) (tgt := 27) X dX8_answers_7 (by decide) (fun hc => ?_) (fun hc => ?_)
    · rw [if_pos hc] at h
      refine j_iload_n (pc := 27) X dX8_answers_27 rfl 2 rfl ?_
      exact j_ret (pc := 28) X hr hk (vp_nar_int _) (Option.some.inj h) rfl dX8_answers_28
    · rw [if_neg hc] at h
      refine j_iload_n (pc := 10) X dX8_answers_10 rfl 2 rfl ?_
      refine j_aload_n (pc := 11) X dX8_answers_11 rfl 0 rfl ?_
      refine j_get (pc := 12) (v := .ref (Ad E 23 0)) X gf_X8_7 (by decide) rfl rfl dX8_answers_12 ?_
      refine j_iload_n (pc := 15) X dX8_answers_15 rfl 1 rfl ?_
      refine j_iload_n (pc := 16) X dX8_answers_16 rfl 3 rfl ?_
      refine j_iadd (pc := 17) X dX8_answers_17 ?_
      obtain ⟨hg1, h⟩ := gd_s h
      refine j_iald (pc := 18) (n := 289) X (by decide) rfl hg1 dX8_answers_18 ?_
      refine j_iadd (pc := 19) X dX8_answers_19 ?_
      refine j_istore_n (pc := 20) (lv' := [(0, .ref (Ad E 22 0)), (1, .int a1), (2, .int (a2 + (G 23 0 (a1 + a3).toNatClampNeg))), (3, .int a3)]) X dX8_answers_20 rfl (by decide) rfl ?_
      refine j_iinc (pc := 21) (q := 3) (v := (a3 + (1 : Int32))) (lv' := [(0, .ref (Ad E 22 0)), (1, .int a1), (2, .int (a2 + (G 23 0 (a1 + a3).toNatClampNeg))), (3, .int (a3 + (1 : Int32)))]) X dX8_answers_21 rfl rfl (by decide) rfl ?_
      refine j_goto (pc := 24) (tgt := 4) X dX8_answers_24 (by decide) ?_
      exact ih (a2 + (G 23 0 (a1 + a3).toNatClampNeg)) (a3 + (1 : Int32)) h
set_option maxHeartbeats 4000000 in
set_option maxRecDepth 100000 in
theorem tX8_answers (l : Launch) {E : ET} (hE : Aj E) (G : GT) (a1 : Int32) {r : Int32} (h : fX8_answers G a1 = some r) : CI l E yX8_answers cX8_answers 4 (some .int) 0 [.ref (Ad E 22 0), .int a1] G r G := by
  refine Met_I (lv := [(0, .ref (Ad E 22 0)), (1, .int a1)]) (by decide +kernel) hE (Nat.le_of_ble_eq_true rfl) rfl ?_
  intro p e s m args below meth c X hr hk
  unfold fX8_answers at h
  refine j_iconst (pc := 0) (v := 0) X dX8_answers_0 (by decide) ?_
  refine j_istore_n (pc := 1) (lv' := [(0, .ref (Ad E 22 0)), (1, .int a1), (2, .int (0 : Int32))]) X dX8_answers_1 rfl (by decide) rfl ?_
  refine j_iconst (pc := 2) (v := 0) X dX8_answers_2 (by decide) ?_
  refine j_istore_n (pc := 3) (lv' := [(0, .ref (Ad E 22 0)), (1, .int a1), (2, .int (0 : Int32)), (3, .int (0 : Int32))]) X dX8_answers_3 rfl (by decide) rfl ?_
  exact tX8_answers_4 l hE X hr hk G a1 FU (0 : Int32) (0 : Int32) h
theorem dX8_count_0 : decode cX8_count 0 = .ok (.iload_n 1, 1) := by decide +kernel
theorem dX8_count_1 : decode cX8_count 1 = .ok (.tableswitch 143 0 12 #[67, 72, 77, 82, 87, 95, 95, 95, 108, 116, 124, 133, 138], 67) := by decide +kernel
theorem dX8_count_68 : decode cX8_count 68 = .ok (.aload_n 0, 1) := by decide +kernel
theorem dX8_count_69 : decode cX8_count 69 = .ok (.invokevirtual 40, 3) := by decide +kernel
theorem dX8_count_72 : decode cX8_count 72 = .ok (.ireturn, 1) := by decide +kernel
theorem dX8_count_73 : decode cX8_count 73 = .ok (.aload_n 0, 1) := by decide +kernel
theorem dX8_count_74 : decode cX8_count 74 = .ok (.invokevirtual 57, 3) := by decide +kernel
theorem dX8_count_77 : decode cX8_count 77 = .ok (.ireturn, 1) := by decide +kernel
theorem dX8_count_78 : decode cX8_count 78 = .ok (.aload_n 0, 1) := by decide +kernel
theorem dX8_count_79 : decode cX8_count 79 = .ok (.invokevirtual 116, 3) := by decide +kernel
theorem dX8_count_82 : decode cX8_count 82 = .ok (.ireturn, 1) := by decide +kernel
theorem dX8_count_83 : decode cX8_count 83 = .ok (.aload_n 0, 1) := by decide +kernel
theorem dX8_count_84 : decode cX8_count 84 = .ok (.invokevirtual 122, 3) := by decide +kernel
theorem dX8_count_87 : decode cX8_count 87 = .ok (.ireturn, 1) := by decide +kernel
theorem dX8_count_88 : decode cX8_count 88 = .ok (.aload_n 0, 1) := by decide +kernel
theorem dX8_count_89 : decode cX8_count 89 = .ok (.getfield 7, 3) := by decide +kernel
theorem dX8_count_92 : decode cX8_count 92 = .ok (.bipush 80, 2) := by decide +kernel
theorem dX8_count_94 : decode cX8_count 94 = .ok (.iaload, 1) := by decide +kernel
theorem dX8_count_95 : decode cX8_count 95 = .ok (.ireturn, 1) := by decide +kernel
theorem dX8_count_96 : decode cX8_count 96 = .ok (.aload_n 0, 1) := by decide +kernel
theorem dX8_count_97 : decode cX8_count 97 = .ok (.getfield 7, 3) := by decide +kernel
theorem dX8_count_100 : decode cX8_count 100 = .ok (.sipush 286, 3) := by decide +kernel
theorem dX8_count_103 : decode cX8_count 103 = .ok (.iload_n 1, 1) := by decide +kernel
theorem dX8_count_104 : decode cX8_count 104 = .ok (.iadd, 1) := by decide +kernel
theorem dX8_count_105 : decode cX8_count 105 = .ok (.iconst 5, 1) := by decide +kernel
theorem dX8_count_106 : decode cX8_count 106 = .ok (.isub, 1) := by decide +kernel
theorem dX8_count_107 : decode cX8_count 107 = .ok (.iaload, 1) := by decide +kernel
theorem dX8_count_108 : decode cX8_count 108 = .ok (.ireturn, 1) := by decide +kernel
theorem dX8_count_109 : decode cX8_count 109 = .ok (.aload_n 0, 1) := by decide +kernel
theorem dX8_count_110 : decode cX8_count 110 = .ok (.sipush 273, 3) := by decide +kernel
theorem dX8_count_113 : decode cX8_count 113 = .ok (.invokevirtual 161, 3) := by decide +kernel
theorem dX8_count_116 : decode cX8_count 116 = .ok (.ireturn, 1) := by decide +kernel
theorem dX8_count_117 : decode cX8_count 117 = .ok (.aload_n 0, 1) := by decide +kernel
theorem dX8_count_118 : decode cX8_count 118 = .ok (.sipush 279, 3) := by decide +kernel
theorem dX8_count_121 : decode cX8_count 121 = .ok (.invokevirtual 161, 3) := by decide +kernel
theorem dX8_count_124 : decode cX8_count 124 = .ok (.ireturn, 1) := by decide +kernel
theorem dX8_count_125 : decode cX8_count 125 = .ok (.aload_n 0, 1) := by decide +kernel
theorem dX8_count_126 : decode cX8_count 126 = .ok (.getfield 7, 3) := by decide +kernel
theorem dX8_count_129 : decode cX8_count 129 = .ok (.sipush 285, 3) := by decide +kernel
theorem dX8_count_132 : decode cX8_count 132 = .ok (.iaload, 1) := by decide +kernel
theorem dX8_count_133 : decode cX8_count 133 = .ok (.ireturn, 1) := by decide +kernel
theorem dX8_count_134 : decode cX8_count 134 = .ok (.aload_n 0, 1) := by decide +kernel
theorem dX8_count_135 : decode cX8_count 135 = .ok (.getfield 32, 3) := by decide +kernel
theorem dX8_count_138 : decode cX8_count 138 = .ok (.ireturn, 1) := by decide +kernel
theorem dX8_count_139 : decode cX8_count 139 = .ok (.aload_n 0, 1) := by decide +kernel
theorem dX8_count_140 : decode cX8_count 140 = .ok (.getfield 100, 3) := by decide +kernel
theorem dX8_count_143 : decode cX8_count 143 = .ok (.ireturn, 1) := by decide +kernel
theorem dX8_count_144 : decode cX8_count 144 = .ok (.bipush (-2), 2) := by decide +kernel
theorem dX8_count_146 : decode cX8_count 146 = .ok (.ireturn, 1) := by decide +kernel
set_option maxHeartbeats 4000000 in
set_option maxRecDepth 100000 in
theorem tX8_count (l : Launch) {E : ET} (hE : Aj E) (G : GT) (a1 : Int32) {r : Int32} (h : fX8_count G a1 = some r) : CI l E yX8_count cX8_count 2 (some .int) 7 [.ref (Ad E 22 0), .int a1] G r G := by
  refine Met_I (lv := [(0, .ref (Ad E 22 0)), (1, .int a1)]) (by decide +kernel) hE (Nat.le_of_ble_eq_true rfl) rfl ?_
  intro p e s m args below meth c X hr hk
  unfold fX8_count at h
  refine j_iload_n (pc := 0) X dX8_count_0 rfl 1 rfl ?_
  by_cases hx1 : a1 = 0
  · rw [if_pos hx1] at h
    refine j_tabIn (pc := 1) (tgt := 68) (off := 67) X dX8_count_1 (by rw [hx1]; decide) (by rw [hx1]; decide) (by rw [hx1]; decide) (by decide) ?_
    refine j_aload_n (pc := 68) X dX8_count_68 rfl 0 rfl ?_
    obtain ⟨r2, hc4, h⟩ := bd_s h
    refine j_callI (pc := 69) X (tX8_knots l hE G  hc4) muX8_knots (by decide) q695 rfl rfl (Nat.le_of_ble_eq_true rfl) ⟨Nat.le_of_ble_eq_true rfl, Nat.le_of_ble_eq_true rfl⟩ dX8_count_69 ?_
    exact j_ret (pc := 72) X hr hk (vp_nar_int _) (Option.some.inj h) rfl dX8_count_72
  rw [if_neg hx1] at h
  by_cases hx5 : a1 = 1
  · rw [if_pos hx5] at h
    refine j_tabIn (pc := 1) (tgt := 73) (off := 72) X dX8_count_1 (by rw [hx5]; decide) (by rw [hx5]; decide) (by rw [hx5]; decide) (by decide) ?_
    refine j_aload_n (pc := 73) X dX8_count_73 rfl 0 rfl ?_
    obtain ⟨r6, hc8, h⟩ := bd_s h
    refine j_callI (pc := 74) X (tX8_runs l hE G  hc8) muX8_runs (by decide) q717 rfl rfl (Nat.le_of_ble_eq_true rfl) ⟨Nat.le_of_ble_eq_true rfl, Nat.le_of_ble_eq_true rfl⟩ dX8_count_74 ?_
    exact j_ret (pc := 77) X hr hk (vp_nar_int _) (Option.some.inj h) rfl dX8_count_77
  rw [if_neg hx5] at h
  by_cases hx9 : a1 = 2
  · rw [if_pos hx9] at h
    refine j_tabIn (pc := 1) (tgt := 78) (off := 77) X dX8_count_1 (by rw [hx9]; decide) (by rw [hx9]; decide) (by rw [hx9]; decide) (by decide) ?_
    refine j_aload_n (pc := 78) X dX8_count_78 rfl 0 rfl ?_
    obtain ⟨r10, hc12, h⟩ := bd_s h
    refine j_callI (pc := 79) X (tX8_wordRuns l hE G  hc12) muX8_wordRuns (by decide) q789 rfl rfl (Nat.le_of_ble_eq_true rfl) ⟨Nat.le_of_ble_eq_true rfl, Nat.le_of_ble_eq_true rfl⟩ dX8_count_79 ?_
    exact j_ret (pc := 82) X hr hk (vp_nar_int _) (Option.some.inj h) rfl dX8_count_82
  rw [if_neg hx9] at h
  by_cases hx13 : a1 = 3
  · rw [if_pos hx13] at h
    refine j_tabIn (pc := 1) (tgt := 83) (off := 82) X dX8_count_1 (by rw [hx13]; decide) (by rw [hx13]; decide) (by rw [hx13]; decide) (by decide) ?_
    refine j_aload_n (pc := 83) X dX8_count_83 rfl 0 rfl ?_
    obtain ⟨r14, hc16, h⟩ := bd_s h
    refine j_callI (pc := 84) X (tX8_rightAnswer l hE G  hc16) muX8_rightAnswer (by decide) q821 rfl rfl (Nat.le_of_ble_eq_true rfl) ⟨Nat.le_of_ble_eq_true rfl, Nat.le_of_ble_eq_true rfl⟩ dX8_count_84 ?_
    exact j_ret (pc := 87) X hr hk (vp_nar_int _) (Option.some.inj h) rfl dX8_count_87
  rw [if_neg hx13] at h
  by_cases hx17 : a1 = 4
  · rw [if_pos hx17] at h
    refine j_tabIn (pc := 1) (tgt := 88) (off := 87) X dX8_count_1 (by rw [hx17]; decide) (by rw [hx17]; decide) (by rw [hx17]; decide) (by decide) ?_
    refine j_aload_n (pc := 88) X dX8_count_88 rfl 0 rfl ?_
    refine j_get (pc := 89) (v := .ref (Ad E 23 0)) X gf_X8_7 (by decide) rfl rfl dX8_count_89 ?_
    refine j_bipush (pc := 92) (v := 80) X dX8_count_92 (by decide) ?_
    obtain ⟨hg18, h⟩ := gd_s h
    refine j_iald (pc := 94) (n := 289) X (by decide) rfl hg18 dX8_count_94 ?_
    exact j_ret (pc := 95) X hr hk (vp_nar_int _) (Option.some.inj h) rfl dX8_count_95
  rw [if_neg hx17] at h
  by_cases hx19 : a1 = 5
  · rw [if_pos hx19] at h
    refine j_tabIn (pc := 1) (tgt := 96) (off := 95) X dX8_count_1 (by rw [hx19]; decide) (by rw [hx19]; decide) (by rw [hx19]; decide) (by decide) ?_
    refine j_aload_n (pc := 96) X dX8_count_96 rfl 0 rfl ?_
    refine j_get (pc := 97) (v := .ref (Ad E 23 0)) X gf_X8_7 (by decide) rfl rfl dX8_count_97 ?_
    refine j_sipush (pc := 100) (v := 286) X dX8_count_100 (by decide) ?_
    refine j_iload_n (pc := 103) X dX8_count_103 rfl 1 rfl ?_
    refine j_iadd (pc := 104) X dX8_count_104 ?_
    refine j_iconst (pc := 105) (v := 5) X dX8_count_105 (by decide) ?_
    refine j_isub (pc := 106) X dX8_count_106 ?_
    obtain ⟨hg20, h⟩ := gd_s h
    refine j_iald (pc := 107) (n := 289) X (by decide) rfl hg20 dX8_count_107 ?_
    exact j_ret (pc := 108) X hr hk (vp_nar_int _) (Option.some.inj h) rfl dX8_count_108
  rw [if_neg hx19] at h
  by_cases hx21 : a1 = 6
  · rw [if_pos hx21] at h
    refine j_tabIn (pc := 1) (tgt := 96) (off := 95) X dX8_count_1 (by rw [hx21]; decide) (by rw [hx21]; decide) (by rw [hx21]; decide) (by decide) ?_
    refine j_aload_n (pc := 96) X dX8_count_96 rfl 0 rfl ?_
    refine j_get (pc := 97) (v := .ref (Ad E 23 0)) X gf_X8_7 (by decide) rfl rfl dX8_count_97 ?_
    refine j_sipush (pc := 100) (v := 286) X dX8_count_100 (by decide) ?_
    refine j_iload_n (pc := 103) X dX8_count_103 rfl 1 rfl ?_
    refine j_iadd (pc := 104) X dX8_count_104 ?_
    refine j_iconst (pc := 105) (v := 5) X dX8_count_105 (by decide) ?_
    refine j_isub (pc := 106) X dX8_count_106 ?_
    obtain ⟨hg22, h⟩ := gd_s h
    refine j_iald (pc := 107) (n := 289) X (by decide) rfl hg22 dX8_count_107 ?_
    exact j_ret (pc := 108) X hr hk (vp_nar_int _) (Option.some.inj h) rfl dX8_count_108
  rw [if_neg hx21] at h
  by_cases hx23 : a1 = 7
  · rw [if_pos hx23] at h
    refine j_tabIn (pc := 1) (tgt := 96) (off := 95) X dX8_count_1 (by rw [hx23]; decide) (by rw [hx23]; decide) (by rw [hx23]; decide) (by decide) ?_
    refine j_aload_n (pc := 96) X dX8_count_96 rfl 0 rfl ?_
    refine j_get (pc := 97) (v := .ref (Ad E 23 0)) X gf_X8_7 (by decide) rfl rfl dX8_count_97 ?_
    refine j_sipush (pc := 100) (v := 286) X dX8_count_100 (by decide) ?_
    refine j_iload_n (pc := 103) X dX8_count_103 rfl 1 rfl ?_
    refine j_iadd (pc := 104) X dX8_count_104 ?_
    refine j_iconst (pc := 105) (v := 5) X dX8_count_105 (by decide) ?_
    refine j_isub (pc := 106) X dX8_count_106 ?_
    obtain ⟨hg24, h⟩ := gd_s h
    refine j_iald (pc := 107) (n := 289) X (by decide) rfl hg24 dX8_count_107 ?_
    exact j_ret (pc := 108) X hr hk (vp_nar_int _) (Option.some.inj h) rfl dX8_count_108
  rw [if_neg hx23] at h
  by_cases hx25 : a1 = 8
  · rw [if_pos hx25] at h
    refine j_tabIn (pc := 1) (tgt := 109) (off := 108) X dX8_count_1 (by rw [hx25]; decide) (by rw [hx25]; decide) (by rw [hx25]; decide) (by decide) ?_
    refine j_aload_n (pc := 109) X dX8_count_109 rfl 0 rfl ?_
    refine j_sipush (pc := 110) (v := 273) X dX8_count_110 (by decide) ?_
    obtain ⟨r26, hc28, h⟩ := bd_s h
    refine j_callI (pc := 113) X (tX8_answers l hE G (273 : Int32) hc28) muX8_answers (by decide) q948 rfl rfl (Nat.le_of_ble_eq_true rfl) ⟨Nat.le_of_ble_eq_true rfl, Nat.le_of_ble_eq_true rfl⟩ dX8_count_113 ?_
    exact j_ret (pc := 116) X hr hk (vp_nar_int _) (Option.some.inj h) rfl dX8_count_116
  rw [if_neg hx25] at h
  by_cases hx29 : a1 = 9
  · rw [if_pos hx29] at h
    refine j_tabIn (pc := 1) (tgt := 117) (off := 116) X dX8_count_1 (by rw [hx29]; decide) (by rw [hx29]; decide) (by rw [hx29]; decide) (by decide) ?_
    refine j_aload_n (pc := 117) X dX8_count_117 rfl 0 rfl ?_
    refine j_sipush (pc := 118) (v := 279) X dX8_count_118 (by decide) ?_
    obtain ⟨r30, hc32, h⟩ := bd_s h
    refine j_callI (pc := 121) X (tX8_answers l hE G (279 : Int32) hc32) muX8_answers (by decide) q948 rfl rfl (Nat.le_of_ble_eq_true rfl) ⟨Nat.le_of_ble_eq_true rfl, Nat.le_of_ble_eq_true rfl⟩ dX8_count_121 ?_
    exact j_ret (pc := 124) X hr hk (vp_nar_int _) (Option.some.inj h) rfl dX8_count_124
  rw [if_neg hx29] at h
  by_cases hx33 : a1 = 10
  · rw [if_pos hx33] at h
    refine j_tabIn (pc := 1) (tgt := 125) (off := 124) X dX8_count_1 (by rw [hx33]; decide) (by rw [hx33]; decide) (by rw [hx33]; decide) (by decide) ?_
    refine j_aload_n (pc := 125) X dX8_count_125 rfl 0 rfl ?_
    refine j_get (pc := 126) (v := .ref (Ad E 23 0)) X gf_X8_7 (by decide) rfl rfl dX8_count_126 ?_
    refine j_sipush (pc := 129) (v := 285) X dX8_count_129 (by decide) ?_
    obtain ⟨hg34, h⟩ := gd_s h
    refine j_iald (pc := 132) (n := 289) X (by decide) rfl hg34 dX8_count_132 ?_
    exact j_ret (pc := 133) X hr hk (vp_nar_int _) (Option.some.inj h) rfl dX8_count_133
  rw [if_neg hx33] at h
  by_cases hx35 : a1 = 11
  · rw [if_pos hx35] at h
    refine j_tabIn (pc := 1) (tgt := 134) (off := 133) X dX8_count_1 (by rw [hx35]; decide) (by rw [hx35]; decide) (by rw [hx35]; decide) (by decide) ?_
    refine j_aload_n (pc := 134) X dX8_count_134 rfl 0 rfl ?_
    refine j_get (pc := 135) (v := .int (G 22 0 3)) X gf_X8_32 (by decide) rfl rfl dX8_count_135 ?_
    exact j_ret (pc := 138) X hr hk (vp_nar_int _) (Option.some.inj h) rfl dX8_count_138
  rw [if_neg hx35] at h
  by_cases hx36 : a1 = 12
  · rw [if_pos hx36] at h
    refine j_tabIn (pc := 1) (tgt := 139) (off := 138) X dX8_count_1 (by rw [hx36]; decide) (by rw [hx36]; decide) (by rw [hx36]; decide) (by decide) ?_
    refine j_aload_n (pc := 139) X dX8_count_139 rfl 0 rfl ?_
    refine j_get (pc := 140) (v := .int (G 22 0 7)) X gf_X8_100 (by decide) rfl rfl dX8_count_140 ?_
    exact j_ret (pc := 143) X hr hk (vp_nar_int _) (Option.some.inj h) rfl dX8_count_143
  rw [if_neg hx36] at h
  refine j_tabOut (pc := 1) (tgt := 144) X dX8_count_1 (tab_out 12 (by decide) (fun j hj => by match j, hj with | 0, _ => exact hx1 | 1, _ => exact hx5 | 2, _ => exact hx9 | 3, _ => exact hx13 | 4, _ => exact hx17 | 5, _ => exact hx19 | 6, _ => exact hx21 | 7, _ => exact hx23 | 8, _ => exact hx25 | 9, _ => exact hx29 | 10, _ => exact hx33 | 11, _ => exact hx35 | 12, _ => exact hx36 | j + 13, hj => omega)) (by decide) ?_
  refine j_bipush (pc := 144) (v := (-2)) X dX8_count_144 (by decide) ?_
  exact j_ret (pc := 146) X hr hk (vp_nar_int _) (Option.some.inj h) rfl dX8_count_146
