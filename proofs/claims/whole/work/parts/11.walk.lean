theorem dX6_find_0 : decode cX6_find 0 = .ok (.iconst 0, 1) := by decide +kernel
theorem dX6_find_1 : decode cX6_find 1 = .ok (.istore 4, 2) := by decide +kernel
theorem dX6_find_3 : decode cX6_find 3 = .ok (.iload 4, 2) := by decide +kernel
theorem dX6_find_5 : decode cX6_find 5 = .ok (.aload_n 0, 1) := by decide +kernel
theorem dX6_find_6 : decode cX6_find 6 = .ok (.getfield 9, 3) := by decide +kernel
theorem dX6_find_9 : decode cX6_find 9 = .ok (.if_icmp .ge 33, 3) := by decide +kernel
theorem dX6_find_12 : decode cX6_find 12 = .ok (.aload_n 0, 1) := by decide +kernel
theorem dX6_find_13 : decode cX6_find 13 = .ok (.iload 4, 2) := by decide +kernel
theorem dX6_find_15 : decode cX6_find 15 = .ok (.invokevirtual 39, 3) := by decide +kernel
theorem dX6_find_18 : decode cX6_find 18 = .ok (.iload_n 3, 1) := by decide +kernel
theorem dX6_find_19 : decode cX6_find 19 = .ok (.if_icmp .ne 17, 3) := by decide +kernel
theorem dX6_find_22 : decode cX6_find 22 = .ok (.aload_n 0, 1) := by decide +kernel
theorem dX6_find_23 : decode cX6_find 23 = .ok (.iload 4, 2) := by decide +kernel
theorem dX6_find_25 : decode cX6_find 25 = .ok (.aload_n 1, 1) := by decide +kernel
theorem dX6_find_26 : decode cX6_find 26 = .ok (.iload_n 2, 1) := by decide +kernel
theorem dX6_find_27 : decode cX6_find 27 = .ok (.invokevirtual 45, 3) := by decide +kernel
theorem dX6_find_30 : decode cX6_find 30 = .ok (.ifCond .eq 6, 3) := by decide +kernel
theorem dX6_find_33 : decode cX6_find 33 = .ok (.iload 4, 2) := by decide +kernel
theorem dX6_find_35 : decode cX6_find 35 = .ok (.ireturn, 1) := by decide +kernel
theorem dX6_find_36 : decode cX6_find 36 = .ok (.iinc 4 1, 3) := by decide +kernel
theorem dX6_find_39 : decode cX6_find 39 = .ok (.goto (-36), 3) := by decide +kernel
theorem dX6_find_42 : decode cX6_find 42 = .ok (.bipush (-5), 2) := by decide +kernel
theorem dX6_find_44 : decode cX6_find 44 = .ok (.ireturn, 1) := by decide +kernel
set_option maxHeartbeats 4000000 in
set_option maxRecDepth 100000 in
theorem tX6_find_3 (l : Launch) {E : ET} (hE : Aj E) {p : Program} {e : Env} {s : State} {m : MethodId} {args : Array Value} {below : List Frame} {meth : Method} {c : Code} (X : Cx p (rmL 3) s m args c yX6_find.cls cX6_find 5 E (Aw E) 0 0) (hr : meth.sig.returnType = (some .int)) (hk : meth.locks = false) {r : Int32} (G : GT) (i0 : Nat) (hi0 : i0 < cnt 3) (i1 : Nat) (hi1 : i1 < cnt 0) (a2 : Int32) (a3 : Int32) : ∀ (n : Nat) (a4 : Int32), fX6_find_3 G i0 i1 a2 a3 n a4 = some r → J p l e (rmL 3) s m args below meth c E (Aw E) s.heap 5 0 0 (MQ below (QI E r G) args s 0 0 (Aw E)) G 3 [(0, .ref (Ad E 3 i0)), (1, .ref (Ad E 0 i1)), (2, .int a2), (3, .int a3), (4, .int a4)] [] := by
  intro n
  induction n with
  | zero =>
    intro a4 h
    simp [fX6_find_3] at h
  | succ n ih =>
    intro a4 h
    rw [fX6_find_3] at h
    refine j_iload (pc := 3) X dX6_find_3 4 rfl ?_
    refine j_aload_n (pc := 5) X dX6_find_5 rfl 0 rfl ?_
    refine j_get (pc := 6) (v := .int (G 3 i0 0)) X gf_X6_9 hi0 rfl rfl dX6_find_6 ?_
    refine j_icmp_ge (pc := 9) (tgt := 42) X dX6_find_9 (by decide) (fun hc => ?_) (fun hc => ?_)
    · rw [if_pos hc] at h
      refine j_bipush (pc := 42) (v := (-5)) X dX6_find_42 (by decide) ?_
      exact j_ret (pc := 44) X hr hk (vp_nar_int _) (Option.some.inj h) rfl dX6_find_44
    · rw [if_neg hc] at h
      refine j_aload_n (pc := 12) X dX6_find_12 rfl 0 rfl ?_
      refine j_iload (pc := 13) X dX6_find_13 4 rfl ?_
      obtain ⟨r1, hc3, h⟩ := bd_s h
      refine j_callI (pc := 15) X (tX6_lengthOf l hE G i0 hi0 a4 hc3) muX6_lengthOf hi0 q301 rfl rfl (Nat.le_of_ble_eq_true rfl) ⟨Nat.le_of_ble_eq_true rfl, Nat.le_of_ble_eq_true rfl⟩ dX6_find_15 ?_
      refine j_iload_n (pc := 18) X dX6_find_18 rfl 3 rfl ?_
      refine j_icmp_ne (pc := 19) (tgt := 36) X dX6_find_19 (by decide) (fun hc => ?_) (fun hc => ?_)
      · rw [if_neg hc] at h
        refine j_iinc (pc := 36) (q := 4) (v := (a4 + (1 : Int32))) (lv' := [(0, .ref (Ad E 3 i0)), (1, .ref (Ad E 0 i1)), (2, .int a2), (3, .int a3), (4, .int (a4 + (1 : Int32)))]) X dX6_find_36 rfl rfl (by decide) rfl ?_
        refine j_goto (pc := 39) (tgt := 3) X dX6_find_39 (by decide) ?_
        exact ih (a4 + (1 : Int32)) h
      · rw [if_pos hc] at h
        refine j_aload_n (pc := 22) X dX6_find_22 rfl 0 rfl ?_
        refine j_iload (pc := 23) X dX6_find_23 4 rfl ?_
        refine j_aload_n (pc := 25) X dX6_find_25 rfl 1 rfl ?_
        refine j_iload_n (pc := 26) X dX6_find_26 rfl 2 rfl ?_
        obtain ⟨r4, hc6, h⟩ := bd_s h
        refine j_callI (pc := 27) X (tX6_standsAt l hE G i0 hi0 a4 i1 hi1 a2 hc6) muX6_standsAt hi0 q309 rfl rfl (Nat.le_of_ble_eq_true rfl) ⟨Nat.le_of_ble_eq_true rfl, Nat.le_of_ble_eq_true rfl⟩ dX6_find_27 ?_
        refine j_if_eq (pc := 30) (tgt := 36) X dX6_find_30 (by decide) (fun hc => ?_) (fun hc => ?_)
        · rw [if_pos hc] at h
          refine j_iinc (pc := 36) (q := 4) (v := (a4 + (1 : Int32))) (lv' := [(0, .ref (Ad E 3 i0)), (1, .ref (Ad E 0 i1)), (2, .int a2), (3, .int a3), (4, .int (a4 + (1 : Int32)))]) X dX6_find_36 rfl rfl (by decide) rfl ?_
          refine j_goto (pc := 39) (tgt := 3) X dX6_find_39 (by decide) ?_
          exact ih (a4 + (1 : Int32)) h
        · rw [if_neg hc] at h
          refine j_iload (pc := 33) X dX6_find_33 4 rfl ?_
          exact j_ret (pc := 35) X hr hk (vp_nar_int _) (Option.some.inj h) rfl dX6_find_35
set_option maxHeartbeats 4000000 in
set_option maxRecDepth 100000 in
theorem tX6_find (l : Launch) {E : ET} (hE : Aj E) (G : GT) (i0 : Nat) (hi0 : i0 < cnt 3) (i1 : Nat) (hi1 : i1 < cnt 0) (a2 : Int32) (a3 : Int32) {r : Int32} (h : fX6_find G i0 i1 a2 a3 = some r) : CI l E yX6_find cX6_find 5 (some .int) 3 [.ref (Ad E 3 i0), .ref (Ad E 0 i1), .int a2, .int a3] G r G := by
  refine Met_I (lv := [(0, .ref (Ad E 3 i0)), (1, .ref (Ad E 0 i1)), (2, .int a2), (3, .int a3)]) (by decide +kernel) hE (Nat.le_of_ble_eq_true rfl) rfl ?_
  intro p e s m args below meth c X hr hk
  unfold fX6_find at h
  refine j_iconst (pc := 0) (v := 0) X dX6_find_0 (by decide) ?_
  refine j_istore (pc := 1) (lv' := [(0, .ref (Ad E 3 i0)), (1, .ref (Ad E 0 i1)), (2, .int a2), (3, .int a3), (4, .int (0 : Int32))]) X dX6_find_1 (by decide) rfl ?_
  exact tX6_find_3 l hE X hr hk G i0 hi0 i1 hi1 a2 a3 FU (0 : Int32) h
theorem dX3_read_0 : decode cX3_read 0 = .ok (.aload_n 0, 1) := by decide +kernel
theorem dX3_read_1 : decode cX3_read 1 = .ok (.iconst 0, 1) := by decide +kernel
theorem dX3_read_2 : decode cX3_read 2 = .ok (.putfield 9, 3) := by decide +kernel
theorem dX3_read_5 : decode cX3_read 5 = .ok (.iconst 0, 1) := by decide +kernel
theorem dX3_read_6 : decode cX3_read 6 = .ok (.istore_n 3, 1) := by decide +kernel
theorem dX3_read_7 : decode cX3_read 7 = .ok (.iload_n 3, 1) := by decide +kernel
theorem dX3_read_8 : decode cX3_read 8 = .ok (.bipush 40, 2) := by decide +kernel
theorem dX3_read_10 : decode cX3_read 10 = .ok (.if_icmp .ge 84, 3) := by decide +kernel
theorem dX3_read_13 : decode cX3_read 13 = .ok (.aload_n 0, 1) := by decide +kernel
theorem dX3_read_14 : decode cX3_read 14 = .ok (.getfield 9, 3) := by decide +kernel
theorem dX3_read_17 : decode cX3_read 17 = .ok (.bipush 20, 2) := by decide +kernel
theorem dX3_read_19 : decode cX3_read 19 = .ok (.if_icmp .ge 75, 3) := by decide +kernel
theorem dX3_read_22 : decode cX3_read 22 = .ok (.aload_n 1, 1) := by decide +kernel
theorem dX3_read_23 : decode cX3_read 23 = .ok (.iload_n 3, 1) := by decide +kernel
theorem dX3_read_24 : decode cX3_read 24 = .ok (.invokevirtual 25, 3) := by decide +kernel
theorem dX3_read_27 : decode cX3_read 27 = .ok (.ifCond .eq 61, 3) := by decide +kernel
theorem dX3_read_30 : decode cX3_read 30 = .ok (.aload_n 0, 1) := by decide +kernel
theorem dX3_read_31 : decode cX3_read 31 = .ok (.getfield 15, 3) := by decide +kernel
theorem dX3_read_34 : decode cX3_read 34 = .ok (.aload_n 0, 1) := by decide +kernel
theorem dX3_read_35 : decode cX3_read 35 = .ok (.getfield 9, 3) := by decide +kernel
theorem dX3_read_38 : decode cX3_read 38 = .ok (.iload_n 3, 1) := by decide +kernel
theorem dX3_read_39 : decode cX3_read 39 = .ok (.iastore, 1) := by decide +kernel
theorem dX3_read_40 : decode cX3_read 40 = .ok (.aload_n 0, 1) := by decide +kernel
theorem dX3_read_41 : decode cX3_read 41 = .ok (.getfield 19, 3) := by decide +kernel
theorem dX3_read_44 : decode cX3_read 44 = .ok (.aload_n 0, 1) := by decide +kernel
theorem dX3_read_45 : decode cX3_read 45 = .ok (.getfield 9, 3) := by decide +kernel
theorem dX3_read_48 : decode cX3_read 48 = .ok (.aload_n 1, 1) := by decide +kernel
theorem dX3_read_49 : decode cX3_read 49 = .ok (.iload_n 3, 1) := by decide +kernel
theorem dX3_read_50 : decode cX3_read 50 = .ok (.invokevirtual 31, 3) := by decide +kernel
theorem dX3_read_53 : decode cX3_read 53 = .ok (.iastore, 1) := by decide +kernel
theorem dX3_read_54 : decode cX3_read 54 = .ok (.aload_n 0, 1) := by decide +kernel
theorem dX3_read_55 : decode cX3_read 55 = .ok (.getfield 22, 3) := by decide +kernel
theorem dX3_read_58 : decode cX3_read 58 = .ok (.aload_n 0, 1) := by decide +kernel
theorem dX3_read_59 : decode cX3_read 59 = .ok (.getfield 9, 3) := by decide +kernel
theorem dX3_read_62 : decode cX3_read 62 = .ok (.aload_n 2, 1) := by decide +kernel
theorem dX3_read_63 : decode cX3_read 63 = .ok (.aload_n 1, 1) := by decide +kernel
theorem dX3_read_64 : decode cX3_read 64 = .ok (.iload_n 3, 1) := by decide +kernel
theorem dX3_read_65 : decode cX3_read 65 = .ok (.aload_n 0, 1) := by decide +kernel
theorem dX3_read_66 : decode cX3_read 66 = .ok (.getfield 19, 3) := by decide +kernel
theorem dX3_read_69 : decode cX3_read 69 = .ok (.aload_n 0, 1) := by decide +kernel
theorem dX3_read_70 : decode cX3_read 70 = .ok (.getfield 9, 3) := by decide +kernel
theorem dX3_read_73 : decode cX3_read 73 = .ok (.iaload, 1) := by decide +kernel
theorem dX3_read_74 : decode cX3_read 74 = .ok (.invokevirtual 35, 3) := by decide +kernel
theorem dX3_read_77 : decode cX3_read 77 = .ok (.iastore, 1) := by decide +kernel
theorem dX3_read_78 : decode cX3_read 78 = .ok (.aload_n 0, 1) := by decide +kernel
theorem dX3_read_79 : decode cX3_read 79 = .ok (.dup, 1) := by decide +kernel
theorem dX3_read_80 : decode cX3_read 80 = .ok (.getfield 9, 3) := by decide +kernel
theorem dX3_read_83 : decode cX3_read 83 = .ok (.iconst 1, 1) := by decide +kernel
theorem dX3_read_84 : decode cX3_read 84 = .ok (.iadd, 1) := by decide +kernel
theorem dX3_read_85 : decode cX3_read 85 = .ok (.putfield 9, 3) := by decide +kernel
theorem dX3_read_88 : decode cX3_read 88 = .ok (.iinc 3 1, 3) := by decide +kernel
theorem dX3_read_91 : decode cX3_read 91 = .ok (.goto (-84), 3) := by decide +kernel
theorem dX3_read_94 : decode cX3_read 94 = .ok (.return_, 1) := by decide +kernel
set_option maxHeartbeats 4000000 in
set_option maxRecDepth 100000 in
theorem tX3_read_7 (l : Launch) {E : ET} (hE : Aj E) {p : Program} {e : Env} {s : State} {m : MethodId} {args : Array Value} {below : List Frame} {meth : Method} {c : Code} (X : Cx p (rmL 4) s m args c yX3_read.cls cX3_read 4 E (Aw E) 0 0) (hr : meth.sig.returnType = none) (hk : meth.locks = false) {G' : GT} (i0 : Nat) (hi0 : i0 < cnt 16) (i1 : Nat) (hi1 : i1 < cnt 0) (i2 : Nat) (hi2 : i2 < cnt 3) : ∀ (n : Nat) (G : GT) (a3 : Int32), fX3_read_7 i0 i1 i2 n G a3 = some G' → J p l e (rmL 4) s m args below meth c E (Aw E) s.heap 4 0 0 (MQ below (QV E G') args s 0 0 (Aw E)) G 7 [(0, .ref (Ad E 16 i0)), (1, .ref (Ad E 0 i1)), (2, .ref (Ad E 3 i2)), (3, .int a3)] [] := by
  intro n
  induction n with
  | zero =>
    intro G a3 h
    simp [fX3_read_7] at h
  | succ n ih =>
    intro G a3 h
    rw [fX3_read_7] at h
    refine j_iload_n (pc := 7) X dX3_read_7 rfl 3 rfl ?_
    refine j_bipush (pc := 8) (v := 40) X dX3_read_8 (by decide) ?_
    refine j_icmp_ge (pc := 10) (tgt := 94) X dX3_read_10 (by decide) (fun hc => ?_) (fun hc => ?_)
    · rw [if_pos hc] at h
      exact j_vret (pc := 94) X hr hk (Option.some.inj h) dX3_read_94
    · rw [if_neg hc] at h
      refine j_aload_n (pc := 13) X dX3_read_13 rfl 0 rfl ?_
      refine j_get (pc := 14) (v := .int (G 16 i0 0)) X gf_X3_9 hi0 rfl rfl dX3_read_14 ?_
      refine j_bipush (pc := 17) (v := 20) X dX3_read_17 (by decide) ?_
      refine j_icmp_ge (pc := 19) (tgt := 94) X dX3_read_19 (by decide) (fun hc => ?_) (fun hc => ?_)
      · rw [if_pos hc] at h
        exact j_vret (pc := 94) X hr hk (Option.some.inj h) dX3_read_94
      · rw [if_neg hc] at h
        refine j_aload_n (pc := 22) X dX3_read_22 rfl 1 rfl ?_
        refine j_iload_n (pc := 23) X dX3_read_23 rfl 3 rfl ?_
        obtain ⟨r1, hc3, h⟩ := bd_s h
        refine j_callI (pc := 24) X (tX2_startsRun l hE G i1 hi1 a3 hc3) muX2_startsRun hi1 q288 rfl rfl (Nat.le_of_ble_eq_true rfl) ⟨Nat.le_of_ble_eq_true rfl, Nat.le_of_ble_eq_true rfl⟩ dX3_read_24 ?_
        refine j_if_eq (pc := 27) (tgt := 88) X dX3_read_27 (by decide) (fun hc => ?_) (fun hc => ?_)
        · rw [if_pos hc] at h
          refine j_iinc (pc := 88) (q := 3) (v := (a3 + (1 : Int32))) (lv' := [(0, .ref (Ad E 16 i0)), (1, .ref (Ad E 0 i1)), (2, .ref (Ad E 3 i2)), (3, .int (a3 + (1 : Int32)))]) X dX3_read_88 rfl rfl (by decide) rfl ?_
          refine j_goto (pc := 91) (tgt := 7) X dX3_read_91 (by decide) ?_
          exact ih G (a3 + (1 : Int32)) h
        · rw [if_neg hc] at h
          refine j_aload_n (pc := 30) X dX3_read_30 rfl 0 rfl ?_
          refine j_get (pc := 31) (v := .ref (Ad E 17 i0)) X gf_X3_15 hi0 rfl rfl dX3_read_31 ?_
          refine j_aload_n (pc := 34) X dX3_read_34 rfl 0 rfl ?_
          refine j_get (pc := 35) (v := .int (G 16 i0 0)) X gf_X3_9 hi0 rfl rfl dX3_read_35 ?_
          refine j_iload_n (pc := 38) X dX3_read_38 rfl 3 rfl ?_
          obtain ⟨hg4, h⟩ := gd_s h
          obtain ⟨G5, hG5, h⟩ := st3_s h
          refine j_iast (pc := 39) (n := 20) X hG5 hi0 (fun _ => rfl) hg4 dX3_read_39 ?_
          refine j_aload_n (pc := 40) X dX3_read_40 rfl 0 rfl ?_
          refine j_get (pc := 41) (v := .ref (Ad E 18 i0)) X gf_X3_19 hi0 rfl rfl dX3_read_41 ?_
          refine j_aload_n (pc := 44) X dX3_read_44 rfl 0 rfl ?_
          refine j_get (pc := 45) (v := .int (G5 16 i0 0)) X gf_X3_9 hi0 rfl rfl dX3_read_45 ?_
          refine j_aload_n (pc := 48) X dX3_read_48 rfl 1 rfl ?_
          refine j_iload_n (pc := 49) X dX3_read_49 rfl 3 rfl ?_
          obtain ⟨r6, hc8, h⟩ := bd_s h
          refine j_callI (pc := 50) X (tX2_lengthFrom l hE G5 i1 hi1 a3 hc8) muX2_lengthFrom hi1 q293 rfl rfl (Nat.le_of_ble_eq_true rfl) ⟨Nat.le_of_ble_eq_true rfl, Nat.le_of_ble_eq_true rfl⟩ dX3_read_50 ?_
          obtain ⟨hg9, h⟩ := gd_s h
          obtain ⟨G10, hG10, h⟩ := st3_s h
          refine j_iast (pc := 53) (n := 20) X hG10 hi0 (fun _ => rfl) hg9 dX3_read_53 ?_
          refine j_aload_n (pc := 54) X dX3_read_54 rfl 0 rfl ?_
          refine j_get (pc := 55) (v := .ref (Ad E 19 i0)) X gf_X3_22 hi0 rfl rfl dX3_read_55 ?_
          refine j_aload_n (pc := 58) X dX3_read_58 rfl 0 rfl ?_
          refine j_get (pc := 59) (v := .int (G10 16 i0 0)) X gf_X3_9 hi0 rfl rfl dX3_read_59 ?_
          refine j_aload_n (pc := 62) X dX3_read_62 rfl 2 rfl ?_
          refine j_aload_n (pc := 63) X dX3_read_63 rfl 1 rfl ?_
          refine j_iload_n (pc := 64) X dX3_read_64 rfl 3 rfl ?_
          refine j_aload_n (pc := 65) X dX3_read_65 rfl 0 rfl ?_
          refine j_get (pc := 66) (v := .ref (Ad E 18 i0)) X gf_X3_19 hi0 rfl rfl dX3_read_66 ?_
          refine j_aload_n (pc := 69) X dX3_read_69 rfl 0 rfl ?_
          refine j_get (pc := 70) (v := .int (G10 16 i0 0)) X gf_X3_9 hi0 rfl rfl dX3_read_70 ?_
          obtain ⟨hg11, h⟩ := gd_s h
          refine j_iald (pc := 73) (n := 20) X hi0 rfl hg11 dX3_read_73 ?_
          obtain ⟨r12, hc14, h⟩ := bd_s h
          refine j_callI (pc := 74) X (tX6_find l hE G10 i2 hi2 i1 hi1 a3 (G10 18 i0 (G10 16 i0 0).toNatClampNeg) hc14) muX6_find hi2 q297 rfl rfl (Nat.le_of_ble_eq_true rfl) ⟨Nat.le_of_ble_eq_true rfl, Nat.le_of_ble_eq_true rfl⟩ dX3_read_74 ?_
          obtain ⟨hg15, h⟩ := gd_s h
          obtain ⟨G16, hG16, h⟩ := st3_s h
          refine j_iast (pc := 77) (n := 20) X hG16 hi0 (fun _ => rfl) hg15 dX3_read_77 ?_
          refine j_aload_n (pc := 78) X dX3_read_78 rfl 0 rfl ?_
          refine j_dup (pc := 79) X dX3_read_79 rfl ?_
          refine j_get (pc := 80) (v := .int (G16 16 i0 0)) X gf_X3_9 hi0 rfl rfl dX3_read_80 ?_
          refine j_iconst (pc := 83) (v := 1) X dX3_read_83 (by decide) ?_
          refine j_iadd (pc := 84) X dX3_read_84 ?_
          obtain ⟨G17, hG17, h⟩ := st3_s h
          refine j_put (pc := 85) X hG17 gf_X3_9 tyX3 tyX3_ok nmX3 hi0 rfl rfl (Nat.le_of_ble_eq_true rfl) rfl rfl rfl dX3_read_85 ?_
          refine j_iinc (pc := 88) (q := 3) (v := (a3 + (1 : Int32))) (lv' := [(0, .ref (Ad E 16 i0)), (1, .ref (Ad E 0 i1)), (2, .ref (Ad E 3 i2)), (3, .int (a3 + (1 : Int32)))]) X dX3_read_88 rfl rfl (by decide) rfl ?_
          refine j_goto (pc := 91) (tgt := 7) X dX3_read_91 (by decide) ?_
          exact ih G17 (a3 + (1 : Int32)) h
set_option maxHeartbeats 4000000 in
set_option maxRecDepth 100000 in
theorem tX3_read (l : Launch) {E : ET} (hE : Aj E) (G : GT) (i0 : Nat) (hi0 : i0 < cnt 16) (i1 : Nat) (hi1 : i1 < cnt 0) (i2 : Nat) (hi2 : i2 < cnt 3) {G' : GT} (h : fX3_read G i0 i1 i2 = some G') : CV l E yX3_read cX3_read 4 none 4 [.ref (Ad E 16 i0), .ref (Ad E 0 i1), .ref (Ad E 3 i2)] G G' := by
  refine Met_V (lv := [(0, .ref (Ad E 16 i0)), (1, .ref (Ad E 0 i1)), (2, .ref (Ad E 3 i2))]) (by decide +kernel) hE (Nat.le_of_ble_eq_true rfl) rfl ?_
  intro p e s m args below meth c X hr hk
  unfold fX3_read at h
  refine j_aload_n (pc := 0) X dX3_read_0 rfl 0 rfl ?_
  refine j_iconst (pc := 1) (v := 0) X dX3_read_1 (by decide) ?_
  obtain ⟨G1, hG1, h⟩ := st3_s h
  refine j_put (pc := 2) X hG1 gf_X3_9 tyX3 tyX3_ok nmX3 hi0 rfl rfl (Nat.le_of_ble_eq_true rfl) rfl rfl rfl dX3_read_2 ?_
  refine j_iconst (pc := 5) (v := 0) X dX3_read_5 (by decide) ?_
  refine j_istore_n (pc := 6) (lv' := [(0, .ref (Ad E 16 i0)), (1, .ref (Ad E 0 i1)), (2, .ref (Ad E 3 i2)), (3, .int (0 : Int32))]) X dX3_read_6 rfl (by decide) rfl ?_
  exact tX3_read_7 l hE X hr hk i0 hi0 i1 hi1 i2 hi2 FU G1 (0 : Int32) h
theorem dX3_has_0 : decode cX3_has 0 = .ok (.iload_n 1, 1) := by decide +kernel
theorem dX3_has_1 : decode cX3_has 1 = .ok (.ifCond .lt 21, 3) := by decide +kernel
theorem dX3_has_4 : decode cX3_has 4 = .ok (.iload_n 1, 1) := by decide +kernel
theorem dX3_has_5 : decode cX3_has 5 = .ok (.aload_n 0, 1) := by decide +kernel
theorem dX3_has_6 : decode cX3_has 6 = .ok (.getfield 9, 3) := by decide +kernel
theorem dX3_has_9 : decode cX3_has 9 = .ok (.if_icmp .ge 13, 3) := by decide +kernel
theorem dX3_has_12 : decode cX3_has 12 = .ok (.iload_n 1, 1) := by decide +kernel
theorem dX3_has_13 : decode cX3_has 13 = .ok (.bipush 20, 2) := by decide +kernel
theorem dX3_has_15 : decode cX3_has 15 = .ok (.if_icmp .ge 7, 3) := by decide +kernel
theorem dX3_has_18 : decode cX3_has 18 = .ok (.iconst 1, 1) := by decide +kernel
theorem dX3_has_19 : decode cX3_has 19 = .ok (.goto 4, 3) := by decide +kernel
theorem dX3_has_22 : decode cX3_has 22 = .ok (.iconst 0, 1) := by decide +kernel
theorem dX3_has_23 : decode cX3_has 23 = .ok (.ireturn, 1) := by decide +kernel
set_option maxHeartbeats 4000000 in
set_option maxRecDepth 100000 in
theorem tX3_has (l : Launch) {E : ET} (hE : Aj E) (G : GT) (i0 : Nat) (hi0 : i0 < cnt 16) (a1 : Int32) {r : Int32} (h : fX3_has G i0 a1 = some r) : CI l E yX3_has cX3_has 2 (some .boolean) 0 [.ref (Ad E 16 i0), .int a1] G r G := by
  refine Met_I (lv := [(0, .ref (Ad E 16 i0)), (1, .int a1)]) (by decide +kernel) hE (Nat.le_of_ble_eq_true rfl) rfl ?_
  intro p e s m args below meth c X hr hk
  unfold fX3_has at h
  refine j_iload_n (pc := 0) X dX3_has_0 rfl 1 rfl ?_
  refine j_if_lt (pc := 1) (tgt := 22) X dX3_has_1 (by decide) (fun hc => ?_) (fun hc => ?_)
  · rw [if_pos hc] at h
    refine j_iconst (pc := 22) (v := 0) X dX3_has_22 (by decide) ?_
    exact j_ret (pc := 23) X hr hk rfl (Option.some.inj h) rfl dX3_has_23
  · rw [if_neg hc] at h
    refine j_iload_n (pc := 4) X dX3_has_4 rfl 1 rfl ?_
    refine j_aload_n (pc := 5) X dX3_has_5 rfl 0 rfl ?_
    refine j_get (pc := 6) (v := .int (G 16 i0 0)) X gf_X3_9 hi0 rfl rfl dX3_has_6 ?_
    refine j_icmp_ge (pc := 9) (tgt := 22) X dX3_has_9 (by decide) (fun hc => ?_) (fun hc => ?_)
    · rw [if_pos hc] at h
      refine j_iconst (pc := 22) (v := 0) X dX3_has_22 (by decide) ?_
      exact j_ret (pc := 23) X hr hk rfl (Option.some.inj h) rfl dX3_has_23
    · rw [if_neg hc] at h
      refine j_iload_n (pc := 12) X dX3_has_12 rfl 1 rfl ?_
      refine j_bipush (pc := 13) (v := 20) X dX3_has_13 (by decide) ?_
      refine j_icmp_ge (pc := 15) (tgt := 22) X dX3_has_15 (by decide) (fun hc => ?_) (fun hc => ?_)
      · rw [if_pos hc] at h
        refine j_iconst (pc := 22) (v := 0) X dX3_has_22 (by decide) ?_
        exact j_ret (pc := 23) X hr hk rfl (Option.some.inj h) rfl dX3_has_23
      · rw [if_neg hc] at h
        refine j_iconst (pc := 18) (v := 1) X dX3_has_18 (by decide) ?_
        refine j_goto (pc := 19) (tgt := 23) X dX3_has_19 (by decide) ?_
        exact j_ret (pc := 23) X hr hk rfl (Option.some.inj h) rfl dX3_has_23
theorem dX3_firstOf_0 : decode cX3_firstOf 0 = .ok (.aload_n 0, 1) := by decide +kernel
theorem dX3_firstOf_1 : decode cX3_firstOf 1 = .ok (.iload_n 1, 1) := by decide +kernel
theorem dX3_firstOf_2 : decode cX3_firstOf 2 = .ok (.invokevirtual 41, 3) := by decide +kernel
theorem dX3_firstOf_5 : decode cX3_firstOf 5 = .ok (.ifCond .eq 12, 3) := by decide +kernel
theorem dX3_firstOf_8 : decode cX3_firstOf 8 = .ok (.aload_n 0, 1) := by decide +kernel
theorem dX3_firstOf_9 : decode cX3_firstOf 9 = .ok (.getfield 15, 3) := by decide +kernel
theorem dX3_firstOf_12 : decode cX3_firstOf 12 = .ok (.iload_n 1, 1) := by decide +kernel
theorem dX3_firstOf_13 : decode cX3_firstOf 13 = .ok (.iaload, 1) := by decide +kernel
theorem dX3_firstOf_14 : decode cX3_firstOf 14 = .ok (.goto 4, 3) := by decide +kernel
theorem dX3_firstOf_17 : decode cX3_firstOf 17 = .ok (.iconst 0, 1) := by decide +kernel
theorem dX3_firstOf_18 : decode cX3_firstOf 18 = .ok (.ireturn, 1) := by decide +kernel
set_option maxHeartbeats 4000000 in
set_option maxRecDepth 100000 in
theorem tX3_firstOf (l : Launch) {E : ET} (hE : Aj E) (G : GT) (i0 : Nat) (hi0 : i0 < cnt 16) (a1 : Int32) {r : Int32} (h : fX3_firstOf G i0 a1 = some r) : CI l E yX3_firstOf cX3_firstOf 2 (some .int) 1 [.ref (Ad E 16 i0), .int a1] G r G := by
  refine Met_I (lv := [(0, .ref (Ad E 16 i0)), (1, .int a1)]) (by decide +kernel) hE (Nat.le_of_ble_eq_true rfl) rfl ?_
  intro p e s m args below meth c X hr hk
  unfold fX3_firstOf at h
  refine j_aload_n (pc := 0) X dX3_firstOf_0 rfl 0 rfl ?_
  refine j_iload_n (pc := 1) X dX3_firstOf_1 rfl 1 rfl ?_
  obtain ⟨r1, hc3, h⟩ := bd_s h
  refine j_callI (pc := 2) X (tX3_has l hE G i0 hi0 a1 hc3) muX3_has hi0 q413 rfl rfl (Nat.le_of_ble_eq_true rfl) ⟨Nat.le_of_ble_eq_true rfl, Nat.le_of_ble_eq_true rfl⟩ dX3_firstOf_2 ?_
  refine j_if_eq (pc := 5) (tgt := 17) X dX3_firstOf_5 (by decide) (fun hc => ?_) (fun hc => ?_)
  · rw [if_pos hc] at h
    refine j_iconst (pc := 17) (v := 0) X dX3_firstOf_17 (by decide) ?_
    exact j_ret (pc := 18) X hr hk (vp_nar_int _) (Option.some.inj h) rfl dX3_firstOf_18
  · rw [if_neg hc] at h
    refine j_aload_n (pc := 8) X dX3_firstOf_8 rfl 0 rfl ?_
    refine j_get (pc := 9) (v := .ref (Ad E 17 i0)) X gf_X3_15 hi0 rfl rfl dX3_firstOf_9 ?_
    refine j_iload_n (pc := 12) X dX3_firstOf_12 rfl 1 rfl ?_
    obtain ⟨hg4, h⟩ := gd_s h
    refine j_iald (pc := 13) (n := 20) X hi0 rfl hg4 dX3_firstOf_13 ?_
    refine j_goto (pc := 14) (tgt := 18) X dX3_firstOf_14 (by decide) ?_
    exact j_ret (pc := 18) X hr hk (vp_nar_int _) (Option.some.inj h) rfl dX3_firstOf_18
theorem dX3_lengthOf_0 : decode cX3_lengthOf 0 = .ok (.aload_n 0, 1) := by decide +kernel
theorem dX3_lengthOf_1 : decode cX3_lengthOf 1 = .ok (.iload_n 1, 1) := by decide +kernel
theorem dX3_lengthOf_2 : decode cX3_lengthOf 2 = .ok (.invokevirtual 41, 3) := by decide +kernel
theorem dX3_lengthOf_5 : decode cX3_lengthOf 5 = .ok (.ifCond .eq 12, 3) := by decide +kernel
theorem dX3_lengthOf_8 : decode cX3_lengthOf 8 = .ok (.aload_n 0, 1) := by decide +kernel
theorem dX3_lengthOf_9 : decode cX3_lengthOf 9 = .ok (.getfield 19, 3) := by decide +kernel
theorem dX3_lengthOf_12 : decode cX3_lengthOf 12 = .ok (.iload_n 1, 1) := by decide +kernel
theorem dX3_lengthOf_13 : decode cX3_lengthOf 13 = .ok (.iaload, 1) := by decide +kernel
theorem dX3_lengthOf_14 : decode cX3_lengthOf 14 = .ok (.goto 4, 3) := by decide +kernel
theorem dX3_lengthOf_17 : decode cX3_lengthOf 17 = .ok (.iconst 0, 1) := by decide +kernel
theorem dX3_lengthOf_18 : decode cX3_lengthOf 18 = .ok (.ireturn, 1) := by decide +kernel
set_option maxHeartbeats 4000000 in
set_option maxRecDepth 100000 in
theorem tX3_lengthOf (l : Launch) {E : ET} (hE : Aj E) (G : GT) (i0 : Nat) (hi0 : i0 < cnt 16) (a1 : Int32) {r : Int32} (h : fX3_lengthOf G i0 a1 = some r) : CI l E yX3_lengthOf cX3_lengthOf 2 (some .int) 1 [.ref (Ad E 16 i0), .int a1] G r G := by
  refine Met_I (lv := [(0, .ref (Ad E 16 i0)), (1, .int a1)]) (by decide +kernel) hE (Nat.le_of_ble_eq_true rfl) rfl ?_
  intro p e s m args below meth c X hr hk
  unfold fX3_lengthOf at h
  refine j_aload_n (pc := 0) X dX3_lengthOf_0 rfl 0 rfl ?_
  refine j_iload_n (pc := 1) X dX3_lengthOf_1 rfl 1 rfl ?_
  obtain ⟨r1, hc3, h⟩ := bd_s h
  refine j_callI (pc := 2) X (tX3_has l hE G i0 hi0 a1 hc3) muX3_has hi0 q413 rfl rfl (Nat.le_of_ble_eq_true rfl) ⟨Nat.le_of_ble_eq_true rfl, Nat.le_of_ble_eq_true rfl⟩ dX3_lengthOf_2 ?_
  refine j_if_eq (pc := 5) (tgt := 17) X dX3_lengthOf_5 (by decide) (fun hc => ?_) (fun hc => ?_)
  · rw [if_pos hc] at h
    refine j_iconst (pc := 17) (v := 0) X dX3_lengthOf_17 (by decide) ?_
    exact j_ret (pc := 18) X hr hk (vp_nar_int _) (Option.some.inj h) rfl dX3_lengthOf_18
  · rw [if_neg hc] at h
    refine j_aload_n (pc := 8) X dX3_lengthOf_8 rfl 0 rfl ?_
    refine j_get (pc := 9) (v := .ref (Ad E 18 i0)) X gf_X3_19 hi0 rfl rfl dX3_lengthOf_9 ?_
    refine j_iload_n (pc := 12) X dX3_lengthOf_12 rfl 1 rfl ?_
    obtain ⟨hg4, h⟩ := gd_s h
    refine j_iald (pc := 13) (n := 20) X hi0 rfl hg4 dX3_lengthOf_13 ?_
    refine j_goto (pc := 14) (tgt := 18) X dX3_lengthOf_14 (by decide) ?_
    exact j_ret (pc := 18) X hr hk (vp_nar_int _) (Option.some.inj h) rfl dX3_lengthOf_18
theorem dX3_wordOf_0 : decode cX3_wordOf 0 = .ok (.aload_n 0, 1) := by decide +kernel
theorem dX3_wordOf_1 : decode cX3_wordOf 1 = .ok (.iload_n 1, 1) := by decide +kernel
theorem dX3_wordOf_2 : decode cX3_wordOf 2 = .ok (.invokevirtual 41, 3) := by decide +kernel
theorem dX3_wordOf_5 : decode cX3_wordOf 5 = .ok (.ifCond .eq 12, 3) := by decide +kernel
theorem dX3_wordOf_8 : decode cX3_wordOf 8 = .ok (.aload_n 0, 1) := by decide +kernel
theorem dX3_wordOf_9 : decode cX3_wordOf 9 = .ok (.getfield 22, 3) := by decide +kernel
theorem dX3_wordOf_12 : decode cX3_wordOf 12 = .ok (.iload_n 1, 1) := by decide +kernel
theorem dX3_wordOf_13 : decode cX3_wordOf 13 = .ok (.iaload, 1) := by decide +kernel
theorem dX3_wordOf_14 : decode cX3_wordOf 14 = .ok (.goto 5, 3) := by decide +kernel
theorem dX3_wordOf_17 : decode cX3_wordOf 17 = .ok (.bipush (-5), 2) := by decide +kernel
theorem dX3_wordOf_19 : decode cX3_wordOf 19 = .ok (.ireturn, 1) := by decide +kernel
set_option maxHeartbeats 4000000 in
set_option maxRecDepth 100000 in
theorem tX3_wordOf (l : Launch) {E : ET} (hE : Aj E) (G : GT) (i0 : Nat) (hi0 : i0 < cnt 16) (a1 : Int32) {r : Int32} (h : fX3_wordOf G i0 a1 = some r) : CI l E yX3_wordOf cX3_wordOf 2 (some .int) 1 [.ref (Ad E 16 i0), .int a1] G r G := by
  refine Met_I (lv := [(0, .ref (Ad E 16 i0)), (1, .int a1)]) (by decide +kernel) hE (Nat.le_of_ble_eq_true rfl) rfl ?_
  intro p e s m args below meth c X hr hk
  unfold fX3_wordOf at h
  refine j_aload_n (pc := 0) X dX3_wordOf_0 rfl 0 rfl ?_
  refine j_iload_n (pc := 1) X dX3_wordOf_1 rfl 1 rfl ?_
  obtain ⟨r1, hc3, h⟩ := bd_s h
  refine j_callI (pc := 2) X (tX3_has l hE G i0 hi0 a1 hc3) muX3_has hi0 q413 rfl rfl (Nat.le_of_ble_eq_true rfl) ⟨Nat.le_of_ble_eq_true rfl, Nat.le_of_ble_eq_true rfl⟩ dX3_wordOf_2 ?_
  refine j_if_eq (pc := 5) (tgt := 17) X dX3_wordOf_5 (by decide) (fun hc => ?_) (fun hc => ?_)
  · rw [if_pos hc] at h
    refine j_bipush (pc := 17) (v := (-5)) X dX3_wordOf_17 (by decide) ?_
    exact j_ret (pc := 19) X hr hk (vp_nar_int _) (Option.some.inj h) rfl dX3_wordOf_19
  · rw [if_neg hc] at h
    refine j_aload_n (pc := 8) X dX3_wordOf_8 rfl 0 rfl ?_
    refine j_get (pc := 9) (v := .ref (Ad E 19 i0)) X gf_X3_22 hi0 rfl rfl dX3_wordOf_9 ?_
    refine j_iload_n (pc := 12) X dX3_wordOf_12 rfl 1 rfl ?_
    obtain ⟨hg4, h⟩ := gd_s h
    refine j_iald (pc := 13) (n := 20) X hi0 rfl hg4 dX3_wordOf_13 ?_
    refine j_goto (pc := 14) (tgt := 19) X dX3_wordOf_14 (by decide) ?_
    exact j_ret (pc := 19) X hr hk (vp_nar_int _) (Option.some.inj h) rfl dX3_wordOf_19
theorem dX3_wordRuns_0 : decode cX3_wordRuns 0 = .ok (.iconst 0, 1) := by decide +kernel
theorem dX3_wordRuns_1 : decode cX3_wordRuns 1 = .ok (.istore_n 1, 1) := by decide +kernel
theorem dX3_wordRuns_2 : decode cX3_wordRuns 2 = .ok (.iconst 0, 1) := by decide +kernel
theorem dX3_wordRuns_3 : decode cX3_wordRuns 3 = .ok (.istore_n 2, 1) := by decide +kernel
theorem dX3_wordRuns_4 : decode cX3_wordRuns 4 = .ok (.iload_n 2, 1) := by decide +kernel
theorem dX3_wordRuns_5 : decode cX3_wordRuns 5 = .ok (.aload_n 0, 1) := by decide +kernel
theorem dX3_wordRuns_6 : decode cX3_wordRuns 6 = .ok (.getfield 9, 3) := by decide +kernel
theorem dX3_wordRuns_9 : decode cX3_wordRuns 9 = .ok (.if_icmp .ge 22, 3) := by decide +kernel
theorem dX3_wordRuns_12 : decode cX3_wordRuns 12 = .ok (.aload_n 0, 1) := by decide +kernel
theorem dX3_wordRuns_13 : decode cX3_wordRuns 13 = .ok (.iload_n 2, 1) := by decide +kernel
theorem dX3_wordRuns_14 : decode cX3_wordRuns 14 = .ok (.invokevirtual 44, 3) := by decide +kernel
theorem dX3_wordRuns_17 : decode cX3_wordRuns 17 = .ok (.bipush (-5), 2) := by decide +kernel
theorem dX3_wordRuns_19 : decode cX3_wordRuns 19 = .ok (.if_icmp .eq 6, 3) := by decide +kernel
theorem dX3_wordRuns_22 : decode cX3_wordRuns 22 = .ok (.iinc 1 1, 3) := by decide +kernel
theorem dX3_wordRuns_25 : decode cX3_wordRuns 25 = .ok (.iinc 2 1, 3) := by decide +kernel
theorem dX3_wordRuns_28 : decode cX3_wordRuns 28 = .ok (.goto (-24), 3) := by decide +kernel
theorem dX3_wordRuns_31 : decode cX3_wordRuns 31 = .ok (.iload_n 1, 1) := by decide +kernel
theorem dX3_wordRuns_32 : decode cX3_wordRuns 32 = .ok (.ireturn, 1) := by decide +kernel
set_option maxHeartbeats 4000000 in
set_option maxRecDepth 100000 in
theorem tX3_wordRuns_4 (l : Launch) {E : ET} (hE : Aj E) {p : Program} {e : Env} {s : State} {m : MethodId} {args : Array Value} {below : List Frame} {meth : Method} {c : Code} (X : Cx p (rmL 2) s m args c yX3_wordRuns.cls cX3_wordRuns 3 E (Aw E) 0 0) (hr : meth.sig.returnType = (some .int)) (hk : meth.locks = false) {r : Int32} (G : GT) (i0 : Nat) (hi0 : i0 < cnt 16) : ∀ (n : Nat) (a1 a2 : Int32), fX3_wordRuns_4 G i0 n a1 a2 = some r → J p l e (rmL 2) s m args below meth c E (Aw E) s.heap 3 0 0 (MQ below (QI E r G) args s 0 0 (Aw E)) G 4 [(0, .ref (Ad E 16 i0)), (1, .int a1), (2, .int a2)] [] := by
  intro n
  induction n with
  | zero =>
    intro a1 a2 h
    simp [fX3_wordRuns_4] at h
  | succ n ih =>
    intro a1 a2 h
    rw [fX3_wordRuns_4] at h
    refine j_iload_n (pc := 4) X dX3_wordRuns_4 rfl 2 rfl ?_
    refine j_aload_n (pc := 5) X dX3_wordRuns_5 rfl 0 rfl ?_
    refine j_get (pc := 6) (v := .int (G 16 i0 0)) X gf_X3_9 hi0 rfl rfl dX3_wordRuns_6 ?_
    refine j_icmp_ge (pc := 9) (tgt := 31) X dX3_wordRuns_9 (by decide) (fun hc => ?_) (fun hc => ?_)
    · rw [if_pos hc] at h
      refine j_iload_n (pc := 31) X dX3_wordRuns_31 rfl 1 rfl ?_
      exact j_ret (pc := 32) X hr hk (vp_nar_int _) (Option.some.inj h) rfl dX3_wordRuns_32
    · rw [if_neg hc] at h
      refine j_aload_n (pc := 12) X dX3_wordRuns_12 rfl 0 rfl ?_
      refine j_iload_n (pc := 13) X dX3_wordRuns_13 rfl 2 rfl ?_
      obtain ⟨r1, hc3, h⟩ := bd_s h
      refine j_callI (pc := 14) X (tX3_wordOf l hE G i0 hi0 a2 hc3) muX3_wordOf hi0 q409 rfl rfl (Nat.le_of_ble_eq_true rfl) ⟨Nat.le_of_ble_eq_true rfl, Nat.le_of_ble_eq_true rfl⟩ dX3_wordRuns_14 ?_
      refine j_bipush (pc := 17) (v := (-5)) X dX3_wordRuns_17 (by decide) ?_
      refine j_icmp_eq (pc := 19) (tgt := 25) X dX3_wordRuns_19 (by decide) (fun hc => ?_) (fun hc => ?_)
      · rw [if_pos hc] at h
        refine j_iinc (pc := 25) (q := 2) (v := (a2 + (1 : Int32))) (lv' := [(0, .ref (Ad E 16 i0)), (1, .int a1), (2, .int (a2 + (1 : Int32)))]) X dX3_wordRuns_25 rfl rfl (by decide) rfl ?_
        refine j_goto (pc := 28) (tgt := 4) X dX3_wordRuns_28 (by decide) ?_
        exact ih a1 (a2 + (1 : Int32)) h
      · rw [if_neg hc] at h
        refine j_iinc (pc := 22) (q := 1) (v := (a1 + (1 : Int32))) (lv' := [(0, .ref (Ad E 16 i0)), (1, .int (a1 + (1 : Int32))), (2, .int a2)]) X dX3_wordRuns_22 rfl rfl (by decide) rfl ?_
        refine j_iinc (pc := 25) (q := 2) (v := (a2 + (1 : Int32))) (lv' := [(0, .ref (Ad E 16 i0)), (1, .int (a1 + (1 : Int32))), (2, .int (a2 + (1 : Int32)))]) X dX3_wordRuns_25 rfl rfl (by decide) rfl ?_
        refine j_goto (pc := 28) (tgt := 4) X dX3_wordRuns_28 (by decide) ?_
        exact ih (a1 + (1 : Int32)) (a2 + (1 : Int32)) h
set_option maxHeartbeats 4000000 in
set_option maxRecDepth 100000 in
theorem tX3_wordRuns (l : Launch) {E : ET} (hE : Aj E) (G : GT) (i0 : Nat) (hi0 : i0 < cnt 16) {r : Int32} (h : fX3_wordRuns G i0 = some r) : CI l E yX3_wordRuns cX3_wordRuns 3 (some .int) 2 [.ref (Ad E 16 i0)] G r G := by
  refine Met_I (lv := [(0, .ref (Ad E 16 i0))]) (by decide +kernel) hE (Nat.le_of_ble_eq_true rfl) rfl ?_
  intro p e s m args below meth c X hr hk
  unfold fX3_wordRuns at h
  refine j_iconst (pc := 0) (v := 0) X dX3_wordRuns_0 (by decide) ?_
  refine j_istore_n (pc := 1) (lv' := [(0, .ref (Ad E 16 i0)), (1, .int (0 : Int32))]) X dX3_wordRuns_1 rfl (by decide) rfl ?_
  refine j_iconst (pc := 2) (v := 0) X dX3_wordRuns_2 (by decide) ?_
  refine j_istore_n (pc := 3) (lv' := [(0, .ref (Ad E 16 i0)), (1, .int (0 : Int32)), (2, .int (0 : Int32))]) X dX3_wordRuns_3 rfl (by decide) rfl ?_
  exact tX3_wordRuns_4 l hE X hr hk G i0 hi0 FU (0 : Int32) (0 : Int32) h
theorem dX3_countOf_0 : decode cX3_countOf 0 = .ok (.iconst 0, 1) := by decide +kernel
theorem dX3_countOf_1 : decode cX3_countOf 1 = .ok (.istore_n 2, 1) := by decide +kernel
theorem dX3_countOf_2 : decode cX3_countOf 2 = .ok (.iconst 0, 1) := by decide +kernel
theorem dX3_countOf_3 : decode cX3_countOf 3 = .ok (.istore_n 3, 1) := by decide +kernel
theorem dX3_countOf_4 : decode cX3_countOf 4 = .ok (.iload_n 3, 1) := by decide +kernel
theorem dX3_countOf_5 : decode cX3_countOf 5 = .ok (.aload_n 0, 1) := by decide +kernel
theorem dX3_countOf_6 : decode cX3_countOf 6 = .ok (.getfield 9, 3) := by decide +kernel
theorem dX3_countOf_9 : decode cX3_countOf 9 = .ok (.if_icmp .ge 21, 3) := by decide +kernel
theorem dX3_countOf_12 : decode cX3_countOf 12 = .ok (.aload_n 0, 1) := by decide +kernel
theorem dX3_countOf_13 : decode cX3_countOf 13 = .ok (.iload_n 3, 1) := by decide +kernel
theorem dX3_countOf_14 : decode cX3_countOf 14 = .ok (.invokevirtual 44, 3) := by decide +kernel
theorem dX3_countOf_17 : decode cX3_countOf 17 = .ok (.iload_n 1, 1) := by decide +kernel
theorem dX3_countOf_18 : decode cX3_countOf 18 = .ok (.if_icmp .ne 6, 3) := by decide +kernel
theorem dX3_countOf_21 : decode cX3_countOf 21 = .ok (.iinc 2 1, 3) := by decide +kernel
theorem dX3_countOf_24 : decode cX3_countOf 24 = .ok (.iinc 3 1, 3) := by decide +kernel
theorem dX3_countOf_27 : decode cX3_countOf 27 = .ok (.goto (-23), 3) := by decide +kernel
theorem dX3_countOf_30 : decode cX3_countOf 30 = .ok (.iload_n 2, 1) := by decide +kernel
theorem dX3_countOf_31 : decode cX3_countOf 31 = .ok (.ireturn, 1) := by decide +kernel
set_option maxHeartbeats 4000000 in
set_option maxRecDepth 100000 in
theorem tX3_countOf_4 (l : Launch) {E : ET} (hE : Aj E) {p : Program} {e : Env} {s : State} {m : MethodId} {args : Array Value} {below : List Frame} {meth : Method} {c : Code} (X : Cx p (rmL 2) s m args c yX3_countOf.cls cX3_countOf 4 E (Aw E) 0 0) (hr : meth.sig.returnType = (some .int)) (hk : meth.locks = false) {r : Int32} (G : GT) (i0 : Nat) (hi0 : i0 < cnt 16) (a1 : Int32) : ∀ (n : Nat) (a2 a3 : Int32), fX3_countOf_4 G i0 a1 n a2 a3 = some r → J p l e (rmL 2) s m args below meth c E (Aw E) s.heap 4 0 0 (MQ below (QI E r G) args s 0 0 (Aw E)) G 4 [(0, .ref (Ad E 16 i0)), (1, .int a1), (2, .int a2), (3, .int a3)] [] := by
  intro n
  induction n with
  | zero =>
    intro a2 a3 h
    simp [fX3_countOf_4] at h
  | succ n ih =>
    intro a2 a3 h
    rw [fX3_countOf_4] at h
    refine j_iload_n (pc := 4) X dX3_countOf_4 rfl 3 rfl ?_
    refine j_aload_n (pc := 5) X dX3_countOf_5 rfl 0 rfl ?_
    refine j_get (pc := 6) (v := .int (G 16 i0 0)) X gf_X3_9 hi0 rfl rfl dX3_countOf_6 ?_
    refine j_icmp_ge (pc := 9) (tgt := 30) X dX3_countOf_9 (by decide) (fun hc => ?_) (fun hc => ?_)
    · rw [if_pos hc] at h
      refine j_iload_n (pc := 30) X dX3_countOf_30 rfl 2 rfl ?_
      exact j_ret (pc := 31) X hr hk (vp_nar_int _) (Option.some.inj h) rfl dX3_countOf_31
    · rw [if_neg hc] at h
      refine j_aload_n (pc := 12) X dX3_countOf_12 rfl 0 rfl ?_
      refine j_iload_n (pc := 13) X dX3_countOf_13 rfl 3 rfl ?_
      obtain ⟨r1, hc3, h⟩ := bd_s h
      refine j_callI (pc := 14) X (tX3_wordOf l hE G i0 hi0 a3 hc3) muX3_wordOf hi0 q409 rfl rfl (Nat.le_of_ble_eq_true rfl) ⟨Nat.le_of_ble_eq_true rfl, Nat.le_of_ble_eq_true rfl⟩ dX3_countOf_14 ?_
      refine j_iload_n (pc := 17) X dX3_countOf_17 rfl 1 rfl ?_
      refine j_icmp_ne (pc := 18) (tgt := 24) X dX3_countOf_18 (by decide) (fun hc => ?_) (fun hc => ?_)
      · rw [if_neg hc] at h
        refine j_iinc (pc := 24) (q := 3) (v := (a3 + (1 : Int32))) (lv' := [(0, .ref (Ad E 16 i0)), (1, .int a1), (2, .int a2), (3, .int (a3 + (1 : Int32)))]) X dX3_countOf_24 rfl rfl (by decide) rfl ?_
        refine j_goto (pc := 27) (tgt := 4) X dX3_countOf_27 (by decide) ?_
        exact ih a2 (a3 + (1 : Int32)) h
      · rw [if_pos hc] at h
        refine j_iinc (pc := 21) (q := 2) (v := (a2 + (1 : Int32))) (lv' := [(0, .ref (Ad E 16 i0)), (1, .int a1), (2, .int (a2 + (1 : Int32))), (3, .int a3)]) X dX3_countOf_21 rfl rfl (by decide) rfl ?_
        refine j_iinc (pc := 24) (q := 3) (v := (a3 + (1 : Int32))) (lv' := [(0, .ref (Ad E 16 i0)), (1, .int a1), (2, .int (a2 + (1 : Int32))), (3, .int (a3 + (1 : Int32)))]) X dX3_countOf_24 rfl rfl (by decide) rfl ?_
        refine j_goto (pc := 27) (tgt := 4) X dX3_countOf_27 (by decide) ?_
        exact ih (a2 + (1 : Int32)) (a3 + (1 : Int32)) h
set_option maxHeartbeats 4000000 in
set_option maxRecDepth 100000 in
theorem tX3_countOf (l : Launch) {E : ET} (hE : Aj E) (G : GT) (i0 : Nat) (hi0 : i0 < cnt 16) (a1 : Int32) {r : Int32} (h : fX3_countOf G i0 a1 = some r) : CI l E yX3_countOf cX3_countOf 4 (some .int) 2 [.ref (Ad E 16 i0), .int a1] G r G := by
  refine Met_I (lv := [(0, .ref (Ad E 16 i0)), (1, .int a1)]) (by decide +kernel) hE (Nat.le_of_ble_eq_true rfl) rfl ?_
  intro p e s m args below meth c X hr hk
  unfold fX3_countOf at h
  refine j_iconst (pc := 0) (v := 0) X dX3_countOf_0 (by decide) ?_
  refine j_istore_n (pc := 1) (lv' := [(0, .ref (Ad E 16 i0)), (1, .int a1), (2, .int (0 : Int32))]) X dX3_countOf_1 rfl (by decide) rfl ?_
  refine j_iconst (pc := 2) (v := 0) X dX3_countOf_2 (by decide) ?_
  refine j_istore_n (pc := 3) (lv' := [(0, .ref (Ad E 16 i0)), (1, .int a1), (2, .int (0 : Int32)), (3, .int (0 : Int32))]) X dX3_countOf_3 rfl (by decide) rfl ?_
  exact tX3_countOf_4 l hE X hr hk G i0 hi0 a1 FU (0 : Int32) (0 : Int32) h
theorem dX3_nextWord_0 : decode cX3_nextWord 0 = .ok (.iload_n 1, 1) := by decide +kernel
theorem dX3_nextWord_1 : decode cX3_nextWord 1 = .ok (.istore_n 2, 1) := by decide +kernel
theorem dX3_nextWord_2 : decode cX3_nextWord 2 = .ok (.iload_n 2, 1) := by decide +kernel
theorem dX3_nextWord_3 : decode cX3_nextWord 3 = .ok (.aload_n 0, 1) := by decide +kernel
theorem dX3_nextWord_4 : decode cX3_nextWord 4 = .ok (.getfield 9, 3) := by decide +kernel
theorem dX3_nextWord_7 : decode cX3_nextWord 7 = .ok (.if_icmp .ge 21, 3) := by decide +kernel
theorem dX3_nextWord_10 : decode cX3_nextWord 10 = .ok (.aload_n 0, 1) := by decide +kernel
theorem dX3_nextWord_11 : decode cX3_nextWord 11 = .ok (.iload_n 2, 1) := by decide +kernel
theorem dX3_nextWord_12 : decode cX3_nextWord 12 = .ok (.invokevirtual 44, 3) := by decide +kernel
theorem dX3_nextWord_15 : decode cX3_nextWord 15 = .ok (.bipush (-5), 2) := by decide +kernel
theorem dX3_nextWord_17 : decode cX3_nextWord 17 = .ok (.if_icmp .eq 5, 3) := by decide +kernel
theorem dX3_nextWord_20 : decode cX3_nextWord 20 = .ok (.iload_n 2, 1) := by decide +kernel
theorem dX3_nextWord_21 : decode cX3_nextWord 21 = .ok (.ireturn, 1) := by decide +kernel
theorem dX3_nextWord_22 : decode cX3_nextWord 22 = .ok (.iinc 2 1, 3) := by decide +kernel
theorem dX3_nextWord_25 : decode cX3_nextWord 25 = .ok (.goto (-23), 3) := by decide +kernel
theorem dX3_nextWord_28 : decode cX3_nextWord 28 = .ok (.aload_n 0, 1) := by decide +kernel
theorem dX3_nextWord_29 : decode cX3_nextWord 29 = .ok (.getfield 9, 3) := by decide +kernel
theorem dX3_nextWord_32 : decode cX3_nextWord 32 = .ok (.ireturn, 1) := by decide +kernel
set_option maxHeartbeats 4000000 in
set_option maxRecDepth 100000 in
theorem tX3_nextWord_2 (l : Launch) {E : ET} (hE : Aj E) {p : Program} {e : Env} {s : State} {m : MethodId} {args : Array Value} {below : List Frame} {meth : Method} {c : Code} (X : Cx p (rmL 2) s m args c yX3_nextWord.cls cX3_nextWord 3 E (Aw E) 0 0) (hr : meth.sig.returnType = (some .int)) (hk : meth.locks = false) {r : Int32} (G : GT) (i0 : Nat) (hi0 : i0 < cnt 16) : ∀ (n : Nat) (a2 : Int32), fX3_nextWord_2 G i0 n a2 = some r → J p l e (rmL 2) s m args below meth c E (Aw E) s.heap 3 0 0 (MQ below (QI E r G) args s 0 0 (Aw E)) G 2 [(0, .ref (Ad E 16 i0)), (2, .int a2)] [] := by
  intro n
  induction n with
  | zero =>
    intro a2 h
    simp [fX3_nextWord_2] at h
  | succ n ih =>
    intro a2 h
    rw [fX3_nextWord_2] at h
    refine j_iload_n (pc := 2) X dX3_nextWord_2 rfl 1 rfl ?_
    refine j_aload_n (pc := 3) X dX3_nextWord_3 rfl 0 rfl ?_
    refine j_get (pc := 4) (v := .int (G 16 i0 0)) X gf_X3_9 hi0 rfl rfl dX3_nextWord_4 ?_
    refine j_icmp_ge (pc := 7) (tgt := 28) X dX3_nextWord_7 (by decide) (fun hc => ?_) (fun hc => ?_)
    · rw [if_pos hc] at h
      refine j_aload_n (pc := 28) X dX3_nextWord_28 rfl 0 rfl ?_
      refine j_get (pc := 29) (v := .int (G 16 i0 0)) X gf_X3_9 hi0 rfl rfl dX3_nextWord_29 ?_
      exact j_ret (pc := 32) X hr hk (vp_nar_int _) (Option.some.inj h) rfl dX3_nextWord_32
    · rw [if_neg hc] at h
      refine j_aload_n (pc := 10) X dX3_nextWord_10 rfl 0 rfl ?_
      refine j_iload_n (pc := 11) X dX3_nextWord_11 rfl 1 rfl ?_
      obtain ⟨r1, hc3, h⟩ := bd_s h
      refine j_callI (pc := 12) X (tX3_wordOf l hE G i0 hi0 a2 hc3) muX3_wordOf hi0 q409 rfl rfl (Nat.le_of_ble_eq_true rfl) ⟨Nat.le_of_ble_eq_true rfl, Nat.le_of_ble_eq_true rfl⟩ dX3_nextWord_12 ?_
      refine j_bipush (pc := 15) (v := (-5)) X dX3_nextWord_15 (by decide) ?_
      refine j_icmp_eq (pc := 17) (tgt := 22) X dX3_nextWord_17 (by decide) (fun hc => ?_) (fun hc => ?_)
      · rw [if_pos hc] at h
        refine j_iinc (pc := 22) (q := 1) (v := (a2 + (1 : Int32))) (lv' := [(0, .ref (Ad E 16 i0)), (2, .int (a2 + (1 : Int32)))]) X dX3_nextWord_22 rfl rfl (by decide) rfl ?_
        refine j_goto (pc := 25) (tgt := 2) X dX3_nextWord_25 (by decide) ?_
        exact ih (a2 + (1 : Int32)) h
      · rw [if_neg hc] at h
        refine j_iload_n (pc := 20) X dX3_nextWord_20 rfl 1 rfl ?_
        exact j_ret (pc := 21) X hr hk (vp_nar_int _) (Option.some.inj h) rfl dX3_nextWord_21
set_option maxHeartbeats 4000000 in
set_option maxRecDepth 100000 in
theorem tX3_nextWord (l : Launch) {E : ET} (hE : Aj E) (G : GT) (i0 : Nat) (hi0 : i0 < cnt 16) (a1 : Int32) {r : Int32} (h : fX3_nextWord G i0 a1 = some r) : CI l E yX3_nextWord cX3_nextWord 3 (some .int) 2 [.ref (Ad E 16 i0), .int a1] G r G := by
  refine Met_I (lv := [(0, .ref (Ad E 16 i0)), (1, .int a1)]) (by decide +kernel) hE (Nat.le_of_ble_eq_true rfl) rfl ?_
  intro p e s m args below meth c X hr hk
  unfold fX3_nextWord at h
  refine j_iload_n (pc := 0) X dX3_nextWord_0 rfl 1 rfl ?_
  refine j_istore_n (pc := 1) (lv' := [(0, .ref (Ad E 16 i0)), (1, .int a1), (2, .int a1)]) X dX3_nextWord_1 rfl (by decide) rfl ?_
  refine j_lv (lv' := [(0, .ref (Ad E 16 i0)), (2, .int a1)]) [0, 2] rfl ?_
  exact tX3_nextWord_2 l hE X hr hk G i0 hi0 FU a1 h
theorem dX3_sameWordsAs_0 : decode cX3_sameWordsAs 0 = .ok (.iconst 0, 1) := by decide +kernel
theorem dX3_sameWordsAs_1 : decode cX3_sameWordsAs 1 = .ok (.istore_n 2, 1) := by decide +kernel
theorem dX3_sameWordsAs_2 : decode cX3_sameWordsAs 2 = .ok (.iconst 0, 1) := by decide +kernel
theorem dX3_sameWordsAs_3 : decode cX3_sameWordsAs 3 = .ok (.istore_n 3, 1) := by decide +kernel
theorem dX3_sameWordsAs_4 : decode cX3_sameWordsAs 4 = .ok (.iload_n 3, 1) := by decide +kernel
theorem dX3_sameWordsAs_5 : decode cX3_sameWordsAs 5 = .ok (.aload_n 0, 1) := by decide +kernel
theorem dX3_sameWordsAs_6 : decode cX3_sameWordsAs 6 = .ok (.getfield 9, 3) := by decide +kernel
theorem dX3_sameWordsAs_9 : decode cX3_sameWordsAs 9 = .ok (.if_icmp .ge 43, 3) := by decide +kernel
theorem dX3_sameWordsAs_12 : decode cX3_sameWordsAs 12 = .ok (.aload_n 0, 1) := by decide +kernel
theorem dX3_sameWordsAs_13 : decode cX3_sameWordsAs 13 = .ok (.iload_n 3, 1) := by decide +kernel
theorem dX3_sameWordsAs_14 : decode cX3_sameWordsAs 14 = .ok (.invokevirtual 44, 3) := by decide +kernel
theorem dX3_sameWordsAs_17 : decode cX3_sameWordsAs 17 = .ok (.bipush (-5), 2) := by decide +kernel
theorem dX3_sameWordsAs_19 : decode cX3_sameWordsAs 19 = .ok (.if_icmp .eq 27, 3) := by decide +kernel
theorem dX3_sameWordsAs_22 : decode cX3_sameWordsAs 22 = .ok (.aload_n 1, 1) := by decide +kernel
theorem dX3_sameWordsAs_23 : decode cX3_sameWordsAs 23 = .ok (.iload_n 2, 1) := by decide +kernel
theorem dX3_sameWordsAs_24 : decode cX3_sameWordsAs 24 = .ok (.invokevirtual 47, 3) := by decide +kernel
theorem dX3_sameWordsAs_27 : decode cX3_sameWordsAs 27 = .ok (.istore_n 2, 1) := by decide +kernel
theorem dX3_sameWordsAs_28 : decode cX3_sameWordsAs 28 = .ok (.aload_n 0, 1) := by decide +kernel
theorem dX3_sameWordsAs_29 : decode cX3_sameWordsAs 29 = .ok (.iload_n 3, 1) := by decide +kernel
theorem dX3_sameWordsAs_30 : decode cX3_sameWordsAs 30 = .ok (.invokevirtual 44, 3) := by decide +kernel
theorem dX3_sameWordsAs_33 : decode cX3_sameWordsAs 33 = .ok (.aload_n 1, 1) := by decide +kernel
theorem dX3_sameWordsAs_34 : decode cX3_sameWordsAs 34 = .ok (.iload_n 2, 1) := by decide +kernel
theorem dX3_sameWordsAs_35 : decode cX3_sameWordsAs 35 = .ok (.invokevirtual 44, 3) := by decide +kernel
theorem dX3_sameWordsAs_38 : decode cX3_sameWordsAs 38 = .ok (.if_icmp .eq 5, 3) := by decide +kernel
theorem dX3_sameWordsAs_41 : decode cX3_sameWordsAs 41 = .ok (.iconst 0, 1) := by decide +kernel
theorem dX3_sameWordsAs_42 : decode cX3_sameWordsAs 42 = .ok (.ireturn, 1) := by decide +kernel
theorem dX3_sameWordsAs_43 : decode cX3_sameWordsAs 43 = .ok (.iinc 2 1, 3) := by decide +kernel
theorem dX3_sameWordsAs_46 : decode cX3_sameWordsAs 46 = .ok (.iinc 3 1, 3) := by decide +kernel
theorem dX3_sameWordsAs_49 : decode cX3_sameWordsAs 49 = .ok (.goto (-45), 3) := by decide +kernel
theorem dX3_sameWordsAs_52 : decode cX3_sameWordsAs 52 = .ok (.aload_n 0, 1) := by decide +kernel
theorem dX3_sameWordsAs_53 : decode cX3_sameWordsAs 53 = .ok (.invokevirtual 50, 3) := by decide +kernel
theorem dX3_sameWordsAs_56 : decode cX3_sameWordsAs 56 = .ok (.aload_n 1, 1) := by decide +kernel
theorem dX3_sameWordsAs_57 : decode cX3_sameWordsAs 57 = .ok (.invokevirtual 50, 3) := by decide +kernel
theorem dX3_sameWordsAs_60 : decode cX3_sameWordsAs 60 = .ok (.if_icmp .ne 7, 3) := by decide +kernel
theorem dX3_sameWordsAs_63 : decode cX3_sameWordsAs 63 = .ok (.iconst 1, 1) := by decide +kernel
theorem dX3_sameWordsAs_64 : decode cX3_sameWordsAs 64 = .ok (.goto 4, 3) := by decide +kernel
theorem dX3_sameWordsAs_67 : decode cX3_sameWordsAs 67 = .ok (.iconst 0, 1) := by decide +kernel
theorem dX3_sameWordsAs_68 : decode cX3_sameWordsAs 68 = .ok (.ireturn, 1) := by decide +kernel
set_option maxHeartbeats 4000000 in
set_option maxRecDepth 100000 in
theorem tX3_sameWordsAs_4 (l : Launch) {E : ET} (hE : Aj E) {p : Program} {e : Env} {s : State} {m : MethodId} {args : Array Value} {below : List Frame} {meth : Method} {c : Code} (X : Cx p (rmL 3) s m args c yX3_sameWordsAs.cls cX3_sameWordsAs 4 E (Aw E) 0 0) (hr : meth.sig.returnType = (some .boolean)) (hk : meth.locks = false) {r : Int32} (G : GT) (i0 : Nat) (hi0 : i0 < cnt 16) (i1 : Nat) (hi1 : i1 < cnt 16) : ∀ (n : Nat) (a2 a3 : Int32), fX3_sameWordsAs_4 G i0 i1 n a2 a3 = some r → J p l e (rmL 3) s m args below meth c E (Aw E) s.heap 4 0 0 (MQ below (QI E r G) args s 0 0 (Aw E)) G 4 [(0, .ref (Ad E 16 i0)), (1, .ref (Ad E 16 i1)), (2, .int a2), (3, .int a3)] [] := by
  intro n
  induction n with
  | zero =>
    intro a2 a3 h
    simp [fX3_sameWordsAs_4] at h
  | succ n ih =>
    intro a2 a3 h
    rw [fX3_sameWordsAs_4] at h
    refine j_iload_n (pc := 4) X dX3_sameWordsAs_4 rfl 3 rfl ?_
    refine j_aload_n (pc := 5) X dX3_sameWordsAs_5 rfl 0 rfl ?_
    refine j_get (pc := 6) (v := .int (G 16 i0 0)) X gf_X3_9 hi0 rfl rfl dX3_sameWordsAs_6 ?_
    refine j_icmp_ge (pc := 9) (tgt := 52) X dX3_sameWordsAs_9 (by decide) (fun hc => ?_) (fun hc => ?_)
    · rw [if_pos hc] at h
      refine j_aload_n (pc := 52) X dX3_sameWordsAs_52 rfl 0 rfl ?_
      obtain ⟨r1, hc3, h⟩ := bd_s h
      refine j_callI (pc := 53) X (tX3_wordRuns l hE G i0 hi0 hc3) muX3_wordRuns hi0 q623 rfl rfl (Nat.le_of_ble_eq_true rfl) ⟨Nat.le_of_ble_eq_true rfl, Nat.le_of_ble_eq_true rfl⟩ dX3_sameWordsAs_53 ?_
      refine j_aload_n (pc := 56) X dX3_sameWordsAs_56 rfl 1 rfl ?_
      obtain ⟨r4, hc6, h⟩ := bd_s h
      refine j_callI (pc := 57) X (tX3_wordRuns l hE G i1 hi1 hc6) muX3_wordRuns hi1 q623 rfl rfl (Nat.le_of_ble_eq_true rfl) ⟨Nat.le_of_ble_eq_true rfl, Nat.le_of_ble_eq_true rfl⟩ dX3_sameWordsAs_57 ?_
      refine j_icmp_ne (pc := 60) (tgt := 67) X dX3_sameWordsAs_60 (by decide) (fun hc => ?_) (fun hc => ?_)
      · rw [if_neg hc] at h
        refine j_iconst (pc := 67) (v := 0) X dX3_sameWordsAs_67 (by decide) ?_
        exact j_ret (pc := 68) X hr hk rfl (Option.some.inj h) rfl dX3_sameWordsAs_68
      · rw [if_pos hc] at h
        refine j_iconst (pc := 63) (v := 1) X dX3_sameWordsAs_63 (by decide) ?_
        refine j_goto (pc := 64) (tgt := 68) X dX3_sameWordsAs_64 (by decide) ?_
        exact j_ret (pc := 68) X hr hk rfl (Option.some.inj h) rfl dX3_sameWordsAs_68
    · rw [if_neg hc] at h
      refine j_aload_n (pc := 12) X dX3_sameWordsAs_12 rfl 0 rfl ?_
      refine j_iload_n (pc := 13) X dX3_sameWordsAs_13 rfl 3 rfl ?_
      obtain ⟨r7, hc9, h⟩ := bd_s h
      refine j_callI (pc := 14) X (tX3_wordOf l hE G i0 hi0 a3 hc9) muX3_wordOf hi0 q409 rfl rfl (Nat.le_of_ble_eq_true rfl) ⟨Nat.le_of_ble_eq_true rfl, Nat.le_of_ble_eq_true rfl⟩ dX3_sameWordsAs_14 ?_
      refine j_bipush (pc := 17) (v := (-5)) X dX3_sameWordsAs_17 (by decide) ?_
      refine j_icmp_eq (pc := 19) (tgt := 46) X dX3_sameWordsAs_19 (by decide) (fun hc => ?_) (fun hc => ?_)
      · rw [if_pos hc] at h
        refine j_iinc (pc := 46) (q := 3) (v := (a3 + (1 : Int32))) (lv' := [(0, .ref (Ad E 16 i0)), (1, .ref (Ad E 16 i1)), (2, .int a2), (3, .int (a3 + (1 : Int32)))]) X dX3_sameWordsAs_46 rfl rfl (by decide) rfl ?_
        refine j_goto (pc := 49) (tgt := 4) X dX3_sameWordsAs_49 (by decide) ?_
        exact ih a2 (a3 + (1 : Int32)) h
      · rw [if_neg hc] at h
        refine j_aload_n (pc := 22) X dX3_sameWordsAs_22 rfl 1 rfl ?_
        refine j_iload_n (pc := 23) X dX3_sameWordsAs_23 rfl 2 rfl ?_
        obtain ⟨r10, hc12, h⟩ := bd_s h
        refine j_callI (pc := 24) X (tX3_nextWord l hE G i1 hi1 a2 hc12) muX3_nextWord hi1 q619 rfl rfl (Nat.le_of_ble_eq_true rfl) ⟨Nat.le_of_ble_eq_true rfl, Nat.le_of_ble_eq_true rfl⟩ dX3_sameWordsAs_24 ?_
        refine j_istore_n (pc := 27) (lv' := [(0, .ref (Ad E 16 i0)), (1, .ref (Ad E 16 i1)), (2, .int r10), (3, .int a3)]) X dX3_sameWordsAs_27 rfl (by decide) rfl ?_
        refine j_aload_n (pc := 28) X dX3_sameWordsAs_28 rfl 0 rfl ?_
        refine j_iload_n (pc := 29) X dX3_sameWordsAs_29 rfl 3 rfl ?_
        obtain ⟨r13, hc15, h⟩ := bd_s h
        refine j_callI (pc := 30) X (tX3_wordOf l hE G i0 hi0 a3 hc15) muX3_wordOf hi0 q409 rfl rfl (Nat.le_of_ble_eq_true rfl) ⟨Nat.le_of_ble_eq_true rfl, Nat.le_of_ble_eq_true rfl⟩ dX3_sameWordsAs_30 ?_
        refine j_aload_n (pc := 33) X dX3_sameWordsAs_33 rfl 1 rfl ?_
        refine j_iload_n (pc := 34) X dX3_sameWordsAs_34 rfl 2 rfl ?_
        obtain ⟨r16, hc18, h⟩ := bd_s h
        refine j_callI (pc := 35) X (tX3_wordOf l hE G i1 hi1 r10 hc18) muX3_wordOf hi1 q409 rfl rfl (Nat.le_of_ble_eq_true rfl) ⟨Nat.le_of_ble_eq_true rfl, Nat.le_of_ble_eq_true rfl⟩ dX3_sameWordsAs_35 ?_
        refine j_icmp_eq (pc := 38) (tgt := 43) X dX3_sameWordsAs_38 (by decide) (fun hc => ?_) (fun hc => ?_)
        · rw [if_pos hc] at h
          refine j_iinc (pc := 43) (q := 2) (v := (r10 + (1 : Int32))) (lv' := [(0, .ref (Ad E 16 i0)), (1, .ref (Ad E 16 i1)), (2, .int (r10 + (1 : Int32))), (3, .int a3)]) X dX3_sameWordsAs_43 rfl rfl (by decide) rfl ?_
          refine j_iinc (pc := 46) (q := 3) (v := (a3 + (1 : Int32))) (lv' := [(0, .ref (Ad E 16 i0)), (1, .ref (Ad E 16 i1)), (2, .int (r10 + (1 : Int32))), (3, .int (a3 + (1 : Int32)))]) X dX3_sameWordsAs_46 rfl rfl (by decide) rfl ?_
          refine j_goto (pc := 49) (tgt := 4) X dX3_sameWordsAs_49 (by decide) ?_
          exact ih (r10 + (1 : Int32)) (a3 + (1 : Int32)) h
        · rw [if_neg hc] at h
          refine j_iconst (pc := 41) (v := 0) X dX3_sameWordsAs_41 (by decide) ?_
          exact j_ret (pc := 42) X hr hk rfl (Option.some.inj h) rfl dX3_sameWordsAs_42
set_option maxHeartbeats 4000000 in
set_option maxRecDepth 100000 in
theorem tX3_sameWordsAs (l : Launch) {E : ET} (hE : Aj E) (G : GT) (i0 : Nat) (hi0 : i0 < cnt 16) (i1 : Nat) (hi1 : i1 < cnt 16) {r : Int32} (h : fX3_sameWordsAs G i0 i1 = some r) : CI l E yX3_sameWordsAs cX3_sameWordsAs 4 (some .boolean) 3 [.ref (Ad E 16 i0), .ref (Ad E 16 i1)] G r G := by
  refine Met_I (lv := [(0, .ref (Ad E 16 i0)), (1, .ref (Ad E 16 i1))]) (by decide +kernel) hE (Nat.le_of_ble_eq_true rfl) rfl ?_
  intro p e s m args below meth c X hr hk
  unfold fX3_sameWordsAs at h
  refine j_iconst (pc := 0) (v := 0) X dX3_sameWordsAs_0 (by decide) ?_
  refine j_istore_n (pc := 1) (lv' := [(0, .ref (Ad E 16 i0)), (1, .ref (Ad E 16 i1)), (2, .int (0 : Int32))]) X dX3_sameWordsAs_1 rfl (by decide) rfl ?_
  refine j_iconst (pc := 2) (v := 0) X dX3_sameWordsAs_2 (by decide) ?_
  refine j_istore_n (pc := 3) (lv' := [(0, .ref (Ad E 16 i0)), (1, .ref (Ad E 16 i1)), (2, .int (0 : Int32)), (3, .int (0 : Int32))]) X dX3_sameWordsAs_3 rfl (by decide) rfl ?_
  exact tX3_sameWordsAs_4 l hE X hr hk G i0 hi0 i1 hi1 FU (0 : Int32) (0 : Int32) h
theorem dX5_append_0 : decode cX5_append 0 = .ok (.aload_n 0, 1) := by decide +kernel
theorem dX5_append_1 : decode cX5_append 1 = .ok (.getfield 15, 3) := by decide +kernel
theorem dX5_append_4 : decode cX5_append 4 = .ok (.iconst 0, 1) := by decide +kernel
theorem dX5_append_5 : decode cX5_append 5 = .ok (.bipush 49, 2) := by decide +kernel
theorem dX5_append_7 : decode cX5_append 7 = .ok (.invokestatic 19, 3) := by decide +kernel
theorem dX5_append_10 : decode cX5_append 10 = .ok (.ifCond .eq 23, 3) := by decide +kernel
theorem dX5_append_13 : decode cX5_append 13 = .ok (.aload_n 0, 1) := by decide +kernel
theorem dX5_append_14 : decode cX5_append 14 = .ok (.getfield 9, 3) := by decide +kernel
theorem dX5_append_17 : decode cX5_append 17 = .ok (.aload_n 0, 1) := by decide +kernel
theorem dX5_append_18 : decode cX5_append 18 = .ok (.getfield 15, 3) := by decide +kernel
theorem dX5_append_21 : decode cX5_append 21 = .ok (.iload_n 1, 1) := by decide +kernel
theorem dX5_append_22 : decode cX5_append 22 = .ok (.castore, 1) := by decide +kernel
theorem dX5_append_23 : decode cX5_append 23 = .ok (.aload_n 0, 1) := by decide +kernel
theorem dX5_append_24 : decode cX5_append 24 = .ok (.dup, 1) := by decide +kernel
theorem dX5_append_25 : decode cX5_append 25 = .ok (.getfield 15, 3) := by decide +kernel
theorem dX5_append_28 : decode cX5_append 28 = .ok (.iconst 1, 1) := by decide +kernel
theorem dX5_append_29 : decode cX5_append 29 = .ok (.iadd, 1) := by decide +kernel
theorem dX5_append_30 : decode cX5_append 30 = .ok (.putfield 15, 3) := by decide +kernel
theorem dX5_append_33 : decode cX5_append 33 = .ok (.return_, 1) := by decide +kernel
set_option maxHeartbeats 4000000 in
set_option maxRecDepth 100000 in
theorem tX5_append (l : Launch) {E : ET} (hE : Aj E) (G : GT) (a1 : Int32) {G' : GT} (h : fX5_append G a1 = some G') : CV l E yX5_append cX5_append 2 none 1 [.ref (Ad E 14 0), .int a1] G G' := by
  refine Met_V (lv := [(0, .ref (Ad E 14 0)), (1, .int a1)]) (by decide +kernel) hE (Nat.le_of_ble_eq_true rfl) rfl ?_
  intro p e s m args below meth c X hr hk
  unfold fX5_append at h
  refine j_aload_n (pc := 0) X dX5_append_0 rfl 0 rfl ?_
  refine j_get (pc := 1) (v := .int (G 14 0 1)) X gf_X5_15 (by decide) rfl rfl dX5_append_1 ?_
  refine j_iconst (pc := 4) (v := 0) X dX5_append_4 (by decide) ?_
  refine j_bipush (pc := 5) (v := 49) X dX5_append_5 (by decide) ?_
  obtain ⟨r1, hc3, h⟩ := bd_s h
  refine j_staI (pc := 7) X (tX7_isWithin l hE G (G 14 0 1) (0 : Int32) (49 : Int32) hc3) muX7_isWithin (Or.inr ⟨_, q354⟩) rfl rfl (Nat.le_of_ble_eq_true rfl) ⟨Nat.le_of_ble_eq_true rfl, Nat.le_of_ble_eq_true rfl⟩ dX5_append_7 ?_
  refine j_if_eq (pc := 10) (tgt := 33) X dX5_append_10 (by decide) (fun hc => ?_) (fun hc => ?_)
  · rw [if_pos hc] at h
    exact j_vret (pc := 33) X hr hk (Option.some.inj h) dX5_append_33
  · rw [if_neg hc] at h
    refine j_aload_n (pc := 13) X dX5_append_13 rfl 0 rfl ?_
    refine j_get (pc := 14) (v := .ref (Ad E 15 0)) X gf_X5_9 (by decide) rfl rfl dX5_append_14 ?_
    refine j_aload_n (pc := 17) X dX5_append_17 rfl 0 rfl ?_
    refine j_get (pc := 18) (v := .int (G 14 0 1)) X gf_X5_15 (by decide) rfl rfl dX5_append_18 ?_
    refine j_iload_n (pc := 21) X dX5_append_21 rfl 1 rfl ?_
    obtain ⟨hg4, h⟩ := gd_s h
    obtain ⟨G5, hG5, h⟩ := st3_s h
    refine j_cast (pc := 22) (n := 50) X hG5 (by decide) (fun _ => rfl) hg4 dX5_append_22 ?_
    refine j_aload_n (pc := 23) X dX5_append_23 rfl 0 rfl ?_
    refine j_dup (pc := 24) X dX5_append_24 rfl ?_
    refine j_get (pc := 25) (v := .int (G5 14 0 1)) X gf_X5_15 (by decide) rfl rfl dX5_append_25 ?_
    refine j_iconst (pc := 28) (v := 1) X dX5_append_28 (by decide) ?_
    refine j_iadd (pc := 29) X dX5_append_29 ?_
    obtain ⟨G6, hG6, h⟩ := st3_s h
    refine j_put (pc := 30) X hG6 gf_X5_15 tyX5 tyX5_ok nmX5 (by decide) rfl rfl (Nat.le_of_ble_eq_true rfl) rfl rfl rfl dX5_append_30 ?_
    exact j_vret (pc := 33) X hr hk (Option.some.inj h) dX5_append_33
theorem dX5_clear_0 : decode cX5_clear 0 = .ok (.aload_n 0, 1) := by decide +kernel
theorem dX5_clear_1 : decode cX5_clear 1 = .ok (.iconst 0, 1) := by decide +kernel
theorem dX5_clear_2 : decode cX5_clear 2 = .ok (.putfield 15, 3) := by decide +kernel
theorem dX5_clear_5 : decode cX5_clear 5 = .ok (.return_, 1) := by decide +kernel
set_option maxHeartbeats 4000000 in
set_option maxRecDepth 100000 in
theorem tX5_clear (l : Launch) {E : ET} (hE : Aj E) (G : GT) {G' : GT} (h : fX5_clear G = some G') : CV l E yX5_clear cX5_clear 1 none 0 [.ref (Ad E 14 0)] G G' := by
  refine Met_V (lv := [(0, .ref (Ad E 14 0))]) (by decide +kernel) hE (Nat.le_of_ble_eq_true rfl) rfl ?_
  intro p e s m args below meth c X hr hk
  unfold fX5_clear at h
  refine j_aload_n (pc := 0) X dX5_clear_0 rfl 0 rfl ?_
  refine j_iconst (pc := 1) (v := 0) X dX5_clear_1 (by decide) ?_
  obtain ⟨G1, hG1, h⟩ := st3_s h
  refine j_put (pc := 2) X hG1 gf_X5_15 tyX5 tyX5_ok nmX5 (by decide) rfl rfl (Nat.le_of_ble_eq_true rfl) rfl rfl rfl dX5_clear_2 ?_
  exact j_vret (pc := 5) X hr hk (Option.some.inj h) dX5_clear_5
theorem dX5_characterAt_0 : decode cX5_characterAt 0 = .ok (.iload_n 1, 1) := by decide +kernel
theorem dX5_characterAt_1 : decode cX5_characterAt 1 = .ok (.iconst 0, 1) := by decide +kernel
theorem dX5_characterAt_2 : decode cX5_characterAt 2 = .ok (.bipush 49, 2) := by decide +kernel
theorem dX5_characterAt_4 : decode cX5_characterAt 4 = .ok (.invokestatic 19, 3) := by decide +kernel
theorem dX5_characterAt_7 : decode cX5_characterAt 7 = .ok (.ifCond .eq 12, 3) := by decide +kernel
theorem dX5_characterAt_10 : decode cX5_characterAt 10 = .ok (.aload_n 0, 1) := by decide +kernel
theorem dX5_characterAt_11 : decode cX5_characterAt 11 = .ok (.getfield 9, 3) := by decide +kernel
theorem dX5_characterAt_14 : decode cX5_characterAt 14 = .ok (.iload_n 1, 1) := by decide +kernel
theorem dX5_characterAt_15 : decode cX5_characterAt 15 = .ok (.caload, 1) := by decide +kernel
theorem dX5_characterAt_16 : decode cX5_characterAt 16 = .ok (.goto 4, 3) := by decide +kernel
theorem dX5_characterAt_19 : decode cX5_characterAt 19 = .ok (.iconst 0, 1) := by decide +kernel
theorem dX5_characterAt_20 : decode cX5_characterAt 20 = .ok (.ireturn, 1) := by decide +kernel
set_option maxHeartbeats 4000000 in
set_option maxRecDepth 100000 in
theorem tX5_characterAt (l : Launch) {E : ET} (hE : Aj E) (G : GT) (a1 : Int32) {r : Int32} (h : fX5_characterAt G a1 = some r) : CI l E yX5_characterAt cX5_characterAt 2 (some .char) 1 [.ref (Ad E 14 0), .int a1] G r G := by
  refine Met_I (lv := [(0, .ref (Ad E 14 0)), (1, .int a1)]) (by decide +kernel) hE (Nat.le_of_ble_eq_true rfl) rfl ?_
  intro p e s m args below meth c X hr hk
  unfold fX5_characterAt at h
  refine j_iload_n (pc := 0) X dX5_characterAt_0 rfl 1 rfl ?_
  refine j_iconst (pc := 1) (v := 0) X dX5_characterAt_1 (by decide) ?_
  refine j_bipush (pc := 2) (v := 49) X dX5_characterAt_2 (by decide) ?_
  obtain ⟨r1, hc3, h⟩ := bd_s h
  refine j_staI (pc := 4) X (tX7_isWithin l hE G a1 (0 : Int32) (49 : Int32) hc3) muX7_isWithin (Or.inr ⟨_, q354⟩) rfl rfl (Nat.le_of_ble_eq_true rfl) ⟨Nat.le_of_ble_eq_true rfl, Nat.le_of_ble_eq_true rfl⟩ dX5_characterAt_4 ?_
  refine j_if_eq (pc := 7) (tgt := 19) X dX5_characterAt_7 (by decide) (fun hc => ?_) (fun hc => ?_)
  · rw [if_pos hc] at h
    refine j_iconst (pc := 19) (v := 0) X dX5_characterAt_19 (by decide) ?_
    exact j_ret (pc := 20) X hr hk rfl (Option.some.inj h) rfl dX5_characterAt_20
  · rw [if_neg hc] at h
    refine j_aload_n (pc := 10) X dX5_characterAt_10 rfl 0 rfl ?_
    refine j_get (pc := 11) (v := .ref (Ad E 15 0)) X gf_X5_9 (by decide) rfl rfl dX5_characterAt_11 ?_
    refine j_iload_n (pc := 14) X dX5_characterAt_14 rfl 1 rfl ?_
    obtain ⟨hg4, h⟩ := gd_s h
    refine j_cald (pc := 15) (n := 50) X (by decide) rfl hg4 dX5_characterAt_15 ?_
    refine j_goto (pc := 16) (tgt := 20) X dX5_characterAt_16 (by decide) ?_
    obtain ⟨hg5, h⟩ := gd_s h
    exact j_ret (pc := 20) X hr hk (of_decide_eq_true hg5) (Option.some.inj h) rfl dX5_characterAt_20
theorem dX5_isKind_0 : decode cX5_isKind 0 = .ok (.iload_n 0, 1) := by decide +kernel
theorem dX5_isKind_1 : decode cX5_isKind 1 = .ok (.bipush 49, 2) := by decide +kernel
theorem dX5_isKind_3 : decode cX5_isKind 3 = .ok (.if_icmp .lt 13, 3) := by decide +kernel
theorem dX5_isKind_6 : decode cX5_isKind 6 = .ok (.iload_n 0, 1) := by decide +kernel
theorem dX5_isKind_7 : decode cX5_isKind 7 = .ok (.bipush 53, 2) := by decide +kernel
theorem dX5_isKind_9 : decode cX5_isKind 9 = .ok (.if_icmp .gt 7, 3) := by decide +kernel
theorem dX5_isKind_12 : decode cX5_isKind 12 = .ok (.iconst 1, 1) := by decide +kernel
theorem dX5_isKind_13 : decode cX5_isKind 13 = .ok (.goto 4, 3) := by decide +kernel
theorem dX5_isKind_16 : decode cX5_isKind 16 = .ok (.iconst 0, 1) := by decide +kernel
theorem dX5_isKind_17 : decode cX5_isKind 17 = .ok (.ireturn, 1) := by decide +kernel
set_option maxHeartbeats 4000000 in
set_option maxRecDepth 100000 in
theorem tX5_isKind (l : Launch) {E : ET} (hE : Aj E) (G : GT) (a0 : Int32) {r : Int32} (h : fX5_isKind a0 = some r) : CI l E yX5_isKind cX5_isKind 1 (some .boolean) 0 [.int a0] G r G := by
  refine Met_I (lv := [(0, .int a0)]) (by decide +kernel) hE (Nat.le_of_ble_eq_true rfl) rfl ?_
  intro p e s m args below meth c X hr hk
  unfold fX5_isKind at h
  refine j_iload_n (pc := 0) X dX5_isKind_0 rfl 0 rfl ?_
  refine j_bipush (pc := 1) (v := 49) X dX5_isKind_1 (by decide) ?_
  refine j_icmp_lt (pc := 3) (tgt := 16) X dX5_isKind_3 (by decide) (fun hc => ?_) (fun hc => ?_)
  · rw [if_pos hc] at h
    refine j_iconst (pc := 16) (v := 0) X dX5_isKind_16 (by decide) ?_
    exact j_ret (pc := 17) X hr hk rfl (Option.some.inj h) rfl dX5_isKind_17
  · rw [if_neg hc] at h
    refine j_iload_n (pc := 6) X dX5_isKind_6 rfl 0 rfl ?_
    refine j_bipush (pc := 7) (v := 53) X dX5_isKind_7 (by decide) ?_
    refine j_icmp_gt (pc := 9) (tgt := 16) X dX5_isKind_9 (by decide) (fun hc => ?_) (fun hc => ?_)
    · rw [if_pos hc] at h
      refine j_iconst (pc := 16) (v := 0) X dX5_isKind_16 (by decide) ?_
      exact j_ret (pc := 17) X hr hk rfl (Option.some.inj h) rfl dX5_isKind_17
    · rw [if_neg hc] at h
      refine j_iconst (pc := 12) (v := 1) X dX5_isKind_12 (by decide) ?_
      refine j_goto (pc := 13) (tgt := 17) X dX5_isKind_13 (by decide) ?_
      exact j_ret (pc := 17) X hr hk rfl (Option.some.inj h) rfl dX5_isKind_17
theorem dX5_isPlace_0 : decode cX5_isPlace 0 = .ok (.iload_n 0, 1) := by decide +kernel
theorem dX5_isPlace_1 : decode cX5_isPlace 1 = .ok (.bipush 46, 2) := by decide +kernel
theorem dX5_isPlace_3 : decode cX5_isPlace 3 = .ok (.if_icmp .eq 10, 3) := by decide +kernel
theorem dX5_isPlace_6 : decode cX5_isPlace 6 = .ok (.iload_n 0, 1) := by decide +kernel
theorem dX5_isPlace_7 : decode cX5_isPlace 7 = .ok (.invokestatic 38, 3) := by decide +kernel
theorem dX5_isPlace_10 : decode cX5_isPlace 10 = .ok (.ifCond .eq 7, 3) := by decide +kernel
theorem dX5_isPlace_13 : decode cX5_isPlace 13 = .ok (.iconst 1, 1) := by decide +kernel
theorem dX5_isPlace_14 : decode cX5_isPlace 14 = .ok (.goto 4, 3) := by decide +kernel
theorem dX5_isPlace_17 : decode cX5_isPlace 17 = .ok (.iconst 0, 1) := by decide +kernel
theorem dX5_isPlace_18 : decode cX5_isPlace 18 = .ok (.ireturn, 1) := by decide +kernel
set_option maxHeartbeats 4000000 in
set_option maxRecDepth 100000 in
theorem tX5_isPlace (l : Launch) {E : ET} (hE : Aj E) (G : GT) (a0 : Int32) {r : Int32} (h : fX5_isPlace a0 = some r) : CI l E yX5_isPlace cX5_isPlace 1 (some .boolean) 1 [.int a0] G r G := by
  refine Met_I (lv := [(0, .int a0)]) (by decide +kernel) hE (Nat.le_of_ble_eq_true rfl) rfl ?_
  intro p e s m args below meth c X hr hk
  unfold fX5_isPlace at h
  refine j_iload_n (pc := 0) X dX5_isPlace_0 rfl 0 rfl ?_
  refine j_bipush (pc := 1) (v := 46) X dX5_isPlace_1 (by decide) ?_
  refine j_icmp_eq (pc := 3) (tgt := 13) X dX5_isPlace_3 (by decide) (fun hc => ?_) (fun hc => ?_)
  · rw [if_pos hc] at h
    refine j_iconst (pc := 13) (v := 1) X dX5_isPlace_13 (by decide) ?_
    refine j_goto (pc := 14) (tgt := 18) X dX5_isPlace_14 (by decide) ?_
    exact j_ret (pc := 18) X hr hk rfl (Option.some.inj h) rfl dX5_isPlace_18
  · rw [if_neg hc] at h
    refine j_iload_n (pc := 6) X dX5_isPlace_6 rfl 0 rfl ?_
    obtain ⟨r1, hc3, h⟩ := bd_s h
    refine j_staI (pc := 7) X (tX5_isKind l hE G a0 hc3) muX5_isKind (Or.inl q358) rfl rfl (Nat.le_of_ble_eq_true rfl) ⟨Nat.le_of_ble_eq_true rfl, Nat.le_of_ble_eq_true rfl⟩ dX5_isPlace_7 ?_
    refine j_if_eq (pc := 10) (tgt := 17) X dX5_isPlace_10 (by decide) (fun hc => ?_) (fun hc => ?_)
    · rw [if_pos hc] at h
      refine j_iconst (pc := 17) (v := 0) X dX5_isPlace_17 (by decide) ?_
      exact j_ret (pc := 18) X hr hk rfl (Option.some.inj h) rfl dX5_isPlace_18
    · rw [if_neg hc] at h
      refine j_iconst (pc := 13) (v := 1) X dX5_isPlace_13 (by decide) ?_
      refine j_goto (pc := 14) (tgt := 18) X dX5_isPlace_14 (by decide) ?_
      exact j_ret (pc := 18) X hr hk rfl (Option.some.inj h) rfl dX5_isPlace_18
theorem dX5_ropeFault_0 : decode cX5_ropeFault 0 = .ok (.iconst 0, 1) := by decide +kernel
theorem dX5_ropeFault_1 : decode cX5_ropeFault 1 = .ok (.istore_n 1, 1) := by decide +kernel
theorem dX5_ropeFault_2 : decode cX5_ropeFault 2 = .ok (.iconst 0, 1) := by decide +kernel
theorem dX5_ropeFault_3 : decode cX5_ropeFault 3 = .ok (.istore_n 2, 1) := by decide +kernel
theorem dX5_ropeFault_4 : decode cX5_ropeFault 4 = .ok (.iconst 0, 1) := by decide +kernel
theorem dX5_ropeFault_5 : decode cX5_ropeFault 5 = .ok (.istore_n 3, 1) := by decide +kernel
theorem dX5_ropeFault_6 : decode cX5_ropeFault 6 = .ok (.iload_n 3, 1) := by decide +kernel
theorem dX5_ropeFault_7 : decode cX5_ropeFault 7 = .ok (.aload_n 0, 1) := by decide +kernel
theorem dX5_ropeFault_8 : decode cX5_ropeFault 8 = .ok (.getfield 15, 3) := by decide +kernel
theorem dX5_ropeFault_11 : decode cX5_ropeFault 11 = .ok (.if_icmp .ge 60, 3) := by decide +kernel
theorem dX5_ropeFault_14 : decode cX5_ropeFault 14 = .ok (.aload_n 0, 1) := by decide +kernel
theorem dX5_ropeFault_15 : decode cX5_ropeFault 15 = .ok (.iload_n 3, 1) := by decide +kernel
theorem dX5_ropeFault_16 : decode cX5_ropeFault 16 = .ok (.invokevirtual 30, 3) := by decide +kernel
theorem dX5_ropeFault_19 : decode cX5_ropeFault 19 = .ok (.istore 4, 2) := by decide +kernel
theorem dX5_ropeFault_21 : decode cX5_ropeFault 21 = .ok (.iload 4, 2) := by decide +kernel
theorem dX5_ropeFault_23 : decode cX5_ropeFault 23 = .ok (.bipush 33, 2) := by decide +kernel
theorem dX5_ropeFault_25 : decode cX5_ropeFault 25 = .ok (.if_icmp .ne 12, 3) := by decide +kernel
theorem dX5_ropeFault_28 : decode cX5_ropeFault 28 = .ok (.iload_n 2, 1) := by decide +kernel
theorem dX5_ropeFault_29 : decode cX5_ropeFault 29 = .ok (.ifCond .eq 8, 3) := by decide +kernel
theorem dX5_ropeFault_32 : decode cX5_ropeFault 32 = .ok (.iconst 0, 1) := by decide +kernel
theorem dX5_ropeFault_33 : decode cX5_ropeFault 33 = .ok (.istore_n 2, 1) := by decide +kernel
theorem dX5_ropeFault_34 : decode cX5_ropeFault 34 = .ok (.goto 31, 3) := by decide +kernel
theorem dX5_ropeFault_37 : decode cX5_ropeFault 37 = .ok (.iload 4, 2) := by decide +kernel
theorem dX5_ropeFault_39 : decode cX5_ropeFault 39 = .ok (.invokestatic 34, 3) := by decide +kernel
theorem dX5_ropeFault_42 : decode cX5_ropeFault 42 = .ok (.ifCond .eq 21, 3) := by decide +kernel
theorem dX5_ropeFault_45 : decode cX5_ropeFault 45 = .ok (.iload_n 1, 1) := by decide +kernel
theorem dX5_ropeFault_46 : decode cX5_ropeFault 46 = .ok (.bipush 40, 2) := by decide +kernel
theorem dX5_ropeFault_48 : decode cX5_ropeFault 48 = .ok (.if_icmp .ge 15, 3) := by decide +kernel
theorem dX5_ropeFault_51 : decode cX5_ropeFault 51 = .ok (.iinc 1 1, 3) := by decide +kernel
theorem dX5_ropeFault_54 : decode cX5_ropeFault 54 = .ok (.iload 4, 2) := by decide +kernel
theorem dX5_ropeFault_56 : decode cX5_ropeFault 56 = .ok (.invokestatic 38, 3) := by decide +kernel
theorem dX5_ropeFault_59 : decode cX5_ropeFault 59 = .ok (.istore_n 2, 1) := by decide +kernel
theorem dX5_ropeFault_60 : decode cX5_ropeFault 60 = .ok (.goto 5, 3) := by decide +kernel
theorem dX5_ropeFault_63 : decode cX5_ropeFault 63 = .ok (.iload_n 3, 1) := by decide +kernel
theorem dX5_ropeFault_64 : decode cX5_ropeFault 64 = .ok (.ireturn, 1) := by decide +kernel
theorem dX5_ropeFault_65 : decode cX5_ropeFault 65 = .ok (.iinc 3 1, 3) := by decide +kernel
theorem dX5_ropeFault_68 : decode cX5_ropeFault 68 = .ok (.goto (-62), 3) := by decide +kernel
theorem dX5_ropeFault_71 : decode cX5_ropeFault 71 = .ok (.bipush (-5), 2) := by decide +kernel
theorem dX5_ropeFault_73 : decode cX5_ropeFault 73 = .ok (.ireturn, 1) := by decide +kernel
set_option maxHeartbeats 4000000 in
set_option maxRecDepth 100000 in
theorem tX5_ropeFault_37 (l : Launch) {E : ET} (hE : Aj E) {p : Program} {e : Env} {s : State} {m : MethodId} {args : Array Value} {below : List Frame} {meth : Method} {c : Code} (X : Cx p (rmL 2) s m args c yX5_ropeFault.cls cX5_ropeFault 5 E (Aw E) 0 0) (hr : meth.sig.returnType = (some .int)) (hk : meth.locks = false) {r : Int32} (G : GT) (a1 : Int32) (a3 : Int32) (a4 : Int32) (k6 : Int32 → Int32 → Int32 → Option Int32) (hk6 : ∀ (a1 a2 a3 : Int32), k6 a1 a2 a3 = some r → J p l e (rmL 2) s m args below meth c E (Aw E) s.heap 5 0 0 (MQ below (QI E r G) args s 0 0 (Aw E)) G 6 [(0, .ref (Ad E 14 0)), (1, .int a1), (2, .int a2), (3, .int a3)] []) (h : fX5_ropeFault_37 G a1 a3 a4 k6 = some r) : J p l e (rmL 2) s m args below meth c E (Aw E) s.heap 5 0 0 (MQ below (QI E r G) args s 0 0 (Aw E)) G 37 [(0, .ref (Ad E 14 0)), (1, .int a1), (3, .int a3), (4, .int a4)] [] := by
  unfold fX5_ropeFault_37 at h
  refine j_iload (pc := 37) X dX5_ropeFault_37 3 rfl ?_
  obtain ⟨r1, hc3, h⟩ := bd_s h
  refine j_staI (pc := 39) X (tX5_isPlace l hE G a4 hc3) muX5_isPlace (Or.inl q355) rfl rfl (Nat.le_of_ble_eq_true rfl) ⟨Nat.le_of_ble_eq_true rfl, Nat.le_of_ble_eq_true rfl⟩ dX5_ropeFault_39 ?_
  refine j_if_eq (pc := 42) (tgt := 63) X dX5_ropeFault_42 (by decide) (fun hc => ?_) (fun hc => ?_)
  · rw [if_pos hc] at h
    refine j_iload_n (pc := 63) X dX5_ropeFault_63 rfl 2 rfl ?_
    exact j_ret (pc := 64) X hr hk (vp_nar_int _) (Option.some.inj h) rfl dX5_ropeFault_64
  · rw [if_neg hc] at h
    refine j_iload_n (pc := 45) X dX5_ropeFault_45 rfl 1 rfl ?_
    refine j_bipush (pc := 46) (v := 40) X dX5_ropeFault_46 (by decide) ?_
    refine j_icmp_ge (pc := 48) (tgt := 63) X dX5_ropeFault_48 (by decide) (fun hc => ?_) (fun hc => ?_)
    · rw [if_pos hc] at h
      refine j_iload_n (pc := 63) X dX5_ropeFault_63 rfl 2 rfl ?_
      exact j_ret (pc := 64) X hr hk (vp_nar_int _) (Option.some.inj h) rfl dX5_ropeFault_64
    · rw [if_neg hc] at h
      refine j_iinc (pc := 51) (q := 1) (v := (a1 + (1 : Int32))) (lv' := [(0, .ref (Ad E 14 0)), (1, .int (a1 + (1 : Int32))), (3, .int a3), (4, .int a4)]) X dX5_ropeFault_51 rfl rfl (by decide) rfl ?_
      refine j_iload (pc := 54) X dX5_ropeFault_54 3 rfl ?_
      obtain ⟨r4, hc6, h⟩ := bd_s h
      refine j_staI (pc := 56) X (tX5_isKind l hE G a4 hc6) muX5_isKind (Or.inl q358) rfl rfl (Nat.le_of_ble_eq_true rfl) ⟨Nat.le_of_ble_eq_true rfl, Nat.le_of_ble_eq_true rfl⟩ dX5_ropeFault_56 ?_
      refine j_istore_n (pc := 59) (lv' := [(0, .ref (Ad E 14 0)), (1, .int (a1 + (1 : Int32))), (2, .int r4), (3, .int a3), (4, .int a4)]) X dX5_ropeFault_59 rfl (by decide) rfl ?_
      refine j_goto (pc := 60) (tgt := 65) X dX5_ropeFault_60 (by decide) ?_
      refine j_iinc (pc := 65) (q := 3) (v := (a3 + (1 : Int32))) (lv' := [(0, .ref (Ad E 14 0)), (1, .int (a1 + (1 : Int32))), (2, .int r4), (3, .int (a3 + (1 : Int32))), (4, .int a4)]) X dX5_ropeFault_65 rfl rfl (by decide) rfl ?_
      refine j_goto (pc := 68) (tgt := 6) X dX5_ropeFault_68 (by decide) ?_
      refine j_lv (lv' := [(0, .ref (Ad E 14 0)), (1, .int (a1 + (1 : Int32))), (2, .int r4), (3, .int (a3 + (1 : Int32)))]) [0, 1, 2, 3] rfl ?_
      exact hk6 (a1 + (1 : Int32)) r4 (a3 + (1 : Int32)) h
set_option maxHeartbeats 4000000 in
set_option maxRecDepth 100000 in
theorem tX5_ropeFault_6 (l : Launch) {E : ET} (hE : Aj E) {p : Program} {e : Env} {s : State} {m : MethodId} {args : Array Value} {below : List Frame} {meth : Method} {c : Code} (X : Cx p (rmL 2) s m args c yX5_ropeFault.cls cX5_ropeFault 5 E (Aw E) 0 0) (hr : meth.sig.returnType = (some .int)) (hk : meth.locks = false) {r : Int32} (G : GT) : ∀ (n : Nat) (a1 a2 a3 : Int32), fX5_ropeFault_6 G n a1 a2 a3 = some r → J p l e (rmL 2) s m args below meth c E (Aw E) s.heap 5 0 0 (MQ below (QI E r G) args s 0 0 (Aw E)) G 6 [(0, .ref (Ad E 14 0)), (1, .int a1), (2, .int a2), (3, .int a3)] [] := by
  intro n
  induction n with
  | zero =>
    intro a1 a2 a3 h
    simp [fX5_ropeFault_6] at h
  | succ n ih =>
    intro a1 a2 a3 h
    rw [fX5_ropeFault_6] at h
    refine j_iload_n (pc := 6) X dX5_ropeFault_6 rfl 3 rfl ?_
    refine j_aload_n (pc := 7) X dX5_ropeFault_7 rfl 0 rfl ?_
    refine j_get (pc := 8) (v := .int (G 14 0 1)) X gf_X5_15 (by decide) rfl rfl dX5_ropeFault_8 ?_
    refine j_icmp_ge (pc := 11) (tgt := 71) X dX5_ropeFault_11 (by decide) (fun hc => ?_) (fun hc => ?_)
    · rw [if_pos hc] at h
      refine j_bipush (pc := 71) (v := (-5)) X dX5_ropeFault_71 (by decide) ?_
      exact j_ret (pc := 73) X hr hk (vp_nar_int _) (Option.some.inj h) rfl dX5_ropeFault_73
    · rw [if_neg hc] at h
      refine j_aload_n (pc := 14) X dX5_ropeFault_14 rfl 0 rfl ?_
      refine j_iload_n (pc := 15) X dX5_ropeFault_15 rfl 3 rfl ?_
      obtain ⟨r1, hc3, h⟩ := bd_s h
      refine j_callI (pc := 16) X (tX5_characterAt l hE G a3 hc3) muX5_characterAt (by decide) q350 rfl rfl (Nat.le_of_ble_eq_true rfl) ⟨Nat.le_of_ble_eq_true rfl, Nat.le_of_ble_eq_true rfl⟩ dX5_ropeFault_16 ?_
      refine j_istore (pc := 19) (lv' := [(0, .ref (Ad E 14 0)), (1, .int a1), (2, .int a2), (3, .int a3), (4, .int r1)]) X dX5_ropeFault_19 (by decide) rfl ?_
      refine j_iload (pc := 21) X dX5_ropeFault_21 4 rfl ?_
      refine j_bipush (pc := 23) (v := 33) X dX5_ropeFault_23 (by decide) ?_
      refine j_icmp_ne (pc := 25) (tgt := 37) X dX5_ropeFault_25 (by decide) (fun hc => ?_) (fun hc => ?_)
      · rw [if_neg hc] at h
        refine j_lv (lv' := [(0, .ref (Ad E 14 0)), (1, .int a1), (3, .int a3), (4, .int r1)]) [0, 1, 3, 4] rfl ?_
        exact tX5_ropeFault_37 l hE X hr hk G a1 a3 r1 (fX5_ropeFault_6 G n) ih h
      · rw [if_pos hc] at h
        refine j_iload_n (pc := 28) X dX5_ropeFault_28 rfl 2 rfl ?_
        refine j_if_eq (pc := 29) (tgt := 37) X dX5_ropeFault_29 (by decide) (fun hc => ?_) (fun hc => ?_)
        · rw [if_pos hc] at h
          refine j_lv (lv' := [(0, .ref (Ad E 14 0)), (1, .int a1), (3, .int a3), (4, .int r1)]) [0, 1, 3, 4] rfl ?_
          exact tX5_ropeFault_37 l hE X hr hk G a1 a3 r1 (fX5_ropeFault_6 G n) ih h
        · rw [if_neg hc] at h
          refine j_iconst (pc := 32) (v := 0) X dX5_ropeFault_32 (by decide) ?_
          refine j_istore_n (pc := 33) (lv' := [(0, .ref (Ad E 14 0)), (1, .int a1), (2, .int (0 : Int32)), (3, .int a3), (4, .int r1)]) X dX5_ropeFault_33 rfl (by decide) rfl ?_
          refine j_goto (pc := 34) (tgt := 65) X dX5_ropeFault_34 (by decide) ?_
          refine j_iinc (pc := 65) (q := 3) (v := (a3 + (1 : Int32))) (lv' := [(0, .ref (Ad E 14 0)), (1, .int a1), (2, .int (0 : Int32)), (3, .int (a3 + (1 : Int32))), (4, .int r1)]) X dX5_ropeFault_65 rfl rfl (by decide) rfl ?_
          refine j_goto (pc := 68) (tgt := 6) X dX5_ropeFault_68 (by decide) ?_
          refine j_lv (lv' := [(0, .ref (Ad E 14 0)), (1, .int a1), (2, .int (0 : Int32)), (3, .int (a3 + (1 : Int32)))]) [0, 1, 2, 3] rfl ?_
          exact ih a1 (0 : Int32) (a3 + (1 : Int32)) h
set_option maxHeartbeats 4000000 in
set_option maxRecDepth 100000 in
theorem tX5_ropeFault (l : Launch) {E : ET} (hE : Aj E) (G : GT) {r : Int32} (h : fX5_ropeFault G = some r) : CI l E yX5_ropeFault cX5_ropeFault 5 (some .int) 2 [.ref (Ad E 14 0)] G r G := by
  refine Met_I (lv := [(0, .ref (Ad E 14 0))]) (by decide +kernel) hE (Nat.le_of_ble_eq_true rfl) rfl ?_
  intro p e s m args below meth c X hr hk
  unfold fX5_ropeFault at h
  refine j_iconst (pc := 0) (v := 0) X dX5_ropeFault_0 (by decide) ?_
  refine j_istore_n (pc := 1) (lv' := [(0, .ref (Ad E 14 0)), (1, .int (0 : Int32))]) X dX5_ropeFault_1 rfl (by decide) rfl ?_
  refine j_iconst (pc := 2) (v := 0) X dX5_ropeFault_2 (by decide) ?_
  refine j_istore_n (pc := 3) (lv' := [(0, .ref (Ad E 14 0)), (1, .int (0 : Int32)), (2, .int (0 : Int32))]) X dX5_ropeFault_3 rfl (by decide) rfl ?_
  refine j_iconst (pc := 4) (v := 0) X dX5_ropeFault_4 (by decide) ?_
  refine j_istore_n (pc := 5) (lv' := [(0, .ref (Ad E 14 0)), (1, .int (0 : Int32)), (2, .int (0 : Int32)), (3, .int (0 : Int32))]) X dX5_ropeFault_5 rfl (by decide) rfl ?_
  exact tX5_ropeFault_6 l hE X hr hk G FU (0 : Int32) (0 : Int32) (0 : Int32) h
theorem dX5_patternFault_0 : decode cX5_patternFault 0 = .ok (.iconst 0, 1) := by decide +kernel
theorem dX5_patternFault_1 : decode cX5_patternFault 1 = .ok (.istore_n 1, 1) := by decide +kernel
theorem dX5_patternFault_2 : decode cX5_patternFault 2 = .ok (.iload_n 1, 1) := by decide +kernel
theorem dX5_patternFault_3 : decode cX5_patternFault 3 = .ok (.aload_n 0, 1) := by decide +kernel
theorem dX5_patternFault_4 : decode cX5_patternFault 4 = .ok (.getfield 15, 3) := by decide +kernel
theorem dX5_patternFault_7 : decode cX5_patternFault 7 = .ok (.if_icmp .ge 27, 3) := by decide +kernel
theorem dX5_patternFault_10 : decode cX5_patternFault 10 = .ok (.aload_n 0, 1) := by decide +kernel
theorem dX5_patternFault_11 : decode cX5_patternFault 11 = .ok (.iload_n 1, 1) := by decide +kernel
theorem dX5_patternFault_12 : decode cX5_patternFault 12 = .ok (.invokevirtual 30, 3) := by decide +kernel
theorem dX5_patternFault_15 : decode cX5_patternFault 15 = .ok (.invokestatic 38, 3) := by decide +kernel
theorem dX5_patternFault_18 : decode cX5_patternFault 18 = .ok (.ifCond .eq 8, 3) := by decide +kernel
theorem dX5_patternFault_21 : decode cX5_patternFault 21 = .ok (.iload_n 1, 1) := by decide +kernel
theorem dX5_patternFault_22 : decode cX5_patternFault 22 = .ok (.iconst 5, 1) := by decide +kernel
theorem dX5_patternFault_23 : decode cX5_patternFault 23 = .ok (.if_icmp .lt 5, 3) := by decide +kernel
theorem dX5_patternFault_26 : decode cX5_patternFault 26 = .ok (.iload_n 1, 1) := by decide +kernel
theorem dX5_patternFault_27 : decode cX5_patternFault 27 = .ok (.ireturn, 1) := by decide +kernel
theorem dX5_patternFault_28 : decode cX5_patternFault 28 = .ok (.iinc 1 1, 3) := by decide +kernel
theorem dX5_patternFault_31 : decode cX5_patternFault 31 = .ok (.goto (-29), 3) := by decide +kernel
theorem dX5_patternFault_34 : decode cX5_patternFault 34 = .ok (.bipush (-5), 2) := by decide +kernel
theorem dX5_patternFault_36 : decode cX5_patternFault 36 = .ok (.ireturn, 1) := by decide +kernel
set_option maxHeartbeats 4000000 in
set_option maxRecDepth 100000 in
theorem tX5_patternFault_2 (l : Launch) {E : ET} (hE : Aj E) {p : Program} {e : Env} {s : State} {m : MethodId} {args : Array Value} {below : List Frame} {meth : Method} {c : Code} (X : Cx p (rmL 2) s m args c yX5_patternFault.cls cX5_patternFault 2 E (Aw E) 0 0) (hr : meth.sig.returnType = (some .int)) (hk : meth.locks = false) {r : Int32} (G : GT) : ∀ (n : Nat) (a1 : Int32), fX5_patternFault_2 G n a1 = some r → J p l e (rmL 2) s m args below meth c E (Aw E) s.heap 2 0 0 (MQ below (QI E r G) args s 0 0 (Aw E)) G 2 [(0, .ref (Ad E 14 0)), (1, .int a1)] [] := by
  intro n
  induction n with
  | zero =>
    intro a1 h
    simp [fX5_patternFault_2] at h
  | succ n ih =>
    intro a1 h
    rw [fX5_patternFault_2] at h
    refine j_iload_n (pc := 2) X dX5_patternFault_2 rfl 1 rfl ?_
    refine j_aload_n (pc := 3) X dX5_patternFault_3 rfl 0 rfl ?_
    refine j_get (pc := 4) (v := .int (G 14 0 1)) X gf_X5_15 (by decide) rfl rfl dX5_patternFault_4 ?_
    refine j_icmp_ge (pc := 7) (tgt := 34) X dX5_patternFault_7 (by decide) (fun hc => ?_) (fun hc => ?_)
    · rw [if_pos hc] at h
      refine j_bipush (pc := 34) (v := (-5)) X dX5_patternFault_34 (by decide) ?_
      exact j_ret (pc := 36) X hr hk (vp_nar_int _) (Option.some.inj h) rfl dX5_patternFault_36
    · rw [if_neg hc] at h
      refine j_aload_n (pc := 10) X dX5_patternFault_10 rfl 0 rfl ?_
      refine j_iload_n (pc := 11) X dX5_patternFault_11 rfl 1 rfl ?_
      obtain ⟨r1, hc3, h⟩ := bd_s h
      refine j_callI (pc := 12) X (tX5_characterAt l hE G a1 hc3) muX5_characterAt (by decide) q350 rfl rfl (Nat.le_of_ble_eq_true rfl) ⟨Nat.le_of_ble_eq_true rfl, Nat.le_of_ble_eq_true rfl⟩ dX5_patternFault_12 ?_
      obtain ⟨r4, hc6, h⟩ := bd_s h
      refine j_staI (pc := 15) X (tX5_isKind l hE G r1 hc6) muX5_isKind (Or.inl q358) rfl rfl (Nat.le_of_ble_eq_true rfl) ⟨Nat.le_of_ble_eq_true rfl, Nat.le_of_ble_eq_true rfl⟩ dX5_patternFault_15 ?_
      refine j_if_eq (pc := 18) (tgt := 26) X dX5_patternFault_18 (by decide) (fun hc => ?_) (fun hc => ?_)
      · rw [if_pos hc] at h
        refine j_iload_n (pc := 26) X dX5_patternFault_26 rfl 1 rfl ?_
        exact j_ret (pc := 27) X hr hk (vp_nar_int _) (Option.some.inj h) rfl dX5_patternFault_27
      · rw [if_neg hc] at h
        refine j_iload_n (pc := 21) X dX5_patternFault_21 rfl 1 rfl ?_
        refine j_iconst (pc := 22) (v := 5) X dX5_patternFault_22 (by decide) ?_
        refine j_icmp_lt (pc := 23) (tgt := 28) X dX5_patternFault_23 (by decide) (fun hc => ?_) (fun hc => ?_)
        · rw [if_pos hc] at h
          refine j_iinc (pc := 28) (q := 1) (v := (a1 + (1 : Int32))) (lv' := [(0, .ref (Ad E 14 0)), (1, .int (a1 + (1 : Int32)))]) X dX5_patternFault_28 rfl rfl (by decide) rfl ?_
          refine j_goto (pc := 31) (tgt := 2) X dX5_patternFault_31 (by decide) ?_
          exact ih (a1 + (1 : Int32)) h
        · rw [if_neg hc] at h
          refine j_iload_n (pc := 26) X dX5_patternFault_26 rfl 1 rfl ?_
          exact j_ret (pc := 27) X hr hk (vp_nar_int _) (Option.some.inj h) rfl dX5_patternFault_27
set_option maxHeartbeats 4000000 in
set_option maxRecDepth 100000 in
theorem tX5_patternFault (l : Launch) {E : ET} (hE : Aj E) (G : GT) {r : Int32} (h : fX5_patternFault G = some r) : CI l E yX5_patternFault cX5_patternFault 2 (some .int) 2 [.ref (Ad E 14 0)] G r G := by
  refine Met_I (lv := [(0, .ref (Ad E 14 0))]) (by decide +kernel) hE (Nat.le_of_ble_eq_true rfl) rfl ?_
  intro p e s m args below meth c X hr hk
  unfold fX5_patternFault at h
  refine j_iconst (pc := 0) (v := 0) X dX5_patternFault_0 (by decide) ?_
  refine j_istore_n (pc := 1) (lv' := [(0, .ref (Ad E 14 0)), (1, .int (0 : Int32))]) X dX5_patternFault_1 rfl (by decide) rfl ?_
  exact tX5_patternFault_2 l hE X hr hk G FU (0 : Int32) h
theorem dX5_faultIndex_0 : decode cX5_faultIndex 0 = .ok (.aload_n 0, 1) := by decide +kernel
theorem dX5_faultIndex_1 : decode cX5_faultIndex 1 = .ok (.getfield 15, 3) := by decide +kernel
theorem dX5_faultIndex_4 : decode cX5_faultIndex 4 = .ok (.ifCond .ne 5, 3) := by decide +kernel
theorem dX5_faultIndex_7 : decode cX5_faultIndex 7 = .ok (.iconst 0, 1) := by decide +kernel
theorem dX5_faultIndex_8 : decode cX5_faultIndex 8 = .ok (.ireturn, 1) := by decide +kernel
theorem dX5_faultIndex_9 : decode cX5_faultIndex 9 = .ok (.iload_n 1, 1) := by decide +kernel
theorem dX5_faultIndex_10 : decode cX5_faultIndex 10 = .ok (.ifCond .eq 10, 3) := by decide +kernel
theorem dX5_faultIndex_13 : decode cX5_faultIndex 13 = .ok (.aload_n 0, 1) := by decide +kernel
theorem dX5_faultIndex_14 : decode cX5_faultIndex 14 = .ok (.invokevirtual 23, 3) := by decide +kernel
theorem dX5_faultIndex_17 : decode cX5_faultIndex 17 = .ok (.goto 7, 3) := by decide +kernel
theorem dX5_faultIndex_20 : decode cX5_faultIndex 20 = .ok (.aload_n 0, 1) := by decide +kernel
theorem dX5_faultIndex_21 : decode cX5_faultIndex 21 = .ok (.invokevirtual 27, 3) := by decide +kernel
theorem dX5_faultIndex_24 : decode cX5_faultIndex 24 = .ok (.ireturn, 1) := by decide +kernel
set_option maxHeartbeats 4000000 in
set_option maxRecDepth 100000 in
theorem tX5_faultIndex (l : Launch) {E : ET} (hE : Aj E) (G : GT) (a1 : Int32) {r : Int32} (h : fX5_faultIndex G a1 = some r) : CI l E yX5_faultIndex cX5_faultIndex 2 (some .int) 3 [.ref (Ad E 14 0), .int a1] G r G := by
  refine Met_I (lv := [(0, .ref (Ad E 14 0)), (1, .int a1)]) (by decide +kernel) hE (Nat.le_of_ble_eq_true rfl) rfl ?_
  intro p e s m args below meth c X hr hk
  unfold fX5_faultIndex at h
  refine j_aload_n (pc := 0) X dX5_faultIndex_0 rfl 0 rfl ?_
  refine j_get (pc := 1) (v := .int (G 14 0 1)) X gf_X5_15 (by decide) rfl rfl dX5_faultIndex_1 ?_
  refine j_if_ne (pc := 4) (tgt := 9) X dX5_faultIndex_4 (by decide) (fun hc => ?_) (fun hc => ?_)
  · rw [if_neg hc] at h
    refine j_iload_n (pc := 9) X dX5_faultIndex_9 rfl 1 rfl ?_
    refine j_if_eq (pc := 10) (tgt := 20) X dX5_faultIndex_10 (by decide) (fun hc => ?_) (fun hc => ?_)
    · rw [if_pos hc] at h
      refine j_aload_n (pc := 20) X dX5_faultIndex_20 rfl 0 rfl ?_
      obtain ⟨r1, hc3, h⟩ := bd_s h
      refine j_callI (pc := 21) X (tX5_patternFault l hE G  hc3) muX5_patternFault (by decide) q361 rfl rfl (Nat.le_of_ble_eq_true rfl) ⟨Nat.le_of_ble_eq_true rfl, Nat.le_of_ble_eq_true rfl⟩ dX5_faultIndex_21 ?_
      exact j_ret (pc := 24) X hr hk (vp_nar_int _) (Option.some.inj h) rfl dX5_faultIndex_24
    · rw [if_neg hc] at h
      refine j_aload_n (pc := 13) X dX5_faultIndex_13 rfl 0 rfl ?_
      obtain ⟨r4, hc6, h⟩ := bd_s h
      refine j_callI (pc := 14) X (tX5_ropeFault l hE G  hc6) muX5_ropeFault (by decide) q346 rfl rfl (Nat.le_of_ble_eq_true rfl) ⟨Nat.le_of_ble_eq_true rfl, Nat.le_of_ble_eq_true rfl⟩ dX5_faultIndex_14 ?_
      refine j_goto (pc := 17) (tgt := 24) X dX5_faultIndex_17 (by decide) ?_
      exact j_ret (pc := 24) X hr hk (vp_nar_int _) (Option.some.inj h) rfl dX5_faultIndex_24
  · rw [if_pos hc] at h
    refine j_iconst (pc := 7) (v := 0) X dX5_faultIndex_7 (by decide) ?_
    exact j_ret (pc := 8) X hr hk (vp_nar_int _) (Option.some.inj h) rfl dX5_faultIndex_8
theorem dX5_isDigit_0 : decode cX5_isDigit 0 = .ok (.iload_n 0, 1) := by decide +kernel
theorem dX5_isDigit_1 : decode cX5_isDigit 1 = .ok (.bipush 48, 2) := by decide +kernel
theorem dX5_isDigit_3 : decode cX5_isDigit 3 = .ok (.if_icmp .lt 13, 3) := by decide +kernel
theorem dX5_isDigit_6 : decode cX5_isDigit 6 = .ok (.iload_n 0, 1) := by decide +kernel
theorem dX5_isDigit_7 : decode cX5_isDigit 7 = .ok (.bipush 57, 2) := by decide +kernel
theorem dX5_isDigit_9 : decode cX5_isDigit 9 = .ok (.if_icmp .gt 7, 3) := by decide +kernel
theorem dX5_isDigit_12 : decode cX5_isDigit 12 = .ok (.iconst 1, 1) := by decide +kernel
theorem dX5_isDigit_13 : decode cX5_isDigit 13 = .ok (.goto 4, 3) := by decide +kernel
theorem dX5_isDigit_16 : decode cX5_isDigit 16 = .ok (.iconst 0, 1) := by decide +kernel
theorem dX5_isDigit_17 : decode cX5_isDigit 17 = .ok (.ireturn, 1) := by decide +kernel
set_option maxHeartbeats 4000000 in
set_option maxRecDepth 100000 in
theorem tX5_isDigit (l : Launch) {E : ET} (hE : Aj E) (G : GT) (a0 : Int32) {r : Int32} (h : fX5_isDigit a0 = some r) : CI l E yX5_isDigit cX5_isDigit 1 (some .boolean) 0 [.int a0] G r G := by
  refine Met_I (lv := [(0, .int a0)]) (by decide +kernel) hE (Nat.le_of_ble_eq_true rfl) rfl ?_
  intro p e s m args below meth c X hr hk
  unfold fX5_isDigit at h
  refine j_iload_n (pc := 0) X dX5_isDigit_0 rfl 0 rfl ?_
  refine j_bipush (pc := 1) (v := 48) X dX5_isDigit_1 (by decide) ?_
  refine j_icmp_lt (pc := 3) (tgt := 16) X dX5_isDigit_3 (by decide) (fun hc => ?_) (fun hc => ?_)
  · rw [if_pos hc] at h
    refine j_iconst (pc := 16) (v := 0) X dX5_isDigit_16 (by decide) ?_
    exact j_ret (pc := 17) X hr hk rfl (Option.some.inj h) rfl dX5_isDigit_17
  · rw [if_neg hc] at h
    refine j_iload_n (pc := 6) X dX5_isDigit_6 rfl 0 rfl ?_
    refine j_bipush (pc := 7) (v := 57) X dX5_isDigit_7 (by decide) ?_
    refine j_icmp_gt (pc := 9) (tgt := 16) X dX5_isDigit_9 (by decide) (fun hc => ?_) (fun hc => ?_)
    · rw [if_pos hc] at h
      refine j_iconst (pc := 16) (v := 0) X dX5_isDigit_16 (by decide) ?_
      exact j_ret (pc := 17) X hr hk rfl (Option.some.inj h) rfl dX5_isDigit_17
    · rw [if_neg hc] at h
      refine j_iconst (pc := 12) (v := 1) X dX5_isDigit_12 (by decide) ?_
      refine j_goto (pc := 13) (tgt := 17) X dX5_isDigit_13 (by decide) ?_
      exact j_ret (pc := 17) X hr hk rfl (Option.some.inj h) rfl dX5_isDigit_17
theorem dX5_faultKind_0 : decode cX5_faultKind 0 = .ok (.iload_n 2, 1) := by decide +kernel
theorem dX5_faultKind_1 : decode cX5_faultKind 1 = .ok (.aload_n 0, 1) := by decide +kernel
theorem dX5_faultKind_2 : decode cX5_faultKind 2 = .ok (.getfield 15, 3) := by decide +kernel
theorem dX5_faultKind_5 : decode cX5_faultKind 5 = .ok (.if_icmp .lt 5, 3) := by decide +kernel
theorem dX5_faultKind_8 : decode cX5_faultKind 8 = .ok (.iconst 1, 1) := by decide +kernel
theorem dX5_faultKind_9 : decode cX5_faultKind 9 = .ok (.ireturn, 1) := by decide +kernel
theorem dX5_faultKind_10 : decode cX5_faultKind 10 = .ok (.aload_n 0, 1) := by decide +kernel
theorem dX5_faultKind_11 : decode cX5_faultKind 11 = .ok (.iload_n 2, 1) := by decide +kernel
theorem dX5_faultKind_12 : decode cX5_faultKind 12 = .ok (.invokevirtual 30, 3) := by decide +kernel
theorem dX5_faultKind_15 : decode cX5_faultKind 15 = .ok (.istore_n 3, 1) := by decide +kernel
theorem dX5_faultKind_16 : decode cX5_faultKind 16 = .ok (.iload_n 3, 1) := by decide +kernel
theorem dX5_faultKind_17 : decode cX5_faultKind 17 = .ok (.invokestatic 38, 3) := by decide +kernel
theorem dX5_faultKind_20 : decode cX5_faultKind 20 = .ok (.ifCond .ne 14, 3) := by decide +kernel
theorem dX5_faultKind_23 : decode cX5_faultKind 23 = .ok (.iload_n 1, 1) := by decide +kernel
theorem dX5_faultKind_24 : decode cX5_faultKind 24 = .ok (.ifCond .eq 12, 3) := by decide +kernel
theorem dX5_faultKind_27 : decode cX5_faultKind 27 = .ok (.iload_n 3, 1) := by decide +kernel
theorem dX5_faultKind_28 : decode cX5_faultKind 28 = .ok (.invokestatic 34, 3) := by decide +kernel
theorem dX5_faultKind_31 : decode cX5_faultKind 31 = .ok (.ifCond .eq 5, 3) := by decide +kernel
theorem dX5_faultKind_34 : decode cX5_faultKind 34 = .ok (.iconst 3, 1) := by decide +kernel
theorem dX5_faultKind_35 : decode cX5_faultKind 35 = .ok (.ireturn, 1) := by decide +kernel
theorem dX5_faultKind_36 : decode cX5_faultKind 36 = .ok (.iload_n 3, 1) := by decide +kernel
theorem dX5_faultKind_37 : decode cX5_faultKind 37 = .ok (.invokestatic 41, 3) := by decide +kernel
theorem dX5_faultKind_40 : decode cX5_faultKind 40 = .ok (.ifCond .eq 7, 3) := by decide +kernel
theorem dX5_faultKind_43 : decode cX5_faultKind 43 = .ok (.iconst 2, 1) := by decide +kernel
theorem dX5_faultKind_44 : decode cX5_faultKind 44 = .ok (.goto 4, 3) := by decide +kernel
theorem dX5_faultKind_47 : decode cX5_faultKind 47 = .ok (.iconst 4, 1) := by decide +kernel
theorem dX5_faultKind_48 : decode cX5_faultKind 48 = .ok (.ireturn, 1) := by decide +kernel
set_option maxHeartbeats 4000000 in
set_option maxRecDepth 100000 in
theorem tX5_faultKind_36 (l : Launch) {E : ET} (hE : Aj E) {p : Program} {e : Env} {s : State} {m : MethodId} {args : Array Value} {below : List Frame} {meth : Method} {c : Code} (X : Cx p (rmL 2) s m args c yX5_faultKind.cls cX5_faultKind 4 E (Aw E) 0 0) (hr : meth.sig.returnType = (some .int)) (hk : meth.locks = false) {r : Int32} (G : GT) (a3 : Int32) (h : fX5_faultKind_36 G a3 = some r) : J p l e (rmL 2) s m args below meth c E (Aw E) s.heap 4 0 0 (MQ below (QI E r G) args s 0 0 (Aw E)) G 36 [(3, .int a3)] [] := by
  unfold fX5_faultKind_36 at h
  refine j_iload_n (pc := 36) X dX5_faultKind_36 rfl 0 rfl ?_
  obtain ⟨r1, hc3, h⟩ := bd_s h
  refine j_staI (pc := 37) X (tX5_isDigit l hE G a3 hc3) muX5_isDigit (Or.inl q491) rfl rfl (Nat.le_of_ble_eq_true rfl) ⟨Nat.le_of_ble_eq_true rfl, Nat.le_of_ble_eq_true rfl⟩ dX5_faultKind_37 ?_
  refine j_if_eq (pc := 40) (tgt := 47) X dX5_faultKind_40 (by decide) (fun hc => ?_) (fun hc => ?_)
  · rw [if_pos hc] at h
    refine j_iconst (pc := 47) (v := 4) X dX5_faultKind_47 (by decide) ?_
    exact j_ret (pc := 48) X hr hk (vp_nar_int _) (Option.some.inj h) rfl dX5_faultKind_48
  · rw [if_neg hc] at h
    refine j_iconst (pc := 43) (v := 2) X dX5_faultKind_43 (by decide) ?_
    refine j_goto (pc := 44) (tgt := 48) X dX5_faultKind_44 (by decide) ?_
    exact j_ret (pc := 48) X hr hk (vp_nar_int _) (Option.some.inj h) rfl dX5_faultKind_48
set_option maxHeartbeats 4000000 in
set_option maxRecDepth 100000 in
theorem tX5_faultKind (l : Launch) {E : ET} (hE : Aj E) (G : GT) (a1 : Int32) (a2 : Int32) {r : Int32} (h : fX5_faultKind G a1 a2 = some r) : CI l E yX5_faultKind cX5_faultKind 4 (some .int) 2 [.ref (Ad E 14 0), .int a1, .int a2] G r G := by
  refine Met_I (lv := [(0, .ref (Ad E 14 0)), (1, .int a1), (2, .int a2)]) (by decide +kernel) hE (Nat.le_of_ble_eq_true rfl) rfl ?_
  intro p e s m args below meth c X hr hk
  unfold fX5_faultKind at h
  refine j_iload_n (pc := 0) X dX5_faultKind_0 rfl 2 rfl ?_
  refine j_aload_n (pc := 1) X dX5_faultKind_1 rfl 0 rfl ?_
  refine j_get (pc := 2) (v := .int (G 14 0 1)) X gf_X5_15 (by decide) rfl rfl dX5_faultKind_2 ?_
  refine j_icmp_lt (pc := 5) (tgt := 10) X dX5_faultKind_5 (by decide) (fun hc => ?_) (fun hc => ?_)
  · rw [if_pos hc] at h
    refine j_aload_n (pc := 10) X dX5_faultKind_10 rfl 0 rfl ?_
    refine j_iload_n (pc := 11) X dX5_faultKind_11 rfl 2 rfl ?_
    obtain ⟨r1, hc3, h⟩ := bd_s h
    refine j_callI (pc := 12) X (tX5_characterAt l hE G a2 hc3) muX5_characterAt (by decide) q350 rfl rfl (Nat.le_of_ble_eq_true rfl) ⟨Nat.le_of_ble_eq_true rfl, Nat.le_of_ble_eq_true rfl⟩ dX5_faultKind_12 ?_
    refine j_istore_n (pc := 15) (lv' := [(0, .ref (Ad E 14 0)), (1, .int a1), (2, .int a2), (3, .int r1)]) X dX5_faultKind_15 rfl (by decide) rfl ?_
    refine j_iload_n (pc := 16) X dX5_faultKind_16 rfl 3 rfl ?_
    obtain ⟨r4, hc6, h⟩ := bd_s h
    refine j_staI (pc := 17) X (tX5_isKind l hE G r1 hc6) muX5_isKind (Or.inl q358) rfl rfl (Nat.le_of_ble_eq_true rfl) ⟨Nat.le_of_ble_eq_true rfl, Nat.le_of_ble_eq_true rfl⟩ dX5_faultKind_17 ?_
    refine j_if_ne (pc := 20) (tgt := 34) X dX5_faultKind_20 (by decide) (fun hc => ?_) (fun hc => ?_)
    · rw [if_neg hc] at h
      refine j_iconst (pc := 34) (v := 3) X dX5_faultKind_34 (by decide) ?_
      exact j_ret (pc := 35) X hr hk (vp_nar_int _) (Option.some.inj h) rfl dX5_faultKind_35
    · rw [if_pos hc] at h
      refine j_iload_n (pc := 23) X dX5_faultKind_23 rfl 1 rfl ?_
      refine j_if_eq (pc := 24) (tgt := 36) X dX5_faultKind_24 (by decide) (fun hc => ?_) (fun hc => ?_)
      · rw [if_pos hc] at h
        refine j_lv (lv' := [(3, .int r1)]) [3] rfl ?_
        exact tX5_faultKind_36 l hE X hr hk G r1 h
      · rw [if_neg hc] at h
        refine j_iload_n (pc := 27) X dX5_faultKind_27 rfl 3 rfl ?_
        obtain ⟨r7, hc9, h⟩ := bd_s h
        refine j_staI (pc := 28) X (tX5_isPlace l hE G r1 hc9) muX5_isPlace (Or.inl q355) rfl rfl (Nat.le_of_ble_eq_true rfl) ⟨Nat.le_of_ble_eq_true rfl, Nat.le_of_ble_eq_true rfl⟩ dX5_faultKind_28 ?_
        refine j_if_eq (pc := 31) (tgt := 36) X dX5_faultKind_31 (by decide) (fun hc => ?_) (fun hc => ?_)
        · rw [if_pos hc] at h
          refine j_lv (lv' := [(3, .int r1)]) [3] rfl ?_
          exact tX5_faultKind_36 l hE X hr hk G r1 h
        · rw [if_neg hc] at h
          refine j_iconst (pc := 34) (v := 3) X dX5_faultKind_34 (by decide) ?_
          exact j_ret (pc := 35) X hr hk (vp_nar_int _) (Option.some.inj h) rfl dX5_faultKind_35
  · rw [if_neg hc] at h
    refine j_iconst (pc := 8) (v := 1) X dX5_faultKind_8 (by decide) ?_
    exact j_ret (pc := 9) X hr hk (vp_nar_int _) (Option.some.inj h) rfl dX5_faultKind_9
theorem dX5_layOn_0 : decode cX5_layOn 0 = .ok (.aload_n 1, 1) := by decide +kernel
theorem dX5_layOn_1 : decode cX5_layOn 1 = .ok (.invokevirtual 44, 3) := by decide +kernel
theorem dX5_layOn_4 : decode cX5_layOn 4 = .ok (.iconst (-1), 1) := by decide +kernel
theorem dX5_layOn_5 : decode cX5_layOn 5 = .ok (.istore_n 2, 1) := by decide +kernel
theorem dX5_layOn_6 : decode cX5_layOn 6 = .ok (.iconst 0, 1) := by decide +kernel
theorem dX5_layOn_7 : decode cX5_layOn 7 = .ok (.istore_n 3, 1) := by decide +kernel
theorem dX5_layOn_8 : decode cX5_layOn 8 = .ok (.iload_n 3, 1) := by decide +kernel
theorem dX5_layOn_9 : decode cX5_layOn 9 = .ok (.aload_n 0, 1) := by decide +kernel
theorem dX5_layOn_10 : decode cX5_layOn 10 = .ok (.getfield 15, 3) := by decide +kernel
theorem dX5_layOn_13 : decode cX5_layOn 13 = .ok (.if_icmp .ge 60, 3) := by decide +kernel
theorem dX5_layOn_16 : decode cX5_layOn 16 = .ok (.aload_n 0, 1) := by decide +kernel
theorem dX5_layOn_17 : decode cX5_layOn 17 = .ok (.iload_n 3, 1) := by decide +kernel
theorem dX5_layOn_18 : decode cX5_layOn 18 = .ok (.invokevirtual 30, 3) := by decide +kernel
theorem dX5_layOn_21 : decode cX5_layOn 21 = .ok (.istore 4, 2) := by decide +kernel
theorem dX5_layOn_23 : decode cX5_layOn 23 = .ok (.iload 4, 2) := by decide +kernel
theorem dX5_layOn_25 : decode cX5_layOn 25 = .ok (.bipush 33, 2) := by decide +kernel
theorem dX5_layOn_27 : decode cX5_layOn 27 = .ok (.if_icmp .ne 18, 3) := by decide +kernel
theorem dX5_layOn_30 : decode cX5_layOn 30 = .ok (.aload_n 1, 1) := by decide +kernel
theorem dX5_layOn_31 : decode cX5_layOn 31 = .ok (.iload_n 2, 1) := by decide +kernel
theorem dX5_layOn_32 : decode cX5_layOn 32 = .ok (.aload_n 1, 1) := by decide +kernel
theorem dX5_layOn_33 : decode cX5_layOn 33 = .ok (.iload_n 2, 1) := by decide +kernel
theorem dX5_layOn_34 : decode cX5_layOn 34 = .ok (.invokevirtual 49, 3) := by decide +kernel
theorem dX5_layOn_37 : decode cX5_layOn 37 = .ok (.bipush 9, 2) := by decide +kernel
theorem dX5_layOn_39 : decode cX5_layOn 39 = .ok (.invokevirtual 53, 3) := by decide +kernel
theorem dX5_layOn_42 : decode cX5_layOn 42 = .ok (.goto 6, 3) := by decide +kernel
theorem dX5_layOn_45 : decode cX5_layOn 45 = .ok (.iinc 2 1, 3) := by decide +kernel
theorem dX5_layOn_48 : decode cX5_layOn 48 = .ok (.iload 4, 2) := by decide +kernel
theorem dX5_layOn_50 : decode cX5_layOn 50 = .ok (.invokestatic 38, 3) := by decide +kernel
theorem dX5_layOn_53 : decode cX5_layOn 53 = .ok (.ifCond .eq 14, 3) := by decide +kernel
theorem dX5_layOn_56 : decode cX5_layOn 56 = .ok (.aload_n 1, 1) := by decide +kernel
theorem dX5_layOn_57 : decode cX5_layOn 57 = .ok (.iload_n 2, 1) := by decide +kernel
theorem dX5_layOn_58 : decode cX5_layOn 58 = .ok (.iload 4, 2) := by decide +kernel
theorem dX5_layOn_60 : decode cX5_layOn 60 = .ok (.bipush 48, 2) := by decide +kernel
theorem dX5_layOn_62 : decode cX5_layOn 62 = .ok (.isub, 1) := by decide +kernel
theorem dX5_layOn_63 : decode cX5_layOn 63 = .ok (.iconst 5, 1) := by decide +kernel
theorem dX5_layOn_64 : decode cX5_layOn 64 = .ok (.invokevirtual 53, 3) := by decide +kernel
theorem dX5_layOn_67 : decode cX5_layOn 67 = .ok (.iinc 3 1, 3) := by decide +kernel
theorem dX5_layOn_70 : decode cX5_layOn 70 = .ok (.goto (-62), 3) := by decide +kernel
theorem dX5_layOn_73 : decode cX5_layOn 73 = .ok (.return_, 1) := by decide +kernel
set_option maxHeartbeats 4000000 in
set_option maxRecDepth 100000 in
theorem tX5_layOn_48 (l : Launch) {E : ET} (hE : Aj E) {p : Program} {e : Env} {s : State} {m : MethodId} {args : Array Value} {below : List Frame} {meth : Method} {c : Code} (X : Cx p (rmL 3) s m args c yX5_layOn.cls cX5_layOn 5 E (Aw E) 0 0) (hr : meth.sig.returnType = none) (hk : meth.locks = false) {G' : GT} (G : GT) (i1 : Nat) (hi1 : i1 < cnt 0) (a2 : Int32) (a3 : Int32) (a4 : Int32) (k8 : GT → Int32 → Int32 → Option GT) (hk8 : ∀ (G : GT) (a2 a3 : Int32), k8 G a2 a3 = some G' → J p l e (rmL 3) s m args below meth c E (Aw E) s.heap 5 0 0 (MQ below (QV E G') args s 0 0 (Aw E)) G 8 [(0, .ref (Ad E 14 0)), (1, .ref (Ad E 0 i1)), (2, .int a2), (3, .int a3)] []) (h : fX5_layOn_48 G i1 a2 a3 a4 k8 = some G') : J p l e (rmL 3) s m args below meth c E (Aw E) s.heap 5 0 0 (MQ below (QV E G') args s 0 0 (Aw E)) G 48 [(0, .ref (Ad E 14 0)), (1, .ref (Ad E 0 i1)), (2, .int a2), (3, .int a3), (4, .int a4)] [] := by
  unfold fX5_layOn_48 at h
  refine j_iload (pc := 48) X dX5_layOn_48 4 rfl ?_
  obtain ⟨r1, hc3, h⟩ := bd_s h
  refine j_staI (pc := 50) X (tX5_isKind l hE G a4 hc3) muX5_isKind (Or.inl q358) rfl rfl (Nat.le_of_ble_eq_true rfl) ⟨Nat.le_of_ble_eq_true rfl, Nat.le_of_ble_eq_true rfl⟩ dX5_layOn_50 ?_
  refine j_if_eq (pc := 53) (tgt := 67) X dX5_layOn_53 (by decide) (fun hc => ?_) (fun hc => ?_)
  · rw [if_pos hc] at h
    refine j_iinc (pc := 67) (q := 3) (v := (a3 + (1 : Int32))) (lv' := [(0, .ref (Ad E 14 0)), (1, .ref (Ad E 0 i1)), (2, .int a2), (3, .int (a3 + (1 : Int32))), (4, .int a4)]) X dX5_layOn_67 rfl rfl (by decide) rfl ?_
    refine j_goto (pc := 70) (tgt := 8) X dX5_layOn_70 (by decide) ?_
    refine j_lv (lv' := [(0, .ref (Ad E 14 0)), (1, .ref (Ad E 0 i1)), (2, .int a2), (3, .int (a3 + (1 : Int32)))]) [0, 1, 2, 3] rfl ?_
    exact hk8 G a2 (a3 + (1 : Int32)) h
  · rw [if_neg hc] at h
    refine j_aload_n (pc := 56) X dX5_layOn_56 rfl 1 rfl ?_
    refine j_iload_n (pc := 57) X dX5_layOn_57 rfl 2 rfl ?_
    refine j_iload (pc := 58) X dX5_layOn_58 4 rfl ?_
    refine j_bipush (pc := 60) (v := 48) X dX5_layOn_60 (by decide) ?_
    refine j_isub (pc := 62) X dX5_layOn_62 ?_
    refine j_iconst (pc := 63) (v := 5) X dX5_layOn_63 (by decide) ?_
    obtain ⟨G5, hc6, h⟩ := bd_s h
    refine j_callV (pc := 64) X (tX2_put l hE G i1 hi1 a2 (a4 - (48 : Int32)) (5 : Int32) hc6) muX2_put hi1 q374 rfl rfl (Nat.le_of_ble_eq_true rfl) ⟨Nat.le_of_ble_eq_true rfl, Nat.le_of_ble_eq_true rfl⟩ dX5_layOn_64 ?_
    refine j_iinc (pc := 67) (q := 3) (v := (a3 + (1 : Int32))) (lv' := [(0, .ref (Ad E 14 0)), (1, .ref (Ad E 0 i1)), (2, .int a2), (3, .int (a3 + (1 : Int32))), (4, .int a4)]) X dX5_layOn_67 rfl rfl (by decide) rfl ?_
    refine j_goto (pc := 70) (tgt := 8) X dX5_layOn_70 (by decide) ?_
    refine j_lv (lv' := [(0, .ref (Ad E 14 0)), (1, .ref (Ad E 0 i1)), (2, .int a2), (3, .int (a3 + (1 : Int32)))]) [0, 1, 2, 3] rfl ?_
    exact hk8 G5 a2 (a3 + (1 : Int32)) h
set_option maxHeartbeats 4000000 in
set_option maxRecDepth 100000 in
theorem tX5_layOn_8 (l : Launch) {E : ET} (hE : Aj E) {p : Program} {e : Env} {s : State} {m : MethodId} {args : Array Value} {below : List Frame} {meth : Method} {c : Code} (X : Cx p (rmL 3) s m args c yX5_layOn.cls cX5_layOn 5 E (Aw E) 0 0) (hr : meth.sig.returnType = none) (hk : meth.locks = false) {G' : GT} (i1 : Nat) (hi1 : i1 < cnt 0) : ∀ (n : Nat) (G : GT) (a2 a3 : Int32), fX5_layOn_8 i1 n G a2 a3 = some G' → J p l e (rmL 3) s m args below meth c E (Aw E) s.heap 5 0 0 (MQ below (QV E G') args s 0 0 (Aw E)) G 8 [(0, .ref (Ad E 14 0)), (1, .ref (Ad E 0 i1)), (2, .int a2), (3, .int a3)] [] := by
  intro n
  induction n with
  | zero =>
    intro G a2 a3 h
    simp [fX5_layOn_8] at h
  | succ n ih =>
    intro G a2 a3 h
    rw [fX5_layOn_8] at h
    refine j_iload_n (pc := 8) X dX5_layOn_8 rfl 3 rfl ?_
    refine j_aload_n (pc := 9) X dX5_layOn_9 rfl 0 rfl ?_
    refine j_get (pc := 10) (v := .int (G 14 0 1)) X gf_X5_15 (by decide) rfl rfl dX5_layOn_10 ?_
    refine j_icmp_ge (pc := 13) (tgt := 73) X dX5_layOn_13 (by decide) (fun hc => ?_) (fun hc => ?_)
    · rw [if_pos hc] at h
      exact j_vret (pc := 73) X hr hk (Option.some.inj h) dX5_layOn_73
    · rw [if_neg hc] at h
      refine j_aload_n (pc := 16) X dX5_layOn_16 rfl 0 rfl ?_
      refine j_iload_n (pc := 17) X dX5_layOn_17 rfl 3 rfl ?_
      obtain ⟨r1, hc3, h⟩ := bd_s h
      refine j_callI (pc := 18) X (tX5_characterAt l hE G a3 hc3) muX5_characterAt (by decide) q350 rfl rfl (Nat.le_of_ble_eq_true rfl) ⟨Nat.le_of_ble_eq_true rfl, Nat.le_of_ble_eq_true rfl⟩ dX5_layOn_18 ?_
      refine j_istore (pc := 21) (lv' := [(0, .ref (Ad E 14 0)), (1, .ref (Ad E 0 i1)), (2, .int a2), (3, .int a3), (4, .int r1)]) X dX5_layOn_21 (by decide) rfl ?_
      refine j_iload (pc := 23) X dX5_layOn_23 4 rfl ?_
      refine j_bipush (pc := 25) (v := 33) X dX5_layOn_25 (by decide) ?_
      refine j_icmp_ne (pc := 27) (tgt := 45) X dX5_layOn_27 (by decide) (fun hc => ?_) (fun hc => ?_)
      · rw [if_neg hc] at h
        refine j_iinc (pc := 45) (q := 2) (v := (a2 + (1 : Int32))) (lv' := [(0, .ref (Ad E 14 0)), (1, .ref (Ad E 0 i1)), (2, .int (a2 + (1 : Int32))), (3, .int a3), (4, .int r1)]) X dX5_layOn_45 rfl rfl (by decide) rfl ?_
        exact tX5_layOn_48 l hE X hr hk G i1 hi1 (a2 + (1 : Int32)) a3 r1 (fX5_layOn_8 i1 n) ih h
      · rw [if_pos hc] at h
        refine j_aload_n (pc := 30) X dX5_layOn_30 rfl 1 rfl ?_
        refine j_iload_n (pc := 31) X dX5_layOn_31 rfl 2 rfl ?_
        refine j_aload_n (pc := 32) X dX5_layOn_32 rfl 1 rfl ?_
        refine j_iload_n (pc := 33) X dX5_layOn_33 rfl 2 rfl ?_
        obtain ⟨r4, hc6, h⟩ := bd_s h
        refine j_callI (pc := 34) X (tX2_kindAt l hE G i1 hi1 a2 hc6) muX2_kindAt hi1 q373 rfl rfl (Nat.le_of_ble_eq_true rfl) ⟨Nat.le_of_ble_eq_true rfl, Nat.le_of_ble_eq_true rfl⟩ dX5_layOn_34 ?_
        refine j_bipush (pc := 37) (v := 9) X dX5_layOn_37 (by decide) ?_
        obtain ⟨G8, hc9, h⟩ := bd_s h
        refine j_callV (pc := 39) X (tX2_put l hE G i1 hi1 a2 r4 (9 : Int32) hc9) muX2_put hi1 q374 rfl rfl (Nat.le_of_ble_eq_true rfl) ⟨Nat.le_of_ble_eq_true rfl, Nat.le_of_ble_eq_true rfl⟩ dX5_layOn_39 ?_
        refine j_goto (pc := 42) (tgt := 48) X dX5_layOn_42 (by decide) ?_
        exact tX5_layOn_48 l hE X hr hk G8 i1 hi1 a2 a3 r1 (fX5_layOn_8 i1 n) ih h
set_option maxHeartbeats 4000000 in
set_option maxRecDepth 100000 in
theorem tX5_layOn (l : Launch) {E : ET} (hE : Aj E) (G : GT) (i1 : Nat) (hi1 : i1 < cnt 0) {G' : GT} (h : fX5_layOn G i1 = some G') : CV l E yX5_layOn cX5_layOn 5 none 3 [.ref (Ad E 14 0), .ref (Ad E 0 i1)] G G' := by
  refine Met_V (lv := [(0, .ref (Ad E 14 0)), (1, .ref (Ad E 0 i1))]) (by decide +kernel) hE (Nat.le_of_ble_eq_true rfl) rfl ?_
  intro p e s m args below meth c X hr hk
  unfold fX5_layOn at h
  refine j_aload_n (pc := 0) X dX5_layOn_0 rfl 1 rfl ?_
  obtain ⟨G2, hc3, h⟩ := bd_s h
  refine j_callV (pc := 1) X (tX2_clear l hE G i1 hi1 hc3) muX2_clear hi1 q369 rfl rfl (Nat.le_of_ble_eq_true rfl) ⟨Nat.le_of_ble_eq_true rfl, Nat.le_of_ble_eq_true rfl⟩ dX5_layOn_1 ?_
  refine j_iconst (pc := 4) (v := (-1)) X dX5_layOn_4 (by decide) ?_
  refine j_istore_n (pc := 5) (lv' := [(0, .ref (Ad E 14 0)), (1, .ref (Ad E 0 i1)), (2, .int (-1 : Int32))]) X dX5_layOn_5 rfl (by decide) rfl ?_
  refine j_iconst (pc := 6) (v := 0) X dX5_layOn_6 (by decide) ?_
  refine j_istore_n (pc := 7) (lv' := [(0, .ref (Ad E 14 0)), (1, .ref (Ad E 0 i1)), (2, .int (-1 : Int32)), (3, .int (0 : Int32))]) X dX5_layOn_7 rfl (by decide) rfl ?_
  exact tX5_layOn_8 l hE X hr hk i1 hi1 FU G2 (-1 : Int32) (0 : Int32) h
theorem dX6_ringsOf_0 : decode cX6_ringsOf 0 = .ok (.aload_n 0, 1) := by decide +kernel
theorem dX6_ringsOf_1 : decode cX6_ringsOf 1 = .ok (.iload_n 1, 1) := by decide +kernel
theorem dX6_ringsOf_2 : decode cX6_ringsOf 2 = .ok (.invokevirtual 25, 3) := by decide +kernel
theorem dX6_ringsOf_5 : decode cX6_ringsOf 5 = .ok (.ifCond .eq 12, 3) := by decide +kernel
theorem dX6_ringsOf_8 : decode cX6_ringsOf 8 = .ok (.aload_n 0, 1) := by decide +kernel
theorem dX6_ringsOf_9 : decode cX6_ringsOf 9 = .ok (.getfield 19, 3) := by decide +kernel
theorem dX6_ringsOf_12 : decode cX6_ringsOf 12 = .ok (.iload_n 1, 1) := by decide +kernel
theorem dX6_ringsOf_13 : decode cX6_ringsOf 13 = .ok (.iaload, 1) := by decide +kernel
theorem dX6_ringsOf_14 : decode cX6_ringsOf 14 = .ok (.goto 4, 3) := by decide +kernel
theorem dX6_ringsOf_17 : decode cX6_ringsOf 17 = .ok (.iconst 0, 1) := by decide +kernel
theorem dX6_ringsOf_18 : decode cX6_ringsOf 18 = .ok (.ireturn, 1) := by decide +kernel
set_option maxHeartbeats 4000000 in
set_option maxRecDepth 100000 in
theorem tX6_ringsOf (l : Launch) {E : ET} (hE : Aj E) (G : GT) (i0 : Nat) (hi0 : i0 < cnt 3) (a1 : Int32) {r : Int32} (h : fX6_ringsOf G i0 a1 = some r) : CI l E yX6_ringsOf cX6_ringsOf 2 (some .int) 1 [.ref (Ad E 3 i0), .int a1] G r G := by
  refine Met_I (lv := [(0, .ref (Ad E 3 i0)), (1, .int a1)]) (by decide +kernel) hE (Nat.le_of_ble_eq_true rfl) rfl ?_
  intro p e s m args below meth c X hr hk
  unfold fX6_ringsOf at h
  refine j_aload_n (pc := 0) X dX6_ringsOf_0 rfl 0 rfl ?_
  refine j_iload_n (pc := 1) X dX6_ringsOf_1 rfl 1 rfl ?_
  obtain ⟨r1, hc3, h⟩ := bd_s h
  refine j_callI (pc := 2) X (tX6_has l hE G i0 hi0 a1 hc3) muX6_has hi0 q305 rfl rfl (Nat.le_of_ble_eq_true rfl) ⟨Nat.le_of_ble_eq_true rfl, Nat.le_of_ble_eq_true rfl⟩ dX6_ringsOf_2 ?_
  refine j_if_eq (pc := 5) (tgt := 17) X dX6_ringsOf_5 (by decide) (fun hc => ?_) (fun hc => ?_)
  · rw [if_pos hc] at h
    refine j_iconst (pc := 17) (v := 0) X dX6_ringsOf_17 (by decide) ?_
    exact j_ret (pc := 18) X hr hk (vp_nar_int _) (Option.some.inj h) rfl dX6_ringsOf_18
  · rw [if_neg hc] at h
    refine j_aload_n (pc := 8) X dX6_ringsOf_8 rfl 0 rfl ?_
    refine j_get (pc := 9) (v := .ref (Ad E 5 i0)) X gf_X6_19 hi0 rfl rfl dX6_ringsOf_9 ?_
    refine j_iload_n (pc := 12) X dX6_ringsOf_12 rfl 1 rfl ?_
    obtain ⟨hg4, h⟩ := gd_s h
    refine j_iald (pc := 13) (n := 16) X hi0 rfl hg4 dX6_ringsOf_13 ?_
    refine j_goto (pc := 14) (tgt := 18) X dX6_ringsOf_14 (by decide) ?_
    exact j_ret (pc := 18) X hr hk (vp_nar_int _) (Option.some.inj h) rfl dX6_ringsOf_18
theorem dX6_changeRings_0 : decode cX6_changeRings 0 = .ok (.aload_n 0, 1) := by decide +kernel
theorem dX6_changeRings_1 : decode cX6_changeRings 1 = .ok (.iload_n 1, 1) := by decide +kernel
theorem dX6_changeRings_2 : decode cX6_changeRings 2 = .ok (.invokevirtual 25, 3) := by decide +kernel
theorem dX6_changeRings_5 : decode cX6_changeRings 5 = .ok (.ifCond .eq 10, 3) := by decide +kernel
theorem dX6_changeRings_8 : decode cX6_changeRings 8 = .ok (.aload_n 0, 1) := by decide +kernel
theorem dX6_changeRings_9 : decode cX6_changeRings 9 = .ok (.getfield 19, 3) := by decide +kernel
theorem dX6_changeRings_12 : decode cX6_changeRings 12 = .ok (.iload_n 1, 1) := by decide +kernel
theorem dX6_changeRings_13 : decode cX6_changeRings 13 = .ok (.iload_n 2, 1) := by decide +kernel
theorem dX6_changeRings_14 : decode cX6_changeRings 14 = .ok (.iastore, 1) := by decide +kernel
theorem dX6_changeRings_15 : decode cX6_changeRings 15 = .ok (.return_, 1) := by decide +kernel
set_option maxHeartbeats 4000000 in
set_option maxRecDepth 100000 in
theorem tX6_changeRings (l : Launch) {E : ET} (hE : Aj E) (G : GT) (i0 : Nat) (hi0 : i0 < cnt 3) (a1 : Int32) (a2 : Int32) {G' : GT} (h : fX6_changeRings G i0 a1 a2 = some G') : CV l E yX6_changeRings cX6_changeRings 3 none 1 [.ref (Ad E 3 i0), .int a1, .int a2] G G' := by
  refine Met_V (lv := [(0, .ref (Ad E 3 i0)), (1, .int a1), (2, .int a2)]) (by decide +kernel) hE (Nat.le_of_ble_eq_true rfl) rfl ?_
  intro p e s m args below meth c X hr hk
  unfold fX6_changeRings at h
  refine j_aload_n (pc := 0) X dX6_changeRings_0 rfl 0 rfl ?_
  refine j_iload_n (pc := 1) X dX6_changeRings_1 rfl 1 rfl ?_
  obtain ⟨r1, hc3, h⟩ := bd_s h
  refine j_callI (pc := 2) X (tX6_has l hE G i0 hi0 a1 hc3) muX6_has hi0 q305 rfl rfl (Nat.le_of_ble_eq_true rfl) ⟨Nat.le_of_ble_eq_true rfl, Nat.le_of_ble_eq_true rfl⟩ dX6_changeRings_2 ?_
  refine j_if_eq (pc := 5) (tgt := 15) X dX6_changeRings_5 (by decide) (fun hc => ?_) (fun hc => ?_)
  · rw [if_pos hc] at h
    exact j_vret (pc := 15) X hr hk (Option.some.inj h) dX6_changeRings_15
  · rw [if_neg hc] at h
    refine j_aload_n (pc := 8) X dX6_changeRings_8 rfl 0 rfl ?_
    refine j_get (pc := 9) (v := .ref (Ad E 5 i0)) X gf_X6_19 hi0 rfl rfl dX6_changeRings_9 ?_
    refine j_iload_n (pc := 12) X dX6_changeRings_12 rfl 1 rfl ?_
    refine j_iload_n (pc := 13) X dX6_changeRings_13 rfl 2 rfl ?_
    obtain ⟨hg4, h⟩ := gd_s h
    obtain ⟨G5, hG5, h⟩ := st3_s h
    refine j_iast (pc := 14) (n := 16) X hG5 hi0 (fun _ => rfl) hg4 dX6_changeRings_14 ?_
    exact j_vret (pc := 15) X hr hk (Option.some.inj h) dX6_changeRings_15
theorem dX6_add_0 : decode cX6_add 0 = .ok (.aload_n 0, 1) := by decide +kernel
theorem dX6_add_1 : decode cX6_add 1 = .ok (.getfield 9, 3) := by decide +kernel
theorem dX6_add_4 : decode cX6_add 4 = .ok (.iconst 0, 1) := by decide +kernel
theorem dX6_add_5 : decode cX6_add 5 = .ok (.bipush 15, 2) := by decide +kernel
theorem dX6_add_7 : decode cX6_add 7 = .ok (.invokestatic 29, 3) := by decide +kernel
theorem dX6_add_10 : decode cX6_add 10 = .ok (.ifCond .ne 6, 3) := by decide +kernel
theorem dX6_add_13 : decode cX6_add 13 = .ok (.bipush (-3), 2) := by decide +kernel
theorem dX6_add_15 : decode cX6_add 15 = .ok (.ireturn, 1) := by decide +kernel
theorem dX6_add_16 : decode cX6_add 16 = .ok (.aload_n 0, 1) := by decide +kernel
theorem dX6_add_17 : decode cX6_add 17 = .ok (.getfield 9, 3) := by decide +kernel
theorem dX6_add_20 : decode cX6_add 20 = .ok (.istore 4, 2) := by decide +kernel
theorem dX6_add_22 : decode cX6_add 22 = .ok (.aload_n 0, 1) := by decide +kernel
theorem dX6_add_23 : decode cX6_add 23 = .ok (.getfield 15, 3) := by decide +kernel
theorem dX6_add_26 : decode cX6_add 26 = .ok (.iload 4, 2) := by decide +kernel
theorem dX6_add_28 : decode cX6_add 28 = .ok (.iload_n 2, 1) := by decide +kernel
theorem dX6_add_29 : decode cX6_add 29 = .ok (.iastore, 1) := by decide +kernel
theorem dX6_add_30 : decode cX6_add 30 = .ok (.aload_n 0, 1) := by decide +kernel
theorem dX6_add_31 : decode cX6_add 31 = .ok (.getfield 19, 3) := by decide +kernel
theorem dX6_add_34 : decode cX6_add 34 = .ok (.iload 4, 2) := by decide +kernel
theorem dX6_add_36 : decode cX6_add 36 = .ok (.iload_n 3, 1) := by decide +kernel
theorem dX6_add_37 : decode cX6_add 37 = .ok (.iastore, 1) := by decide +kernel
theorem dX6_add_38 : decode cX6_add 38 = .ok (.iconst 0, 1) := by decide +kernel
theorem dX6_add_39 : decode cX6_add 39 = .ok (.istore 5, 2) := by decide +kernel
theorem dX6_add_41 : decode cX6_add 41 = .ok (.iload 5, 2) := by decide +kernel
theorem dX6_add_43 : decode cX6_add 43 = .ok (.iconst 5, 1) := by decide +kernel
theorem dX6_add_44 : decode cX6_add 44 = .ok (.if_icmp .ge 37, 3) := by decide +kernel
theorem dX6_add_47 : decode cX6_add 47 = .ok (.aload_n 0, 1) := by decide +kernel
theorem dX6_add_48 : decode cX6_add 48 = .ok (.getfield 22, 3) := by decide +kernel
theorem dX6_add_51 : decode cX6_add 51 = .ok (.iload 4, 2) := by decide +kernel
theorem dX6_add_53 : decode cX6_add 53 = .ok (.iconst 5, 1) := by decide +kernel
theorem dX6_add_54 : decode cX6_add 54 = .ok (.imul, 1) := by decide +kernel
theorem dX6_add_55 : decode cX6_add 55 = .ok (.iload 5, 2) := by decide +kernel
theorem dX6_add_57 : decode cX6_add 57 = .ok (.iadd, 1) := by decide +kernel
theorem dX6_add_58 : decode cX6_add 58 = .ok (.iload 5, 2) := by decide +kernel
theorem dX6_add_60 : decode cX6_add 60 = .ok (.iload_n 2, 1) := by decide +kernel
theorem dX6_add_61 : decode cX6_add 61 = .ok (.if_icmp .ge 12, 3) := by decide +kernel
theorem dX6_add_64 : decode cX6_add 64 = .ok (.aload_n 1, 1) := by decide +kernel
theorem dX6_add_65 : decode cX6_add 65 = .ok (.iload 5, 2) := by decide +kernel
theorem dX6_add_67 : decode cX6_add 67 = .ok (.invokevirtual 33, 3) := by decide +kernel
theorem dX6_add_70 : decode cX6_add 70 = .ok (.goto 4, 3) := by decide +kernel
theorem dX6_add_73 : decode cX6_add 73 = .ok (.iconst 0, 1) := by decide +kernel
theorem dX6_add_74 : decode cX6_add 74 = .ok (.iastore, 1) := by decide +kernel
theorem dX6_add_75 : decode cX6_add 75 = .ok (.iinc 5 1, 3) := by decide +kernel
theorem dX6_add_78 : decode cX6_add 78 = .ok (.goto (-37), 3) := by decide +kernel
theorem dX6_add_81 : decode cX6_add 81 = .ok (.aload_n 0, 1) := by decide +kernel
theorem dX6_add_82 : decode cX6_add 82 = .ok (.dup, 1) := by decide +kernel
theorem dX6_add_83 : decode cX6_add 83 = .ok (.getfield 9, 3) := by decide +kernel
theorem dX6_add_86 : decode cX6_add 86 = .ok (.iconst 1, 1) := by decide +kernel
theorem dX6_add_87 : decode cX6_add 87 = .ok (.iadd, 1) := by decide +kernel
theorem dX6_add_88 : decode cX6_add 88 = .ok (.putfield 9, 3) := by decide +kernel
theorem dX6_add_91 : decode cX6_add 91 = .ok (.iload 4, 2) := by decide +kernel
theorem dX6_add_93 : decode cX6_add 93 = .ok (.ireturn, 1) := by decide +kernel
set_option maxHeartbeats 4000000 in
set_option maxRecDepth 100000 in
theorem tX6_add_41 (l : Launch) {E : ET} (hE : Aj E) {p : Program} {e : Env} {s : State} {m : MethodId} {args : Array Value} {below : List Frame} {meth : Method} {c : Code} (X : Cx p (rmL 2) s m args c yX6_add.cls cX6_add 6 E (Aw E) 0 0) (hr : meth.sig.returnType = (some .int)) (hk : meth.locks = false) {r : Int32} {G' : GT} (i0 : Nat) (hi0 : i0 < cnt 3) (i1 : Nat) (hi1 : i1 < cnt 0) (a2 : Int32) (a4 : Int32) : ∀ (n : Nat) (G : GT) (a5 : Int32), fX6_add_41 i0 i1 a2 a4 n G a5 = some (r, G') → J p l e (rmL 2) s m args below meth c E (Aw E) s.heap 6 0 0 (MQ below (QI E r G') args s 0 0 (Aw E)) G 41 [(0, .ref (Ad E 3 i0)), (1, .ref (Ad E 0 i1)), (2, .int a2), (4, .int a4), (5, .int a5)] [] := by
  intro n
  induction n with
  | zero =>
    intro G a5 h
    simp [fX6_add_41] at h
  | succ n ih =>
    intro G a5 h
    rw [fX6_add_41] at h
    refine j_iload (pc := 41) X dX6_add_41 4 rfl ?_
    refine j_iconst (pc := 43) (v := 5) X dX6_add_43 (by decide) ?_
    refine j_icmp_ge (pc := 44) (tgt := 81) X dX6_add_44 (by decide) (fun hc => ?_) (fun hc => ?_)
    · rw [if_pos hc] at h
      refine j_aload_n (pc := 81) X dX6_add_81 rfl 0 rfl ?_
      refine j_dup (pc := 82) X dX6_add_82 rfl ?_
      refine j_get (pc := 83) (v := .int (G 3 i0 0)) X gf_X6_9 hi0 rfl rfl dX6_add_83 ?_
      refine j_iconst (pc := 86) (v := 1) X dX6_add_86 (by decide) ?_
      refine j_iadd (pc := 87) X dX6_add_87 ?_
      obtain ⟨G1, hG1, h⟩ := st3_s h
      refine j_put (pc := 88) X hG1 gf_X6_9 tyX6 tyX6_ok nmX6 hi0 rfl rfl (Nat.le_of_ble_eq_true rfl) rfl rfl rfl dX6_add_88 ?_
      refine j_iload (pc := 91) X dX6_add_91 3 rfl ?_
      exact j_ret (pc := 93) X hr hk (vp_nar_int _) (pr_s h).1 (pr_s h).2 dX6_add_93
    · rw [if_neg hc] at h
      refine j_aload_n (pc := 47) X dX6_add_47 rfl 0 rfl ?_
      refine j_get (pc := 48) (v := .ref (Ad E 6 i0)) X gf_X6_22 hi0 rfl rfl dX6_add_48 ?_
      refine j_iload (pc := 51) X dX6_add_51 3 rfl ?_
      refine j_iconst (pc := 53) (v := 5) X dX6_add_53 (by decide) ?_
      refine j_imul (pc := 54) X dX6_add_54 ?_
      refine j_iload (pc := 55) X dX6_add_55 4 rfl ?_
      refine j_iadd (pc := 57) X dX6_add_57 ?_
      refine j_iload (pc := 58) X dX6_add_58 4 rfl ?_
      refine j_iload_n (pc := 60) X dX6_add_60 rfl 2 rfl ?_
      refine j_icmp_ge (pc := 61) (tgt := 73) X dX6_add_61 (by decide) (fun hc => ?_) (fun hc => ?_)
      · rw [if_pos hc] at h
        refine j_iconst (pc := 73) (v := 0) X dX6_add_73 (by decide) ?_
        obtain ⟨hg2, h⟩ := gd_s h
        obtain ⟨G3, hG3, h⟩ := st3_s h
        refine j_iast (pc := 74) (n := 80) X hG3 hi0 (fun _ => rfl) hg2 dX6_add_74 ?_
        refine j_iinc (pc := 75) (q := 4) (v := (a5 + (1 : Int32))) (lv' := [(0, .ref (Ad E 3 i0)), (1, .ref (Ad E 0 i1)), (2, .int a2), (4, .int a4), (5, .int (a5 + (1 : Int32)))]) X dX6_add_75 rfl rfl (by decide) rfl ?_
        refine j_goto (pc := 78) (tgt := 41) X dX6_add_78 (by decide) ?_
        exact ih G3 (a5 + (1 : Int32)) h
      · rw [if_neg hc] at h
        refine j_aload_n (pc := 64) X dX6_add_64 rfl 1 rfl ?_
        refine j_iload (pc := 65) X dX6_add_65 4 rfl ?_
        obtain ⟨r4, hc6, h⟩ := bd_s h
        refine j_callI (pc := 67) X (tX2_kindAt l hE G i1 hi1 a5 hc6) muX2_kindAt hi1 q318 rfl rfl (Nat.le_of_ble_eq_true rfl) ⟨Nat.le_of_ble_eq_true rfl, Nat.le_of_ble_eq_true rfl⟩ dX6_add_67 ?_
        refine j_goto (pc := 70) (tgt := 74) X dX6_add_70 (by decide) ?_
        obtain ⟨hg7, h⟩ := gd_s h
        obtain ⟨G8, hG8, h⟩ := st3_s h
        refine j_iast (pc := 74) (n := 80) X hG8 hi0 (fun _ => rfl) hg7 dX6_add_74 ?_
        refine j_iinc (pc := 75) (q := 4) (v := (a5 + (1 : Int32))) (lv' := [(0, .ref (Ad E 3 i0)), (1, .ref (Ad E 0 i1)), (2, .int a2), (4, .int a4), (5, .int (a5 + (1 : Int32)))]) X dX6_add_75 rfl rfl (by decide) rfl ?_
        refine j_goto (pc := 78) (tgt := 41) X dX6_add_78 (by decide) ?_
        exact ih G8 (a5 + (1 : Int32)) h
set_option maxHeartbeats 4000000 in
set_option maxRecDepth 100000 in
theorem tX6_add (l : Launch) {E : ET} (hE : Aj E) (G : GT) (i0 : Nat) (hi0 : i0 < cnt 3) (i1 : Nat) (hi1 : i1 < cnt 0) (a2 : Int32) (a3 : Int32) {r : Int32} {G' : GT} (h : fX6_add G i0 i1 a2 a3 = some (r, G')) : CI l E yX6_add cX6_add 6 (some .int) 2 [.ref (Ad E 3 i0), .ref (Ad E 0 i1), .int a2, .int a3] G r G' := by
  refine Met_I (lv := [(0, .ref (Ad E 3 i0)), (1, .ref (Ad E 0 i1)), (2, .int a2), (3, .int a3)]) (by decide +kernel) hE (Nat.le_of_ble_eq_true rfl) rfl ?_
  intro p e s m args below meth c X hr hk
  unfold fX6_add at h
  refine j_aload_n (pc := 0) X dX6_add_0 rfl 0 rfl ?_
  refine j_get (pc := 1) (v := .int (G 3 i0 0)) X gf_X6_9 hi0 rfl rfl dX6_add_1 ?_
  refine j_iconst (pc := 4) (v := 0) X dX6_add_4 (by decide) ?_
  refine j_bipush (pc := 5) (v := 15) X dX6_add_5 (by decide) ?_
  obtain ⟨r1, hc3, h⟩ := bd_s h
  refine j_staI (pc := 7) X (tX7_isWithin l hE G (G 3 i0 0) (0 : Int32) (15 : Int32) hc3) muX7_isWithin (Or.inr ⟨_, q317⟩) rfl rfl (Nat.le_of_ble_eq_true rfl) ⟨Nat.le_of_ble_eq_true rfl, Nat.le_of_ble_eq_true rfl⟩ dX6_add_7 ?_
  refine j_if_ne (pc := 10) (tgt := 16) X dX6_add_10 (by decide) (fun hc => ?_) (fun hc => ?_)
  · rw [if_neg hc] at h
    refine j_aload_n (pc := 16) X dX6_add_16 rfl 0 rfl ?_
    refine j_get (pc := 17) (v := .int (G 3 i0 0)) X gf_X6_9 hi0 rfl rfl dX6_add_17 ?_
    refine j_istore (pc := 20) (lv' := [(0, .ref (Ad E 3 i0)), (1, .ref (Ad E 0 i1)), (2, .int a2), (3, .int a3), (4, .int (G 3 i0 0))]) X dX6_add_20 (by decide) rfl ?_
    refine j_aload_n (pc := 22) X dX6_add_22 rfl 0 rfl ?_
    refine j_get (pc := 23) (v := .ref (Ad E 4 i0)) X gf_X6_15 hi0 rfl rfl dX6_add_23 ?_
    refine j_iload (pc := 26) X dX6_add_26 4 rfl ?_
    refine j_iload_n (pc := 28) X dX6_add_28 rfl 2 rfl ?_
    obtain ⟨hg4, h⟩ := gd_s h
    obtain ⟨G5, hG5, h⟩ := st3_s h
    refine j_iast (pc := 29) (n := 16) X hG5 hi0 (fun _ => rfl) hg4 dX6_add_29 ?_
    refine j_aload_n (pc := 30) X dX6_add_30 rfl 0 rfl ?_
    refine j_get (pc := 31) (v := .ref (Ad E 5 i0)) X gf_X6_19 hi0 rfl rfl dX6_add_31 ?_
    refine j_iload (pc := 34) X dX6_add_34 4 rfl ?_
    refine j_iload_n (pc := 36) X dX6_add_36 rfl 3 rfl ?_
    obtain ⟨hg6, h⟩ := gd_s h
    obtain ⟨G7, hG7, h⟩ := st3_s h
    refine j_iast (pc := 37) (n := 16) X hG7 hi0 (fun _ => rfl) hg6 dX6_add_37 ?_
    refine j_iconst (pc := 38) (v := 0) X dX6_add_38 (by decide) ?_
    refine j_istore (pc := 39) (lv' := [(0, .ref (Ad E 3 i0)), (1, .ref (Ad E 0 i1)), (2, .int a2), (3, .int a3), (4, .int (G 3 i0 0)), (5, .int (0 : Int32))]) X dX6_add_39 (by decide) rfl ?_
    refine j_lv (lv' := [(0, .ref (Ad E 3 i0)), (1, .ref (Ad E 0 i1)), (2, .int a2), (4, .int (G 3 i0 0)), (5, .int (0 : Int32))]) [0, 1, 2, 4, 5] rfl ?_
    exact tX6_add_41 l hE X hr hk i0 hi0 i1 hi1 a2 (G 3 i0 0) FU G7 (0 : Int32) h
  · rw [if_pos hc] at h
    refine j_bipush (pc := 13) (v := (-3)) X dX6_add_13 (by decide) ?_
    exact j_ret (pc := 15) X hr hk (vp_nar_int _) (pr_s h).1 (pr_s h).2 dX6_add_15
theorem dX6_differing_0 : decode cX6_differing 0 = .ok (.iload 4, 2) := by decide +kernel
theorem dX6_differing_2 : decode cX6_differing 2 = .ok (.aload_n 0, 1) := by decide +kernel
theorem dX6_differing_3 : decode cX6_differing 3 = .ok (.iload_n 1, 1) := by decide +kernel
theorem dX6_differing_4 : decode cX6_differing 4 = .ok (.invokevirtual 39, 3) := by decide +kernel
theorem dX6_differing_7 : decode cX6_differing 7 = .ok (.invokestatic 49, 3) := by decide +kernel
theorem dX6_differing_10 : decode cX6_differing 10 = .ok (.istore 5, 2) := by decide +kernel
theorem dX6_differing_12 : decode cX6_differing 12 = .ok (.iload 4, 2) := by decide +kernel
theorem dX6_differing_14 : decode cX6_differing 14 = .ok (.aload_n 0, 1) := by decide +kernel
theorem dX6_differing_15 : decode cX6_differing 15 = .ok (.iload_n 1, 1) := by decide +kernel
theorem dX6_differing_16 : decode cX6_differing 16 = .ok (.invokevirtual 39, 3) := by decide +kernel
theorem dX6_differing_19 : decode cX6_differing 19 = .ok (.invokestatic 54, 3) := by decide +kernel
theorem dX6_differing_22 : decode cX6_differing 22 = .ok (.iload 5, 2) := by decide +kernel
theorem dX6_differing_24 : decode cX6_differing 24 = .ok (.isub, 1) := by decide +kernel
theorem dX6_differing_25 : decode cX6_differing 25 = .ok (.istore 6, 2) := by decide +kernel
theorem dX6_differing_27 : decode cX6_differing 27 = .ok (.iconst 0, 1) := by decide +kernel
theorem dX6_differing_28 : decode cX6_differing 28 = .ok (.istore 7, 2) := by decide +kernel
theorem dX6_differing_30 : decode cX6_differing 30 = .ok (.iload 7, 2) := by decide +kernel
theorem dX6_differing_32 : decode cX6_differing 32 = .ok (.iload 5, 2) := by decide +kernel
theorem dX6_differing_34 : decode cX6_differing 34 = .ok (.if_icmp .ge 30, 3) := by decide +kernel
theorem dX6_differing_37 : decode cX6_differing 37 = .ok (.aload_n 0, 1) := by decide +kernel
theorem dX6_differing_38 : decode cX6_differing 38 = .ok (.iload_n 1, 1) := by decide +kernel
theorem dX6_differing_39 : decode cX6_differing 39 = .ok (.iload 7, 2) := by decide +kernel
theorem dX6_differing_41 : decode cX6_differing 41 = .ok (.invokevirtual 42, 3) := by decide +kernel
theorem dX6_differing_44 : decode cX6_differing 44 = .ok (.aload_n 2, 1) := by decide +kernel
theorem dX6_differing_45 : decode cX6_differing 45 = .ok (.iload_n 3, 1) := by decide +kernel
theorem dX6_differing_46 : decode cX6_differing 46 = .ok (.iload 7, 2) := by decide +kernel
theorem dX6_differing_48 : decode cX6_differing 48 = .ok (.iadd, 1) := by decide +kernel
theorem dX6_differing_49 : decode cX6_differing 49 = .ok (.invokevirtual 33, 3) := by decide +kernel
theorem dX6_differing_52 : decode cX6_differing 52 = .ok (.if_icmp .eq 6, 3) := by decide +kernel
theorem dX6_differing_55 : decode cX6_differing 55 = .ok (.iinc 6 1, 3) := by decide +kernel
theorem dX6_differing_58 : decode cX6_differing 58 = .ok (.iinc 7 1, 3) := by decide +kernel
theorem dX6_differing_61 : decode cX6_differing 61 = .ok (.goto (-31), 3) := by decide +kernel
theorem dX6_differing_64 : decode cX6_differing 64 = .ok (.iload 6, 2) := by decide +kernel
theorem dX6_differing_66 : decode cX6_differing 66 = .ok (.ireturn, 1) := by decide +kernel
set_option maxHeartbeats 4000000 in
set_option maxRecDepth 100000 in
theorem tX6_differing_30 (l : Launch) {E : ET} (hE : Aj E) {p : Program} {e : Env} {s : State} {m : MethodId} {args : Array Value} {below : List Frame} {meth : Method} {c : Code} (X : Cx p (rmL 2) s m args c yX6_differing.cls cX6_differing 8 E (Aw E) 0 0) (hr : meth.sig.returnType = (some .int)) (hk : meth.locks = false) {r : Int32} (G : GT) (i0 : Nat) (hi0 : i0 < cnt 3) (i2 : Nat) (hi2 : i2 < cnt 0) (a1 : Int32) (a3 : Int32) (a5 : Int32) : ∀ (n : Nat) (a6 a7 : Int32), fX6_differing_30 G i0 i2 a1 a3 a5 n a6 a7 = some r → J p l e (rmL 2) s m args below meth c E (Aw E) s.heap 8 0 0 (MQ below (QI E r G) args s 0 0 (Aw E)) G 30 [(0, .ref (Ad E 3 i0)), (1, .int a1), (2, .ref (Ad E 0 i2)), (3, .int a3), (5, .int a5), (6, .int a6), (7, .int a7)] [] := by
  intro n
  induction n with
  | zero =>
    intro a6 a7 h
    simp [fX6_differing_30] at h
  | succ n ih =>
    intro a6 a7 h
    rw [fX6_differing_30] at h
    refine j_iload (pc := 30) X dX6_differing_30 6 rfl ?_
    refine j_iload (pc := 32) X dX6_differing_32 4 rfl ?_
    refine j_icmp_ge (pc := 34) (tgt := 64) X dX6_differing_34 (by decide) (fun hc => ?_) (fun hc => ?_)
    · rw [if_pos hc] at h
      refine j_iload (pc := 64) X dX6_differing_64 5 rfl ?_
      exact j_ret (pc := 66) X hr hk (vp_nar_int _) (Option.some.inj h) rfl dX6_differing_66
    · rw [if_neg hc] at h
      refine j_aload_n (pc := 37) X dX6_differing_37 rfl 0 rfl ?_
      refine j_iload_n (pc := 38) X dX6_differing_38 rfl 1 rfl ?_
      refine j_iload (pc := 39) X dX6_differing_39 6 rfl ?_
      obtain ⟨r1, hc3, h⟩ := bd_s h
      refine j_callI (pc := 41) X (tX6_kindAt l hE G i0 hi0 a1 a7 hc3) muX6_kindAt hi0 q313 rfl rfl (Nat.le_of_ble_eq_true rfl) ⟨Nat.le_of_ble_eq_true rfl, Nat.le_of_ble_eq_true rfl⟩ dX6_differing_41 ?_
      refine j_aload_n (pc := 44) X dX6_differing_44 rfl 2 rfl ?_
      refine j_iload_n (pc := 45) X dX6_differing_45 rfl 3 rfl ?_
      refine j_iload (pc := 46) X dX6_differing_46 6 rfl ?_
      refine j_iadd (pc := 48) X dX6_differing_48 ?_
      obtain ⟨r4, hc6, h⟩ := bd_s h
      refine j_callI (pc := 49) X (tX2_kindAt l hE G i2 hi2 (a3 + a7) hc6) muX2_kindAt hi2 q318 rfl rfl (Nat.le_of_ble_eq_true rfl) ⟨Nat.le_of_ble_eq_true rfl, Nat.le_of_ble_eq_true rfl⟩ dX6_differing_49 ?_
      refine j_icmp_eq (pc := 52) (tgt := 58) X dX6_differing_52 (by decide) (fun hc => ?_) (fun hc => ?_)
      · rw [if_pos hc] at h
        refine j_iinc (pc := 58) (q := 6) (v := (a7 + (1 : Int32))) (lv' := [(0, .ref (Ad E 3 i0)), (1, .int a1), (2, .ref (Ad E 0 i2)), (3, .int a3), (5, .int a5), (6, .int a6), (7, .int (a7 + (1 : Int32)))]) X dX6_differing_58 rfl rfl (by decide) rfl ?_
        refine j_goto (pc := 61) (tgt := 30) X dX6_differing_61 (by decide) ?_
        exact ih a6 (a7 + (1 : Int32)) h
      · rw [if_neg hc] at h
        refine j_iinc (pc := 55) (q := 5) (v := (a6 + (1 : Int32))) (lv' := [(0, .ref (Ad E 3 i0)), (1, .int a1), (2, .ref (Ad E 0 i2)), (3, .int a3), (5, .int a5), (6, .int (a6 + (1 : Int32))), (7, .int a7)]) X dX6_differing_55 rfl rfl (by decide) rfl ?_
        refine j_iinc (pc := 58) (q := 6) (v := (a7 + (1 : Int32))) (lv' := [(0, .ref (Ad E 3 i0)), (1, .int a1), (2, .ref (Ad E 0 i2)), (3, .int a3), (5, .int a5), (6, .int (a6 + (1 : Int32))), (7, .int (a7 + (1 : Int32)))]) X dX6_differing_58 rfl rfl (by decide) rfl ?_
        refine j_goto (pc := 61) (tgt := 30) X dX6_differing_61 (by decide) ?_
        exact ih (a6 + (1 : Int32)) (a7 + (1 : Int32)) h
set_option maxHeartbeats 4000000 in
set_option maxRecDepth 100000 in
theorem tX6_differing (l : Launch) {E : ET} (hE : Aj E) (G : GT) (i0 : Nat) (hi0 : i0 < cnt 3) (a1 : Int32) (i2 : Nat) (hi2 : i2 < cnt 0) (a3 : Int32) (a4 : Int32) {r : Int32} (h : fX6_differing G i0 a1 i2 a3 a4 = some r) : CI l E yX6_differing cX6_differing 8 (some .int) 2 [.ref (Ad E 3 i0), .int a1, .ref (Ad E 0 i2), .int a3, .int a4] G r G := by
  refine Met_I (lv := [(0, .ref (Ad E 3 i0)), (1, .int a1), (2, .ref (Ad E 0 i2)), (3, .int a3), (4, .int a4)]) (by decide +kernel) hE (Nat.le_of_ble_eq_true rfl) rfl ?_
  intro p e s m args below meth c X hr hk
  unfold fX6_differing at h
  refine j_iload (pc := 0) X dX6_differing_0 4 rfl ?_
  refine j_aload_n (pc := 2) X dX6_differing_2 rfl 0 rfl ?_
  refine j_iload_n (pc := 3) X dX6_differing_3 rfl 1 rfl ?_
  obtain ⟨r1, hc3, h⟩ := bd_s h
  refine j_callI (pc := 4) X (tX6_lengthOf l hE G i0 hi0 a1 hc3) muX6_lengthOf hi0 q301 rfl rfl (Nat.le_of_ble_eq_true rfl) ⟨Nat.le_of_ble_eq_true rfl, Nat.le_of_ble_eq_true rfl⟩ dX6_differing_4 ?_
  refine j_mmin (pc := 7) X (q565) ⟨Nat.le_of_ble_eq_true rfl, Nat.le_of_ble_eq_true rfl⟩ dX6_differing_7 ?_
  refine j_istore (pc := 10) (lv' := [(0, .ref (Ad E 3 i0)), (1, .int a1), (2, .ref (Ad E 0 i2)), (3, .int a3), (4, .int a4), (5, .int (imin a4 r1))]) X dX6_differing_10 (by decide) rfl ?_
  refine j_iload (pc := 12) X dX6_differing_12 4 rfl ?_
  refine j_aload_n (pc := 14) X dX6_differing_14 rfl 0 rfl ?_
  refine j_iload_n (pc := 15) X dX6_differing_15 rfl 1 rfl ?_
  obtain ⟨r4, hc6, h⟩ := bd_s h
  refine j_callI (pc := 16) X (tX6_lengthOf l hE G i0 hi0 a1 hc6) muX6_lengthOf hi0 q301 rfl rfl (Nat.le_of_ble_eq_true rfl) ⟨Nat.le_of_ble_eq_true rfl, Nat.le_of_ble_eq_true rfl⟩ dX6_differing_16 ?_
  refine j_mmax (pc := 19) X (q566) ⟨Nat.le_of_ble_eq_true rfl, Nat.le_of_ble_eq_true rfl⟩ dX6_differing_19 ?_
  refine j_iload (pc := 22) X dX6_differing_22 5 rfl ?_
  refine j_isub (pc := 24) X dX6_differing_24 ?_
  refine j_istore (pc := 25) (lv' := [(0, .ref (Ad E 3 i0)), (1, .int a1), (2, .ref (Ad E 0 i2)), (3, .int a3), (4, .int a4), (5, .int (imin a4 r1)), (6, .int ((imax a4 r4) - (imin a4 r1)))]) X dX6_differing_25 (by decide) rfl ?_
  refine j_iconst (pc := 27) (v := 0) X dX6_differing_27 (by decide) ?_
  refine j_istore (pc := 28) (lv' := [(0, .ref (Ad E 3 i0)), (1, .int a1), (2, .ref (Ad E 0 i2)), (3, .int a3), (4, .int a4), (5, .int (imin a4 r1)), (6, .int ((imax a4 r4) - (imin a4 r1))), (7, .int (0 : Int32))]) X dX6_differing_28 (by decide) rfl ?_
  refine j_lv (lv' := [(0, .ref (Ad E 3 i0)), (1, .int a1), (2, .ref (Ad E 0 i2)), (3, .int a3), (5, .int (imin a4 r1)), (6, .int ((imax a4 r4) - (imin a4 r1))), (7, .int (0 : Int32))]) [0, 1, 2, 3, 5, 6, 7] rfl ?_
  exact tX6_differing_30 l hE X hr hk G i0 hi0 i2 hi2 a1 a3 (imin a4 r1) FU ((imax a4 r4) - (imin a4 r1)) (0 : Int32) h
theorem dX7_readRuns_0 : decode cX7_readRuns 0 = .ok (.aload_n 0, 1) := by decide +kernel
theorem dX7_readRuns_1 : decode cX7_readRuns 1 = .ok (.getfield 40, 3) := by decide +kernel
theorem dX7_readRuns_4 : decode cX7_readRuns 4 = .ok (.aload_n 0, 1) := by decide +kernel
theorem dX7_readRuns_5 : decode cX7_readRuns 5 = .ok (.getfield 10, 3) := by decide +kernel
theorem dX7_readRuns_8 : decode cX7_readRuns 8 = .ok (.getfield 62, 3) := by decide +kernel
theorem dX7_readRuns_11 : decode cX7_readRuns 11 = .ok (.aload_n 0, 1) := by decide +kernel
theorem dX7_readRuns_12 : decode cX7_readRuns 12 = .ok (.getfield 10, 3) := by decide +kernel
theorem dX7_readRuns_15 : decode cX7_readRuns 15 = .ok (.getfield 112, 3) := by decide +kernel
theorem dX7_readRuns_18 : decode cX7_readRuns 18 = .ok (.invokevirtual 251, 3) := by decide +kernel
theorem dX7_readRuns_21 : decode cX7_readRuns 21 = .ok (.aload_n 0, 1) := by decide +kernel
theorem dX7_readRuns_22 : decode cX7_readRuns 22 = .ok (.getfield 40, 3) := by decide +kernel
theorem dX7_readRuns_25 : decode cX7_readRuns 25 = .ok (.areturn, 1) := by decide +kernel
set_option maxHeartbeats 4000000 in
set_option maxRecDepth 100000 in
theorem tX7_readRuns (l : Launch) {E : ET} (hE : Aj E) (G : GT) {G' : GT} (h : fX7_readRuns G = some G') : CR l E yX7_readRuns cX7_readRuns 1 (some (.object "RopeKnots$Runs")) 5 [.ref (Ad E 20 0)] G (Ad E 16 0) G' := by
  refine Met_R (lv := [(0, .ref (Ad E 20 0))]) (by decide +kernel) hE (Nat.le_of_ble_eq_true rfl) rfl ?_
  intro p e s m args below meth c X hr hk
  unfold fX7_readRuns at h
  refine j_aload_n (pc := 0) X dX7_readRuns_0 rfl 0 rfl ?_
  refine j_get (pc := 1) (v := .ref (Ad E 16 0)) X gf_X7_40 (by decide) rfl rfl dX7_readRuns_1 ?_
  refine j_aload_n (pc := 4) X dX7_readRuns_4 rfl 0 rfl ?_
  refine j_get (pc := 5) (v := .ref (Ad E 11 0)) X gf_X7_10 (by decide) rfl rfl dX7_readRuns_5 ?_
  refine j_get (pc := 8) (v := .ref (Ad E 0 0)) X gf_X7_62 (by decide) rfl rfl dX7_readRuns_8 ?_
  refine j_aload_n (pc := 11) X dX7_readRuns_11 rfl 0 rfl ?_
  refine j_get (pc := 12) (v := .ref (Ad E 11 0)) X gf_X7_10 (by decide) rfl rfl dX7_readRuns_12 ?_
  refine j_get (pc := 15) (v := .ref (Ad E 3 0)) X gf_X7_112 (by decide) rfl rfl dX7_readRuns_15 ?_
  obtain ⟨G2, hc3, h⟩ := bd_s h
  refine j_callV (pc := 18) X (tX3_read l hE G 0 (by decide) 0 (by decide) 0 (by decide) hc3) muX3_read (by decide) q284 rfl rfl (Nat.le_of_ble_eq_true rfl) ⟨Nat.le_of_ble_eq_true rfl, Nat.le_of_ble_eq_true rfl⟩ dX7_readRuns_18 ?_
  refine j_aload_n (pc := 21) X dX7_readRuns_21 rfl 0 rfl ?_
  refine j_get (pc := 22) (v := .ref (Ad E 16 0)) X gf_X7_40 (by decide) rfl rfl dX7_readRuns_22 ?_
  exact j_aret (pc := 25) X hr hk (Option.some.inj h) dX7_readRuns_25
theorem dX7_tie_0 : decode cX7_tie 0 = .ok (.iload_n 1, 1) := by decide +kernel
theorem dX7_tie_1 : decode cX7_tie 1 = .ok (.iconst 0, 1) := by decide +kernel
theorem dX7_tie_2 : decode cX7_tie 2 = .ok (.bipush 39, 2) := by decide +kernel
theorem dX7_tie_4 : decode cX7_tie 4 = .ok (.invokestatic 58, 3) := by decide +kernel
theorem dX7_tie_7 : decode cX7_tie 7 = .ok (.ifCond .ne 5, 3) := by decide +kernel
theorem dX7_tie_10 : decode cX7_tie 10 = .ok (.iconst (-1), 1) := by decide +kernel
theorem dX7_tie_11 : decode cX7_tie 11 = .ok (.ireturn, 1) := by decide +kernel
theorem dX7_tie_12 : decode cX7_tie 12 = .ok (.iload_n 2, 1) := by decide +kernel
theorem dX7_tie_13 : decode cX7_tie 13 = .ok (.iconst 1, 1) := by decide +kernel
theorem dX7_tie_14 : decode cX7_tie 14 = .ok (.iconst 5, 1) := by decide +kernel
theorem dX7_tie_15 : decode cX7_tie 15 = .ok (.invokestatic 58, 3) := by decide +kernel
theorem dX7_tie_18 : decode cX7_tie 18 = .ok (.ifCond .eq 13, 3) := by decide +kernel
theorem dX7_tie_21 : decode cX7_tie 21 = .ok (.iload_n 3, 1) := by decide +kernel
theorem dX7_tie_22 : decode cX7_tie 22 = .ok (.iconst 1, 1) := by decide +kernel
theorem dX7_tie_23 : decode cX7_tie 23 = .ok (.bipush 9, 2) := by decide +kernel
theorem dX7_tie_25 : decode cX7_tie 25 = .ok (.invokestatic 58, 3) := by decide +kernel
theorem dX7_tie_28 : decode cX7_tie 28 = .ok (.ifCond .ne 6, 3) := by decide +kernel
theorem dX7_tie_31 : decode cX7_tie 31 = .ok (.bipush (-2), 2) := by decide +kernel
theorem dX7_tie_33 : decode cX7_tie 33 = .ok (.ireturn, 1) := by decide +kernel
theorem dX7_tie_34 : decode cX7_tie 34 = .ok (.aload_n 0, 1) := by decide +kernel
theorem dX7_tie_35 : decode cX7_tie 35 = .ok (.getfield 10, 3) := by decide +kernel
theorem dX7_tie_38 : decode cX7_tie 38 = .ok (.getfield 62, 3) := by decide +kernel
theorem dX7_tie_41 : decode cX7_tie 41 = .ok (.iload_n 1, 1) := by decide +kernel
theorem dX7_tie_42 : decode cX7_tie 42 = .ok (.invokevirtual 65, 3) := by decide +kernel
theorem dX7_tie_45 : decode cX7_tie 45 = .ok (.iload_n 2, 1) := by decide +kernel
theorem dX7_tie_46 : decode cX7_tie 46 = .ok (.if_icmp .ne 21, 3) := by decide +kernel
theorem dX7_tie_49 : decode cX7_tie 49 = .ok (.aload_n 0, 1) := by decide +kernel
theorem dX7_tie_50 : decode cX7_tie 50 = .ok (.getfield 10, 3) := by decide +kernel
theorem dX7_tie_53 : decode cX7_tie 53 = .ok (.getfield 62, 3) := by decide +kernel
theorem dX7_tie_56 : decode cX7_tie 56 = .ok (.iload_n 1, 1) := by decide +kernel
theorem dX7_tie_57 : decode cX7_tie 57 = .ok (.invokevirtual 69, 3) := by decide +kernel
theorem dX7_tie_60 : decode cX7_tie 60 = .ok (.iload_n 3, 1) := by decide +kernel
theorem dX7_tie_61 : decode cX7_tie 61 = .ok (.if_icmp .ne 6, 3) := by decide +kernel
theorem dX7_tie_64 : decode cX7_tie 64 = .ok (.bipush (-5), 2) := by decide +kernel
theorem dX7_tie_66 : decode cX7_tie 66 = .ok (.ireturn, 1) := by decide +kernel
theorem dX7_tie_67 : decode cX7_tie 67 = .ok (.aload_n 0, 1) := by decide +kernel
theorem dX7_tie_68 : decode cX7_tie 68 = .ok (.getfield 26, 3) := by decide +kernel
theorem dX7_tie_71 : decode cX7_tie 71 = .ok (.aload_n 0, 1) := by decide +kernel
theorem dX7_tie_72 : decode cX7_tie 72 = .ok (.getfield 10, 3) := by decide +kernel
theorem dX7_tie_75 : decode cX7_tie 75 = .ok (.invokevirtual 72, 3) := by decide +kernel
theorem dX7_tie_78 : decode cX7_tie 78 = .ok (.aload_n 0, 1) := by decide +kernel
theorem dX7_tie_79 : decode cX7_tie 79 = .ok (.getfield 10, 3) := by decide +kernel
theorem dX7_tie_82 : decode cX7_tie 82 = .ok (.getfield 62, 3) := by decide +kernel
theorem dX7_tie_85 : decode cX7_tie 85 = .ok (.iload_n 1, 1) := by decide +kernel
theorem dX7_tie_86 : decode cX7_tie 86 = .ok (.iload_n 2, 1) := by decide +kernel
theorem dX7_tie_87 : decode cX7_tie 87 = .ok (.iload_n 3, 1) := by decide +kernel
theorem dX7_tie_88 : decode cX7_tie 88 = .ok (.invokevirtual 76, 3) := by decide +kernel
theorem dX7_tie_91 : decode cX7_tie 91 = .ok (.aload_n 0, 1) := by decide +kernel
theorem dX7_tie_92 : decode cX7_tie 92 = .ok (.invokevirtual 80, 3) := by decide +kernel
theorem dX7_tie_95 : decode cX7_tie 95 = .ok (.getfield 84, 3) := by decide +kernel
theorem dX7_tie_98 : decode cX7_tie 98 = .ok (.ireturn, 1) := by decide +kernel
set_option maxHeartbeats 4000000 in
set_option maxRecDepth 100000 in
theorem tX7_tie_67 (l : Launch) {E : ET} (hE : Aj E) {p : Program} {e : Env} {s : State} {m : MethodId} {args : Array Value} {below : List Frame} {meth : Method} {c : Code} (X : Cx p (rmL 6) s m args c yX7_tie.cls cX7_tie 4 E (Aw E) 0 0) (hr : meth.sig.returnType = (some .int)) (hk : meth.locks = false) {r : Int32} {G' : GT} (G : GT) (a1 : Int32) (a2 : Int32) (a3 : Int32) (h : fX7_tie_67 G a1 a2 a3 = some (r, G')) : J p l e (rmL 6) s m args below meth c E (Aw E) s.heap 4 0 0 (MQ below (QI E r G') args s 0 0 (Aw E)) G 67 [(0, .ref (Ad E 20 0)), (1, .int a1), (2, .int a2), (3, .int a3)] [] := by
  unfold fX7_tie_67 at h
  refine j_aload_n (pc := 67) X dX7_tie_67 rfl 0 rfl ?_
  refine j_get (pc := 68) (v := .ref (Ad E 12 0)) X gf_X7_26 (by decide) rfl rfl dX7_tie_68 ?_
  refine j_aload_n (pc := 71) X dX7_tie_71 rfl 0 rfl ?_
  refine j_get (pc := 72) (v := .ref (Ad E 11 0)) X gf_X7_10 (by decide) rfl rfl dX7_tie_72 ?_
  obtain ⟨G2, hc3, h⟩ := bd_s h
  refine j_callV (pc := 75) X (tX0_remember l hE G 0 (by decide) hc3) muX0_remember (by decide) q252 rfl rfl (Nat.le_of_ble_eq_true rfl) ⟨Nat.le_of_ble_eq_true rfl, Nat.le_of_ble_eq_true rfl⟩ dX7_tie_75 ?_
  refine j_aload_n (pc := 78) X dX7_tie_78 rfl 0 rfl ?_
  refine j_get (pc := 79) (v := .ref (Ad E 11 0)) X gf_X7_10 (by decide) rfl rfl dX7_tie_79 ?_
  refine j_get (pc := 82) (v := .ref (Ad E 0 0)) X gf_X7_62 (by decide) rfl rfl dX7_tie_82 ?_
  refine j_iload_n (pc := 85) X dX7_tie_85 rfl 1 rfl ?_
  refine j_iload_n (pc := 86) X dX7_tie_86 rfl 2 rfl ?_
  refine j_iload_n (pc := 87) X dX7_tie_87 rfl 3 rfl ?_
  obtain ⟨G5, hc6, h⟩ := bd_s h
  refine j_callV (pc := 88) X (tX2_put l hE G2 0 (by decide) a1 a2 a3 hc6) muX2_put (by decide) q276 rfl rfl (Nat.le_of_ble_eq_true rfl) ⟨Nat.le_of_ble_eq_true rfl, Nat.le_of_ble_eq_true rfl⟩ dX7_tie_88 ?_
  refine j_aload_n (pc := 91) X dX7_tie_91 rfl 0 rfl ?_
  obtain ⟨G8, hc9, h⟩ := bd_s h
  refine j_callR (pc := 92) X (tX7_readRuns l hE G5  hc9) muX7_readRuns (by decide) q280 rfl rfl (Nat.le_of_ble_eq_true rfl) ⟨Nat.le_of_ble_eq_true rfl, Nat.le_of_ble_eq_true rfl⟩ dX7_tie_92 ?_
  refine j_get (pc := 95) (v := .int (G8 16 0 0)) X gf_X7_84 (by decide) rfl rfl dX7_tie_95 ?_
  exact j_ret (pc := 98) X hr hk (vp_nar_int _) (pr_s h).1 (pr_s h).2 dX7_tie_98
set_option maxHeartbeats 4000000 in
set_option maxRecDepth 100000 in
theorem tX7_tie (l : Launch) {E : ET} (hE : Aj E) (G : GT) (a1 : Int32) (a2 : Int32) (a3 : Int32) {r : Int32} {G' : GT} (h : fX7_tie G a1 a2 a3 = some (r, G')) : CI l E yX7_tie cX7_tie 4 (some .int) 6 [.ref (Ad E 20 0), .int a1, .int a2, .int a3] G r G' := by
  refine Met_I (lv := [(0, .ref (Ad E 20 0)), (1, .int a1), (2, .int a2), (3, .int a3)]) (by decide +kernel) hE (Nat.le_of_ble_eq_true rfl) rfl ?_
  intro p e s m args below meth c X hr hk
  unfold fX7_tie at h
  refine j_iload_n (pc := 0) X dX7_tie_0 rfl 1 rfl ?_
  refine j_iconst (pc := 1) (v := 0) X dX7_tie_1 (by decide) ?_
  refine j_bipush (pc := 2) (v := 39) X dX7_tie_2 (by decide) ?_
  obtain ⟨r1, hc3, h⟩ := bd_s h
  refine j_staI (pc := 4) X (tX7_isWithin l hE G a1 (0 : Int32) (39 : Int32) hc3) muX7_isWithin (Or.inl q240) rfl rfl (Nat.le_of_ble_eq_true rfl) ⟨Nat.le_of_ble_eq_true rfl, Nat.le_of_ble_eq_true rfl⟩ dX7_tie_4 ?_
  refine j_if_ne (pc := 7) (tgt := 12) X dX7_tie_7 (by decide) (fun hc => ?_) (fun hc => ?_)
  · rw [if_neg hc] at h
    refine j_iload_n (pc := 12) X dX7_tie_12 rfl 2 rfl ?_
    refine j_iconst (pc := 13) (v := 1) X dX7_tie_13 (by decide) ?_
    refine j_iconst (pc := 14) (v := 5) X dX7_tie_14 (by decide) ?_
    obtain ⟨r4, hc6, h⟩ := bd_s h
    refine j_staI (pc := 15) X (tX7_isWithin l hE G a2 (1 : Int32) (5 : Int32) hc6) muX7_isWithin (Or.inl q240) rfl rfl (Nat.le_of_ble_eq_true rfl) ⟨Nat.le_of_ble_eq_true rfl, Nat.le_of_ble_eq_true rfl⟩ dX7_tie_15 ?_
    refine j_if_eq (pc := 18) (tgt := 31) X dX7_tie_18 (by decide) (fun hc => ?_) (fun hc => ?_)
    · rw [if_pos hc] at h
      refine j_bipush (pc := 31) (v := (-2)) X dX7_tie_31 (by decide) ?_
      exact j_ret (pc := 33) X hr hk (vp_nar_int _) (pr_s h).1 (pr_s h).2 dX7_tie_33
    · rw [if_neg hc] at h
      refine j_iload_n (pc := 21) X dX7_tie_21 rfl 3 rfl ?_
      refine j_iconst (pc := 22) (v := 1) X dX7_tie_22 (by decide) ?_
      refine j_bipush (pc := 23) (v := 9) X dX7_tie_23 (by decide) ?_
      obtain ⟨r7, hc9, h⟩ := bd_s h
      refine j_staI (pc := 25) X (tX7_isWithin l hE G a3 (1 : Int32) (9 : Int32) hc9) muX7_isWithin (Or.inl q240) rfl rfl (Nat.le_of_ble_eq_true rfl) ⟨Nat.le_of_ble_eq_true rfl, Nat.le_of_ble_eq_true rfl⟩ dX7_tie_25 ?_
      refine j_if_ne (pc := 28) (tgt := 34) X dX7_tie_28 (by decide) (fun hc => ?_) (fun hc => ?_)
      · rw [if_neg hc] at h
        refine j_aload_n (pc := 34) X dX7_tie_34 rfl 0 rfl ?_
        refine j_get (pc := 35) (v := .ref (Ad E 11 0)) X gf_X7_10 (by decide) rfl rfl dX7_tie_35 ?_
        refine j_get (pc := 38) (v := .ref (Ad E 0 0)) X gf_X7_62 (by decide) rfl rfl dX7_tie_38 ?_
        refine j_iload_n (pc := 41) X dX7_tie_41 rfl 1 rfl ?_
        obtain ⟨r10, hc12, h⟩ := bd_s h
        refine j_callI (pc := 42) X (tX2_kindAt l hE G 0 (by decide) a1 hc12) muX2_kindAt (by decide) q243 rfl rfl (Nat.le_of_ble_eq_true rfl) ⟨Nat.le_of_ble_eq_true rfl, Nat.le_of_ble_eq_true rfl⟩ dX7_tie_42 ?_
        refine j_iload_n (pc := 45) X dX7_tie_45 rfl 2 rfl ?_
        refine j_icmp_ne (pc := 46) (tgt := 67) X dX7_tie_46 (by decide) (fun hc => ?_) (fun hc => ?_)
        · rw [if_neg hc] at h
          exact tX7_tie_67 l hE X hr hk G a1 a2 a3 h
        · rw [if_pos hc] at h
          refine j_aload_n (pc := 49) X dX7_tie_49 rfl 0 rfl ?_
          refine j_get (pc := 50) (v := .ref (Ad E 11 0)) X gf_X7_10 (by decide) rfl rfl dX7_tie_50 ?_
          refine j_get (pc := 53) (v := .ref (Ad E 0 0)) X gf_X7_62 (by decide) rfl rfl dX7_tie_53 ?_
          refine j_iload_n (pc := 56) X dX7_tie_56 rfl 1 rfl ?_
          obtain ⟨r13, hc15, h⟩ := bd_s h
          refine j_callI (pc := 57) X (tX2_tightAt l hE G 0 (by decide) a1 hc15) muX2_tightAt (by decide) q248 rfl rfl (Nat.le_of_ble_eq_true rfl) ⟨Nat.le_of_ble_eq_true rfl, Nat.le_of_ble_eq_true rfl⟩ dX7_tie_57 ?_
          refine j_iload_n (pc := 60) X dX7_tie_60 rfl 3 rfl ?_
          refine j_icmp_ne (pc := 61) (tgt := 67) X dX7_tie_61 (by decide) (fun hc => ?_) (fun hc => ?_)
          · rw [if_neg hc] at h
            exact tX7_tie_67 l hE X hr hk G a1 a2 a3 h
          · rw [if_pos hc] at h
            refine j_bipush (pc := 64) (v := (-5)) X dX7_tie_64 (by decide) ?_
            exact j_ret (pc := 66) X hr hk (vp_nar_int _) (pr_s h).1 (pr_s h).2 dX7_tie_66
      · rw [if_pos hc] at h
        refine j_bipush (pc := 31) (v := (-2)) X dX7_tie_31 (by decide) ?_
        exact j_ret (pc := 33) X hr hk (vp_nar_int _) (pr_s h).1 (pr_s h).2 dX7_tie_33
  · rw [if_pos hc] at h
    refine j_iconst (pc := 10) (v := (-1)) X dX7_tie_10 (by decide) ?_
    exact j_ret (pc := 11) X hr hk (vp_nar_int _) (pr_s h).1 (pr_s h).2 dX7_tie_11
theorem dX7_untie_0 : decode cX7_untie 0 = .ok (.iload_n 1, 1) := by decide +kernel
theorem dX7_untie_1 : decode cX7_untie 1 = .ok (.iconst 0, 1) := by decide +kernel
theorem dX7_untie_2 : decode cX7_untie 2 = .ok (.bipush 39, 2) := by decide +kernel
theorem dX7_untie_4 : decode cX7_untie 4 = .ok (.invokestatic 58, 3) := by decide +kernel
theorem dX7_untie_7 : decode cX7_untie 7 = .ok (.ifCond .ne 5, 3) := by decide +kernel
theorem dX7_untie_10 : decode cX7_untie 10 = .ok (.iconst (-1), 1) := by decide +kernel
theorem dX7_untie_11 : decode cX7_untie 11 = .ok (.ireturn, 1) := by decide +kernel
theorem dX7_untie_12 : decode cX7_untie 12 = .ok (.aload_n 0, 1) := by decide +kernel
theorem dX7_untie_13 : decode cX7_untie 13 = .ok (.getfield 10, 3) := by decide +kernel
theorem dX7_untie_16 : decode cX7_untie 16 = .ok (.getfield 62, 3) := by decide +kernel
theorem dX7_untie_19 : decode cX7_untie 19 = .ok (.iload_n 1, 1) := by decide +kernel
theorem dX7_untie_20 : decode cX7_untie 20 = .ok (.invokevirtual 65, 3) := by decide +kernel
theorem dX7_untie_23 : decode cX7_untie 23 = .ok (.istore_n 2, 1) := by decide +kernel
theorem dX7_untie_24 : decode cX7_untie 24 = .ok (.iload_n 2, 1) := by decide +kernel
theorem dX7_untie_25 : decode cX7_untie 25 = .ok (.ifCond .ne 6, 3) := by decide +kernel
theorem dX7_untie_28 : decode cX7_untie 28 = .ok (.bipush (-5), 2) := by decide +kernel
theorem dX7_untie_30 : decode cX7_untie 30 = .ok (.ireturn, 1) := by decide +kernel
theorem dX7_untie_31 : decode cX7_untie 31 = .ok (.aload_n 0, 1) := by decide +kernel
theorem dX7_untie_32 : decode cX7_untie 32 = .ok (.getfield 26, 3) := by decide +kernel
theorem dX7_untie_35 : decode cX7_untie 35 = .ok (.aload_n 0, 1) := by decide +kernel
theorem dX7_untie_36 : decode cX7_untie 36 = .ok (.getfield 10, 3) := by decide +kernel
theorem dX7_untie_39 : decode cX7_untie 39 = .ok (.invokevirtual 72, 3) := by decide +kernel
theorem dX7_untie_42 : decode cX7_untie 42 = .ok (.aload_n 0, 1) := by decide +kernel
theorem dX7_untie_43 : decode cX7_untie 43 = .ok (.getfield 10, 3) := by decide +kernel
theorem dX7_untie_46 : decode cX7_untie 46 = .ok (.getfield 62, 3) := by decide +kernel
theorem dX7_untie_49 : decode cX7_untie 49 = .ok (.iload_n 1, 1) := by decide +kernel
theorem dX7_untie_50 : decode cX7_untie 50 = .ok (.iconst 0, 1) := by decide +kernel
theorem dX7_untie_51 : decode cX7_untie 51 = .ok (.iconst 0, 1) := by decide +kernel
theorem dX7_untie_52 : decode cX7_untie 52 = .ok (.invokevirtual 76, 3) := by decide +kernel
theorem dX7_untie_55 : decode cX7_untie 55 = .ok (.iload_n 2, 1) := by decide +kernel
theorem dX7_untie_56 : decode cX7_untie 56 = .ok (.ireturn, 1) := by decide +kernel
set_option maxHeartbeats 4000000 in
set_option maxRecDepth 100000 in
theorem tX7_untie (l : Launch) {E : ET} (hE : Aj E) (G : GT) (a1 : Int32) {r : Int32} {G' : GT} (h : fX7_untie G a1 = some (r, G')) : CI l E yX7_untie cX7_untie 3 (some .int) 3 [.ref (Ad E 20 0), .int a1] G r G' := by
  refine Met_I (lv := [(0, .ref (Ad E 20 0)), (1, .int a1)]) (by decide +kernel) hE (Nat.le_of_ble_eq_true rfl) rfl ?_
  intro p e s m args below meth c X hr hk
  unfold fX7_untie at h
  refine j_iload_n (pc := 0) X dX7_untie_0 rfl 1 rfl ?_
  refine j_iconst (pc := 1) (v := 0) X dX7_untie_1 (by decide) ?_
  refine j_bipush (pc := 2) (v := 39) X dX7_untie_2 (by decide) ?_
  obtain ⟨r1, hc3, h⟩ := bd_s h
  refine j_staI (pc := 4) X (tX7_isWithin l hE G a1 (0 : Int32) (39 : Int32) hc3) muX7_isWithin (Or.inl q240) rfl rfl (Nat.le_of_ble_eq_true rfl) ⟨Nat.le_of_ble_eq_true rfl, Nat.le_of_ble_eq_true rfl⟩ dX7_untie_4 ?_
  refine j_if_ne (pc := 7) (tgt := 12) X dX7_untie_7 (by decide) (fun hc => ?_) (fun hc => ?_)
  · rw [if_neg hc] at h
    refine j_aload_n (pc := 12) X dX7_untie_12 rfl 0 rfl ?_
    refine j_get (pc := 13) (v := .ref (Ad E 11 0)) X gf_X7_10 (by decide) rfl rfl dX7_untie_13 ?_
    refine j_get (pc := 16) (v := .ref (Ad E 0 0)) X gf_X7_62 (by decide) rfl rfl dX7_untie_16 ?_
    refine j_iload_n (pc := 19) X dX7_untie_19 rfl 1 rfl ?_
    obtain ⟨r4, hc6, h⟩ := bd_s h
    refine j_callI (pc := 20) X (tX2_kindAt l hE G 0 (by decide) a1 hc6) muX2_kindAt (by decide) q243 rfl rfl (Nat.le_of_ble_eq_true rfl) ⟨Nat.le_of_ble_eq_true rfl, Nat.le_of_ble_eq_true rfl⟩ dX7_untie_20 ?_
    refine j_istore_n (pc := 23) (lv' := [(0, .ref (Ad E 20 0)), (1, .int a1), (2, .int r4)]) X dX7_untie_23 rfl (by decide) rfl ?_
    refine j_iload_n (pc := 24) X dX7_untie_24 rfl 2 rfl ?_
    refine j_if_ne (pc := 25) (tgt := 31) X dX7_untie_25 (by decide) (fun hc => ?_) (fun hc => ?_)
    · rw [if_neg hc] at h
      refine j_aload_n (pc := 31) X dX7_untie_31 rfl 0 rfl ?_
      refine j_get (pc := 32) (v := .ref (Ad E 12 0)) X gf_X7_26 (by decide) rfl rfl dX7_untie_32 ?_
      refine j_aload_n (pc := 35) X dX7_untie_35 rfl 0 rfl ?_
      refine j_get (pc := 36) (v := .ref (Ad E 11 0)) X gf_X7_10 (by decide) rfl rfl dX7_untie_36 ?_
      obtain ⟨G8, hc9, h⟩ := bd_s h
      refine j_callV (pc := 39) X (tX0_remember l hE G 0 (by decide) hc9) muX0_remember (by decide) q252 rfl rfl (Nat.le_of_ble_eq_true rfl) ⟨Nat.le_of_ble_eq_true rfl, Nat.le_of_ble_eq_true rfl⟩ dX7_untie_39 ?_
      refine j_aload_n (pc := 42) X dX7_untie_42 rfl 0 rfl ?_
      refine j_get (pc := 43) (v := .ref (Ad E 11 0)) X gf_X7_10 (by decide) rfl rfl dX7_untie_43 ?_
      refine j_get (pc := 46) (v := .ref (Ad E 0 0)) X gf_X7_62 (by decide) rfl rfl dX7_untie_46 ?_
      refine j_iload_n (pc := 49) X dX7_untie_49 rfl 1 rfl ?_
      refine j_iconst (pc := 50) (v := 0) X dX7_untie_50 (by decide) ?_
      refine j_iconst (pc := 51) (v := 0) X dX7_untie_51 (by decide) ?_
      obtain ⟨G11, hc12, h⟩ := bd_s h
      refine j_callV (pc := 52) X (tX2_put l hE G8 0 (by decide) a1 (0 : Int32) (0 : Int32) hc12) muX2_put (by decide) q276 rfl rfl (Nat.le_of_ble_eq_true rfl) ⟨Nat.le_of_ble_eq_true rfl, Nat.le_of_ble_eq_true rfl⟩ dX7_untie_52 ?_
      refine j_iload_n (pc := 55) X dX7_untie_55 rfl 2 rfl ?_
      exact j_ret (pc := 56) X hr hk (vp_nar_int _) (pr_s h).1 (pr_s h).2 dX7_untie_56
    · rw [if_pos hc] at h
      refine j_bipush (pc := 28) (v := (-5)) X dX7_untie_28 (by decide) ?_
      exact j_ret (pc := 30) X hr hk (vp_nar_int _) (pr_s h).1 (pr_s h).2 dX7_untie_30
  · rw [if_pos hc] at h
    refine j_iconst (pc := 10) (v := (-1)) X dX7_untie_10 (by decide) ?_
    exact j_ret (pc := 11) X hr hk (vp_nar_int _) (pr_s h).1 (pr_s h).2 dX7_untie_11
theorem dX7_tryPull_0 : decode cX7_tryPull 0 = .ok (.aload_n 0, 1) := by decide +kernel
theorem dX7_tryPull_1 : decode cX7_tryPull 1 = .ok (.getfield 47, 3) := by decide +kernel
theorem dX7_tryPull_4 : decode cX7_tryPull 4 = .ok (.aload_n 0, 1) := by decide +kernel
theorem dX7_tryPull_5 : decode cX7_tryPull 5 = .ok (.getfield 10, 3) := by decide +kernel
theorem dX7_tryPull_8 : decode cX7_tryPull 8 = .ok (.getfield 62, 3) := by decide +kernel
theorem dX7_tryPull_11 : decode cX7_tryPull 11 = .ok (.invokevirtual 91, 3) := by decide +kernel
theorem dX7_tryPull_14 : decode cX7_tryPull 14 = .ok (.aload_n 0, 1) := by decide +kernel
theorem dX7_tryPull_15 : decode cX7_tryPull 15 = .ok (.getfield 47, 3) := by decide +kernel
theorem dX7_tryPull_18 : decode cX7_tryPull 18 = .ok (.iload_n 1, 1) := by decide +kernel
theorem dX7_tryPull_19 : decode cX7_tryPull 19 = .ok (.invokevirtual 271, 3) := by decide +kernel
theorem dX7_tryPull_22 : decode cX7_tryPull 22 = .ok (.ireturn, 1) := by decide +kernel
set_option maxHeartbeats 4000000 in
set_option maxRecDepth 100000 in
theorem tX7_tryPull (l : Launch) {E : ET} (hE : Aj E) (G : GT) (a1 : Int32) {r : Int32} {G' : GT} (h : fX7_tryPull G a1 = some (r, G')) : CI l E yX7_tryPull cX7_tryPull 2 (some .int) 3 [.ref (Ad E 20 0), .int a1] G r G' := by
  refine Met_I (lv := [(0, .ref (Ad E 20 0)), (1, .int a1)]) (by decide +kernel) hE (Nat.le_of_ble_eq_true rfl) rfl ?_
  intro p e s m args below meth c X hr hk
  unfold fX7_tryPull at h
  refine j_aload_n (pc := 0) X dX7_tryPull_0 rfl 0 rfl ?_
  refine j_get (pc := 1) (v := .ref (Ad E 0 6)) X gf_X7_47 (by decide) rfl rfl dX7_tryPull_1 ?_
  refine j_aload_n (pc := 4) X dX7_tryPull_4 rfl 0 rfl ?_
  refine j_get (pc := 5) (v := .ref (Ad E 11 0)) X gf_X7_10 (by decide) rfl rfl dX7_tryPull_5 ?_
  refine j_get (pc := 8) (v := .ref (Ad E 0 0)) X gf_X7_62 (by decide) rfl rfl dX7_tryPull_8 ?_
  obtain ⟨G2, hc3, h⟩ := bd_s h
  refine j_callV (pc := 11) X (tX2_copyFrom l hE G 6 (by decide) 0 (by decide) hc3) muX2_copyFrom (by decide) q331 rfl rfl (Nat.le_of_ble_eq_true rfl) ⟨Nat.le_of_ble_eq_true rfl, Nat.le_of_ble_eq_true rfl⟩ dX7_tryPull_11 ?_
  refine j_aload_n (pc := 14) X dX7_tryPull_14 rfl 0 rfl ?_
  refine j_get (pc := 15) (v := .ref (Ad E 0 6)) X gf_X7_47 (by decide) rfl rfl dX7_tryPull_15 ?_
  refine j_iload_n (pc := 18) X dX7_tryPull_18 rfl 1 rfl ?_
  obtain ⟨r4, G5, hc6, h⟩ := bd2_s h
  refine j_callI (pc := 19) X (tX2_slip l hE G2 6 (by decide) a1 hc6) muX2_slip (by decide) q332 rfl rfl (Nat.le_of_ble_eq_true rfl) ⟨Nat.le_of_ble_eq_true rfl, Nat.le_of_ble_eq_true rfl⟩ dX7_tryPull_19 ?_
  exact j_ret (pc := 22) X hr hk (vp_nar_int _) (pr_s h).1 (pr_s h).2 dX7_tryPull_22
theorem dX7_pull_0 : decode cX7_pull 0 = .ok (.iload_n 1, 1) := by decide +kernel
theorem dX7_pull_1 : decode cX7_pull 1 = .ok (.iconst 1, 1) := by decide +kernel
theorem dX7_pull_2 : decode cX7_pull 2 = .ok (.bipush 9, 2) := by decide +kernel
theorem dX7_pull_4 : decode cX7_pull 4 = .ok (.invokestatic 58, 3) := by decide +kernel
theorem dX7_pull_7 : decode cX7_pull 7 = .ok (.ifCond .ne 6, 3) := by decide +kernel
theorem dX7_pull_10 : decode cX7_pull 10 = .ok (.bipush (-2), 2) := by decide +kernel
theorem dX7_pull_12 : decode cX7_pull 12 = .ok (.ireturn, 1) := by decide +kernel
theorem dX7_pull_13 : decode cX7_pull 13 = .ok (.aload_n 0, 1) := by decide +kernel
theorem dX7_pull_14 : decode cX7_pull 14 = .ok (.iload_n 1, 1) := by decide +kernel
theorem dX7_pull_15 : decode cX7_pull 15 = .ok (.invokevirtual 88, 3) := by decide +kernel
theorem dX7_pull_18 : decode cX7_pull 18 = .ok (.istore_n 2, 1) := by decide +kernel
theorem dX7_pull_19 : decode cX7_pull 19 = .ok (.iload_n 2, 1) := by decide +kernel
theorem dX7_pull_20 : decode cX7_pull 20 = .ok (.ifCond .ne 6, 3) := by decide +kernel
theorem dX7_pull_23 : decode cX7_pull 23 = .ok (.bipush (-5), 2) := by decide +kernel
theorem dX7_pull_25 : decode cX7_pull 25 = .ok (.ireturn, 1) := by decide +kernel
theorem dX7_pull_26 : decode cX7_pull 26 = .ok (.aload_n 0, 1) := by decide +kernel
theorem dX7_pull_27 : decode cX7_pull 27 = .ok (.getfield 26, 3) := by decide +kernel
theorem dX7_pull_30 : decode cX7_pull 30 = .ok (.aload_n 0, 1) := by decide +kernel
theorem dX7_pull_31 : decode cX7_pull 31 = .ok (.getfield 10, 3) := by decide +kernel
theorem dX7_pull_34 : decode cX7_pull 34 = .ok (.invokevirtual 72, 3) := by decide +kernel
theorem dX7_pull_37 : decode cX7_pull 37 = .ok (.aload_n 0, 1) := by decide +kernel
theorem dX7_pull_38 : decode cX7_pull 38 = .ok (.getfield 10, 3) := by decide +kernel
theorem dX7_pull_41 : decode cX7_pull 41 = .ok (.getfield 62, 3) := by decide +kernel
theorem dX7_pull_44 : decode cX7_pull 44 = .ok (.aload_n 0, 1) := by decide +kernel
theorem dX7_pull_45 : decode cX7_pull 45 = .ok (.getfield 47, 3) := by decide +kernel
theorem dX7_pull_48 : decode cX7_pull 48 = .ok (.invokevirtual 91, 3) := by decide +kernel
theorem dX7_pull_51 : decode cX7_pull 51 = .ok (.aload_n 0, 1) := by decide +kernel
theorem dX7_pull_52 : decode cX7_pull 52 = .ok (.getfield 10, 3) := by decide +kernel
theorem dX7_pull_55 : decode cX7_pull 55 = .ok (.dup, 1) := by decide +kernel
theorem dX7_pull_56 : decode cX7_pull 56 = .ok (.getfield 95, 3) := by decide +kernel
theorem dX7_pull_59 : decode cX7_pull 59 = .ok (.iconst 1, 1) := by decide +kernel
theorem dX7_pull_60 : decode cX7_pull 60 = .ok (.iadd, 1) := by decide +kernel
theorem dX7_pull_61 : decode cX7_pull 61 = .ok (.putfield 95, 3) := by decide +kernel
theorem dX7_pull_64 : decode cX7_pull 64 = .ok (.aload_n 0, 1) := by decide +kernel
theorem dX7_pull_65 : decode cX7_pull 65 = .ok (.getfield 10, 3) := by decide +kernel
theorem dX7_pull_68 : decode cX7_pull 68 = .ok (.dup, 1) := by decide +kernel
theorem dX7_pull_69 : decode cX7_pull 69 = .ok (.getfield 98, 3) := by decide +kernel
theorem dX7_pull_72 : decode cX7_pull 72 = .ok (.iload_n 2, 1) := by decide +kernel
theorem dX7_pull_73 : decode cX7_pull 73 = .ok (.iadd, 1) := by decide +kernel
theorem dX7_pull_74 : decode cX7_pull 74 = .ok (.putfield 98, 3) := by decide +kernel
theorem dX7_pull_77 : decode cX7_pull 77 = .ok (.iload_n 2, 1) := by decide +kernel
theorem dX7_pull_78 : decode cX7_pull 78 = .ok (.ireturn, 1) := by decide +kernel
set_option maxHeartbeats 4000000 in
set_option maxRecDepth 100000 in
theorem tX7_pull (l : Launch) {E : ET} (hE : Aj E) (G : GT) (a1 : Int32) {r : Int32} {G' : GT} (h : fX7_pull G a1 = some (r, G')) : CI l E yX7_pull cX7_pull 3 (some .int) 4 [.ref (Ad E 20 0), .int a1] G r G' := by
  refine Met_I (lv := [(0, .ref (Ad E 20 0)), (1, .int a1)]) (by decide +kernel) hE (Nat.le_of_ble_eq_true rfl) rfl ?_
  intro p e s m args below meth c X hr hk
  unfold fX7_pull at h
  refine j_iload_n (pc := 0) X dX7_pull_0 rfl 1 rfl ?_
  refine j_iconst (pc := 1) (v := 1) X dX7_pull_1 (by decide) ?_
  refine j_bipush (pc := 2) (v := 9) X dX7_pull_2 (by decide) ?_
  obtain ⟨r1, hc3, h⟩ := bd_s h
  refine j_staI (pc := 4) X (tX7_isWithin l hE G a1 (1 : Int32) (9 : Int32) hc3) muX7_isWithin (Or.inl q240) rfl rfl (Nat.le_of_ble_eq_true rfl) ⟨Nat.le_of_ble_eq_true rfl, Nat.le_of_ble_eq_true rfl⟩ dX7_pull_4 ?_
  refine j_if_ne (pc := 7) (tgt := 13) X dX7_pull_7 (by decide) (fun hc => ?_) (fun hc => ?_)
  · rw [if_neg hc] at h
    refine j_aload_n (pc := 13) X dX7_pull_13 rfl 0 rfl ?_
    refine j_iload_n (pc := 14) X dX7_pull_14 rfl 1 rfl ?_
    obtain ⟨r4, G5, hc6, h⟩ := bd2_s h
    refine j_callI (pc := 15) X (tX7_tryPull l hE G a1 hc6) muX7_tryPull (by decide) q327 rfl rfl (Nat.le_of_ble_eq_true rfl) ⟨Nat.le_of_ble_eq_true rfl, Nat.le_of_ble_eq_true rfl⟩ dX7_pull_15 ?_
    refine j_istore_n (pc := 18) (lv' := [(0, .ref (Ad E 20 0)), (1, .int a1), (2, .int r4)]) X dX7_pull_18 rfl (by decide) rfl ?_
    refine j_iload_n (pc := 19) X dX7_pull_19 rfl 2 rfl ?_
    refine j_if_ne (pc := 20) (tgt := 26) X dX7_pull_20 (by decide) (fun hc => ?_) (fun hc => ?_)
    · rw [if_neg hc] at h
      refine j_aload_n (pc := 26) X dX7_pull_26 rfl 0 rfl ?_
      refine j_get (pc := 27) (v := .ref (Ad E 12 0)) X gf_X7_26 (by decide) rfl rfl dX7_pull_27 ?_
      refine j_aload_n (pc := 30) X dX7_pull_30 rfl 0 rfl ?_
      refine j_get (pc := 31) (v := .ref (Ad E 11 0)) X gf_X7_10 (by decide) rfl rfl dX7_pull_31 ?_
      obtain ⟨G8, hc9, h⟩ := bd_s h
      refine j_callV (pc := 34) X (tX0_remember l hE G5 0 (by decide) hc9) muX0_remember (by decide) q252 rfl rfl (Nat.le_of_ble_eq_true rfl) ⟨Nat.le_of_ble_eq_true rfl, Nat.le_of_ble_eq_true rfl⟩ dX7_pull_34 ?_
      refine j_aload_n (pc := 37) X dX7_pull_37 rfl 0 rfl ?_
      refine j_get (pc := 38) (v := .ref (Ad E 11 0)) X gf_X7_10 (by decide) rfl rfl dX7_pull_38 ?_
      refine j_get (pc := 41) (v := .ref (Ad E 0 0)) X gf_X7_62 (by decide) rfl rfl dX7_pull_41 ?_
      refine j_aload_n (pc := 44) X dX7_pull_44 rfl 0 rfl ?_
      refine j_get (pc := 45) (v := .ref (Ad E 0 6)) X gf_X7_47 (by decide) rfl rfl dX7_pull_45 ?_
      obtain ⟨G11, hc12, h⟩ := bd_s h
      refine j_callV (pc := 48) X (tX2_copyFrom l hE G8 0 (by decide) 6 (by decide) hc12) muX2_copyFrom (by decide) q331 rfl rfl (Nat.le_of_ble_eq_true rfl) ⟨Nat.le_of_ble_eq_true rfl, Nat.le_of_ble_eq_true rfl⟩ dX7_pull_48 ?_
      refine j_aload_n (pc := 51) X dX7_pull_51 rfl 0 rfl ?_
      refine j_get (pc := 52) (v := .ref (Ad E 11 0)) X gf_X7_10 (by decide) rfl rfl dX7_pull_52 ?_
      refine j_dup (pc := 55) X dX7_pull_55 rfl ?_
      refine j_get (pc := 56) (v := .int (G11 11 0 3)) X gf_X7_95 (by decide) rfl rfl dX7_pull_56 ?_
      refine j_iconst (pc := 59) (v := 1) X dX7_pull_59 (by decide) ?_
      refine j_iadd (pc := 60) X dX7_pull_60 ?_
      obtain ⟨G13, hG13, h⟩ := st3_s h
      refine j_put (pc := 61) X hG13 gf_X7_95 tyX4 tyX4_ok nmX4 (by decide) rfl rfl (Nat.le_of_ble_eq_true rfl) rfl rfl rfl dX7_pull_61 ?_
      refine j_aload_n (pc := 64) X dX7_pull_64 rfl 0 rfl ?_
      refine j_get (pc := 65) (v := .ref (Ad E 11 0)) X gf_X7_10 (by decide) rfl rfl dX7_pull_65 ?_
      refine j_dup (pc := 68) X dX7_pull_68 rfl ?_
      refine j_get (pc := 69) (v := .int (G13 11 0 4)) X gf_X7_98 (by decide) rfl rfl dX7_pull_69 ?_
      refine j_iload_n (pc := 72) X dX7_pull_72 rfl 2 rfl ?_
      refine j_iadd (pc := 73) X dX7_pull_73 ?_
      obtain ⟨G14, hG14, h⟩ := st3_s h
      refine j_put (pc := 74) X hG14 gf_X7_98 tyX4 tyX4_ok nmX4 (by decide) rfl rfl (Nat.le_of_ble_eq_true rfl) rfl rfl rfl dX7_pull_74 ?_
      refine j_iload_n (pc := 77) X dX7_pull_77 rfl 2 rfl ?_
      exact j_ret (pc := 78) X hr hk (vp_nar_int _) (pr_s h).1 (pr_s h).2 dX7_pull_78
    · rw [if_pos hc] at h
      refine j_bipush (pc := 23) (v := (-5)) X dX7_pull_23 (by decide) ?_
      exact j_ret (pc := 25) X hr hk (vp_nar_int _) (pr_s h).1 (pr_s h).2 dX7_pull_25
  · rw [if_pos hc] at h
    refine j_bipush (pc := 10) (v := (-2)) X dX7_pull_10 (by decide) ?_
    exact j_ret (pc := 12) X hr hk (vp_nar_int _) (pr_s h).1 (pr_s h).2 dX7_pull_12
theorem dX7_layRope_0 : decode cX7_layRope 0 = .ok (.aload_n 0, 1) := by decide +kernel
theorem dX7_layRope_1 : decode cX7_layRope 1 = .ok (.getfield 33, 3) := by decide +kernel
theorem dX7_layRope_4 : decode cX7_layRope 4 = .ok (.iconst 1, 1) := by decide +kernel
theorem dX7_layRope_5 : decode cX7_layRope 5 = .ok (.invokevirtual 101, 3) := by decide +kernel
theorem dX7_layRope_8 : decode cX7_layRope 8 = .ok (.istore_n 1, 1) := by decide +kernel
theorem dX7_layRope_9 : decode cX7_layRope 9 = .ok (.iload_n 1, 1) := by decide +kernel
theorem dX7_layRope_10 : decode cX7_layRope 10 = .ok (.bipush (-5), 2) := by decide +kernel
theorem dX7_layRope_12 : decode cX7_layRope 12 = .ok (.if_icmp .eq 8, 3) := by decide +kernel
theorem dX7_layRope_15 : decode cX7_layRope 15 = .ok (.bipush (-100), 2) := by decide +kernel
theorem dX7_layRope_17 : decode cX7_layRope 17 = .ok (.iload_n 1, 1) := by decide +kernel
theorem dX7_layRope_18 : decode cX7_layRope 18 = .ok (.isub, 1) := by decide +kernel
theorem dX7_layRope_19 : decode cX7_layRope 19 = .ok (.ireturn, 1) := by decide +kernel
theorem dX7_layRope_20 : decode cX7_layRope 20 = .ok (.aload_n 0, 1) := by decide +kernel
theorem dX7_layRope_21 : decode cX7_layRope 21 = .ok (.getfield 26, 3) := by decide +kernel
theorem dX7_layRope_24 : decode cX7_layRope 24 = .ok (.aload_n 0, 1) := by decide +kernel
theorem dX7_layRope_25 : decode cX7_layRope 25 = .ok (.getfield 10, 3) := by decide +kernel
theorem dX7_layRope_28 : decode cX7_layRope 28 = .ok (.invokevirtual 72, 3) := by decide +kernel
theorem dX7_layRope_31 : decode cX7_layRope 31 = .ok (.aload_n 0, 1) := by decide +kernel
theorem dX7_layRope_32 : decode cX7_layRope 32 = .ok (.getfield 33, 3) := by decide +kernel
theorem dX7_layRope_35 : decode cX7_layRope 35 = .ok (.aload_n 0, 1) := by decide +kernel
theorem dX7_layRope_36 : decode cX7_layRope 36 = .ok (.getfield 10, 3) := by decide +kernel
theorem dX7_layRope_39 : decode cX7_layRope 39 = .ok (.getfield 62, 3) := by decide +kernel
theorem dX7_layRope_42 : decode cX7_layRope 42 = .ok (.invokevirtual 105, 3) := by decide +kernel
theorem dX7_layRope_45 : decode cX7_layRope 45 = .ok (.aload_n 0, 1) := by decide +kernel
theorem dX7_layRope_46 : decode cX7_layRope 46 = .ok (.getfield 10, 3) := by decide +kernel
theorem dX7_layRope_49 : decode cX7_layRope 49 = .ok (.getfield 62, 3) := by decide +kernel
theorem dX7_layRope_52 : decode cX7_layRope 52 = .ok (.invokevirtual 108, 3) := by decide +kernel
theorem dX7_layRope_55 : decode cX7_layRope 55 = .ok (.ireturn, 1) := by decide +kernel
set_option maxHeartbeats 4000000 in
set_option maxRecDepth 100000 in
theorem tX7_layRope (l : Launch) {E : ET} (hE : Aj E) (G : GT) {r : Int32} {G' : GT} (h : fX7_layRope G = some (r, G')) : CI l E yX7_layRope cX7_layRope 2 (some .int) 4 [.ref (Ad E 20 0)] G r G' := by
  refine Met_I (lv := [(0, .ref (Ad E 20 0))]) (by decide +kernel) hE (Nat.le_of_ble_eq_true rfl) rfl ?_
  intro p e s m args below meth c X hr hk
  unfold fX7_layRope at h
  refine j_aload_n (pc := 0) X dX7_layRope_0 rfl 0 rfl ?_
  refine j_get (pc := 1) (v := .ref (Ad E 14 0)) X gf_X7_33 (by decide) rfl rfl dX7_layRope_1 ?_
  refine j_iconst (pc := 4) (v := 1) X dX7_layRope_4 (by decide) ?_
  obtain ⟨r1, hc3, h⟩ := bd_s h
  refine j_callI (pc := 5) X (tX5_faultIndex l hE G (1 : Int32) hc3) muX5_faultIndex (by decide) q342 rfl rfl (Nat.le_of_ble_eq_true rfl) ⟨Nat.le_of_ble_eq_true rfl, Nat.le_of_ble_eq_true rfl⟩ dX7_layRope_5 ?_
  refine j_istore_n (pc := 8) (lv' := [(0, .ref (Ad E 20 0)), (1, .int r1)]) X dX7_layRope_8 rfl (by decide) rfl ?_
  refine j_iload_n (pc := 9) X dX7_layRope_9 rfl 1 rfl ?_
  refine j_bipush (pc := 10) (v := (-5)) X dX7_layRope_10 (by decide) ?_
  refine j_icmp_eq (pc := 12) (tgt := 20) X dX7_layRope_12 (by decide) (fun hc => ?_) (fun hc => ?_)
  · rw [if_pos hc] at h
    refine j_aload_n (pc := 20) X dX7_layRope_20 rfl 0 rfl ?_
    refine j_get (pc := 21) (v := .ref (Ad E 12 0)) X gf_X7_26 (by decide) rfl rfl dX7_layRope_21 ?_
    refine j_aload_n (pc := 24) X dX7_layRope_24 rfl 0 rfl ?_
    refine j_get (pc := 25) (v := .ref (Ad E 11 0)) X gf_X7_10 (by decide) rfl rfl dX7_layRope_25 ?_
    obtain ⟨G5, hc6, h⟩ := bd_s h
    refine j_callV (pc := 28) X (tX0_remember l hE G 0 (by decide) hc6) muX0_remember (by decide) q252 rfl rfl (Nat.le_of_ble_eq_true rfl) ⟨Nat.le_of_ble_eq_true rfl, Nat.le_of_ble_eq_true rfl⟩ dX7_layRope_28 ?_
    refine j_aload_n (pc := 31) X dX7_layRope_31 rfl 0 rfl ?_
    refine j_get (pc := 32) (v := .ref (Ad E 14 0)) X gf_X7_33 (by decide) rfl rfl dX7_layRope_32 ?_
    refine j_aload_n (pc := 35) X dX7_layRope_35 rfl 0 rfl ?_
    refine j_get (pc := 36) (v := .ref (Ad E 11 0)) X gf_X7_10 (by decide) rfl rfl dX7_layRope_36 ?_
    refine j_get (pc := 39) (v := .ref (Ad E 0 0)) X gf_X7_62 (by decide) rfl rfl dX7_layRope_39 ?_
    obtain ⟨G8, hc9, h⟩ := bd_s h
    refine j_callV (pc := 42) X (tX5_layOn l hE G5 0 (by decide) hc9) muX5_layOn (by decide) q365 rfl rfl (Nat.le_of_ble_eq_true rfl) ⟨Nat.le_of_ble_eq_true rfl, Nat.le_of_ble_eq_true rfl⟩ dX7_layRope_42 ?_
    refine j_aload_n (pc := 45) X dX7_layRope_45 rfl 0 rfl ?_
    refine j_get (pc := 46) (v := .ref (Ad E 11 0)) X gf_X7_10 (by decide) rfl rfl dX7_layRope_46 ?_
    refine j_get (pc := 49) (v := .ref (Ad E 0 0)) X gf_X7_62 (by decide) rfl rfl dX7_layRope_49 ?_
    obtain ⟨r10, hc12, h⟩ := bd_s h
    refine j_callI (pc := 52) X (tX2_knotCount l hE G8 0 (by decide) hc12) muX2_knotCount (by decide) q375 rfl rfl (Nat.le_of_ble_eq_true rfl) ⟨Nat.le_of_ble_eq_true rfl, Nat.le_of_ble_eq_true rfl⟩ dX7_layRope_52 ?_
    exact j_ret (pc := 55) X hr hk (vp_nar_int _) (pr_s h).1 (pr_s h).2 dX7_layRope_55
  · rw [if_neg hc] at h
    refine j_bipush (pc := 15) (v := (-100)) X dX7_layRope_15 (by decide) ?_
    refine j_iload_n (pc := 17) X dX7_layRope_17 rfl 1 rfl ?_
    refine j_isub (pc := 18) X dX7_layRope_18 ?_
    exact j_ret (pc := 19) X hr hk (vp_nar_int _) (pr_s h).1 (pr_s h).2 dX7_layRope_19
theorem dX7_teach_0 : decode cX7_teach 0 = .ok (.iload_n 1, 1) := by decide +kernel
theorem dX7_teach_1 : decode cX7_teach 1 = .ok (.iconst 1, 1) := by decide +kernel
theorem dX7_teach_2 : decode cX7_teach 2 = .ok (.bipush 9, 2) := by decide +kernel
theorem dX7_teach_4 : decode cX7_teach 4 = .ok (.invokestatic 58, 3) := by decide +kernel
theorem dX7_teach_7 : decode cX7_teach 7 = .ok (.ifCond .ne 6, 3) := by decide +kernel
theorem dX7_teach_10 : decode cX7_teach 10 = .ok (.bipush (-2), 2) := by decide +kernel
theorem dX7_teach_12 : decode cX7_teach 12 = .ok (.ireturn, 1) := by decide +kernel
theorem dX7_teach_13 : decode cX7_teach 13 = .ok (.aload_n 0, 1) := by decide +kernel
theorem dX7_teach_14 : decode cX7_teach 14 = .ok (.getfield 33, 3) := by decide +kernel
theorem dX7_teach_17 : decode cX7_teach 17 = .ok (.iconst 0, 1) := by decide +kernel
theorem dX7_teach_18 : decode cX7_teach 18 = .ok (.invokevirtual 101, 3) := by decide +kernel
theorem dX7_teach_21 : decode cX7_teach 21 = .ok (.istore_n 2, 1) := by decide +kernel
theorem dX7_teach_22 : decode cX7_teach 22 = .ok (.iload_n 2, 1) := by decide +kernel
theorem dX7_teach_23 : decode cX7_teach 23 = .ok (.bipush (-5), 2) := by decide +kernel
theorem dX7_teach_25 : decode cX7_teach 25 = .ok (.if_icmp .eq 8, 3) := by decide +kernel
theorem dX7_teach_28 : decode cX7_teach 28 = .ok (.bipush (-100), 2) := by decide +kernel
theorem dX7_teach_30 : decode cX7_teach 30 = .ok (.iload_n 2, 1) := by decide +kernel
theorem dX7_teach_31 : decode cX7_teach 31 = .ok (.isub, 1) := by decide +kernel
theorem dX7_teach_32 : decode cX7_teach 32 = .ok (.ireturn, 1) := by decide +kernel
theorem dX7_teach_33 : decode cX7_teach 33 = .ok (.aload_n 0, 1) := by decide +kernel
theorem dX7_teach_34 : decode cX7_teach 34 = .ok (.getfield 33, 3) := by decide +kernel
theorem dX7_teach_37 : decode cX7_teach 37 = .ok (.aload_n 0, 1) := by decide +kernel
theorem dX7_teach_38 : decode cX7_teach 38 = .ok (.getfield 47, 3) := by decide +kernel
theorem dX7_teach_41 : decode cX7_teach 41 = .ok (.invokevirtual 105, 3) := by decide +kernel
theorem dX7_teach_44 : decode cX7_teach 44 = .ok (.aload_n 0, 1) := by decide +kernel
theorem dX7_teach_45 : decode cX7_teach 45 = .ok (.getfield 10, 3) := by decide +kernel
theorem dX7_teach_48 : decode cX7_teach 48 = .ok (.getfield 112, 3) := by decide +kernel
theorem dX7_teach_51 : decode cX7_teach 51 = .ok (.aload_n 0, 1) := by decide +kernel
theorem dX7_teach_52 : decode cX7_teach 52 = .ok (.getfield 47, 3) := by decide +kernel
theorem dX7_teach_55 : decode cX7_teach 55 = .ok (.iconst 0, 1) := by decide +kernel
theorem dX7_teach_56 : decode cX7_teach 56 = .ok (.aload_n 0, 1) := by decide +kernel
theorem dX7_teach_57 : decode cX7_teach 57 = .ok (.getfield 33, 3) := by decide +kernel
theorem dX7_teach_60 : decode cX7_teach 60 = .ok (.getfield 116, 3) := by decide +kernel
theorem dX7_teach_63 : decode cX7_teach 63 = .ok (.invokevirtual 119, 3) := by decide +kernel
theorem dX7_teach_66 : decode cX7_teach 66 = .ok (.bipush (-5), 2) := by decide +kernel
theorem dX7_teach_68 : decode cX7_teach 68 = .ok (.if_icmp .eq 6, 3) := by decide +kernel
theorem dX7_teach_71 : decode cX7_teach 71 = .ok (.bipush (-4), 2) := by decide +kernel
theorem dX7_teach_73 : decode cX7_teach 73 = .ok (.ireturn, 1) := by decide +kernel
theorem dX7_teach_74 : decode cX7_teach 74 = .ok (.aload_n 0, 1) := by decide +kernel
theorem dX7_teach_75 : decode cX7_teach 75 = .ok (.getfield 10, 3) := by decide +kernel
theorem dX7_teach_78 : decode cX7_teach 78 = .ok (.getfield 112, 3) := by decide +kernel
theorem dX7_teach_81 : decode cX7_teach 81 = .ok (.getfield 125, 3) := by decide +kernel
theorem dX7_teach_84 : decode cX7_teach 84 = .ok (.bipush 16, 2) := by decide +kernel
theorem dX7_teach_86 : decode cX7_teach 86 = .ok (.if_icmp .lt 6, 3) := by decide +kernel
theorem dX7_teach_89 : decode cX7_teach 89 = .ok (.bipush (-3), 2) := by decide +kernel
theorem dX7_teach_91 : decode cX7_teach 91 = .ok (.ireturn, 1) := by decide +kernel
theorem dX7_teach_92 : decode cX7_teach 92 = .ok (.aload_n 0, 1) := by decide +kernel
theorem dX7_teach_93 : decode cX7_teach 93 = .ok (.getfield 26, 3) := by decide +kernel
theorem dX7_teach_96 : decode cX7_teach 96 = .ok (.aload_n 0, 1) := by decide +kernel
theorem dX7_teach_97 : decode cX7_teach 97 = .ok (.getfield 10, 3) := by decide +kernel
theorem dX7_teach_100 : decode cX7_teach 100 = .ok (.invokevirtual 72, 3) := by decide +kernel
theorem dX7_teach_103 : decode cX7_teach 103 = .ok (.aload_n 0, 1) := by decide +kernel
theorem dX7_teach_104 : decode cX7_teach 104 = .ok (.getfield 10, 3) := by decide +kernel
theorem dX7_teach_107 : decode cX7_teach 107 = .ok (.getfield 112, 3) := by decide +kernel
theorem dX7_teach_110 : decode cX7_teach 110 = .ok (.aload_n 0, 1) := by decide +kernel
theorem dX7_teach_111 : decode cX7_teach 111 = .ok (.getfield 47, 3) := by decide +kernel
theorem dX7_teach_114 : decode cX7_teach 114 = .ok (.aload_n 0, 1) := by decide +kernel
theorem dX7_teach_115 : decode cX7_teach 115 = .ok (.getfield 33, 3) := by decide +kernel
theorem dX7_teach_118 : decode cX7_teach 118 = .ok (.getfield 116, 3) := by decide +kernel
theorem dX7_teach_121 : decode cX7_teach 121 = .ok (.iload_n 1, 1) := by decide +kernel
theorem dX7_teach_122 : decode cX7_teach 122 = .ok (.invokevirtual 126, 3) := by decide +kernel
theorem dX7_teach_125 : decode cX7_teach 125 = .ok (.ireturn, 1) := by decide +kernel
set_option maxHeartbeats 4000000 in
set_option maxRecDepth 100000 in
theorem tX7_teach (l : Launch) {E : ET} (hE : Aj E) (G : GT) (a1 : Int32) {r : Int32} {G' : GT} (h : fX7_teach G a1 = some (r, G')) : CI l E yX7_teach cX7_teach 3 (some .int) 4 [.ref (Ad E 20 0), .int a1] G r G' := by
  refine Met_I (lv := [(0, .ref (Ad E 20 0)), (1, .int a1)]) (by decide +kernel) hE (Nat.le_of_ble_eq_true rfl) rfl ?_
  intro p e s m args below meth c X hr hk
  unfold fX7_teach at h
  refine j_iload_n (pc := 0) X dX7_teach_0 rfl 1 rfl ?_
  refine j_iconst (pc := 1) (v := 1) X dX7_teach_1 (by decide) ?_
  refine j_bipush (pc := 2) (v := 9) X dX7_teach_2 (by decide) ?_
  obtain ⟨r1, hc3, h⟩ := bd_s h
  refine j_staI (pc := 4) X (tX7_isWithin l hE G a1 (1 : Int32) (9 : Int32) hc3) muX7_isWithin (Or.inl q240) rfl rfl (Nat.le_of_ble_eq_true rfl) ⟨Nat.le_of_ble_eq_true rfl, Nat.le_of_ble_eq_true rfl⟩ dX7_teach_4 ?_
  refine j_if_ne (pc := 7) (tgt := 13) X dX7_teach_7 (by decide) (fun hc => ?_) (fun hc => ?_)
  · rw [if_neg hc] at h
    refine j_aload_n (pc := 13) X dX7_teach_13 rfl 0 rfl ?_
    refine j_get (pc := 14) (v := .ref (Ad E 14 0)) X gf_X7_33 (by decide) rfl rfl dX7_teach_14 ?_
    refine j_iconst (pc := 17) (v := 0) X dX7_teach_17 (by decide) ?_
    obtain ⟨r4, hc6, h⟩ := bd_s h
    refine j_callI (pc := 18) X (tX5_faultIndex l hE G (0 : Int32) hc6) muX5_faultIndex (by decide) q342 rfl rfl (Nat.le_of_ble_eq_true rfl) ⟨Nat.le_of_ble_eq_true rfl, Nat.le_of_ble_eq_true rfl⟩ dX7_teach_18 ?_
    refine j_istore_n (pc := 21) (lv' := [(0, .ref (Ad E 20 0)), (1, .int a1), (2, .int r4)]) X dX7_teach_21 rfl (by decide) rfl ?_
    refine j_iload_n (pc := 22) X dX7_teach_22 rfl 2 rfl ?_
    refine j_bipush (pc := 23) (v := (-5)) X dX7_teach_23 (by decide) ?_
    refine j_icmp_eq (pc := 25) (tgt := 33) X dX7_teach_25 (by decide) (fun hc => ?_) (fun hc => ?_)
    · rw [if_pos hc] at h
      refine j_aload_n (pc := 33) X dX7_teach_33 rfl 0 rfl ?_
      refine j_get (pc := 34) (v := .ref (Ad E 14 0)) X gf_X7_33 (by decide) rfl rfl dX7_teach_34 ?_
      refine j_aload_n (pc := 37) X dX7_teach_37 rfl 0 rfl ?_
      refine j_get (pc := 38) (v := .ref (Ad E 0 6)) X gf_X7_47 (by decide) rfl rfl dX7_teach_38 ?_
      obtain ⟨G8, hc9, h⟩ := bd_s h
      refine j_callV (pc := 41) X (tX5_layOn l hE G 6 (by decide) hc9) muX5_layOn (by decide) q365 rfl rfl (Nat.le_of_ble_eq_true rfl) ⟨Nat.le_of_ble_eq_true rfl, Nat.le_of_ble_eq_true rfl⟩ dX7_teach_41 ?_
      refine j_aload_n (pc := 44) X dX7_teach_44 rfl 0 rfl ?_
      refine j_get (pc := 45) (v := .ref (Ad E 11 0)) X gf_X7_10 (by decide) rfl rfl dX7_teach_45 ?_
      refine j_get (pc := 48) (v := .ref (Ad E 3 0)) X gf_X7_112 (by decide) rfl rfl dX7_teach_48 ?_
      refine j_aload_n (pc := 51) X dX7_teach_51 rfl 0 rfl ?_
      refine j_get (pc := 52) (v := .ref (Ad E 0 6)) X gf_X7_47 (by decide) rfl rfl dX7_teach_52 ?_
      refine j_iconst (pc := 55) (v := 0) X dX7_teach_55 (by decide) ?_
      refine j_aload_n (pc := 56) X dX7_teach_56 rfl 0 rfl ?_
      refine j_get (pc := 57) (v := .ref (Ad E 14 0)) X gf_X7_33 (by decide) rfl rfl dX7_teach_57 ?_
      refine j_get (pc := 60) (v := .int (G8 14 0 1)) X gf_X7_116 (by decide) rfl rfl dX7_teach_60 ?_
      obtain ⟨r10, hc12, h⟩ := bd_s h
      refine j_callI (pc := 63) X (tX6_find l hE G8 0 (by decide) 6 (by decide) (0 : Int32) (G8 14 0 1) hc12) muX6_find (by decide) q383 rfl rfl (Nat.le_of_ble_eq_true rfl) ⟨Nat.le_of_ble_eq_true rfl, Nat.le_of_ble_eq_true rfl⟩ dX7_teach_63 ?_
      refine j_bipush (pc := 66) (v := (-5)) X dX7_teach_66 (by decide) ?_
      refine j_icmp_eq (pc := 68) (tgt := 74) X dX7_teach_68 (by decide) (fun hc => ?_) (fun hc => ?_)
      · rw [if_pos hc] at h
        refine j_aload_n (pc := 74) X dX7_teach_74 rfl 0 rfl ?_
        refine j_get (pc := 75) (v := .ref (Ad E 11 0)) X gf_X7_10 (by decide) rfl rfl dX7_teach_75 ?_
        refine j_get (pc := 78) (v := .ref (Ad E 3 0)) X gf_X7_112 (by decide) rfl rfl dX7_teach_78 ?_
        refine j_get (pc := 81) (v := .int (G8 3 0 0)) X gf_X7_125 (by decide) rfl rfl dX7_teach_81 ?_
        refine j_bipush (pc := 84) (v := 16) X dX7_teach_84 (by decide) ?_
        refine j_icmp_lt (pc := 86) (tgt := 92) X dX7_teach_86 (by decide) (fun hc => ?_) (fun hc => ?_)
        · rw [if_pos hc] at h
          refine j_aload_n (pc := 92) X dX7_teach_92 rfl 0 rfl ?_
          refine j_get (pc := 93) (v := .ref (Ad E 12 0)) X gf_X7_26 (by decide) rfl rfl dX7_teach_93 ?_
          refine j_aload_n (pc := 96) X dX7_teach_96 rfl 0 rfl ?_
          refine j_get (pc := 97) (v := .ref (Ad E 11 0)) X gf_X7_10 (by decide) rfl rfl dX7_teach_97 ?_
          obtain ⟨G14, hc15, h⟩ := bd_s h
          refine j_callV (pc := 100) X (tX0_remember l hE G8 0 (by decide) hc15) muX0_remember (by decide) q252 rfl rfl (Nat.le_of_ble_eq_true rfl) ⟨Nat.le_of_ble_eq_true rfl, Nat.le_of_ble_eq_true rfl⟩ dX7_teach_100 ?_
          refine j_aload_n (pc := 103) X dX7_teach_103 rfl 0 rfl ?_
          refine j_get (pc := 104) (v := .ref (Ad E 11 0)) X gf_X7_10 (by decide) rfl rfl dX7_teach_104 ?_
          refine j_get (pc := 107) (v := .ref (Ad E 3 0)) X gf_X7_112 (by decide) rfl rfl dX7_teach_107 ?_
          refine j_aload_n (pc := 110) X dX7_teach_110 rfl 0 rfl ?_
          refine j_get (pc := 111) (v := .ref (Ad E 0 6)) X gf_X7_47 (by decide) rfl rfl dX7_teach_111 ?_
          refine j_aload_n (pc := 114) X dX7_teach_114 rfl 0 rfl ?_
          refine j_get (pc := 115) (v := .ref (Ad E 14 0)) X gf_X7_33 (by decide) rfl rfl dX7_teach_115 ?_
          refine j_get (pc := 118) (v := .int (G14 14 0 1)) X gf_X7_116 (by decide) rfl rfl dX7_teach_118 ?_
          refine j_iload_n (pc := 121) X dX7_teach_121 rfl 1 rfl ?_
          obtain ⟨r16, G17, hc18, h⟩ := bd2_s h
          refine j_callI (pc := 122) X (tX6_add l hE G14 0 (by decide) 6 (by decide) (G14 14 0 1) a1 hc18) muX6_add (by decide) q384 rfl rfl (Nat.le_of_ble_eq_true rfl) ⟨Nat.le_of_ble_eq_true rfl, Nat.le_of_ble_eq_true rfl⟩ dX7_teach_122 ?_
          exact j_ret (pc := 125) X hr hk (vp_nar_int _) (pr_s h).1 (pr_s h).2 dX7_teach_125
        · rw [if_neg hc] at h
          refine j_bipush (pc := 89) (v := (-3)) X dX7_teach_89 (by decide) ?_
          exact j_ret (pc := 91) X hr hk (vp_nar_int _) (pr_s h).1 (pr_s h).2 dX7_teach_91
      · rw [if_neg hc] at h
        refine j_bipush (pc := 71) (v := (-4)) X dX7_teach_71 (by decide) ?_
        exact j_ret (pc := 73) X hr hk (vp_nar_int _) (pr_s h).1 (pr_s h).2 dX7_teach_73
    · rw [if_neg hc] at h
      refine j_bipush (pc := 28) (v := (-100)) X dX7_teach_28 (by decide) ?_
      refine j_iload_n (pc := 30) X dX7_teach_30 rfl 2 rfl ?_
      refine j_isub (pc := 31) X dX7_teach_31 ?_
      exact j_ret (pc := 32) X hr hk (vp_nar_int _) (pr_s h).1 (pr_s h).2 dX7_teach_32
  · rw [if_pos hc] at h
    refine j_bipush (pc := 10) (v := (-2)) X dX7_teach_10 (by decide) ?_
    exact j_ret (pc := 12) X hr hk (vp_nar_int _) (pr_s h).1 (pr_s h).2 dX7_teach_12
