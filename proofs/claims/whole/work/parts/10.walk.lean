theorem dX7_isWithin_0 : decode cX7_isWithin 0 = .ok (.iload_n 0, 1) := by decide +kernel
theorem dX7_isWithin_1 : decode cX7_isWithin 1 = .ok (.iload_n 1, 1) := by decide +kernel
theorem dX7_isWithin_2 : decode cX7_isWithin 2 = .ok (.if_icmp .lt 12, 3) := by decide +kernel
theorem dX7_isWithin_5 : decode cX7_isWithin 5 = .ok (.iload_n 0, 1) := by decide +kernel
theorem dX7_isWithin_6 : decode cX7_isWithin 6 = .ok (.iload_n 2, 1) := by decide +kernel
theorem dX7_isWithin_7 : decode cX7_isWithin 7 = .ok (.if_icmp .gt 7, 3) := by decide +kernel
theorem dX7_isWithin_10 : decode cX7_isWithin 10 = .ok (.iconst 1, 1) := by decide +kernel
theorem dX7_isWithin_11 : decode cX7_isWithin 11 = .ok (.goto 4, 3) := by decide +kernel
theorem dX7_isWithin_14 : decode cX7_isWithin 14 = .ok (.iconst 0, 1) := by decide +kernel
theorem dX7_isWithin_15 : decode cX7_isWithin 15 = .ok (.ireturn, 1) := by decide +kernel
set_option maxHeartbeats 4000000 in
set_option maxRecDepth 100000 in
theorem tX7_isWithin (l : Launch) {E : ET} (hE : Aj E) (G : GT) (a0 : Int32) (a1 : Int32) (a2 : Int32) {r : Int32} (h : fX7_isWithin a0 a1 a2 = some r) : CI l E yX7_isWithin cX7_isWithin 3 (some .boolean) 0 [.int a0, .int a1, .int a2] G r G := by
  refine Met_I (lv := [(0, .int a0), (1, .int a1), (2, .int a2)]) (by decide +kernel) hE (Nat.le_of_ble_eq_true rfl) rfl ?_
  intro p e s m args below meth c X hr hk
  unfold fX7_isWithin at h
  refine j_iload_n (pc := 0) X dX7_isWithin_0 rfl 0 rfl ?_
  refine j_iload_n (pc := 1) X dX7_isWithin_1 rfl 1 rfl ?_
  refine j_icmp_lt (pc := 2) (tgt := 14) X dX7_isWithin_2 (by decide) (fun hc => ?_) (fun hc => ?_)
  · rw [if_pos hc] at h
    refine j_iconst (pc := 14) (v := 0) X dX7_isWithin_14 (by decide) ?_
    exact j_ret (pc := 15) X hr hk rfl (Option.some.inj h) rfl dX7_isWithin_15
  · rw [if_neg hc] at h
    refine j_iload_n (pc := 5) X dX7_isWithin_5 rfl 0 rfl ?_
    refine j_iload_n (pc := 6) X dX7_isWithin_6 rfl 2 rfl ?_
    refine j_icmp_gt (pc := 7) (tgt := 14) X dX7_isWithin_7 (by decide) (fun hc => ?_) (fun hc => ?_)
    · rw [if_pos hc] at h
      refine j_iconst (pc := 14) (v := 0) X dX7_isWithin_14 (by decide) ?_
      exact j_ret (pc := 15) X hr hk rfl (Option.some.inj h) rfl dX7_isWithin_15
    · rw [if_neg hc] at h
      refine j_iconst (pc := 10) (v := 1) X dX7_isWithin_10 (by decide) ?_
      refine j_goto (pc := 11) (tgt := 15) X dX7_isWithin_11 (by decide) ?_
      exact j_ret (pc := 15) X hr hk rfl (Option.some.inj h) rfl dX7_isWithin_15
theorem dX2_copyFrom_0 : decode cX2_copyFrom 0 = .ok (.iconst 0, 1) := by decide +kernel
theorem dX2_copyFrom_1 : decode cX2_copyFrom 1 = .ok (.istore_n 2, 1) := by decide +kernel
theorem dX2_copyFrom_2 : decode cX2_copyFrom 2 = .ok (.iload_n 2, 1) := by decide +kernel
theorem dX2_copyFrom_3 : decode cX2_copyFrom 3 = .ok (.bipush 40, 2) := by decide +kernel
theorem dX2_copyFrom_5 : decode cX2_copyFrom 5 = .ok (.if_icmp .ge 33, 3) := by decide +kernel
theorem dX2_copyFrom_8 : decode cX2_copyFrom 8 = .ok (.aload_n 0, 1) := by decide +kernel
theorem dX2_copyFrom_9 : decode cX2_copyFrom 9 = .ok (.getfield 9, 3) := by decide +kernel
theorem dX2_copyFrom_12 : decode cX2_copyFrom 12 = .ok (.iload_n 2, 1) := by decide +kernel
theorem dX2_copyFrom_13 : decode cX2_copyFrom 13 = .ok (.aload_n 1, 1) := by decide +kernel
theorem dX2_copyFrom_14 : decode cX2_copyFrom 14 = .ok (.getfield 9, 3) := by decide +kernel
theorem dX2_copyFrom_17 : decode cX2_copyFrom 17 = .ok (.iload_n 2, 1) := by decide +kernel
theorem dX2_copyFrom_18 : decode cX2_copyFrom 18 = .ok (.iaload, 1) := by decide +kernel
theorem dX2_copyFrom_19 : decode cX2_copyFrom 19 = .ok (.iastore, 1) := by decide +kernel
theorem dX2_copyFrom_20 : decode cX2_copyFrom 20 = .ok (.aload_n 0, 1) := by decide +kernel
theorem dX2_copyFrom_21 : decode cX2_copyFrom 21 = .ok (.getfield 15, 3) := by decide +kernel
theorem dX2_copyFrom_24 : decode cX2_copyFrom 24 = .ok (.iload_n 2, 1) := by decide +kernel
theorem dX2_copyFrom_25 : decode cX2_copyFrom 25 = .ok (.aload_n 1, 1) := by decide +kernel
theorem dX2_copyFrom_26 : decode cX2_copyFrom 26 = .ok (.getfield 15, 3) := by decide +kernel
theorem dX2_copyFrom_29 : decode cX2_copyFrom 29 = .ok (.iload_n 2, 1) := by decide +kernel
theorem dX2_copyFrom_30 : decode cX2_copyFrom 30 = .ok (.iaload, 1) := by decide +kernel
theorem dX2_copyFrom_31 : decode cX2_copyFrom 31 = .ok (.iastore, 1) := by decide +kernel
theorem dX2_copyFrom_32 : decode cX2_copyFrom 32 = .ok (.iinc 2 1, 3) := by decide +kernel
theorem dX2_copyFrom_35 : decode cX2_copyFrom 35 = .ok (.goto (-33), 3) := by decide +kernel
theorem dX2_copyFrom_38 : decode cX2_copyFrom 38 = .ok (.return_, 1) := by decide +kernel
set_option maxHeartbeats 4000000 in
set_option maxRecDepth 100000 in
theorem tX2_copyFrom_2 (l : Launch) {E : ET} (hE : Aj E) {p : Program} {e : Env} {s : State} {m : MethodId} {args : Array Value} {below : List Frame} {meth : Method} {c : Code} (X : Cx p (rmL 0) s m args c yX2_copyFrom.cls cX2_copyFrom 3 E (Aw E) 0 0) (hr : meth.sig.returnType = none) (hk : meth.locks = false) {G' : GT} (i0 : Nat) (hi0 : i0 < cnt 0) (i1 : Nat) (hi1 : i1 < cnt 0) : ∀ (n : Nat) (G : GT) (a2 : Int32), fX2_copyFrom_2 i0 i1 n G a2 = some G' → J p l e (rmL 0) s m args below meth c E (Aw E) s.heap 3 0 0 (MQ below (QV E G') args s 0 0 (Aw E)) G 2 [(0, .ref (Ad E 0 i0)), (1, .ref (Ad E 0 i1)), (2, .int a2)] [] := by
  intro n
  induction n with
  | zero =>
    intro G a2 h
    simp [fX2_copyFrom_2] at h
  | succ n ih =>
    intro G a2 h
    rw [fX2_copyFrom_2] at h
    refine j_iload_n (pc := 2) X dX2_copyFrom_2 rfl 2 rfl ?_
    refine j_bipush (pc := 3) (v := 40) X dX2_copyFrom_3 (by decide) ?_
    refine j_icmp_ge (pc := 5) (tgt := 38) X dX2_copyFrom_5 (by decide) (fun hc => ?_) (fun hc => ?_)
    · rw [if_pos hc] at h
      exact j_vret (pc := 38) X hr hk (Option.some.inj h) dX2_copyFrom_38
    · rw [if_neg hc] at h
      refine j_aload_n (pc := 8) X dX2_copyFrom_8 rfl 0 rfl ?_
      refine j_get (pc := 9) (v := .ref (Ad E 1 i0)) X gf_X2_9 hi0 rfl rfl dX2_copyFrom_9 ?_
      refine j_iload_n (pc := 12) X dX2_copyFrom_12 rfl 2 rfl ?_
      refine j_aload_n (pc := 13) X dX2_copyFrom_13 rfl 1 rfl ?_
      refine j_get (pc := 14) (v := .ref (Ad E 1 i1)) X gf_X2_9 hi1 rfl rfl dX2_copyFrom_14 ?_
      refine j_iload_n (pc := 17) X dX2_copyFrom_17 rfl 2 rfl ?_
      obtain ⟨hg1, h⟩ := gd_s h
      refine j_iald (pc := 18) (n := 40) X hi1 rfl hg1 dX2_copyFrom_18 ?_
      obtain ⟨hg2, h⟩ := gd_s h
      obtain ⟨G3, hG3, h⟩ := st3_s h
      refine j_iast (pc := 19) (n := 40) X hG3 hi0 (fun _ => rfl) hg2 dX2_copyFrom_19 ?_
      refine j_aload_n (pc := 20) X dX2_copyFrom_20 rfl 0 rfl ?_
      refine j_get (pc := 21) (v := .ref (Ad E 2 i0)) X gf_X2_15 hi0 rfl rfl dX2_copyFrom_21 ?_
      refine j_iload_n (pc := 24) X dX2_copyFrom_24 rfl 2 rfl ?_
      refine j_aload_n (pc := 25) X dX2_copyFrom_25 rfl 1 rfl ?_
      refine j_get (pc := 26) (v := .ref (Ad E 2 i1)) X gf_X2_15 hi1 rfl rfl dX2_copyFrom_26 ?_
      refine j_iload_n (pc := 29) X dX2_copyFrom_29 rfl 2 rfl ?_
      obtain ⟨hg4, h⟩ := gd_s h
      refine j_iald (pc := 30) (n := 40) X hi1 rfl hg4 dX2_copyFrom_30 ?_
      obtain ⟨hg5, h⟩ := gd_s h
      obtain ⟨G6, hG6, h⟩ := st3_s h
      refine j_iast (pc := 31) (n := 40) X hG6 hi0 (fun _ => rfl) hg5 dX2_copyFrom_31 ?_
      refine j_iinc (pc := 32) (q := 2) (v := (a2 + (1 : Int32))) (lv' := [(0, .ref (Ad E 0 i0)), (1, .ref (Ad E 0 i1)), (2, .int (a2 + (1 : Int32)))]) X dX2_copyFrom_32 rfl rfl (by decide) rfl ?_
      refine j_goto (pc := 35) (tgt := 2) X dX2_copyFrom_35 (by decide) ?_
      exact ih G6 (a2 + (1 : Int32)) h
set_option maxHeartbeats 4000000 in
set_option maxRecDepth 100000 in
theorem tX2_copyFrom (l : Launch) {E : ET} (hE : Aj E) (G : GT) (i0 : Nat) (hi0 : i0 < cnt 0) (i1 : Nat) (hi1 : i1 < cnt 0) {G' : GT} (h : fX2_copyFrom G i0 i1 = some G') : CV l E yX2_copyFrom cX2_copyFrom 3 none 0 [.ref (Ad E 0 i0), .ref (Ad E 0 i1)] G G' := by
  refine Met_V (lv := [(0, .ref (Ad E 0 i0)), (1, .ref (Ad E 0 i1))]) (by decide +kernel) hE (Nat.le_of_ble_eq_true rfl) rfl ?_
  intro p e s m args below meth c X hr hk
  unfold fX2_copyFrom at h
  refine j_iconst (pc := 0) (v := 0) X dX2_copyFrom_0 (by decide) ?_
  refine j_istore_n (pc := 1) (lv' := [(0, .ref (Ad E 0 i0)), (1, .ref (Ad E 0 i1)), (2, .int (0 : Int32))]) X dX2_copyFrom_1 rfl (by decide) rfl ?_
  exact tX2_copyFrom_2 l hE X hr hk i0 hi0 i1 hi1 FU G (0 : Int32) h
theorem dX6_copyFrom_0 : decode cX6_copyFrom 0 = .ok (.aload_n 0, 1) := by decide +kernel
theorem dX6_copyFrom_1 : decode cX6_copyFrom 1 = .ok (.aload_n 1, 1) := by decide +kernel
theorem dX6_copyFrom_2 : decode cX6_copyFrom 2 = .ok (.getfield 9, 3) := by decide +kernel
theorem dX6_copyFrom_5 : decode cX6_copyFrom 5 = .ok (.putfield 9, 3) := by decide +kernel
theorem dX6_copyFrom_8 : decode cX6_copyFrom 8 = .ok (.iconst 0, 1) := by decide +kernel
theorem dX6_copyFrom_9 : decode cX6_copyFrom 9 = .ok (.istore_n 2, 1) := by decide +kernel
theorem dX6_copyFrom_10 : decode cX6_copyFrom 10 = .ok (.iload_n 2, 1) := by decide +kernel
theorem dX6_copyFrom_11 : decode cX6_copyFrom 11 = .ok (.bipush 16, 2) := by decide +kernel
theorem dX6_copyFrom_13 : decode cX6_copyFrom 13 = .ok (.if_icmp .ge 33, 3) := by decide +kernel
theorem dX6_copyFrom_16 : decode cX6_copyFrom 16 = .ok (.aload_n 0, 1) := by decide +kernel
theorem dX6_copyFrom_17 : decode cX6_copyFrom 17 = .ok (.getfield 15, 3) := by decide +kernel
theorem dX6_copyFrom_20 : decode cX6_copyFrom 20 = .ok (.iload_n 2, 1) := by decide +kernel
theorem dX6_copyFrom_21 : decode cX6_copyFrom 21 = .ok (.aload_n 1, 1) := by decide +kernel
theorem dX6_copyFrom_22 : decode cX6_copyFrom 22 = .ok (.getfield 15, 3) := by decide +kernel
theorem dX6_copyFrom_25 : decode cX6_copyFrom 25 = .ok (.iload_n 2, 1) := by decide +kernel
theorem dX6_copyFrom_26 : decode cX6_copyFrom 26 = .ok (.iaload, 1) := by decide +kernel
theorem dX6_copyFrom_27 : decode cX6_copyFrom 27 = .ok (.iastore, 1) := by decide +kernel
theorem dX6_copyFrom_28 : decode cX6_copyFrom 28 = .ok (.aload_n 0, 1) := by decide +kernel
theorem dX6_copyFrom_29 : decode cX6_copyFrom 29 = .ok (.getfield 19, 3) := by decide +kernel
theorem dX6_copyFrom_32 : decode cX6_copyFrom 32 = .ok (.iload_n 2, 1) := by decide +kernel
theorem dX6_copyFrom_33 : decode cX6_copyFrom 33 = .ok (.aload_n 1, 1) := by decide +kernel
theorem dX6_copyFrom_34 : decode cX6_copyFrom 34 = .ok (.getfield 19, 3) := by decide +kernel
theorem dX6_copyFrom_37 : decode cX6_copyFrom 37 = .ok (.iload_n 2, 1) := by decide +kernel
theorem dX6_copyFrom_38 : decode cX6_copyFrom 38 = .ok (.iaload, 1) := by decide +kernel
theorem dX6_copyFrom_39 : decode cX6_copyFrom 39 = .ok (.iastore, 1) := by decide +kernel
theorem dX6_copyFrom_40 : decode cX6_copyFrom 40 = .ok (.iinc 2 1, 3) := by decide +kernel
theorem dX6_copyFrom_43 : decode cX6_copyFrom 43 = .ok (.goto (-33), 3) := by decide +kernel
theorem dX6_copyFrom_46 : decode cX6_copyFrom 46 = .ok (.iconst 0, 1) := by decide +kernel
theorem dX6_copyFrom_47 : decode cX6_copyFrom 47 = .ok (.istore_n 2, 1) := by decide +kernel
theorem dX6_copyFrom_48 : decode cX6_copyFrom 48 = .ok (.iload_n 2, 1) := by decide +kernel
theorem dX6_copyFrom_49 : decode cX6_copyFrom 49 = .ok (.bipush 80, 2) := by decide +kernel
theorem dX6_copyFrom_51 : decode cX6_copyFrom 51 = .ok (.if_icmp .ge 21, 3) := by decide +kernel
theorem dX6_copyFrom_54 : decode cX6_copyFrom 54 = .ok (.aload_n 0, 1) := by decide +kernel
theorem dX6_copyFrom_55 : decode cX6_copyFrom 55 = .ok (.getfield 22, 3) := by decide +kernel
theorem dX6_copyFrom_58 : decode cX6_copyFrom 58 = .ok (.iload_n 2, 1) := by decide +kernel
theorem dX6_copyFrom_59 : decode cX6_copyFrom 59 = .ok (.aload_n 1, 1) := by decide +kernel
theorem dX6_copyFrom_60 : decode cX6_copyFrom 60 = .ok (.getfield 22, 3) := by decide +kernel
theorem dX6_copyFrom_63 : decode cX6_copyFrom 63 = .ok (.iload_n 2, 1) := by decide +kernel
theorem dX6_copyFrom_64 : decode cX6_copyFrom 64 = .ok (.iaload, 1) := by decide +kernel
theorem dX6_copyFrom_65 : decode cX6_copyFrom 65 = .ok (.iastore, 1) := by decide +kernel
theorem dX6_copyFrom_66 : decode cX6_copyFrom 66 = .ok (.iinc 2 1, 3) := by decide +kernel
theorem dX6_copyFrom_69 : decode cX6_copyFrom 69 = .ok (.goto (-21), 3) := by decide +kernel
theorem dX6_copyFrom_72 : decode cX6_copyFrom 72 = .ok (.return_, 1) := by decide +kernel
set_option maxHeartbeats 4000000 in
set_option maxRecDepth 100000 in
theorem tX6_copyFrom_48 (l : Launch) {E : ET} (hE : Aj E) {p : Program} {e : Env} {s : State} {m : MethodId} {args : Array Value} {below : List Frame} {meth : Method} {c : Code} (X : Cx p (rmL 0) s m args c yX6_copyFrom.cls cX6_copyFrom 3 E (Aw E) 0 0) (hr : meth.sig.returnType = none) (hk : meth.locks = false) {G' : GT} (i0 : Nat) (hi0 : i0 < cnt 3) (i1 : Nat) (hi1 : i1 < cnt 3) : ∀ (n : Nat) (G : GT) (a2 : Int32), fX6_copyFrom_48 i0 i1 n G a2 = some G' → J p l e (rmL 0) s m args below meth c E (Aw E) s.heap 3 0 0 (MQ below (QV E G') args s 0 0 (Aw E)) G 48 [(0, .ref (Ad E 3 i0)), (1, .ref (Ad E 3 i1)), (2, .int a2)] [] := by
  intro n
  induction n with
  | zero =>
    intro G a2 h
    simp [fX6_copyFrom_48] at h
  | succ n ih =>
    intro G a2 h
    rw [fX6_copyFrom_48] at h
    refine j_iload_n (pc := 48) X dX6_copyFrom_48 rfl 2 rfl ?_
    refine j_bipush (pc := 49) (v := 80) X dX6_copyFrom_49 (by decide) ?_
    refine j_icmp_ge (pc := 51) (tgt := 72) X dX6_copyFrom_51 (by decide) (fun hc => ?_) (fun hc => ?_)
    · rw [if_pos hc] at h
      exact j_vret (pc := 72) X hr hk (Option.some.inj h) dX6_copyFrom_72
    · rw [if_neg hc] at h
      refine j_aload_n (pc := 54) X dX6_copyFrom_54 rfl 0 rfl ?_
      refine j_get (pc := 55) (v := .ref (Ad E 6 i0)) X gf_X6_22 hi0 rfl rfl dX6_copyFrom_55 ?_
      refine j_iload_n (pc := 58) X dX6_copyFrom_58 rfl 2 rfl ?_
      refine j_aload_n (pc := 59) X dX6_copyFrom_59 rfl 1 rfl ?_
      refine j_get (pc := 60) (v := .ref (Ad E 6 i1)) X gf_X6_22 hi1 rfl rfl dX6_copyFrom_60 ?_
      refine j_iload_n (pc := 63) X dX6_copyFrom_63 rfl 2 rfl ?_
      obtain ⟨hg1, h⟩ := gd_s h
      refine j_iald (pc := 64) (n := 80) X hi1 rfl hg1 dX6_copyFrom_64 ?_
      obtain ⟨hg2, h⟩ := gd_s h
      obtain ⟨G3, hG3, h⟩ := st3_s h
      refine j_iast (pc := 65) (n := 80) X hG3 hi0 (fun _ => rfl) hg2 dX6_copyFrom_65 ?_
      refine j_iinc (pc := 66) (q := 2) (v := (a2 + (1 : Int32))) (lv' := [(0, .ref (Ad E 3 i0)), (1, .ref (Ad E 3 i1)), (2, .int (a2 + (1 : Int32)))]) X dX6_copyFrom_66 rfl rfl (by decide) rfl ?_
      refine j_goto (pc := 69) (tgt := 48) X dX6_copyFrom_69 (by decide) ?_
      exact ih G3 (a2 + (1 : Int32)) h
set_option maxHeartbeats 4000000 in
set_option maxRecDepth 100000 in
theorem tX6_copyFrom_10 (l : Launch) {E : ET} (hE : Aj E) {p : Program} {e : Env} {s : State} {m : MethodId} {args : Array Value} {below : List Frame} {meth : Method} {c : Code} (X : Cx p (rmL 0) s m args c yX6_copyFrom.cls cX6_copyFrom 3 E (Aw E) 0 0) (hr : meth.sig.returnType = none) (hk : meth.locks = false) {G' : GT} (i0 : Nat) (hi0 : i0 < cnt 3) (i1 : Nat) (hi1 : i1 < cnt 3) : ∀ (n : Nat) (G : GT) (a2 : Int32), fX6_copyFrom_10 i0 i1 n G a2 = some G' → J p l e (rmL 0) s m args below meth c E (Aw E) s.heap 3 0 0 (MQ below (QV E G') args s 0 0 (Aw E)) G 10 [(0, .ref (Ad E 3 i0)), (1, .ref (Ad E 3 i1)), (2, .int a2)] [] := by
  intro n
  induction n with
  | zero =>
    intro G a2 h
    simp [fX6_copyFrom_10] at h
  | succ n ih =>
    intro G a2 h
    rw [fX6_copyFrom_10] at h
    refine j_iload_n (pc := 10) X dX6_copyFrom_10 rfl 2 rfl ?_
    refine j_bipush (pc := 11) (v := 16) X dX6_copyFrom_11 (by decide) ?_
    refine j_icmp_ge (pc := 13) (tgt := 46) X dX6_copyFrom_13 (by decide) (fun hc => ?_) (fun hc => ?_)
    · rw [if_pos hc] at h
      refine j_iconst (pc := 46) (v := 0) X dX6_copyFrom_46 (by decide) ?_
      refine j_istore_n (pc := 47) (lv' := [(0, .ref (Ad E 3 i0)), (1, .ref (Ad E 3 i1)), (2, .int (0 : Int32))]) X dX6_copyFrom_47 rfl (by decide) rfl ?_
      exact tX6_copyFrom_48 l hE X hr hk i0 hi0 i1 hi1 FU G (0 : Int32) h
    · rw [if_neg hc] at h
      refine j_aload_n (pc := 16) X dX6_copyFrom_16 rfl 0 rfl ?_
      refine j_get (pc := 17) (v := .ref (Ad E 4 i0)) X gf_X6_15 hi0 rfl rfl dX6_copyFrom_17 ?_
      refine j_iload_n (pc := 20) X dX6_copyFrom_20 rfl 2 rfl ?_
      refine j_aload_n (pc := 21) X dX6_copyFrom_21 rfl 1 rfl ?_
      refine j_get (pc := 22) (v := .ref (Ad E 4 i1)) X gf_X6_15 hi1 rfl rfl dX6_copyFrom_22 ?_
      refine j_iload_n (pc := 25) X dX6_copyFrom_25 rfl 2 rfl ?_
      obtain ⟨hg1, h⟩ := gd_s h
      refine j_iald (pc := 26) (n := 16) X hi1 rfl hg1 dX6_copyFrom_26 ?_
      obtain ⟨hg2, h⟩ := gd_s h
      obtain ⟨G3, hG3, h⟩ := st3_s h
      refine j_iast (pc := 27) (n := 16) X hG3 hi0 (fun _ => rfl) hg2 dX6_copyFrom_27 ?_
      refine j_aload_n (pc := 28) X dX6_copyFrom_28 rfl 0 rfl ?_
      refine j_get (pc := 29) (v := .ref (Ad E 5 i0)) X gf_X6_19 hi0 rfl rfl dX6_copyFrom_29 ?_
      refine j_iload_n (pc := 32) X dX6_copyFrom_32 rfl 2 rfl ?_
      refine j_aload_n (pc := 33) X dX6_copyFrom_33 rfl 1 rfl ?_
      refine j_get (pc := 34) (v := .ref (Ad E 5 i1)) X gf_X6_19 hi1 rfl rfl dX6_copyFrom_34 ?_
      refine j_iload_n (pc := 37) X dX6_copyFrom_37 rfl 2 rfl ?_
      obtain ⟨hg4, h⟩ := gd_s h
      refine j_iald (pc := 38) (n := 16) X hi1 rfl hg4 dX6_copyFrom_38 ?_
      obtain ⟨hg5, h⟩ := gd_s h
      obtain ⟨G6, hG6, h⟩ := st3_s h
      refine j_iast (pc := 39) (n := 16) X hG6 hi0 (fun _ => rfl) hg5 dX6_copyFrom_39 ?_
      refine j_iinc (pc := 40) (q := 2) (v := (a2 + (1 : Int32))) (lv' := [(0, .ref (Ad E 3 i0)), (1, .ref (Ad E 3 i1)), (2, .int (a2 + (1 : Int32)))]) X dX6_copyFrom_40 rfl rfl (by decide) rfl ?_
      refine j_goto (pc := 43) (tgt := 10) X dX6_copyFrom_43 (by decide) ?_
      exact ih G6 (a2 + (1 : Int32)) h
set_option maxHeartbeats 4000000 in
set_option maxRecDepth 100000 in
theorem tX6_copyFrom (l : Launch) {E : ET} (hE : Aj E) (G : GT) (i0 : Nat) (hi0 : i0 < cnt 3) (i1 : Nat) (hi1 : i1 < cnt 3) {G' : GT} (h : fX6_copyFrom G i0 i1 = some G') : CV l E yX6_copyFrom cX6_copyFrom 3 none 0 [.ref (Ad E 3 i0), .ref (Ad E 3 i1)] G G' := by
  refine Met_V (lv := [(0, .ref (Ad E 3 i0)), (1, .ref (Ad E 3 i1))]) (by decide +kernel) hE (Nat.le_of_ble_eq_true rfl) rfl ?_
  intro p e s m args below meth c X hr hk
  unfold fX6_copyFrom at h
  refine j_aload_n (pc := 0) X dX6_copyFrom_0 rfl 0 rfl ?_
  refine j_aload_n (pc := 1) X dX6_copyFrom_1 rfl 1 rfl ?_
  refine j_get (pc := 2) (v := .int (G 3 i1 0)) X gf_X6_9 hi1 rfl rfl dX6_copyFrom_2 ?_
  obtain ⟨G1, hG1, h⟩ := st3_s h
  refine j_put (pc := 5) X hG1 gf_X6_9 tyX6 tyX6_ok nmX6 hi0 rfl rfl (Nat.le_of_ble_eq_true rfl) rfl rfl rfl dX6_copyFrom_5 ?_
  refine j_iconst (pc := 8) (v := 0) X dX6_copyFrom_8 (by decide) ?_
  refine j_istore_n (pc := 9) (lv' := [(0, .ref (Ad E 3 i0)), (1, .ref (Ad E 3 i1)), (2, .int (0 : Int32))]) X dX6_copyFrom_9 rfl (by decide) rfl ?_
  exact tX6_copyFrom_10 l hE X hr hk i0 hi0 i1 hi1 FU G1 (0 : Int32) h
theorem dX1_copyFrom_0 : decode cX1_copyFrom 0 = .ok (.aload_n 0, 1) := by decide +kernel
theorem dX1_copyFrom_1 : decode cX1_copyFrom 1 = .ok (.aload_n 1, 1) := by decide +kernel
theorem dX1_copyFrom_2 : decode cX1_copyFrom 2 = .ok (.getfield 9, 3) := by decide +kernel
theorem dX1_copyFrom_5 : decode cX1_copyFrom 5 = .ok (.putfield 9, 3) := by decide +kernel
theorem dX1_copyFrom_8 : decode cX1_copyFrom 8 = .ok (.iconst 0, 1) := by decide +kernel
theorem dX1_copyFrom_9 : decode cX1_copyFrom 9 = .ok (.istore_n 2, 1) := by decide +kernel
theorem dX1_copyFrom_10 : decode cX1_copyFrom 10 = .ok (.iload_n 2, 1) := by decide +kernel
theorem dX1_copyFrom_11 : decode cX1_copyFrom 11 = .ok (.bipush 96, 2) := by decide +kernel
theorem dX1_copyFrom_13 : decode cX1_copyFrom 13 = .ok (.if_icmp .ge 21, 3) := by decide +kernel
theorem dX1_copyFrom_16 : decode cX1_copyFrom 16 = .ok (.aload_n 0, 1) := by decide +kernel
theorem dX1_copyFrom_17 : decode cX1_copyFrom 17 = .ok (.getfield 15, 3) := by decide +kernel
theorem dX1_copyFrom_20 : decode cX1_copyFrom 20 = .ok (.iload_n 2, 1) := by decide +kernel
theorem dX1_copyFrom_21 : decode cX1_copyFrom 21 = .ok (.aload_n 1, 1) := by decide +kernel
theorem dX1_copyFrom_22 : decode cX1_copyFrom 22 = .ok (.getfield 15, 3) := by decide +kernel
theorem dX1_copyFrom_25 : decode cX1_copyFrom 25 = .ok (.iload_n 2, 1) := by decide +kernel
theorem dX1_copyFrom_26 : decode cX1_copyFrom 26 = .ok (.iaload, 1) := by decide +kernel
theorem dX1_copyFrom_27 : decode cX1_copyFrom 27 = .ok (.iastore, 1) := by decide +kernel
theorem dX1_copyFrom_28 : decode cX1_copyFrom 28 = .ok (.iinc 2 1, 3) := by decide +kernel
theorem dX1_copyFrom_31 : decode cX1_copyFrom 31 = .ok (.goto (-21), 3) := by decide +kernel
theorem dX1_copyFrom_34 : decode cX1_copyFrom 34 = .ok (.iconst 0, 1) := by decide +kernel
theorem dX1_copyFrom_35 : decode cX1_copyFrom 35 = .ok (.istore_n 2, 1) := by decide +kernel
theorem dX1_copyFrom_36 : decode cX1_copyFrom 36 = .ok (.iload_n 2, 1) := by decide +kernel
theorem dX1_copyFrom_37 : decode cX1_copyFrom 37 = .ok (.bipush 6, 2) := by decide +kernel
theorem dX1_copyFrom_39 : decode cX1_copyFrom 39 = .ok (.if_icmp .ge 33, 3) := by decide +kernel
theorem dX1_copyFrom_42 : decode cX1_copyFrom 42 = .ok (.aload_n 0, 1) := by decide +kernel
theorem dX1_copyFrom_43 : decode cX1_copyFrom 43 = .ok (.getfield 19, 3) := by decide +kernel
theorem dX1_copyFrom_46 : decode cX1_copyFrom 46 = .ok (.iload_n 2, 1) := by decide +kernel
theorem dX1_copyFrom_47 : decode cX1_copyFrom 47 = .ok (.aload_n 1, 1) := by decide +kernel
theorem dX1_copyFrom_48 : decode cX1_copyFrom 48 = .ok (.getfield 19, 3) := by decide +kernel
theorem dX1_copyFrom_51 : decode cX1_copyFrom 51 = .ok (.iload_n 2, 1) := by decide +kernel
theorem dX1_copyFrom_52 : decode cX1_copyFrom 52 = .ok (.iaload, 1) := by decide +kernel
theorem dX1_copyFrom_53 : decode cX1_copyFrom 53 = .ok (.iastore, 1) := by decide +kernel
theorem dX1_copyFrom_54 : decode cX1_copyFrom 54 = .ok (.aload_n 0, 1) := by decide +kernel
theorem dX1_copyFrom_55 : decode cX1_copyFrom 55 = .ok (.getfield 22, 3) := by decide +kernel
theorem dX1_copyFrom_58 : decode cX1_copyFrom 58 = .ok (.iload_n 2, 1) := by decide +kernel
theorem dX1_copyFrom_59 : decode cX1_copyFrom 59 = .ok (.aload_n 1, 1) := by decide +kernel
theorem dX1_copyFrom_60 : decode cX1_copyFrom 60 = .ok (.getfield 22, 3) := by decide +kernel
theorem dX1_copyFrom_63 : decode cX1_copyFrom 63 = .ok (.iload_n 2, 1) := by decide +kernel
theorem dX1_copyFrom_64 : decode cX1_copyFrom 64 = .ok (.iaload, 1) := by decide +kernel
theorem dX1_copyFrom_65 : decode cX1_copyFrom 65 = .ok (.iastore, 1) := by decide +kernel
theorem dX1_copyFrom_66 : decode cX1_copyFrom 66 = .ok (.iinc 2 1, 3) := by decide +kernel
theorem dX1_copyFrom_69 : decode cX1_copyFrom 69 = .ok (.goto (-33), 3) := by decide +kernel
theorem dX1_copyFrom_72 : decode cX1_copyFrom 72 = .ok (.return_, 1) := by decide +kernel
set_option maxHeartbeats 4000000 in
set_option maxRecDepth 100000 in
theorem tX1_copyFrom_36 (l : Launch) {E : ET} (hE : Aj E) {p : Program} {e : Env} {s : State} {m : MethodId} {args : Array Value} {below : List Frame} {meth : Method} {c : Code} (X : Cx p (rmL 0) s m args c yX1_copyFrom.cls cX1_copyFrom 3 E (Aw E) 0 0) (hr : meth.sig.returnType = none) (hk : meth.locks = false) {G' : GT} (i0 : Nat) (hi0 : i0 < cnt 7) (i1 : Nat) (hi1 : i1 < cnt 7) : ∀ (n : Nat) (G : GT) (a2 : Int32), fX1_copyFrom_36 i0 i1 n G a2 = some G' → J p l e (rmL 0) s m args below meth c E (Aw E) s.heap 3 0 0 (MQ below (QV E G') args s 0 0 (Aw E)) G 36 [(0, .ref (Ad E 7 i0)), (1, .ref (Ad E 7 i1)), (2, .int a2)] [] := by
  intro n
  induction n with
  | zero =>
    intro G a2 h
    simp [fX1_copyFrom_36] at h
  | succ n ih =>
    intro G a2 h
    rw [fX1_copyFrom_36] at h
    refine j_iload_n (pc := 36) X dX1_copyFrom_36 rfl 2 rfl ?_
    refine j_bipush (pc := 37) (v := 6) X dX1_copyFrom_37 (by decide) ?_
    refine j_icmp_ge (pc := 39) (tgt := 72) X dX1_copyFrom_39 (by decide) (fun hc => ?_) (fun hc => ?_)
    · rw [if_pos hc] at h
      exact j_vret (pc := 72) X hr hk (Option.some.inj h) dX1_copyFrom_72
    · rw [if_neg hc] at h
      refine j_aload_n (pc := 42) X dX1_copyFrom_42 rfl 0 rfl ?_
      refine j_get (pc := 43) (v := .ref (Ad E 9 i0)) X gf_X1_19 hi0 rfl rfl dX1_copyFrom_43 ?_
      refine j_iload_n (pc := 46) X dX1_copyFrom_46 rfl 2 rfl ?_
      refine j_aload_n (pc := 47) X dX1_copyFrom_47 rfl 1 rfl ?_
      refine j_get (pc := 48) (v := .ref (Ad E 9 i1)) X gf_X1_19 hi1 rfl rfl dX1_copyFrom_48 ?_
      refine j_iload_n (pc := 51) X dX1_copyFrom_51 rfl 2 rfl ?_
      obtain ⟨hg1, h⟩ := gd_s h
      refine j_iald (pc := 52) (n := 6) X hi1 rfl hg1 dX1_copyFrom_52 ?_
      obtain ⟨hg2, h⟩ := gd_s h
      obtain ⟨G3, hG3, h⟩ := st3_s h
      refine j_iast (pc := 53) (n := 6) X hG3 hi0 (fun _ => rfl) hg2 dX1_copyFrom_53 ?_
      refine j_aload_n (pc := 54) X dX1_copyFrom_54 rfl 0 rfl ?_
      refine j_get (pc := 55) (v := .ref (Ad E 10 i0)) X gf_X1_22 hi0 rfl rfl dX1_copyFrom_55 ?_
      refine j_iload_n (pc := 58) X dX1_copyFrom_58 rfl 2 rfl ?_
      refine j_aload_n (pc := 59) X dX1_copyFrom_59 rfl 1 rfl ?_
      refine j_get (pc := 60) (v := .ref (Ad E 10 i1)) X gf_X1_22 hi1 rfl rfl dX1_copyFrom_60 ?_
      refine j_iload_n (pc := 63) X dX1_copyFrom_63 rfl 2 rfl ?_
      obtain ⟨hg4, h⟩ := gd_s h
      refine j_iald (pc := 64) (n := 6) X hi1 rfl hg4 dX1_copyFrom_64 ?_
      obtain ⟨hg5, h⟩ := gd_s h
      obtain ⟨G6, hG6, h⟩ := st3_s h
      refine j_iast (pc := 65) (n := 6) X hG6 hi0 (fun _ => rfl) hg5 dX1_copyFrom_65 ?_
      refine j_iinc (pc := 66) (q := 2) (v := (a2 + (1 : Int32))) (lv' := [(0, .ref (Ad E 7 i0)), (1, .ref (Ad E 7 i1)), (2, .int (a2 + (1 : Int32)))]) X dX1_copyFrom_66 rfl rfl (by decide) rfl ?_
      refine j_goto (pc := 69) (tgt := 36) X dX1_copyFrom_69 (by decide) ?_
      exact ih G6 (a2 + (1 : Int32)) h
set_option maxHeartbeats 4000000 in
set_option maxRecDepth 100000 in
theorem tX1_copyFrom_10 (l : Launch) {E : ET} (hE : Aj E) {p : Program} {e : Env} {s : State} {m : MethodId} {args : Array Value} {below : List Frame} {meth : Method} {c : Code} (X : Cx p (rmL 0) s m args c yX1_copyFrom.cls cX1_copyFrom 3 E (Aw E) 0 0) (hr : meth.sig.returnType = none) (hk : meth.locks = false) {G' : GT} (i0 : Nat) (hi0 : i0 < cnt 7) (i1 : Nat) (hi1 : i1 < cnt 7) : ∀ (n : Nat) (G : GT) (a2 : Int32), fX1_copyFrom_10 i0 i1 n G a2 = some G' → J p l e (rmL 0) s m args below meth c E (Aw E) s.heap 3 0 0 (MQ below (QV E G') args s 0 0 (Aw E)) G 10 [(0, .ref (Ad E 7 i0)), (1, .ref (Ad E 7 i1)), (2, .int a2)] [] := by
  intro n
  induction n with
  | zero =>
    intro G a2 h
    simp [fX1_copyFrom_10] at h
  | succ n ih =>
    intro G a2 h
    rw [fX1_copyFrom_10] at h
    refine j_iload_n (pc := 10) X dX1_copyFrom_10 rfl 2 rfl ?_
    refine j_bipush (pc := 11) (v := 96) X dX1_copyFrom_11 (by decide) ?_
    refine j_icmp_ge (pc := 13) (tgt := 34) X dX1_copyFrom_13 (by decide) (fun hc => ?_) (fun hc => ?_)
    · rw [if_pos hc] at h
      refine j_iconst (pc := 34) (v := 0) X dX1_copyFrom_34 (by decide) ?_
      refine j_istore_n (pc := 35) (lv' := [(0, .ref (Ad E 7 i0)), (1, .ref (Ad E 7 i1)), (2, .int (0 : Int32))]) X dX1_copyFrom_35 rfl (by decide) rfl ?_
      exact tX1_copyFrom_36 l hE X hr hk i0 hi0 i1 hi1 FU G (0 : Int32) h
    · rw [if_neg hc] at h
      refine j_aload_n (pc := 16) X dX1_copyFrom_16 rfl 0 rfl ?_
      refine j_get (pc := 17) (v := .ref (Ad E 8 i0)) X gf_X1_15 hi0 rfl rfl dX1_copyFrom_17 ?_
      refine j_iload_n (pc := 20) X dX1_copyFrom_20 rfl 2 rfl ?_
      refine j_aload_n (pc := 21) X dX1_copyFrom_21 rfl 1 rfl ?_
      refine j_get (pc := 22) (v := .ref (Ad E 8 i1)) X gf_X1_15 hi1 rfl rfl dX1_copyFrom_22 ?_
      refine j_iload_n (pc := 25) X dX1_copyFrom_25 rfl 2 rfl ?_
      obtain ⟨hg1, h⟩ := gd_s h
      refine j_iald (pc := 26) (n := 96) X hi1 rfl hg1 dX1_copyFrom_26 ?_
      obtain ⟨hg2, h⟩ := gd_s h
      obtain ⟨G3, hG3, h⟩ := st3_s h
      refine j_iast (pc := 27) (n := 96) X hG3 hi0 (fun _ => rfl) hg2 dX1_copyFrom_27 ?_
      refine j_iinc (pc := 28) (q := 2) (v := (a2 + (1 : Int32))) (lv' := [(0, .ref (Ad E 7 i0)), (1, .ref (Ad E 7 i1)), (2, .int (a2 + (1 : Int32)))]) X dX1_copyFrom_28 rfl rfl (by decide) rfl ?_
      refine j_goto (pc := 31) (tgt := 10) X dX1_copyFrom_31 (by decide) ?_
      exact ih G3 (a2 + (1 : Int32)) h
set_option maxHeartbeats 4000000 in
set_option maxRecDepth 100000 in
theorem tX1_copyFrom (l : Launch) {E : ET} (hE : Aj E) (G : GT) (i0 : Nat) (hi0 : i0 < cnt 7) (i1 : Nat) (hi1 : i1 < cnt 7) {G' : GT} (h : fX1_copyFrom G i0 i1 = some G') : CV l E yX1_copyFrom cX1_copyFrom 3 none 0 [.ref (Ad E 7 i0), .ref (Ad E 7 i1)] G G' := by
  refine Met_V (lv := [(0, .ref (Ad E 7 i0)), (1, .ref (Ad E 7 i1))]) (by decide +kernel) hE (Nat.le_of_ble_eq_true rfl) rfl ?_
  intro p e s m args below meth c X hr hk
  unfold fX1_copyFrom at h
  refine j_aload_n (pc := 0) X dX1_copyFrom_0 rfl 0 rfl ?_
  refine j_aload_n (pc := 1) X dX1_copyFrom_1 rfl 1 rfl ?_
  refine j_get (pc := 2) (v := .int (G 7 i1 0)) X gf_X1_9 hi1 rfl rfl dX1_copyFrom_2 ?_
  obtain ⟨G1, hG1, h⟩ := st3_s h
  refine j_put (pc := 5) X hG1 gf_X1_9 tyX1 tyX1_ok nmX1 hi0 rfl rfl (Nat.le_of_ble_eq_true rfl) rfl rfl rfl dX1_copyFrom_5 ?_
  refine j_iconst (pc := 8) (v := 0) X dX1_copyFrom_8 (by decide) ?_
  refine j_istore_n (pc := 9) (lv' := [(0, .ref (Ad E 7 i0)), (1, .ref (Ad E 7 i1)), (2, .int (0 : Int32))]) X dX1_copyFrom_9 rfl (by decide) rfl ?_
  exact tX1_copyFrom_10 l hE X hr hk i0 hi0 i1 hi1 FU G1 (0 : Int32) h
theorem dX4_copyFrom_0 : decode cX4_copyFrom 0 = .ok (.aload_n 0, 1) := by decide +kernel
theorem dX4_copyFrom_1 : decode cX4_copyFrom 1 = .ok (.getfield 10, 3) := by decide +kernel
theorem dX4_copyFrom_4 : decode cX4_copyFrom 4 = .ok (.aload_n 1, 1) := by decide +kernel
theorem dX4_copyFrom_5 : decode cX4_copyFrom 5 = .ok (.getfield 10, 3) := by decide +kernel
theorem dX4_copyFrom_8 : decode cX4_copyFrom 8 = .ok (.invokevirtual 40, 3) := by decide +kernel
theorem dX4_copyFrom_11 : decode cX4_copyFrom 11 = .ok (.aload_n 0, 1) := by decide +kernel
theorem dX4_copyFrom_12 : decode cX4_copyFrom 12 = .ok (.getfield 19, 3) := by decide +kernel
theorem dX4_copyFrom_15 : decode cX4_copyFrom 15 = .ok (.aload_n 1, 1) := by decide +kernel
theorem dX4_copyFrom_16 : decode cX4_copyFrom 16 = .ok (.getfield 19, 3) := by decide +kernel
theorem dX4_copyFrom_19 : decode cX4_copyFrom 19 = .ok (.invokevirtual 44, 3) := by decide +kernel
theorem dX4_copyFrom_22 : decode cX4_copyFrom 22 = .ok (.aload_n 0, 1) := by decide +kernel
theorem dX4_copyFrom_23 : decode cX4_copyFrom 23 = .ok (.getfield 26, 3) := by decide +kernel
theorem dX4_copyFrom_26 : decode cX4_copyFrom 26 = .ok (.aload_n 1, 1) := by decide +kernel
theorem dX4_copyFrom_27 : decode cX4_copyFrom 27 = .ok (.getfield 26, 3) := by decide +kernel
theorem dX4_copyFrom_30 : decode cX4_copyFrom 30 = .ok (.invokevirtual 47, 3) := by decide +kernel
theorem dX4_copyFrom_33 : decode cX4_copyFrom 33 = .ok (.aload_n 0, 1) := by decide +kernel
theorem dX4_copyFrom_34 : decode cX4_copyFrom 34 = .ok (.aload_n 1, 1) := by decide +kernel
theorem dX4_copyFrom_35 : decode cX4_copyFrom 35 = .ok (.getfield 30, 3) := by decide +kernel
theorem dX4_copyFrom_38 : decode cX4_copyFrom 38 = .ok (.putfield 30, 3) := by decide +kernel
theorem dX4_copyFrom_41 : decode cX4_copyFrom 41 = .ok (.aload_n 0, 1) := by decide +kernel
theorem dX4_copyFrom_42 : decode cX4_copyFrom 42 = .ok (.aload_n 1, 1) := by decide +kernel
theorem dX4_copyFrom_43 : decode cX4_copyFrom 43 = .ok (.getfield 34, 3) := by decide +kernel
theorem dX4_copyFrom_46 : decode cX4_copyFrom 46 = .ok (.putfield 34, 3) := by decide +kernel
theorem dX4_copyFrom_49 : decode cX4_copyFrom 49 = .ok (.aload_n 0, 1) := by decide +kernel
theorem dX4_copyFrom_50 : decode cX4_copyFrom 50 = .ok (.aload_n 1, 1) := by decide +kernel
theorem dX4_copyFrom_51 : decode cX4_copyFrom 51 = .ok (.getfield 37, 3) := by decide +kernel
theorem dX4_copyFrom_54 : decode cX4_copyFrom 54 = .ok (.putfield 37, 3) := by decide +kernel
theorem dX4_copyFrom_57 : decode cX4_copyFrom 57 = .ok (.return_, 1) := by decide +kernel
set_option maxHeartbeats 4000000 in
set_option maxRecDepth 100000 in
theorem tX4_copyFrom (l : Launch) {E : ET} (hE : Aj E) (G : GT) (i0 : Nat) (hi0 : i0 < cnt 11) (i1 : Nat) (hi1 : i1 < cnt 11) {G' : GT} (h : fX4_copyFrom G i0 i1 = some G') : CV l E yX4_copyFrom cX4_copyFrom 2 none 1 [.ref (Ad E 11 i0), .ref (Ad E 11 i1)] G G' := by
  refine Met_V (lv := [(0, .ref (Ad E 11 i0)), (1, .ref (Ad E 11 i1))]) (by decide +kernel) hE (Nat.le_of_ble_eq_true rfl) rfl ?_
  intro p e s m args below meth c X hr hk
  unfold fX4_copyFrom at h
  refine j_aload_n (pc := 0) X dX4_copyFrom_0 rfl 0 rfl ?_
  refine j_get (pc := 1) (v := .ref (Ad E 0 i0)) X gf_X4_10 hi0 rfl rfl dX4_copyFrom_1 ?_
  refine j_aload_n (pc := 4) X dX4_copyFrom_4 rfl 1 rfl ?_
  refine j_get (pc := 5) (v := .ref (Ad E 0 i1)) X gf_X4_10 hi1 rfl rfl dX4_copyFrom_5 ?_
  obtain ⟨G2, hc3, h⟩ := bd_s h
  refine j_callV (pc := 8) X (tX2_copyFrom l hE G i0 (Nat.lt_of_lt_of_le hi0 (by decide)) i1 (Nat.lt_of_lt_of_le hi1 (by decide)) hc3) muX2_copyFrom (Nat.lt_of_lt_of_le hi0 (by decide)) q261 rfl rfl (Nat.le_of_ble_eq_true rfl) ⟨Nat.le_of_ble_eq_true rfl, Nat.le_of_ble_eq_true rfl⟩ dX4_copyFrom_8 ?_
  refine j_aload_n (pc := 11) X dX4_copyFrom_11 rfl 0 rfl ?_
  refine j_get (pc := 12) (v := .ref (Ad E 3 i0)) X gf_X4_19 hi0 rfl rfl dX4_copyFrom_12 ?_
  refine j_aload_n (pc := 15) X dX4_copyFrom_15 rfl 1 rfl ?_
  refine j_get (pc := 16) (v := .ref (Ad E 3 i1)) X gf_X4_19 hi1 rfl rfl dX4_copyFrom_16 ?_
  obtain ⟨G5, hc6, h⟩ := bd_s h
  refine j_callV (pc := 19) X (tX6_copyFrom l hE G2 i0 hi0 i1 hi1 hc6) muX6_copyFrom hi0 q265 rfl rfl (Nat.le_of_ble_eq_true rfl) ⟨Nat.le_of_ble_eq_true rfl, Nat.le_of_ble_eq_true rfl⟩ dX4_copyFrom_19 ?_
  refine j_aload_n (pc := 22) X dX4_copyFrom_22 rfl 0 rfl ?_
  refine j_get (pc := 23) (v := .ref (Ad E 7 i0)) X gf_X4_26 hi0 rfl rfl dX4_copyFrom_23 ?_
  refine j_aload_n (pc := 26) X dX4_copyFrom_26 rfl 1 rfl ?_
  refine j_get (pc := 27) (v := .ref (Ad E 7 i1)) X gf_X4_26 hi1 rfl rfl dX4_copyFrom_27 ?_
  obtain ⟨G8, hc9, h⟩ := bd_s h
  refine j_callV (pc := 30) X (tX1_copyFrom l hE G5 i0 hi0 i1 hi1 hc9) muX1_copyFrom hi0 q269 rfl rfl (Nat.le_of_ble_eq_true rfl) ⟨Nat.le_of_ble_eq_true rfl, Nat.le_of_ble_eq_true rfl⟩ dX4_copyFrom_30 ?_
  refine j_aload_n (pc := 33) X dX4_copyFrom_33 rfl 0 rfl ?_
  refine j_aload_n (pc := 34) X dX4_copyFrom_34 rfl 1 rfl ?_
  refine j_get (pc := 35) (v := .int (G8 11 i1 3)) X gf_X4_30 hi1 rfl rfl dX4_copyFrom_35 ?_
  obtain ⟨G10, hG10, h⟩ := st3_s h
  refine j_put (pc := 38) X hG10 gf_X4_30 tyX4 tyX4_ok nmX4 hi0 rfl rfl (Nat.le_of_ble_eq_true rfl) rfl rfl rfl dX4_copyFrom_38 ?_
  refine j_aload_n (pc := 41) X dX4_copyFrom_41 rfl 0 rfl ?_
  refine j_aload_n (pc := 42) X dX4_copyFrom_42 rfl 1 rfl ?_
  refine j_get (pc := 43) (v := .int (G10 11 i1 4)) X gf_X4_34 hi1 rfl rfl dX4_copyFrom_43 ?_
  obtain ⟨G11, hG11, h⟩ := st3_s h
  refine j_put (pc := 46) X hG11 gf_X4_34 tyX4 tyX4_ok nmX4 hi0 rfl rfl (Nat.le_of_ble_eq_true rfl) rfl rfl rfl dX4_copyFrom_46 ?_
  refine j_aload_n (pc := 49) X dX4_copyFrom_49 rfl 0 rfl ?_
  refine j_aload_n (pc := 50) X dX4_copyFrom_50 rfl 1 rfl ?_
  refine j_get (pc := 51) (v := .int (G11 11 i1 5)) X gf_X4_37 hi1 rfl rfl dX4_copyFrom_51 ?_
  obtain ⟨G12, hG12, h⟩ := st3_s h
  refine j_put (pc := 54) X hG12 gf_X4_37 tyX4 tyX4_ok nmX4 hi0 rfl rfl (Nat.le_of_ble_eq_true rfl) rfl rfl rfl dX4_copyFrom_54 ?_
  exact j_vret (pc := 57) X hr hk (Option.some.inj h) dX4_copyFrom_57
theorem dX0_remember_0 : decode cX0_remember 0 = .ok (.aload_n 0, 1) := by decide +kernel
theorem dX0_remember_1 : decode cX0_remember 1 = .ok (.getfield 22, 3) := by decide +kernel
theorem dX0_remember_4 : decode cX0_remember 4 = .ok (.iconst 0, 1) := by decide +kernel
theorem dX0_remember_5 : decode cX0_remember 5 = .ok (.iconst 3, 1) := by decide +kernel
theorem dX0_remember_6 : decode cX0_remember 6 = .ok (.invokestatic 25, 3) := by decide +kernel
theorem dX0_remember_9 : decode cX0_remember 9 = .ok (.ifCond .eq 15, 3) := by decide +kernel
theorem dX0_remember_12 : decode cX0_remember 12 = .ok (.aload_n 0, 1) := by decide +kernel
theorem dX0_remember_13 : decode cX0_remember 13 = .ok (.getfield 11, 3) := by decide +kernel
theorem dX0_remember_16 : decode cX0_remember 16 = .ok (.aload_n 0, 1) := by decide +kernel
theorem dX0_remember_17 : decode cX0_remember 17 = .ok (.getfield 22, 3) := by decide +kernel
theorem dX0_remember_20 : decode cX0_remember 20 = .ok (.aaload, 1) := by decide +kernel
theorem dX0_remember_21 : decode cX0_remember 21 = .ok (.ifnonnull 4, 3) := by decide +kernel
theorem dX0_remember_24 : decode cX0_remember 24 = .ok (.return_, 1) := by decide +kernel
theorem dX0_remember_25 : decode cX0_remember 25 = .ok (.aload_n 0, 1) := by decide +kernel
theorem dX0_remember_26 : decode cX0_remember 26 = .ok (.getfield 11, 3) := by decide +kernel
theorem dX0_remember_29 : decode cX0_remember 29 = .ok (.aload_n 0, 1) := by decide +kernel
theorem dX0_remember_30 : decode cX0_remember 30 = .ok (.getfield 22, 3) := by decide +kernel
theorem dX0_remember_33 : decode cX0_remember 33 = .ok (.aaload, 1) := by decide +kernel
theorem dX0_remember_34 : decode cX0_remember 34 = .ok (.aload_n 1, 1) := by decide +kernel
theorem dX0_remember_35 : decode cX0_remember 35 = .ok (.invokevirtual 29, 3) := by decide +kernel
theorem dX0_remember_38 : decode cX0_remember 38 = .ok (.aload_n 0, 1) := by decide +kernel
theorem dX0_remember_39 : decode cX0_remember 39 = .ok (.aload_n 0, 1) := by decide +kernel
theorem dX0_remember_40 : decode cX0_remember 40 = .ok (.getfield 22, 3) := by decide +kernel
theorem dX0_remember_43 : decode cX0_remember 43 = .ok (.iconst 3, 1) := by decide +kernel
theorem dX0_remember_44 : decode cX0_remember 44 = .ok (.if_icmp .ne 7, 3) := by decide +kernel
theorem dX0_remember_47 : decode cX0_remember 47 = .ok (.iconst 0, 1) := by decide +kernel
theorem dX0_remember_48 : decode cX0_remember 48 = .ok (.goto 9, 3) := by decide +kernel
theorem dX0_remember_51 : decode cX0_remember 51 = .ok (.aload_n 0, 1) := by decide +kernel
theorem dX0_remember_52 : decode cX0_remember 52 = .ok (.getfield 22, 3) := by decide +kernel
theorem dX0_remember_55 : decode cX0_remember 55 = .ok (.iconst 1, 1) := by decide +kernel
theorem dX0_remember_56 : decode cX0_remember 56 = .ok (.iadd, 1) := by decide +kernel
theorem dX0_remember_57 : decode cX0_remember 57 = .ok (.putfield 22, 3) := by decide +kernel
theorem dX0_remember_60 : decode cX0_remember 60 = .ok (.aload_n 0, 1) := by decide +kernel
theorem dX0_remember_61 : decode cX0_remember 61 = .ok (.iconst 4, 1) := by decide +kernel
theorem dX0_remember_62 : decode cX0_remember 62 = .ok (.aload_n 0, 1) := by decide +kernel
theorem dX0_remember_63 : decode cX0_remember 63 = .ok (.getfield 18, 3) := by decide +kernel
theorem dX0_remember_66 : decode cX0_remember 66 = .ok (.iconst 1, 1) := by decide +kernel
theorem dX0_remember_67 : decode cX0_remember 67 = .ok (.iadd, 1) := by decide +kernel
theorem dX0_remember_68 : decode cX0_remember 68 = .ok (.invokestatic 33, 3) := by decide +kernel
theorem dX0_remember_71 : decode cX0_remember 71 = .ok (.putfield 18, 3) := by decide +kernel
theorem dX0_remember_74 : decode cX0_remember 74 = .ok (.return_, 1) := by decide +kernel
set_option maxHeartbeats 4000000 in
set_option maxRecDepth 100000 in
theorem tX0_remember_57 (l : Launch) {E : ET} (hE : Aj E) {p : Program} {e : Env} {s : State} {m : MethodId} {args : Array Value} {below : List Frame} {meth : Method} {c : Code} (X : Cx p (rmL 2) s m args c yX0_remember.cls cX0_remember 2 E (Aw E) 0 0) (hr : meth.sig.returnType = none) (hk : meth.locks = false) {G' : GT} (G : GT) (i1 : Nat) (hi1 : i1 < cnt 11) (s1 : Int32) (h : fX0_remember_57 G i1 s1 = some G') : J p l e (rmL 2) s m args below meth c E (Aw E) s.heap 2 0 0 (MQ below (QV E G') args s 0 0 (Aw E)) G 57 [(0, .ref (Ad E 12 0))] [.int s1, .ref (Ad E 12 0)] := by
  unfold fX0_remember_57 at h
  obtain ⟨G1, hG1, h⟩ := st3_s h
  refine j_put (pc := 57) X hG1 gf_X0_22 tyX0 tyX0_ok nmX0 (by decide) rfl rfl (Nat.le_of_ble_eq_true rfl) rfl rfl rfl dX0_remember_57 ?_
  refine j_aload_n (pc := 60) X dX0_remember_60 rfl 0 rfl ?_
  refine j_iconst (pc := 61) (v := 4) X dX0_remember_61 (by decide) ?_
  refine j_aload_n (pc := 62) X dX0_remember_62 rfl 0 rfl ?_
  refine j_get (pc := 63) (v := .int (G1 12 0 1)) X gf_X0_18 (by decide) rfl rfl dX0_remember_63 ?_
  refine j_iconst (pc := 66) (v := 1) X dX0_remember_66 (by decide) ?_
  refine j_iadd (pc := 67) X dX0_remember_67 ?_
  refine j_mmin (pc := 68) X (q273) ⟨Nat.le_of_ble_eq_true rfl, Nat.le_of_ble_eq_true rfl⟩ dX0_remember_68 ?_
  obtain ⟨G2, hG2, h⟩ := st3_s h
  refine j_put (pc := 71) X hG2 gf_X0_18 tyX0 tyX0_ok nmX0 (by decide) rfl rfl (Nat.le_of_ble_eq_true rfl) rfl rfl rfl dX0_remember_71 ?_
  exact j_vret (pc := 74) X hr hk (Option.some.inj h) dX0_remember_74
set_option maxHeartbeats 4000000 in
set_option maxRecDepth 100000 in
theorem tX0_remember (l : Launch) {E : ET} (hE : Aj E) (G : GT) (i1 : Nat) (hi1 : i1 < cnt 11) {G' : GT} (h : fX0_remember G i1 = some G') : CV l E yX0_remember cX0_remember 2 none 2 [.ref (Ad E 12 0), .ref (Ad E 11 i1)] G G' := by
  refine Met_V (lv := [(0, .ref (Ad E 12 0)), (1, .ref (Ad E 11 i1))]) (by decide +kernel) hE (Nat.le_of_ble_eq_true rfl) rfl ?_
  intro p e s m args below meth c X hr hk
  unfold fX0_remember at h
  refine j_aload_n (pc := 0) X dX0_remember_0 rfl 0 rfl ?_
  refine j_get (pc := 1) (v := .int (G 12 0 2)) X gf_X0_22 (by decide) rfl rfl dX0_remember_1 ?_
  refine j_iconst (pc := 4) (v := 0) X dX0_remember_4 (by decide) ?_
  refine j_iconst (pc := 5) (v := 3) X dX0_remember_5 (by decide) ?_
  obtain ⟨r1, hc3, h⟩ := bd_s h
  refine j_staI (pc := 6) X (tX7_isWithin l hE G (G 12 0 2) (0 : Int32) (3 : Int32) hc3) muX7_isWithin (Or.inr ⟨_, q256⟩) rfl rfl (Nat.le_of_ble_eq_true rfl) ⟨Nat.le_of_ble_eq_true rfl, Nat.le_of_ble_eq_true rfl⟩ dX0_remember_6 ?_
  refine j_if_eq (pc := 9) (tgt := 24) X dX0_remember_9 (by decide) (fun hc => ?_) (fun hc => ?_)
  · rw [if_pos hc] at h
    exact j_vret (pc := 24) X hr hk (Option.some.inj h) dX0_remember_24
  · rw [if_neg hc] at h
    refine j_aload_n (pc := 12) X dX0_remember_12 rfl 0 rfl ?_
    refine j_get (pc := 13) (v := .ref (Ad E 13 0)) X gf_X0_11 (by decide) rfl rfl dX0_remember_13 ?_
    refine j_aload_n (pc := 16) X dX0_remember_16 rfl 0 rfl ?_
    refine j_get (pc := 17) (v := .int (G 12 0 2)) X gf_X0_22 (by decide) rfl rfl dX0_remember_17 ?_
    obtain ⟨hg4, h⟩ := gd_s h
    have hs5 : (2 + (G 12 0 2).toNatClampNeg) < 6 := by have hz := inb_lt hg4; omega
    refine j_aald (pc := 20) (n := 4) (a := Ad E 11 (2 + (G 12 0 2).toNatClampNeg)) X (by decide) rfl hg4 rfl dX0_remember_20 ?_
    refine j_ifnonnull (pc := 21) (tgt := 25) X dX0_remember_21 (by decide) ?_
    refine j_aload_n (pc := 25) X dX0_remember_25 rfl 0 rfl ?_
    refine j_get (pc := 26) (v := .ref (Ad E 13 0)) X gf_X0_11 (by decide) rfl rfl dX0_remember_26 ?_
    refine j_aload_n (pc := 29) X dX0_remember_29 rfl 0 rfl ?_
    refine j_get (pc := 30) (v := .int (G 12 0 2)) X gf_X0_22 (by decide) rfl rfl dX0_remember_30 ?_
    obtain ⟨hg6, h⟩ := gd_s h
    have hs7 : (2 + (G 12 0 2).toNatClampNeg) < 6 := by have hz := inb_lt hg6; omega
    refine j_aald (pc := 33) (n := 4) (a := Ad E 11 (2 + (G 12 0 2).toNatClampNeg)) X (by decide) rfl hg6 rfl dX0_remember_33 ?_
    refine j_aload_n (pc := 34) X dX0_remember_34 rfl 1 rfl ?_
    obtain ⟨G9, hc10, h⟩ := bd_s h
    refine j_callV (pc := 35) X (tX4_copyFrom l hE G (2 + (G 12 0 2).toNatClampNeg) hs7 i1 hi1 hc10) muX4_copyFrom hs7 q257 rfl rfl (Nat.le_of_ble_eq_true rfl) ⟨Nat.le_of_ble_eq_true rfl, Nat.le_of_ble_eq_true rfl⟩ dX0_remember_35 ?_
    refine j_aload_n (pc := 38) X dX0_remember_38 rfl 0 rfl ?_
    refine j_aload_n (pc := 39) X dX0_remember_39 rfl 0 rfl ?_
    refine j_get (pc := 40) (v := .int (G9 12 0 2)) X gf_X0_22 (by decide) rfl rfl dX0_remember_40 ?_
    refine j_iconst (pc := 43) (v := 3) X dX0_remember_43 (by decide) ?_
    refine j_icmp_ne (pc := 44) (tgt := 51) X dX0_remember_44 (by decide) (fun hc => ?_) (fun hc => ?_)
    · rw [if_neg hc] at h
      refine j_aload_n (pc := 51) X dX0_remember_51 rfl 0 rfl ?_
      refine j_get (pc := 52) (v := .int (G9 12 0 2)) X gf_X0_22 (by decide) rfl rfl dX0_remember_52 ?_
      refine j_iconst (pc := 55) (v := 1) X dX0_remember_55 (by decide) ?_
      refine j_iadd (pc := 56) X dX0_remember_56 ?_
      refine j_lv (lv' := [(0, .ref (Ad E 12 0))]) [0] rfl ?_
      exact tX0_remember_57 l hE X hr hk G9 i1 hi1 ((G9 12 0 2) + (1 : Int32)) h
    · rw [if_pos hc] at h
      refine j_iconst (pc := 47) (v := 0) X dX0_remember_47 (by decide) ?_
      refine j_goto (pc := 48) (tgt := 57) X dX0_remember_48 (by decide) ?_
      refine j_lv (lv' := [(0, .ref (Ad E 12 0))]) [0] rfl ?_
      exact tX0_remember_57 l hE X hr hk G9 i1 hi1 (0 : Int32) h
theorem dX0_takeBack_0 : decode cX0_takeBack 0 = .ok (.aload_n 0, 1) := by decide +kernel
theorem dX0_takeBack_1 : decode cX0_takeBack 1 = .ok (.getfield 22, 3) := by decide +kernel
theorem dX0_takeBack_4 : decode cX0_takeBack 4 = .ok (.ifCond .ne 7, 3) := by decide +kernel
theorem dX0_takeBack_7 : decode cX0_takeBack 7 = .ok (.iconst 3, 1) := by decide +kernel
theorem dX0_takeBack_8 : decode cX0_takeBack 8 = .ok (.goto 9, 3) := by decide +kernel
theorem dX0_takeBack_11 : decode cX0_takeBack 11 = .ok (.aload_n 0, 1) := by decide +kernel
theorem dX0_takeBack_12 : decode cX0_takeBack 12 = .ok (.getfield 22, 3) := by decide +kernel
theorem dX0_takeBack_15 : decode cX0_takeBack 15 = .ok (.iconst 1, 1) := by decide +kernel
theorem dX0_takeBack_16 : decode cX0_takeBack 16 = .ok (.isub, 1) := by decide +kernel
theorem dX0_takeBack_17 : decode cX0_takeBack 17 = .ok (.istore_n 2, 1) := by decide +kernel
theorem dX0_takeBack_18 : decode cX0_takeBack 18 = .ok (.aload_n 0, 1) := by decide +kernel
theorem dX0_takeBack_19 : decode cX0_takeBack 19 = .ok (.getfield 18, 3) := by decide +kernel
theorem dX0_takeBack_22 : decode cX0_takeBack 22 = .ok (.ifCond .eq 21, 3) := by decide +kernel
theorem dX0_takeBack_25 : decode cX0_takeBack 25 = .ok (.iload_n 2, 1) := by decide +kernel
theorem dX0_takeBack_26 : decode cX0_takeBack 26 = .ok (.iconst 0, 1) := by decide +kernel
theorem dX0_takeBack_27 : decode cX0_takeBack 27 = .ok (.iconst 3, 1) := by decide +kernel
theorem dX0_takeBack_28 : decode cX0_takeBack 28 = .ok (.invokestatic 25, 3) := by decide +kernel
theorem dX0_takeBack_31 : decode cX0_takeBack 31 = .ok (.ifCond .eq 12, 3) := by decide +kernel
theorem dX0_takeBack_34 : decode cX0_takeBack 34 = .ok (.aload_n 0, 1) := by decide +kernel
theorem dX0_takeBack_35 : decode cX0_takeBack 35 = .ok (.getfield 11, 3) := by decide +kernel
theorem dX0_takeBack_38 : decode cX0_takeBack 38 = .ok (.iload_n 2, 1) := by decide +kernel
theorem dX0_takeBack_39 : decode cX0_takeBack 39 = .ok (.aaload, 1) := by decide +kernel
theorem dX0_takeBack_40 : decode cX0_takeBack 40 = .ok (.ifnonnull 4, 3) := by decide +kernel
theorem dX0_takeBack_43 : decode cX0_takeBack 43 = .ok (.return_, 1) := by decide +kernel
theorem dX0_takeBack_44 : decode cX0_takeBack 44 = .ok (.aload_n 1, 1) := by decide +kernel
theorem dX0_takeBack_45 : decode cX0_takeBack 45 = .ok (.aload_n 0, 1) := by decide +kernel
theorem dX0_takeBack_46 : decode cX0_takeBack 46 = .ok (.getfield 11, 3) := by decide +kernel
theorem dX0_takeBack_49 : decode cX0_takeBack 49 = .ok (.iload_n 2, 1) := by decide +kernel
theorem dX0_takeBack_50 : decode cX0_takeBack 50 = .ok (.aaload, 1) := by decide +kernel
theorem dX0_takeBack_51 : decode cX0_takeBack 51 = .ok (.invokevirtual 29, 3) := by decide +kernel
theorem dX0_takeBack_54 : decode cX0_takeBack 54 = .ok (.aload_n 0, 1) := by decide +kernel
theorem dX0_takeBack_55 : decode cX0_takeBack 55 = .ok (.iload_n 2, 1) := by decide +kernel
theorem dX0_takeBack_56 : decode cX0_takeBack 56 = .ok (.putfield 22, 3) := by decide +kernel
theorem dX0_takeBack_59 : decode cX0_takeBack 59 = .ok (.aload_n 0, 1) := by decide +kernel
theorem dX0_takeBack_60 : decode cX0_takeBack 60 = .ok (.dup, 1) := by decide +kernel
theorem dX0_takeBack_61 : decode cX0_takeBack 61 = .ok (.getfield 18, 3) := by decide +kernel
theorem dX0_takeBack_64 : decode cX0_takeBack 64 = .ok (.iconst 1, 1) := by decide +kernel
theorem dX0_takeBack_65 : decode cX0_takeBack 65 = .ok (.isub, 1) := by decide +kernel
theorem dX0_takeBack_66 : decode cX0_takeBack 66 = .ok (.putfield 18, 3) := by decide +kernel
theorem dX0_takeBack_69 : decode cX0_takeBack 69 = .ok (.return_, 1) := by decide +kernel
set_option maxHeartbeats 4000000 in
set_option maxRecDepth 100000 in
theorem tX0_takeBack_17 (l : Launch) {E : ET} (hE : Aj E) {p : Program} {e : Env} {s : State} {m : MethodId} {args : Array Value} {below : List Frame} {meth : Method} {c : Code} (X : Cx p (rmL 2) s m args c yX0_takeBack.cls cX0_takeBack 3 E (Aw E) 0 0) (hr : meth.sig.returnType = none) (hk : meth.locks = false) {G' : GT} (G : GT) (i1 : Nat) (hi1 : i1 < cnt 11) (s0 : Int32) (h : fX0_takeBack_17 G i1 s0 = some G') : J p l e (rmL 2) s m args below meth c E (Aw E) s.heap 3 0 0 (MQ below (QV E G') args s 0 0 (Aw E)) G 17 [(0, .ref (Ad E 12 0)), (1, .ref (Ad E 11 i1))] [.int s0] := by
  unfold fX0_takeBack_17 at h
  refine j_istore_n (pc := 17) (lv' := [(0, .ref (Ad E 12 0)), (1, .ref (Ad E 11 i1)), (2, .int s0)]) X dX0_takeBack_17 rfl (by decide) rfl ?_
  refine j_aload_n (pc := 18) X dX0_takeBack_18 rfl 0 rfl ?_
  refine j_get (pc := 19) (v := .int (G 12 0 1)) X gf_X0_18 (by decide) rfl rfl dX0_takeBack_19 ?_
  refine j_if_eq (pc := 22) (tgt := 43) X dX0_takeBack_22 (by decide) (fun hc => ?_) (fun hc => ?_)
  · rw [if_pos hc] at h
    exact j_vret (pc := 43) X hr hk (Option.some.inj h) dX0_takeBack_43
  · rw [if_neg hc] at h
    refine j_iload_n (pc := 25) X dX0_takeBack_25 rfl 2 rfl ?_
    refine j_iconst (pc := 26) (v := 0) X dX0_takeBack_26 (by decide) ?_
    refine j_iconst (pc := 27) (v := 3) X dX0_takeBack_27 (by decide) ?_
    obtain ⟨r1, hc3, h⟩ := bd_s h
    refine j_staI (pc := 28) X (tX7_isWithin l hE G s0 (0 : Int32) (3 : Int32) hc3) muX7_isWithin (Or.inr ⟨_, q256⟩) rfl rfl (Nat.le_of_ble_eq_true rfl) ⟨Nat.le_of_ble_eq_true rfl, Nat.le_of_ble_eq_true rfl⟩ dX0_takeBack_28 ?_
    refine j_if_eq (pc := 31) (tgt := 43) X dX0_takeBack_31 (by decide) (fun hc => ?_) (fun hc => ?_)
    · rw [if_pos hc] at h
      exact j_vret (pc := 43) X hr hk (Option.some.inj h) dX0_takeBack_43
    · rw [if_neg hc] at h
      refine j_aload_n (pc := 34) X dX0_takeBack_34 rfl 0 rfl ?_
      refine j_get (pc := 35) (v := .ref (Ad E 13 0)) X gf_X0_11 (by decide) rfl rfl dX0_takeBack_35 ?_
      refine j_iload_n (pc := 38) X dX0_takeBack_38 rfl 2 rfl ?_
      obtain ⟨hg4, h⟩ := gd_s h
      have hs5 : (2 + s0.toNatClampNeg) < 6 := by have hz := inb_lt hg4; omega
      refine j_aald (pc := 39) (n := 4) (a := Ad E 11 (2 + s0.toNatClampNeg)) X (by decide) rfl hg4 rfl dX0_takeBack_39 ?_
      refine j_ifnonnull (pc := 40) (tgt := 44) X dX0_takeBack_40 (by decide) ?_
      refine j_aload_n (pc := 44) X dX0_takeBack_44 rfl 1 rfl ?_
      refine j_aload_n (pc := 45) X dX0_takeBack_45 rfl 0 rfl ?_
      refine j_get (pc := 46) (v := .ref (Ad E 13 0)) X gf_X0_11 (by decide) rfl rfl dX0_takeBack_46 ?_
      refine j_iload_n (pc := 49) X dX0_takeBack_49 rfl 2 rfl ?_
      obtain ⟨hg6, h⟩ := gd_s h
      have hs7 : (2 + s0.toNatClampNeg) < 6 := by have hz := inb_lt hg6; omega
      refine j_aald (pc := 50) (n := 4) (a := Ad E 11 (2 + s0.toNatClampNeg)) X (by decide) rfl hg6 rfl dX0_takeBack_50 ?_
      obtain ⟨G9, hc10, h⟩ := bd_s h
      refine j_callV (pc := 51) X (tX4_copyFrom l hE G i1 hi1 (2 + s0.toNatClampNeg) hs7 hc10) muX4_copyFrom hi1 q257 rfl rfl (Nat.le_of_ble_eq_true rfl) ⟨Nat.le_of_ble_eq_true rfl, Nat.le_of_ble_eq_true rfl⟩ dX0_takeBack_51 ?_
      refine j_aload_n (pc := 54) X dX0_takeBack_54 rfl 0 rfl ?_
      refine j_iload_n (pc := 55) X dX0_takeBack_55 rfl 2 rfl ?_
      obtain ⟨G11, hG11, h⟩ := st3_s h
      refine j_put (pc := 56) X hG11 gf_X0_22 tyX0 tyX0_ok nmX0 (by decide) rfl rfl (Nat.le_of_ble_eq_true rfl) rfl rfl rfl dX0_takeBack_56 ?_
      refine j_aload_n (pc := 59) X dX0_takeBack_59 rfl 0 rfl ?_
      refine j_dup (pc := 60) X dX0_takeBack_60 rfl ?_
      refine j_get (pc := 61) (v := .int (G11 12 0 1)) X gf_X0_18 (by decide) rfl rfl dX0_takeBack_61 ?_
      refine j_iconst (pc := 64) (v := 1) X dX0_takeBack_64 (by decide) ?_
      refine j_isub (pc := 65) X dX0_takeBack_65 ?_
      obtain ⟨G12, hG12, h⟩ := st3_s h
      refine j_put (pc := 66) X hG12 gf_X0_18 tyX0 tyX0_ok nmX0 (by decide) rfl rfl (Nat.le_of_ble_eq_true rfl) rfl rfl rfl dX0_takeBack_66 ?_
      exact j_vret (pc := 69) X hr hk (Option.some.inj h) dX0_takeBack_69
set_option maxHeartbeats 4000000 in
set_option maxRecDepth 100000 in
theorem tX0_takeBack (l : Launch) {E : ET} (hE : Aj E) (G : GT) (i1 : Nat) (hi1 : i1 < cnt 11) {G' : GT} (h : fX0_takeBack G i1 = some G') : CV l E yX0_takeBack cX0_takeBack 3 none 2 [.ref (Ad E 12 0), .ref (Ad E 11 i1)] G G' := by
  refine Met_V (lv := [(0, .ref (Ad E 12 0)), (1, .ref (Ad E 11 i1))]) (by decide +kernel) hE (Nat.le_of_ble_eq_true rfl) rfl ?_
  intro p e s m args below meth c X hr hk
  unfold fX0_takeBack at h
  refine j_aload_n (pc := 0) X dX0_takeBack_0 rfl 0 rfl ?_
  refine j_get (pc := 1) (v := .int (G 12 0 2)) X gf_X0_22 (by decide) rfl rfl dX0_takeBack_1 ?_
  refine j_if_ne (pc := 4) (tgt := 11) X dX0_takeBack_4 (by decide) (fun hc => ?_) (fun hc => ?_)
  · rw [if_neg hc] at h
    refine j_aload_n (pc := 11) X dX0_takeBack_11 rfl 0 rfl ?_
    refine j_get (pc := 12) (v := .int (G 12 0 2)) X gf_X0_22 (by decide) rfl rfl dX0_takeBack_12 ?_
    refine j_iconst (pc := 15) (v := 1) X dX0_takeBack_15 (by decide) ?_
    refine j_isub (pc := 16) X dX0_takeBack_16 ?_
    exact tX0_takeBack_17 l hE X hr hk G i1 hi1 ((G 12 0 2) - (1 : Int32)) h
  · rw [if_pos hc] at h
    refine j_iconst (pc := 7) (v := 3) X dX0_takeBack_7 (by decide) ?_
    refine j_goto (pc := 8) (tgt := 17) X dX0_takeBack_8 (by decide) ?_
    exact tX0_takeBack_17 l hE X hr hk G i1 hi1 (3 : Int32) h
theorem dX7_isLearner_0 : decode cX7_isLearner 0 = .ok (.iload_n 0, 1) := by decide +kernel
theorem dX7_isLearner_1 : decode cX7_isLearner 1 = .ok (.iconst 0, 1) := by decide +kernel
theorem dX7_isLearner_2 : decode cX7_isLearner 2 = .ok (.iconst 5, 1) := by decide +kernel
theorem dX7_isLearner_3 : decode cX7_isLearner 3 = .ok (.invokestatic 58, 3) := by decide +kernel
theorem dX7_isLearner_6 : decode cX7_isLearner 6 = .ok (.ireturn, 1) := by decide +kernel
set_option maxHeartbeats 4000000 in
set_option maxRecDepth 100000 in
theorem tX7_isLearner (l : Launch) {E : ET} (hE : Aj E) (G : GT) (a0 : Int32) {r : Int32} (h : fX7_isLearner a0 = some r) : CI l E yX7_isLearner cX7_isLearner 1 (some .boolean) 1 [.int a0] G r G := by
  refine Met_I (lv := [(0, .int a0)]) (by decide +kernel) hE (Nat.le_of_ble_eq_true rfl) rfl ?_
  intro p e s m args below meth c X hr hk
  unfold fX7_isLearner at h
  refine j_iload_n (pc := 0) X dX7_isLearner_0 rfl 0 rfl ?_
  refine j_iconst (pc := 1) (v := 0) X dX7_isLearner_1 (by decide) ?_
  refine j_iconst (pc := 2) (v := 5) X dX7_isLearner_2 (by decide) ?_
  obtain ⟨r1, hc3, h⟩ := bd_s h
  refine j_staI (pc := 3) X (tX7_isWithin l hE G a0 (0 : Int32) (5 : Int32) hc3) muX7_isWithin (Or.inl q240) rfl rfl (Nat.le_of_ble_eq_true rfl) ⟨Nat.le_of_ble_eq_true rfl, Nat.le_of_ble_eq_true rfl⟩ dX7_isLearner_3 ?_
  obtain ⟨hg4, h⟩ := gd_s h
  exact j_ret (pc := 6) X hr hk (of_decide_eq_true hg4) (Option.some.inj h) rfl dX7_isLearner_6
theorem dX1_areThere_0 : decode cX1_areThere 0 = .ok (.iload_n 0, 1) := by decide +kernel
theorem dX1_areThere_1 : decode cX1_areThere 1 = .ok (.invokestatic 25, 3) := by decide +kernel
theorem dX1_areThere_4 : decode cX1_areThere 4 = .ok (.ifCond .eq 17, 3) := by decide +kernel
theorem dX1_areThere_7 : decode cX1_areThere 7 = .ok (.iload_n 1, 1) := by decide +kernel
theorem dX1_areThere_8 : decode cX1_areThere 8 = .ok (.iconst 0, 1) := by decide +kernel
theorem dX1_areThere_9 : decode cX1_areThere 9 = .ok (.bipush 15, 2) := by decide +kernel
theorem dX1_areThere_11 : decode cX1_areThere 11 = .ok (.invokestatic 29, 3) := by decide +kernel
theorem dX1_areThere_14 : decode cX1_areThere 14 = .ok (.ifCond .eq 7, 3) := by decide +kernel
theorem dX1_areThere_17 : decode cX1_areThere 17 = .ok (.iconst 1, 1) := by decide +kernel
theorem dX1_areThere_18 : decode cX1_areThere 18 = .ok (.goto 4, 3) := by decide +kernel
theorem dX1_areThere_21 : decode cX1_areThere 21 = .ok (.iconst 0, 1) := by decide +kernel
theorem dX1_areThere_22 : decode cX1_areThere 22 = .ok (.ireturn, 1) := by decide +kernel
set_option maxHeartbeats 4000000 in
set_option maxRecDepth 100000 in
theorem tX1_areThere (l : Launch) {E : ET} (hE : Aj E) (G : GT) (a0 : Int32) (a1 : Int32) {r : Int32} (h : fX1_areThere a0 a1 = some r) : CI l E yX1_areThere cX1_areThere 2 (some .boolean) 2 [.int a0, .int a1] G r G := by
  refine Met_I (lv := [(0, .int a0), (1, .int a1)]) (by decide +kernel) hE (Nat.le_of_ble_eq_true rfl) rfl ?_
  intro p e s m args below meth c X hr hk
  unfold fX1_areThere at h
  refine j_iload_n (pc := 0) X dX1_areThere_0 rfl 0 rfl ?_
  obtain ⟨r1, hc3, h⟩ := bd_s h
  refine j_staI (pc := 1) X (tX7_isLearner l hE G a0 hc3) muX7_isLearner (Or.inr ⟨_, q437⟩) rfl rfl (Nat.le_of_ble_eq_true rfl) ⟨Nat.le_of_ble_eq_true rfl, Nat.le_of_ble_eq_true rfl⟩ dX1_areThere_1 ?_
  refine j_if_eq (pc := 4) (tgt := 21) X dX1_areThere_4 (by decide) (fun hc => ?_) (fun hc => ?_)
  · rw [if_pos hc] at h
    refine j_iconst (pc := 21) (v := 0) X dX1_areThere_21 (by decide) ?_
    exact j_ret (pc := 22) X hr hk rfl (Option.some.inj h) rfl dX1_areThere_22
  · rw [if_neg hc] at h
    refine j_iload_n (pc := 7) X dX1_areThere_7 rfl 1 rfl ?_
    refine j_iconst (pc := 8) (v := 0) X dX1_areThere_8 (by decide) ?_
    refine j_bipush (pc := 9) (v := 15) X dX1_areThere_9 (by decide) ?_
    obtain ⟨r4, hc6, h⟩ := bd_s h
    refine j_staI (pc := 11) X (tX7_isWithin l hE G a1 (0 : Int32) (15 : Int32) hc6) muX7_isWithin (Or.inr ⟨_, q440⟩) rfl rfl (Nat.le_of_ble_eq_true rfl) ⟨Nat.le_of_ble_eq_true rfl, Nat.le_of_ble_eq_true rfl⟩ dX1_areThere_11 ?_
    refine j_if_eq (pc := 14) (tgt := 21) X dX1_areThere_14 (by decide) (fun hc => ?_) (fun hc => ?_)
    · rw [if_pos hc] at h
      refine j_iconst (pc := 21) (v := 0) X dX1_areThere_21 (by decide) ?_
      exact j_ret (pc := 22) X hr hk rfl (Option.some.inj h) rfl dX1_areThere_22
    · rw [if_neg hc] at h
      refine j_iconst (pc := 17) (v := 1) X dX1_areThere_17 (by decide) ?_
      refine j_goto (pc := 18) (tgt := 22) X dX1_areThere_18 (by decide) ?_
      exact j_ret (pc := 22) X hr hk rfl (Option.some.inj h) rfl dX1_areThere_22
theorem dX1_timesHeard_0 : decode cX1_timesHeard 0 = .ok (.iload_n 1, 1) := by decide +kernel
theorem dX1_timesHeard_1 : decode cX1_timesHeard 1 = .ok (.iload_n 2, 1) := by decide +kernel
theorem dX1_timesHeard_2 : decode cX1_timesHeard 2 = .ok (.invokestatic 33, 3) := by decide +kernel
theorem dX1_timesHeard_5 : decode cX1_timesHeard 5 = .ok (.ifCond .eq 17, 3) := by decide +kernel
theorem dX1_timesHeard_8 : decode cX1_timesHeard 8 = .ok (.aload_n 0, 1) := by decide +kernel
theorem dX1_timesHeard_9 : decode cX1_timesHeard 9 = .ok (.getfield 15, 3) := by decide +kernel
theorem dX1_timesHeard_12 : decode cX1_timesHeard 12 = .ok (.iload_n 1, 1) := by decide +kernel
theorem dX1_timesHeard_13 : decode cX1_timesHeard 13 = .ok (.bipush 16, 2) := by decide +kernel
theorem dX1_timesHeard_15 : decode cX1_timesHeard 15 = .ok (.imul, 1) := by decide +kernel
theorem dX1_timesHeard_16 : decode cX1_timesHeard 16 = .ok (.iload_n 2, 1) := by decide +kernel
theorem dX1_timesHeard_17 : decode cX1_timesHeard 17 = .ok (.iadd, 1) := by decide +kernel
theorem dX1_timesHeard_18 : decode cX1_timesHeard 18 = .ok (.iaload, 1) := by decide +kernel
theorem dX1_timesHeard_19 : decode cX1_timesHeard 19 = .ok (.goto 4, 3) := by decide +kernel
theorem dX1_timesHeard_22 : decode cX1_timesHeard 22 = .ok (.iconst 0, 1) := by decide +kernel
theorem dX1_timesHeard_23 : decode cX1_timesHeard 23 = .ok (.ireturn, 1) := by decide +kernel
set_option maxHeartbeats 4000000 in
set_option maxRecDepth 100000 in
theorem tX1_timesHeard (l : Launch) {E : ET} (hE : Aj E) (G : GT) (i0 : Nat) (hi0 : i0 < cnt 7) (a1 : Int32) (a2 : Int32) {r : Int32} (h : fX1_timesHeard G i0 a1 a2 = some r) : CI l E yX1_timesHeard cX1_timesHeard 3 (some .int) 3 [.ref (Ad E 7 i0), .int a1, .int a2] G r G := by
  refine Met_I (lv := [(0, .ref (Ad E 7 i0)), (1, .int a1), (2, .int a2)]) (by decide +kernel) hE (Nat.le_of_ble_eq_true rfl) rfl ?_
  intro p e s m args below meth c X hr hk
  unfold fX1_timesHeard at h
  refine j_iload_n (pc := 0) X dX1_timesHeard_0 rfl 1 rfl ?_
  refine j_iload_n (pc := 1) X dX1_timesHeard_1 rfl 2 rfl ?_
  obtain ⟨r1, hc3, h⟩ := bd_s h
  refine j_staI (pc := 2) X (tX1_areThere l hE G a1 a2 hc3) muX1_areThere (Or.inl q434) rfl rfl (Nat.le_of_ble_eq_true rfl) ⟨Nat.le_of_ble_eq_true rfl, Nat.le_of_ble_eq_true rfl⟩ dX1_timesHeard_2 ?_
  refine j_if_eq (pc := 5) (tgt := 22) X dX1_timesHeard_5 (by decide) (fun hc => ?_) (fun hc => ?_)
  · rw [if_pos hc] at h
    refine j_iconst (pc := 22) (v := 0) X dX1_timesHeard_22 (by decide) ?_
    exact j_ret (pc := 23) X hr hk (vp_nar_int _) (Option.some.inj h) rfl dX1_timesHeard_23
  · rw [if_neg hc] at h
    refine j_aload_n (pc := 8) X dX1_timesHeard_8 rfl 0 rfl ?_
    refine j_get (pc := 9) (v := .ref (Ad E 8 i0)) X gf_X1_15 hi0 rfl rfl dX1_timesHeard_9 ?_
    refine j_iload_n (pc := 12) X dX1_timesHeard_12 rfl 1 rfl ?_
    refine j_bipush (pc := 13) (v := 16) X dX1_timesHeard_13 (by decide) ?_
    refine j_imul (pc := 15) X dX1_timesHeard_15 ?_
    refine j_iload_n (pc := 16) X dX1_timesHeard_16 rfl 2 rfl ?_
    refine j_iadd (pc := 17) X dX1_timesHeard_17 ?_
    obtain ⟨hg4, h⟩ := gd_s h
    refine j_iald (pc := 18) (n := 96) X hi0 rfl hg4 dX1_timesHeard_18 ?_
    refine j_goto (pc := 19) (tgt := 23) X dX1_timesHeard_19 (by decide) ?_
    exact j_ret (pc := 23) X hr hk (vp_nar_int _) (Option.some.inj h) rfl dX1_timesHeard_23
theorem dX1_hear_0 : decode cX1_hear 0 = .ok (.iload_n 1, 1) := by decide +kernel
theorem dX1_hear_1 : decode cX1_hear 1 = .ok (.iload_n 2, 1) := by decide +kernel
theorem dX1_hear_2 : decode cX1_hear 2 = .ok (.invokestatic 33, 3) := by decide +kernel
theorem dX1_hear_5 : decode cX1_hear 5 = .ok (.ifCond .eq 18, 3) := by decide +kernel
theorem dX1_hear_8 : decode cX1_hear 8 = .ok (.aload_n 0, 1) := by decide +kernel
theorem dX1_hear_9 : decode cX1_hear 9 = .ok (.getfield 15, 3) := by decide +kernel
theorem dX1_hear_12 : decode cX1_hear 12 = .ok (.iload_n 1, 1) := by decide +kernel
theorem dX1_hear_13 : decode cX1_hear 13 = .ok (.bipush 16, 2) := by decide +kernel
theorem dX1_hear_15 : decode cX1_hear 15 = .ok (.imul, 1) := by decide +kernel
theorem dX1_hear_16 : decode cX1_hear 16 = .ok (.iload_n 2, 1) := by decide +kernel
theorem dX1_hear_17 : decode cX1_hear 17 = .ok (.iadd, 1) := by decide +kernel
theorem dX1_hear_18 : decode cX1_hear 18 = .ok (.dup2, 1) := by decide +kernel
theorem dX1_hear_19 : decode cX1_hear 19 = .ok (.iaload, 1) := by decide +kernel
theorem dX1_hear_20 : decode cX1_hear 20 = .ok (.iload_n 3, 1) := by decide +kernel
theorem dX1_hear_21 : decode cX1_hear 21 = .ok (.iadd, 1) := by decide +kernel
theorem dX1_hear_22 : decode cX1_hear 22 = .ok (.iastore, 1) := by decide +kernel
theorem dX1_hear_23 : decode cX1_hear 23 = .ok (.return_, 1) := by decide +kernel
set_option maxHeartbeats 4000000 in
set_option maxRecDepth 100000 in
theorem tX1_hear (l : Launch) {E : ET} (hE : Aj E) (G : GT) (i0 : Nat) (hi0 : i0 < cnt 7) (a1 : Int32) (a2 : Int32) (a3 : Int32) {G' : GT} (h : fX1_hear G i0 a1 a2 a3 = some G') : CV l E yX1_hear cX1_hear 4 none 3 [.ref (Ad E 7 i0), .int a1, .int a2, .int a3] G G' := by
  refine Met_V (lv := [(0, .ref (Ad E 7 i0)), (1, .int a1), (2, .int a2), (3, .int a3)]) (by decide +kernel) hE (Nat.le_of_ble_eq_true rfl) rfl ?_
  intro p e s m args below meth c X hr hk
  unfold fX1_hear at h
  refine j_iload_n (pc := 0) X dX1_hear_0 rfl 1 rfl ?_
  refine j_iload_n (pc := 1) X dX1_hear_1 rfl 2 rfl ?_
  obtain ⟨r1, hc3, h⟩ := bd_s h
  refine j_staI (pc := 2) X (tX1_areThere l hE G a1 a2 hc3) muX1_areThere (Or.inl q434) rfl rfl (Nat.le_of_ble_eq_true rfl) ⟨Nat.le_of_ble_eq_true rfl, Nat.le_of_ble_eq_true rfl⟩ dX1_hear_2 ?_
  refine j_if_eq (pc := 5) (tgt := 23) X dX1_hear_5 (by decide) (fun hc => ?_) (fun hc => ?_)
  · rw [if_pos hc] at h
    exact j_vret (pc := 23) X hr hk (Option.some.inj h) dX1_hear_23
  · rw [if_neg hc] at h
    refine j_aload_n (pc := 8) X dX1_hear_8 rfl 0 rfl ?_
    refine j_get (pc := 9) (v := .ref (Ad E 8 i0)) X gf_X1_15 hi0 rfl rfl dX1_hear_9 ?_
    refine j_iload_n (pc := 12) X dX1_hear_12 rfl 1 rfl ?_
    refine j_bipush (pc := 13) (v := 16) X dX1_hear_13 (by decide) ?_
    refine j_imul (pc := 15) X dX1_hear_15 ?_
    refine j_iload_n (pc := 16) X dX1_hear_16 rfl 2 rfl ?_
    refine j_iadd (pc := 17) X dX1_hear_17 ?_
    refine j_dup2 (pc := 18) X dX1_hear_18 rfl rfl ?_
    obtain ⟨hg4, h⟩ := gd_s h
    refine j_iald (pc := 19) (n := 96) X hi0 rfl hg4 dX1_hear_19 ?_
    refine j_iload_n (pc := 20) X dX1_hear_20 rfl 3 rfl ?_
    refine j_iadd (pc := 21) X dX1_hear_21 ?_
    obtain ⟨hg5, h⟩ := gd_s h
    obtain ⟨G6, hG6, h⟩ := st3_s h
    refine j_iast (pc := 22) (n := 96) X hG6 hi0 (fun _ => rfl) hg5 dX1_hear_22 ?_
    exact j_vret (pc := 23) X hr hk (Option.some.inj h) dX1_hear_23
theorem dX1_knows_0 : decode cX1_knows 0 = .ok (.aload_n 0, 1) := by decide +kernel
theorem dX1_knows_1 : decode cX1_knows 1 = .ok (.iload_n 1, 1) := by decide +kernel
theorem dX1_knows_2 : decode cX1_knows 2 = .ok (.iload_n 2, 1) := by decide +kernel
theorem dX1_knows_3 : decode cX1_knows 3 = .ok (.invokevirtual 37, 3) := by decide +kernel
theorem dX1_knows_6 : decode cX1_knows 6 = .ok (.aload_n 0, 1) := by decide +kernel
theorem dX1_knows_7 : decode cX1_knows 7 = .ok (.getfield 9, 3) := by decide +kernel
theorem dX1_knows_10 : decode cX1_knows 10 = .ok (.if_icmp .lt 7, 3) := by decide +kernel
theorem dX1_knows_13 : decode cX1_knows 13 = .ok (.iconst 1, 1) := by decide +kernel
theorem dX1_knows_14 : decode cX1_knows 14 = .ok (.goto 4, 3) := by decide +kernel
theorem dX1_knows_17 : decode cX1_knows 17 = .ok (.iconst 0, 1) := by decide +kernel
theorem dX1_knows_18 : decode cX1_knows 18 = .ok (.ireturn, 1) := by decide +kernel
set_option maxHeartbeats 4000000 in
set_option maxRecDepth 100000 in
theorem tX1_knows (l : Launch) {E : ET} (hE : Aj E) (G : GT) (i0 : Nat) (hi0 : i0 < cnt 7) (a1 : Int32) (a2 : Int32) {r : Int32} (h : fX1_knows G i0 a1 a2 = some r) : CI l E yX1_knows cX1_knows 3 (some .boolean) 4 [.ref (Ad E 7 i0), .int a1, .int a2] G r G := by
  refine Met_I (lv := [(0, .ref (Ad E 7 i0)), (1, .int a1), (2, .int a2)]) (by decide +kernel) hE (Nat.le_of_ble_eq_true rfl) rfl ?_
  intro p e s m args below meth c X hr hk
  unfold fX1_knows at h
  refine j_aload_n (pc := 0) X dX1_knows_0 rfl 0 rfl ?_
  refine j_iload_n (pc := 1) X dX1_knows_1 rfl 1 rfl ?_
  refine j_iload_n (pc := 2) X dX1_knows_2 rfl 2 rfl ?_
  obtain ⟨r1, hc3, h⟩ := bd_s h
  refine j_callI (pc := 3) X (tX1_timesHeard l hE G i0 hi0 a1 a2 hc3) muX1_timesHeard hi0 q430 rfl rfl (Nat.le_of_ble_eq_true rfl) ⟨Nat.le_of_ble_eq_true rfl, Nat.le_of_ble_eq_true rfl⟩ dX1_knows_3 ?_
  refine j_aload_n (pc := 6) X dX1_knows_6 rfl 0 rfl ?_
  refine j_get (pc := 7) (v := .int (G 7 i0 0)) X gf_X1_9 hi0 rfl rfl dX1_knows_7 ?_
  refine j_icmp_lt (pc := 10) (tgt := 17) X dX1_knows_10 (by decide) (fun hc => ?_) (fun hc => ?_)
  · rw [if_pos hc] at h
    refine j_iconst (pc := 17) (v := 0) X dX1_knows_17 (by decide) ?_
    exact j_ret (pc := 18) X hr hk rfl (Option.some.inj h) rfl dX1_knows_18
  · rw [if_neg hc] at h
    refine j_iconst (pc := 13) (v := 1) X dX1_knows_13 (by decide) ?_
    refine j_goto (pc := 14) (tgt := 18) X dX1_knows_14 (by decide) ?_
    exact j_ret (pc := 18) X hr hk rfl (Option.some.inj h) rfl dX1_knows_18
theorem dX1_mostMissing_0 : decode cX1_mostMissing 0 = .ok (.iconst 0, 1) := by decide +kernel
theorem dX1_mostMissing_1 : decode cX1_mostMissing 1 = .ok (.istore_n 2, 1) := by decide +kernel
theorem dX1_mostMissing_2 : decode cX1_mostMissing 2 = .ok (.iconst 0, 1) := by decide +kernel
theorem dX1_mostMissing_3 : decode cX1_mostMissing 3 = .ok (.istore_n 3, 1) := by decide +kernel
theorem dX1_mostMissing_4 : decode cX1_mostMissing 4 = .ok (.iload_n 3, 1) := by decide +kernel
theorem dX1_mostMissing_5 : decode cX1_mostMissing 5 = .ok (.bipush 6, 2) := by decide +kernel
theorem dX1_mostMissing_7 : decode cX1_mostMissing 7 = .ok (.if_icmp .ge 25, 3) := by decide +kernel
theorem dX1_mostMissing_10 : decode cX1_mostMissing 10 = .ok (.iload_n 2, 1) := by decide +kernel
theorem dX1_mostMissing_11 : decode cX1_mostMissing 11 = .ok (.aload_n 0, 1) := by decide +kernel
theorem dX1_mostMissing_12 : decode cX1_mostMissing 12 = .ok (.getfield 9, 3) := by decide +kernel
theorem dX1_mostMissing_15 : decode cX1_mostMissing 15 = .ok (.aload_n 0, 1) := by decide +kernel
theorem dX1_mostMissing_16 : decode cX1_mostMissing 16 = .ok (.iload_n 3, 1) := by decide +kernel
theorem dX1_mostMissing_17 : decode cX1_mostMissing 17 = .ok (.iload_n 1, 1) := by decide +kernel
theorem dX1_mostMissing_18 : decode cX1_mostMissing 18 = .ok (.invokevirtual 37, 3) := by decide +kernel
theorem dX1_mostMissing_21 : decode cX1_mostMissing 21 = .ok (.isub, 1) := by decide +kernel
theorem dX1_mostMissing_22 : decode cX1_mostMissing 22 = .ok (.invokestatic 41, 3) := by decide +kernel
theorem dX1_mostMissing_25 : decode cX1_mostMissing 25 = .ok (.istore_n 2, 1) := by decide +kernel
theorem dX1_mostMissing_26 : decode cX1_mostMissing 26 = .ok (.iinc 3 1, 3) := by decide +kernel
theorem dX1_mostMissing_29 : decode cX1_mostMissing 29 = .ok (.goto (-25), 3) := by decide +kernel
theorem dX1_mostMissing_32 : decode cX1_mostMissing 32 = .ok (.iload_n 2, 1) := by decide +kernel
theorem dX1_mostMissing_33 : decode cX1_mostMissing 33 = .ok (.ireturn, 1) := by decide +kernel
set_option maxHeartbeats 4000000 in
set_option maxRecDepth 100000 in
theorem tX1_mostMissing_4 (l : Launch) {E : ET} (hE : Aj E) {p : Program} {e : Env} {s : State} {m : MethodId} {args : Array Value} {below : List Frame} {meth : Method} {c : Code} (X : Cx p (rmL 4) s m args c yX1_mostMissing.cls cX1_mostMissing 4 E (Aw E) 0 0) (hr : meth.sig.returnType = (some .int)) (hk : meth.locks = false) {r : Int32} (G : GT) (i0 : Nat) (hi0 : i0 < cnt 7) (a1 : Int32) : ∀ (n : Nat) (a2 a3 : Int32), fX1_mostMissing_4 G i0 a1 n a2 a3 = some r → J p l e (rmL 4) s m args below meth c E (Aw E) s.heap 4 0 0 (MQ below (QI E r G) args s 0 0 (Aw E)) G 4 [(0, .ref (Ad E 7 i0)), (1, .int a1), (2, .int a2), (3, .int a3)] [] := by
  intro n
  induction n with
  | zero =>
    intro a2 a3 h
    simp [fX1_mostMissing_4] at h
  | succ n ih =>
    intro a2 a3 h
    rw [fX1_mostMissing_4] at h
    refine j_iload_n (pc := 4) X dX1_mostMissing_4 rfl 3 rfl ?_
    refine j_bipush (pc := 5) (v := 6) X dX1_mostMissing_5 (by decide) ?_
    refine j_icmp_ge (pc := 7) (tgt := 32) X dX1_mostMissing_7 (by decide) (fun hc => ?_) (fun hc => ?_)
    · rw [if_pos hc] at h
      refine j_iload_n (pc := 32) X dX1_mostMissing_32 rfl 2 rfl ?_
      exact j_ret (pc := 33) X hr hk (vp_nar_int _) (Option.some.inj h) rfl dX1_mostMissing_33
    · rw [if_neg hc] at h
      refine j_iload_n (pc := 10) X dX1_mostMissing_10 rfl 2 rfl ?_
      refine j_aload_n (pc := 11) X dX1_mostMissing_11 rfl 0 rfl ?_
      refine j_get (pc := 12) (v := .int (G 7 i0 0)) X gf_X1_9 hi0 rfl rfl dX1_mostMissing_12 ?_
      refine j_aload_n (pc := 15) X dX1_mostMissing_15 rfl 0 rfl ?_
      refine j_iload_n (pc := 16) X dX1_mostMissing_16 rfl 3 rfl ?_
      refine j_iload_n (pc := 17) X dX1_mostMissing_17 rfl 1 rfl ?_
      obtain ⟨r1, hc3, h⟩ := bd_s h
      refine j_callI (pc := 18) X (tX1_timesHeard l hE G i0 hi0 a3 a1 hc3) muX1_timesHeard hi0 q430 rfl rfl (Nat.le_of_ble_eq_true rfl) ⟨Nat.le_of_ble_eq_true rfl, Nat.le_of_ble_eq_true rfl⟩ dX1_mostMissing_18 ?_
      refine j_isub (pc := 21) X dX1_mostMissing_21 ?_
      refine j_mmax (pc := 22) X (q636) ⟨Nat.le_of_ble_eq_true rfl, Nat.le_of_ble_eq_true rfl⟩ dX1_mostMissing_22 ?_
      refine j_istore_n (pc := 25) (lv' := [(0, .ref (Ad E 7 i0)), (1, .int a1), (2, .int (imax a2 ((G 7 i0 0) - r1))), (3, .int a3)]) X dX1_mostMissing_25 rfl (by decide) rfl ?_
      refine j_iinc (pc := 26) (q := 3) (v := (a3 + (1 : Int32))) (lv' := [(0, .ref (Ad E 7 i0)), (1, .int a1), (2, .int (imax a2 ((G 7 i0 0) - r1))), (3, .int (a3 + (1 : Int32)))]) X dX1_mostMissing_26 rfl rfl (by decide) rfl ?_
      refine j_goto (pc := 29) (tgt := 4) X dX1_mostMissing_29 (by decide) ?_
      exact ih (imax a2 ((G 7 i0 0) - r1)) (a3 + (1 : Int32)) h
set_option maxHeartbeats 4000000 in
set_option maxRecDepth 100000 in
theorem tX1_mostMissing (l : Launch) {E : ET} (hE : Aj E) (G : GT) (i0 : Nat) (hi0 : i0 < cnt 7) (a1 : Int32) {r : Int32} (h : fX1_mostMissing G i0 a1 = some r) : CI l E yX1_mostMissing cX1_mostMissing 4 (some .int) 4 [.ref (Ad E 7 i0), .int a1] G r G := by
  refine Met_I (lv := [(0, .ref (Ad E 7 i0)), (1, .int a1)]) (by decide +kernel) hE (Nat.le_of_ble_eq_true rfl) rfl ?_
  intro p e s m args below meth c X hr hk
  unfold fX1_mostMissing at h
  refine j_iconst (pc := 0) (v := 0) X dX1_mostMissing_0 (by decide) ?_
  refine j_istore_n (pc := 1) (lv' := [(0, .ref (Ad E 7 i0)), (1, .int a1), (2, .int (0 : Int32))]) X dX1_mostMissing_1 rfl (by decide) rfl ?_
  refine j_iconst (pc := 2) (v := 0) X dX1_mostMissing_2 (by decide) ?_
  refine j_istore_n (pc := 3) (lv' := [(0, .ref (Ad E 7 i0)), (1, .int a1), (2, .int (0 : Int32)), (3, .int (0 : Int32))]) X dX1_mostMissing_3 rfl (by decide) rfl ?_
  exact tX1_mostMissing_4 l hE X hr hk G i0 hi0 a1 FU (0 : Int32) (0 : Int32) h
theorem dX1_whoKnow_0 : decode cX1_whoKnow 0 = .ok (.iconst 0, 1) := by decide +kernel
theorem dX1_whoKnow_1 : decode cX1_whoKnow 1 = .ok (.istore_n 2, 1) := by decide +kernel
theorem dX1_whoKnow_2 : decode cX1_whoKnow 2 = .ok (.iconst 0, 1) := by decide +kernel
theorem dX1_whoKnow_3 : decode cX1_whoKnow 3 = .ok (.istore_n 3, 1) := by decide +kernel
theorem dX1_whoKnow_4 : decode cX1_whoKnow 4 = .ok (.iload_n 3, 1) := by decide +kernel
theorem dX1_whoKnow_5 : decode cX1_whoKnow 5 = .ok (.bipush 6, 2) := by decide +kernel
theorem dX1_whoKnow_7 : decode cX1_whoKnow 7 = .ok (.if_icmp .ge 24, 3) := by decide +kernel
theorem dX1_whoKnow_10 : decode cX1_whoKnow 10 = .ok (.aload_n 0, 1) := by decide +kernel
theorem dX1_whoKnow_11 : decode cX1_whoKnow 11 = .ok (.iload_n 3, 1) := by decide +kernel
theorem dX1_whoKnow_12 : decode cX1_whoKnow 12 = .ok (.iload_n 1, 1) := by decide +kernel
theorem dX1_whoKnow_13 : decode cX1_whoKnow 13 = .ok (.invokevirtual 46, 3) := by decide +kernel
theorem dX1_whoKnow_16 : decode cX1_whoKnow 16 = .ok (.ifCond .eq 9, 3) := by decide +kernel
theorem dX1_whoKnow_19 : decode cX1_whoKnow 19 = .ok (.iload_n 2, 1) := by decide +kernel
theorem dX1_whoKnow_20 : decode cX1_whoKnow 20 = .ok (.iconst 1, 1) := by decide +kernel
theorem dX1_whoKnow_21 : decode cX1_whoKnow 21 = .ok (.iload_n 3, 1) := by decide +kernel
theorem dX1_whoKnow_22 : decode cX1_whoKnow 22 = .ok (.ishl, 1) := by decide +kernel
theorem dX1_whoKnow_23 : decode cX1_whoKnow 23 = .ok (.ior, 1) := by decide +kernel
theorem dX1_whoKnow_24 : decode cX1_whoKnow 24 = .ok (.istore_n 2, 1) := by decide +kernel
theorem dX1_whoKnow_25 : decode cX1_whoKnow 25 = .ok (.iinc 3 1, 3) := by decide +kernel
theorem dX1_whoKnow_28 : decode cX1_whoKnow 28 = .ok (.goto (-24), 3) := by decide +kernel
theorem dX1_whoKnow_31 : decode cX1_whoKnow 31 = .ok (.iload_n 2, 1) := by decide +kernel
theorem dX1_whoKnow_32 : decode cX1_whoKnow 32 = .ok (.ireturn, 1) := by decide +kernel
set_option maxHeartbeats 4000000 in
set_option maxRecDepth 100000 in
theorem tX1_whoKnow_4 (l : Launch) {E : ET} (hE : Aj E) {p : Program} {e : Env} {s : State} {m : MethodId} {args : Array Value} {below : List Frame} {meth : Method} {c : Code} (X : Cx p (rmL 5) s m args c yX1_whoKnow.cls cX1_whoKnow 4 E (Aw E) 0 0) (hr : meth.sig.returnType = (some .int)) (hk : meth.locks = false) {r : Int32} (G : GT) (i0 : Nat) (hi0 : i0 < cnt 7) (a1 : Int32) : ∀ (n : Nat) (a2 a3 : Int32), fX1_whoKnow_4 G i0 a1 n a2 a3 = some r → J p l e (rmL 5) s m args below meth c E (Aw E) s.heap 4 0 0 (MQ below (QI E r G) args s 0 0 (Aw E)) G 4 [(0, .ref (Ad E 7 i0)), (1, .int a1), (2, .int a2), (3, .int a3)] [] := by
  intro n
  induction n with
  | zero =>
    intro a2 a3 h
    simp [fX1_whoKnow_4] at h
  | succ n ih =>
    intro a2 a3 h
    rw [fX1_whoKnow_4] at h
    refine j_iload_n (pc := 4) X dX1_whoKnow_4 rfl 3 rfl ?_
    refine j_bipush (pc := 5) (v := 6) X dX1_whoKnow_5 (by decide) ?_
    refine j_icmp_ge (pc := 7) (tgt := 31) X dX1_whoKnow_7 (by decide) (fun hc => ?_) (fun hc => ?_)
    · rw [if_pos hc] at h
      refine j_iload_n (pc := 31) X dX1_whoKnow_31 rfl 2 rfl ?_
      exact j_ret (pc := 32) X hr hk (vp_nar_int _) (Option.some.inj h) rfl dX1_whoKnow_32
    · rw [if_neg hc] at h
      refine j_aload_n (pc := 10) X dX1_whoKnow_10 rfl 0 rfl ?_
      refine j_iload_n (pc := 11) X dX1_whoKnow_11 rfl 3 rfl ?_
      refine j_iload_n (pc := 12) X dX1_whoKnow_12 rfl 1 rfl ?_
      obtain ⟨r1, hc3, h⟩ := bd_s h
      refine j_callI (pc := 13) X (tX1_knows l hE G i0 hi0 a3 a1 hc3) muX1_knows hi0 q581 rfl rfl (Nat.le_of_ble_eq_true rfl) ⟨Nat.le_of_ble_eq_true rfl, Nat.le_of_ble_eq_true rfl⟩ dX1_whoKnow_13 ?_
      refine j_if_eq (pc := 16) (tgt := 25) X dX1_whoKnow_16 (by decide) (fun hc => ?_) (fun hc => ?_)
      · rw [if_pos hc] at h
        refine j_iinc (pc := 25) (q := 3) (v := (a3 + (1 : Int32))) (lv' := [(0, .ref (Ad E 7 i0)), (1, .int a1), (2, .int a2), (3, .int (a3 + (1 : Int32)))]) X dX1_whoKnow_25 rfl rfl (by decide) rfl ?_
        refine j_goto (pc := 28) (tgt := 4) X dX1_whoKnow_28 (by decide) ?_
        exact ih a2 (a3 + (1 : Int32)) h
      · rw [if_neg hc] at h
        refine j_iload_n (pc := 19) X dX1_whoKnow_19 rfl 2 rfl ?_
        refine j_iconst (pc := 20) (v := 1) X dX1_whoKnow_20 (by decide) ?_
        refine j_iload_n (pc := 21) X dX1_whoKnow_21 rfl 3 rfl ?_
        refine j_ishl (pc := 22) X dX1_whoKnow_22 ?_
        refine j_ior (pc := 23) X dX1_whoKnow_23 ?_
        refine j_istore_n (pc := 24) (lv' := [(0, .ref (Ad E 7 i0)), (1, .int a1), (2, .int (a2 ||| ((1 : Int32) <<< (a3 &&& 31)))), (3, .int a3)]) X dX1_whoKnow_24 rfl (by decide) rfl ?_
        refine j_iinc (pc := 25) (q := 3) (v := (a3 + (1 : Int32))) (lv' := [(0, .ref (Ad E 7 i0)), (1, .int a1), (2, .int (a2 ||| ((1 : Int32) <<< (a3 &&& 31)))), (3, .int (a3 + (1 : Int32)))]) X dX1_whoKnow_25 rfl rfl (by decide) rfl ?_
        refine j_goto (pc := 28) (tgt := 4) X dX1_whoKnow_28 (by decide) ?_
        exact ih (a2 ||| ((1 : Int32) <<< (a3 &&& 31))) (a3 + (1 : Int32)) h
set_option maxHeartbeats 4000000 in
set_option maxRecDepth 100000 in
theorem tX1_whoKnow (l : Launch) {E : ET} (hE : Aj E) (G : GT) (i0 : Nat) (hi0 : i0 < cnt 7) (a1 : Int32) {r : Int32} (h : fX1_whoKnow G i0 a1 = some r) : CI l E yX1_whoKnow cX1_whoKnow 4 (some .int) 5 [.ref (Ad E 7 i0), .int a1] G r G := by
  refine Met_I (lv := [(0, .ref (Ad E 7 i0)), (1, .int a1)]) (by decide +kernel) hE (Nat.le_of_ble_eq_true rfl) rfl ?_
  intro p e s m args below meth c X hr hk
  unfold fX1_whoKnow at h
  refine j_iconst (pc := 0) (v := 0) X dX1_whoKnow_0 (by decide) ?_
  refine j_istore_n (pc := 1) (lv' := [(0, .ref (Ad E 7 i0)), (1, .int a1), (2, .int (0 : Int32))]) X dX1_whoKnow_1 rfl (by decide) rfl ?_
  refine j_iconst (pc := 2) (v := 0) X dX1_whoKnow_2 (by decide) ?_
  refine j_istore_n (pc := 3) (lv' := [(0, .ref (Ad E 7 i0)), (1, .int a1), (2, .int (0 : Int32)), (3, .int (0 : Int32))]) X dX1_whoKnow_3 rfl (by decide) rfl ?_
  exact tX1_whoKnow_4 l hE X hr hk G i0 hi0 a1 FU (0 : Int32) (0 : Int32) h
theorem dX1_knownBy_0 : decode cX1_knownBy 0 = .ok (.iconst 0, 1) := by decide +kernel
theorem dX1_knownBy_1 : decode cX1_knownBy 1 = .ok (.istore_n 3, 1) := by decide +kernel
theorem dX1_knownBy_2 : decode cX1_knownBy 2 = .ok (.iconst 0, 1) := by decide +kernel
theorem dX1_knownBy_3 : decode cX1_knownBy 3 = .ok (.istore 4, 2) := by decide +kernel
theorem dX1_knownBy_5 : decode cX1_knownBy 5 = .ok (.iload 4, 2) := by decide +kernel
theorem dX1_knownBy_7 : decode cX1_knownBy 7 = .ok (.bipush 16, 2) := by decide +kernel
theorem dX1_knownBy_9 : decode cX1_knownBy 9 = .ok (.if_icmp .ge 32, 3) := by decide +kernel
theorem dX1_knownBy_12 : decode cX1_knownBy 12 = .ok (.iload 4, 2) := by decide +kernel
theorem dX1_knownBy_14 : decode cX1_knownBy 14 = .ok (.iload_n 2, 1) := by decide +kernel
theorem dX1_knownBy_15 : decode cX1_knownBy 15 = .ok (.if_icmp .ge 26, 3) := by decide +kernel
theorem dX1_knownBy_18 : decode cX1_knownBy 18 = .ok (.aload_n 0, 1) := by decide +kernel
theorem dX1_knownBy_19 : decode cX1_knownBy 19 = .ok (.iload_n 1, 1) := by decide +kernel
theorem dX1_knownBy_20 : decode cX1_knownBy 20 = .ok (.iload 4, 2) := by decide +kernel
theorem dX1_knownBy_22 : decode cX1_knownBy 22 = .ok (.invokevirtual 46, 3) := by decide +kernel
theorem dX1_knownBy_25 : decode cX1_knownBy 25 = .ok (.ifCond .eq 10, 3) := by decide +kernel
theorem dX1_knownBy_28 : decode cX1_knownBy 28 = .ok (.iload_n 3, 1) := by decide +kernel
theorem dX1_knownBy_29 : decode cX1_knownBy 29 = .ok (.iconst 1, 1) := by decide +kernel
theorem dX1_knownBy_30 : decode cX1_knownBy 30 = .ok (.iload 4, 2) := by decide +kernel
theorem dX1_knownBy_32 : decode cX1_knownBy 32 = .ok (.ishl, 1) := by decide +kernel
theorem dX1_knownBy_33 : decode cX1_knownBy 33 = .ok (.ior, 1) := by decide +kernel
theorem dX1_knownBy_34 : decode cX1_knownBy 34 = .ok (.istore_n 3, 1) := by decide +kernel
theorem dX1_knownBy_35 : decode cX1_knownBy 35 = .ok (.iinc 4 1, 3) := by decide +kernel
theorem dX1_knownBy_38 : decode cX1_knownBy 38 = .ok (.goto (-33), 3) := by decide +kernel
theorem dX1_knownBy_41 : decode cX1_knownBy 41 = .ok (.iload_n 3, 1) := by decide +kernel
theorem dX1_knownBy_42 : decode cX1_knownBy 42 = .ok (.ireturn, 1) := by decide +kernel
set_option maxHeartbeats 4000000 in
set_option maxRecDepth 100000 in
theorem tX1_knownBy_5 (l : Launch) {E : ET} (hE : Aj E) {p : Program} {e : Env} {s : State} {m : MethodId} {args : Array Value} {below : List Frame} {meth : Method} {c : Code} (X : Cx p (rmL 5) s m args c yX1_knownBy.cls cX1_knownBy 5 E (Aw E) 0 0) (hr : meth.sig.returnType = (some .int)) (hk : meth.locks = false) {r : Int32} (G : GT) (i0 : Nat) (hi0 : i0 < cnt 7) (a1 : Int32) (a2 : Int32) : ∀ (n : Nat) (a3 a4 : Int32), fX1_knownBy_5 G i0 a1 a2 n a3 a4 = some r → J p l e (rmL 5) s m args below meth c E (Aw E) s.heap 5 0 0 (MQ below (QI E r G) args s 0 0 (Aw E)) G 5 [(0, .ref (Ad E 7 i0)), (1, .int a1), (2, .int a2), (3, .int a3), (4, .int a4)] [] := by
  intro n
  induction n with
  | zero =>
    intro a3 a4 h
    simp [fX1_knownBy_5] at h
  | succ n ih =>
    intro a3 a4 h
    rw [fX1_knownBy_5] at h
    refine j_iload (pc := 5) X dX1_knownBy_5 4 rfl ?_
    refine j_bipush (pc := 7) (v := 16) X dX1_knownBy_7 (by decide) ?_
    refine j_icmp_ge (pc := 9) (tgt := 41) X dX1_knownBy_9 (by decide) (fun hc => ?_) (fun hc => ?_)
    · rw [if_pos hc] at h
      refine j_iload_n (pc := 41) X dX1_knownBy_41 rfl 3 rfl ?_
      exact j_ret (pc := 42) X hr hk (vp_nar_int _) (Option.some.inj h) rfl dX1_knownBy_42
    · rw [if_neg hc] at h
      refine j_iload (pc := 12) X dX1_knownBy_12 4 rfl ?_
      refine j_iload_n (pc := 14) X dX1_knownBy_14 rfl 2 rfl ?_
      refine j_icmp_ge (pc := 15) (tgt := 41) X dX1_knownBy_15 (by decide) (fun hc => ?_) (fun hc => ?_)
      · rw [if_pos hc] at h
        refine j_iload_n (pc := 41) X dX1_knownBy_41 rfl 3 rfl ?_
        exact j_ret (pc := 42) X hr hk (vp_nar_int _) (Option.some.inj h) rfl dX1_knownBy_42
      · rw [if_neg hc] at h
        refine j_aload_n (pc := 18) X dX1_knownBy_18 rfl 0 rfl ?_
        refine j_iload_n (pc := 19) X dX1_knownBy_19 rfl 1 rfl ?_
        refine j_iload (pc := 20) X dX1_knownBy_20 4 rfl ?_
        obtain ⟨r1, hc3, h⟩ := bd_s h
        refine j_callI (pc := 22) X (tX1_knows l hE G i0 hi0 a1 a4 hc3) muX1_knows hi0 q581 rfl rfl (Nat.le_of_ble_eq_true rfl) ⟨Nat.le_of_ble_eq_true rfl, Nat.le_of_ble_eq_true rfl⟩ dX1_knownBy_22 ?_
        refine j_if_eq (pc := 25) (tgt := 35) X dX1_knownBy_25 (by decide) (fun hc => ?_) (fun hc => ?_)
        · rw [if_pos hc] at h
          refine j_iinc (pc := 35) (q := 4) (v := (a4 + (1 : Int32))) (lv' := [(0, .ref (Ad E 7 i0)), (1, .int a1), (2, .int a2), (3, .int a3), (4, .int (a4 + (1 : Int32)))]) X dX1_knownBy_35 rfl rfl (by decide) rfl ?_
          refine j_goto (pc := 38) (tgt := 5) X dX1_knownBy_38 (by decide) ?_
          exact ih a3 (a4 + (1 : Int32)) h
        · rw [if_neg hc] at h
          refine j_iload_n (pc := 28) X dX1_knownBy_28 rfl 3 rfl ?_
          refine j_iconst (pc := 29) (v := 1) X dX1_knownBy_29 (by decide) ?_
          refine j_iload (pc := 30) X dX1_knownBy_30 4 rfl ?_
          refine j_ishl (pc := 32) X dX1_knownBy_32 ?_
          refine j_ior (pc := 33) X dX1_knownBy_33 ?_
          refine j_istore_n (pc := 34) (lv' := [(0, .ref (Ad E 7 i0)), (1, .int a1), (2, .int a2), (3, .int (a3 ||| ((1 : Int32) <<< (a4 &&& 31)))), (4, .int a4)]) X dX1_knownBy_34 rfl (by decide) rfl ?_
          refine j_iinc (pc := 35) (q := 4) (v := (a4 + (1 : Int32))) (lv' := [(0, .ref (Ad E 7 i0)), (1, .int a1), (2, .int a2), (3, .int (a3 ||| ((1 : Int32) <<< (a4 &&& 31)))), (4, .int (a4 + (1 : Int32)))]) X dX1_knownBy_35 rfl rfl (by decide) rfl ?_
          refine j_goto (pc := 38) (tgt := 5) X dX1_knownBy_38 (by decide) ?_
          exact ih (a3 ||| ((1 : Int32) <<< (a4 &&& 31))) (a4 + (1 : Int32)) h
set_option maxHeartbeats 4000000 in
set_option maxRecDepth 100000 in
theorem tX1_knownBy (l : Launch) {E : ET} (hE : Aj E) (G : GT) (i0 : Nat) (hi0 : i0 < cnt 7) (a1 : Int32) (a2 : Int32) {r : Int32} (h : fX1_knownBy G i0 a1 a2 = some r) : CI l E yX1_knownBy cX1_knownBy 5 (some .int) 5 [.ref (Ad E 7 i0), .int a1, .int a2] G r G := by
  refine Met_I (lv := [(0, .ref (Ad E 7 i0)), (1, .int a1), (2, .int a2)]) (by decide +kernel) hE (Nat.le_of_ble_eq_true rfl) rfl ?_
  intro p e s m args below meth c X hr hk
  unfold fX1_knownBy at h
  refine j_iconst (pc := 0) (v := 0) X dX1_knownBy_0 (by decide) ?_
  refine j_istore_n (pc := 1) (lv' := [(0, .ref (Ad E 7 i0)), (1, .int a1), (2, .int a2), (3, .int (0 : Int32))]) X dX1_knownBy_1 rfl (by decide) rfl ?_
  refine j_iconst (pc := 2) (v := 0) X dX1_knownBy_2 (by decide) ?_
  refine j_istore (pc := 3) (lv' := [(0, .ref (Ad E 7 i0)), (1, .int a1), (2, .int a2), (3, .int (0 : Int32)), (4, .int (0 : Int32))]) X dX1_knownBy_3 (by decide) rfl ?_
  exact tX1_knownBy_5 l hE X hr hk G i0 hi0 a1 a2 FU (0 : Int32) (0 : Int32) h
theorem dX1_account_0 : decode cX1_account 0 = .ok (.iload_n 1, 1) := by decide +kernel
theorem dX1_account_1 : decode cX1_account 1 = .ok (.invokestatic 25, 3) := by decide +kernel
theorem dX1_account_4 : decode cX1_account 4 = .ok (.ifCond .ne 4, 3) := by decide +kernel
theorem dX1_account_7 : decode cX1_account 7 = .ok (.return_, 1) := by decide +kernel
theorem dX1_account_8 : decode cX1_account 8 = .ok (.iload_n 2, 1) := by decide +kernel
theorem dX1_account_9 : decode cX1_account 9 = .ok (.ifCond .eq 16, 3) := by decide +kernel
theorem dX1_account_12 : decode cX1_account 12 = .ok (.aload_n 0, 1) := by decide +kernel
theorem dX1_account_13 : decode cX1_account 13 = .ok (.getfield 19, 3) := by decide +kernel
theorem dX1_account_16 : decode cX1_account 16 = .ok (.iload_n 1, 1) := by decide +kernel
theorem dX1_account_17 : decode cX1_account 17 = .ok (.dup2, 1) := by decide +kernel
theorem dX1_account_18 : decode cX1_account 18 = .ok (.iaload, 1) := by decide +kernel
theorem dX1_account_19 : decode cX1_account 19 = .ok (.iconst 1, 1) := by decide +kernel
theorem dX1_account_20 : decode cX1_account 20 = .ok (.iadd, 1) := by decide +kernel
theorem dX1_account_21 : decode cX1_account 21 = .ok (.iastore, 1) := by decide +kernel
theorem dX1_account_22 : decode cX1_account 22 = .ok (.goto 13, 3) := by decide +kernel
theorem dX1_account_25 : decode cX1_account 25 = .ok (.aload_n 0, 1) := by decide +kernel
theorem dX1_account_26 : decode cX1_account 26 = .ok (.getfield 22, 3) := by decide +kernel
theorem dX1_account_29 : decode cX1_account 29 = .ok (.iload_n 1, 1) := by decide +kernel
theorem dX1_account_30 : decode cX1_account 30 = .ok (.dup2, 1) := by decide +kernel
theorem dX1_account_31 : decode cX1_account 31 = .ok (.iaload, 1) := by decide +kernel
theorem dX1_account_32 : decode cX1_account 32 = .ok (.iconst 1, 1) := by decide +kernel
theorem dX1_account_33 : decode cX1_account 33 = .ok (.iadd, 1) := by decide +kernel
theorem dX1_account_34 : decode cX1_account 34 = .ok (.iastore, 1) := by decide +kernel
theorem dX1_account_35 : decode cX1_account 35 = .ok (.return_, 1) := by decide +kernel
set_option maxHeartbeats 4000000 in
set_option maxRecDepth 100000 in
theorem tX1_account (l : Launch) {E : ET} (hE : Aj E) (G : GT) (i0 : Nat) (hi0 : i0 < cnt 7) (a1 : Int32) (a2 : Int32) {G' : GT} (h : fX1_account G i0 a1 a2 = some G') : CV l E yX1_account cX1_account 3 none 2 [.ref (Ad E 7 i0), .int a1, .int a2] G G' := by
  refine Met_V (lv := [(0, .ref (Ad E 7 i0)), (1, .int a1), (2, .int a2)]) (by decide +kernel) hE (Nat.le_of_ble_eq_true rfl) rfl ?_
  intro p e s m args below meth c X hr hk
  unfold fX1_account at h
  refine j_iload_n (pc := 0) X dX1_account_0 rfl 1 rfl ?_
  obtain ⟨r1, hc3, h⟩ := bd_s h
  refine j_staI (pc := 1) X (tX7_isLearner l hE G a1 hc3) muX7_isLearner (Or.inr ⟨_, q437⟩) rfl rfl (Nat.le_of_ble_eq_true rfl) ⟨Nat.le_of_ble_eq_true rfl, Nat.le_of_ble_eq_true rfl⟩ dX1_account_1 ?_
  refine j_if_ne (pc := 4) (tgt := 8) X dX1_account_4 (by decide) (fun hc => ?_) (fun hc => ?_)
  · rw [if_neg hc] at h
    refine j_iload_n (pc := 8) X dX1_account_8 rfl 2 rfl ?_
    refine j_if_eq (pc := 9) (tgt := 25) X dX1_account_9 (by decide) (fun hc => ?_) (fun hc => ?_)
    · rw [if_pos hc] at h
      refine j_aload_n (pc := 25) X dX1_account_25 rfl 0 rfl ?_
      refine j_get (pc := 26) (v := .ref (Ad E 10 i0)) X gf_X1_22 hi0 rfl rfl dX1_account_26 ?_
      refine j_iload_n (pc := 29) X dX1_account_29 rfl 1 rfl ?_
      refine j_dup2 (pc := 30) X dX1_account_30 rfl rfl ?_
      obtain ⟨hg4, h⟩ := gd_s h
      refine j_iald (pc := 31) (n := 6) X hi0 rfl hg4 dX1_account_31 ?_
      refine j_iconst (pc := 32) (v := 1) X dX1_account_32 (by decide) ?_
      refine j_iadd (pc := 33) X dX1_account_33 ?_
      obtain ⟨hg5, h⟩ := gd_s h
      obtain ⟨G6, hG6, h⟩ := st3_s h
      refine j_iast (pc := 34) (n := 6) X hG6 hi0 (fun _ => rfl) hg5 dX1_account_34 ?_
      exact j_vret (pc := 35) X hr hk (Option.some.inj h) dX1_account_35
    · rw [if_neg hc] at h
      refine j_aload_n (pc := 12) X dX1_account_12 rfl 0 rfl ?_
      refine j_get (pc := 13) (v := .ref (Ad E 9 i0)) X gf_X1_19 hi0 rfl rfl dX1_account_13 ?_
      refine j_iload_n (pc := 16) X dX1_account_16 rfl 1 rfl ?_
      refine j_dup2 (pc := 17) X dX1_account_17 rfl rfl ?_
      obtain ⟨hg7, h⟩ := gd_s h
      refine j_iald (pc := 18) (n := 6) X hi0 rfl hg7 dX1_account_18 ?_
      refine j_iconst (pc := 19) (v := 1) X dX1_account_19 (by decide) ?_
      refine j_iadd (pc := 20) X dX1_account_20 ?_
      obtain ⟨hg8, h⟩ := gd_s h
      obtain ⟨G9, hG9, h⟩ := st3_s h
      refine j_iast (pc := 21) (n := 6) X hG9 hi0 (fun _ => rfl) hg8 dX1_account_21 ?_
      refine j_goto (pc := 22) (tgt := 35) X dX1_account_22 (by decide) ?_
      exact j_vret (pc := 35) X hr hk (Option.some.inj h) dX1_account_35
  · rw [if_pos hc] at h
    exact j_vret (pc := 7) X hr hk (Option.some.inj h) dX1_account_7
theorem dX1_rightOf_0 : decode cX1_rightOf 0 = .ok (.iload_n 1, 1) := by decide +kernel
theorem dX1_rightOf_1 : decode cX1_rightOf 1 = .ok (.invokestatic 25, 3) := by decide +kernel
theorem dX1_rightOf_4 : decode cX1_rightOf 4 = .ok (.ifCond .eq 12, 3) := by decide +kernel
theorem dX1_rightOf_7 : decode cX1_rightOf 7 = .ok (.aload_n 0, 1) := by decide +kernel
theorem dX1_rightOf_8 : decode cX1_rightOf 8 = .ok (.getfield 19, 3) := by decide +kernel
theorem dX1_rightOf_11 : decode cX1_rightOf 11 = .ok (.iload_n 1, 1) := by decide +kernel
theorem dX1_rightOf_12 : decode cX1_rightOf 12 = .ok (.iaload, 1) := by decide +kernel
theorem dX1_rightOf_13 : decode cX1_rightOf 13 = .ok (.goto 4, 3) := by decide +kernel
theorem dX1_rightOf_16 : decode cX1_rightOf 16 = .ok (.iconst 0, 1) := by decide +kernel
theorem dX1_rightOf_17 : decode cX1_rightOf 17 = .ok (.ireturn, 1) := by decide +kernel
set_option maxHeartbeats 4000000 in
set_option maxRecDepth 100000 in
theorem tX1_rightOf (l : Launch) {E : ET} (hE : Aj E) (G : GT) (i0 : Nat) (hi0 : i0 < cnt 7) (a1 : Int32) {r : Int32} (h : fX1_rightOf G i0 a1 = some r) : CI l E yX1_rightOf cX1_rightOf 2 (some .int) 2 [.ref (Ad E 7 i0), .int a1] G r G := by
  refine Met_I (lv := [(0, .ref (Ad E 7 i0)), (1, .int a1)]) (by decide +kernel) hE (Nat.le_of_ble_eq_true rfl) rfl ?_
  intro p e s m args below meth c X hr hk
  unfold fX1_rightOf at h
  refine j_iload_n (pc := 0) X dX1_rightOf_0 rfl 1 rfl ?_
  obtain ⟨r1, hc3, h⟩ := bd_s h
  refine j_staI (pc := 1) X (tX7_isLearner l hE G a1 hc3) muX7_isLearner (Or.inr ⟨_, q437⟩) rfl rfl (Nat.le_of_ble_eq_true rfl) ⟨Nat.le_of_ble_eq_true rfl, Nat.le_of_ble_eq_true rfl⟩ dX1_rightOf_1 ?_
  refine j_if_eq (pc := 4) (tgt := 16) X dX1_rightOf_4 (by decide) (fun hc => ?_) (fun hc => ?_)
  · rw [if_pos hc] at h
    refine j_iconst (pc := 16) (v := 0) X dX1_rightOf_16 (by decide) ?_
    exact j_ret (pc := 17) X hr hk (vp_nar_int _) (Option.some.inj h) rfl dX1_rightOf_17
  · rw [if_neg hc] at h
    refine j_aload_n (pc := 7) X dX1_rightOf_7 rfl 0 rfl ?_
    refine j_get (pc := 8) (v := .ref (Ad E 9 i0)) X gf_X1_19 hi0 rfl rfl dX1_rightOf_8 ?_
    refine j_iload_n (pc := 11) X dX1_rightOf_11 rfl 1 rfl ?_
    obtain ⟨hg4, h⟩ := gd_s h
    refine j_iald (pc := 12) (n := 6) X hi0 rfl hg4 dX1_rightOf_12 ?_
    refine j_goto (pc := 13) (tgt := 17) X dX1_rightOf_13 (by decide) ?_
    exact j_ret (pc := 17) X hr hk (vp_nar_int _) (Option.some.inj h) rfl dX1_rightOf_17
theorem dX1_wrongOf_0 : decode cX1_wrongOf 0 = .ok (.iload_n 1, 1) := by decide +kernel
theorem dX1_wrongOf_1 : decode cX1_wrongOf 1 = .ok (.invokestatic 25, 3) := by decide +kernel
theorem dX1_wrongOf_4 : decode cX1_wrongOf 4 = .ok (.ifCond .eq 12, 3) := by decide +kernel
theorem dX1_wrongOf_7 : decode cX1_wrongOf 7 = .ok (.aload_n 0, 1) := by decide +kernel
theorem dX1_wrongOf_8 : decode cX1_wrongOf 8 = .ok (.getfield 22, 3) := by decide +kernel
theorem dX1_wrongOf_11 : decode cX1_wrongOf 11 = .ok (.iload_n 1, 1) := by decide +kernel
theorem dX1_wrongOf_12 : decode cX1_wrongOf 12 = .ok (.iaload, 1) := by decide +kernel
theorem dX1_wrongOf_13 : decode cX1_wrongOf 13 = .ok (.goto 4, 3) := by decide +kernel
theorem dX1_wrongOf_16 : decode cX1_wrongOf 16 = .ok (.iconst 0, 1) := by decide +kernel
theorem dX1_wrongOf_17 : decode cX1_wrongOf 17 = .ok (.ireturn, 1) := by decide +kernel
set_option maxHeartbeats 4000000 in
set_option maxRecDepth 100000 in
theorem tX1_wrongOf (l : Launch) {E : ET} (hE : Aj E) (G : GT) (i0 : Nat) (hi0 : i0 < cnt 7) (a1 : Int32) {r : Int32} (h : fX1_wrongOf G i0 a1 = some r) : CI l E yX1_wrongOf cX1_wrongOf 2 (some .int) 2 [.ref (Ad E 7 i0), .int a1] G r G := by
  refine Met_I (lv := [(0, .ref (Ad E 7 i0)), (1, .int a1)]) (by decide +kernel) hE (Nat.le_of_ble_eq_true rfl) rfl ?_
  intro p e s m args below meth c X hr hk
  unfold fX1_wrongOf at h
  refine j_iload_n (pc := 0) X dX1_wrongOf_0 rfl 1 rfl ?_
  obtain ⟨r1, hc3, h⟩ := bd_s h
  refine j_staI (pc := 1) X (tX7_isLearner l hE G a1 hc3) muX7_isLearner (Or.inr ⟨_, q437⟩) rfl rfl (Nat.le_of_ble_eq_true rfl) ⟨Nat.le_of_ble_eq_true rfl, Nat.le_of_ble_eq_true rfl⟩ dX1_wrongOf_1 ?_
  refine j_if_eq (pc := 4) (tgt := 16) X dX1_wrongOf_4 (by decide) (fun hc => ?_) (fun hc => ?_)
  · rw [if_pos hc] at h
    refine j_iconst (pc := 16) (v := 0) X dX1_wrongOf_16 (by decide) ?_
    exact j_ret (pc := 17) X hr hk (vp_nar_int _) (Option.some.inj h) rfl dX1_wrongOf_17
  · rw [if_neg hc] at h
    refine j_aload_n (pc := 7) X dX1_wrongOf_7 rfl 0 rfl ?_
    refine j_get (pc := 8) (v := .ref (Ad E 10 i0)) X gf_X1_22 hi0 rfl rfl dX1_wrongOf_8 ?_
    refine j_iload_n (pc := 11) X dX1_wrongOf_11 rfl 1 rfl ?_
    obtain ⟨hg4, h⟩ := gd_s h
    refine j_iald (pc := 12) (n := 6) X hi0 rfl hg4 dX1_wrongOf_12 ?_
    refine j_goto (pc := 13) (tgt := 17) X dX1_wrongOf_13 (by decide) ?_
    exact j_ret (pc := 17) X hr hk (vp_nar_int _) (Option.some.inj h) rfl dX1_wrongOf_17
theorem dX1_allRight_0 : decode cX1_allRight 0 = .ok (.iconst 0, 1) := by decide +kernel
theorem dX1_allRight_1 : decode cX1_allRight 1 = .ok (.istore_n 1, 1) := by decide +kernel
theorem dX1_allRight_2 : decode cX1_allRight 2 = .ok (.iconst 0, 1) := by decide +kernel
theorem dX1_allRight_3 : decode cX1_allRight 3 = .ok (.istore_n 2, 1) := by decide +kernel
theorem dX1_allRight_4 : decode cX1_allRight 4 = .ok (.iload_n 2, 1) := by decide +kernel
theorem dX1_allRight_5 : decode cX1_allRight 5 = .ok (.bipush 6, 2) := by decide +kernel
theorem dX1_allRight_7 : decode cX1_allRight 7 = .ok (.if_icmp .ge 18, 3) := by decide +kernel
theorem dX1_allRight_10 : decode cX1_allRight 10 = .ok (.iload_n 1, 1) := by decide +kernel
theorem dX1_allRight_11 : decode cX1_allRight 11 = .ok (.aload_n 0, 1) := by decide +kernel
theorem dX1_allRight_12 : decode cX1_allRight 12 = .ok (.getfield 19, 3) := by decide +kernel
theorem dX1_allRight_15 : decode cX1_allRight 15 = .ok (.iload_n 2, 1) := by decide +kernel
theorem dX1_allRight_16 : decode cX1_allRight 16 = .ok (.iaload, 1) := by decide +kernel
theorem dX1_allRight_17 : decode cX1_allRight 17 = .ok (.iadd, 1) := by decide +kernel
theorem dX1_allRight_18 : decode cX1_allRight 18 = .ok (.istore_n 1, 1) := by decide +kernel
theorem dX1_allRight_19 : decode cX1_allRight 19 = .ok (.iinc 2 1, 3) := by decide +kernel
theorem dX1_allRight_22 : decode cX1_allRight 22 = .ok (.goto (-18), 3) := by decide +kernel
theorem dX1_allRight_25 : decode cX1_allRight 25 = .ok (.iload_n 1, 1) := by decide +kernel
theorem dX1_allRight_26 : decode cX1_allRight 26 = .ok (.ireturn, 1) := by decide +kernel
set_option maxHeartbeats 4000000 in
set_option maxRecDepth 100000 in
theorem tX1_allRight_4 (l : Launch) {E : ET} (hE : Aj E) {p : Program} {e : Env} {s : State} {m : MethodId} {args : Array Value} {below : List Frame} {meth : Method} {c : Code} (X : Cx p (rmL 0) s m args c yX1_allRight.cls cX1_allRight 3 E (Aw E) 0 0) (hr : meth.sig.returnType = (some .int)) (hk : meth.locks = false) {r : Int32} (G : GT) (i0 : Nat) (hi0 : i0 < cnt 7) : ∀ (n : Nat) (a1 a2 : Int32), fX1_allRight_4 G i0 n a1 a2 = some r → J p l e (rmL 0) s m args below meth c E (Aw E) s.heap 3 0 0 (MQ below (QI E r G) args s 0 0 (Aw E)) G 4 [(0, .ref (Ad E 7 i0)), (1, .int a1), (2, .int a2)] [] := by
  intro n
  induction n with
  | zero =>
    intro a1 a2 h
    simp [fX1_allRight_4] at h
  | succ n ih =>
    intro a1 a2 h
    rw [fX1_allRight_4] at h
    refine j_iload_n (pc := 4) X dX1_allRight_4 rfl 2 rfl ?_
    refine j_bipush (pc := 5) (v := 6) X dX1_allRight_5 (by decide) ?_
    refine j_icmp_ge (pc := 7) (tgt := 25) X dX1_allRight_7 (by decide) (fun hc => ?_) (fun hc => ?_)
    · rw [if_pos hc] at h
      refine j_iload_n (pc := 25) X dX1_allRight_25 rfl 1 rfl ?_
      exact j_ret (pc := 26) X hr hk (vp_nar_int _) (Option.some.inj h) rfl dX1_allRight_26
    · rw [if_neg hc] at h
      refine j_iload_n (pc := 10) X dX1_allRight_10 rfl 1 rfl ?_
      refine j_aload_n (pc := 11) X dX1_allRight_11 rfl 0 rfl ?_
      refine j_get (pc := 12) (v := .ref (Ad E 9 i0)) X gf_X1_19 hi0 rfl rfl dX1_allRight_12 ?_
      refine j_iload_n (pc := 15) X dX1_allRight_15 rfl 2 rfl ?_
      obtain ⟨hg1, h⟩ := gd_s h
      refine j_iald (pc := 16) (n := 6) X hi0 rfl hg1 dX1_allRight_16 ?_
      refine j_iadd (pc := 17) X dX1_allRight_17 ?_
      refine j_istore_n (pc := 18) (lv' := [(0, .ref (Ad E 7 i0)), (1, .int (a1 + (G 9 i0 a2.toNatClampNeg))), (2, .int a2)]) X dX1_allRight_18 rfl (by decide) rfl ?_
      refine j_iinc (pc := 19) (q := 2) (v := (a2 + (1 : Int32))) (lv' := [(0, .ref (Ad E 7 i0)), (1, .int (a1 + (G 9 i0 a2.toNatClampNeg))), (2, .int (a2 + (1 : Int32)))]) X dX1_allRight_19 rfl rfl (by decide) rfl ?_
      refine j_goto (pc := 22) (tgt := 4) X dX1_allRight_22 (by decide) ?_
      exact ih (a1 + (G 9 i0 a2.toNatClampNeg)) (a2 + (1 : Int32)) h
set_option maxHeartbeats 4000000 in
set_option maxRecDepth 100000 in
theorem tX1_allRight (l : Launch) {E : ET} (hE : Aj E) (G : GT) (i0 : Nat) (hi0 : i0 < cnt 7) {r : Int32} (h : fX1_allRight G i0 = some r) : CI l E yX1_allRight cX1_allRight 3 (some .int) 0 [.ref (Ad E 7 i0)] G r G := by
  refine Met_I (lv := [(0, .ref (Ad E 7 i0))]) (by decide +kernel) hE (Nat.le_of_ble_eq_true rfl) rfl ?_
  intro p e s m args below meth c X hr hk
  unfold fX1_allRight at h
  refine j_iconst (pc := 0) (v := 0) X dX1_allRight_0 (by decide) ?_
  refine j_istore_n (pc := 1) (lv' := [(0, .ref (Ad E 7 i0)), (1, .int (0 : Int32))]) X dX1_allRight_1 rfl (by decide) rfl ?_
  refine j_iconst (pc := 2) (v := 0) X dX1_allRight_2 (by decide) ?_
  refine j_istore_n (pc := 3) (lv' := [(0, .ref (Ad E 7 i0)), (1, .int (0 : Int32)), (2, .int (0 : Int32))]) X dX1_allRight_3 rfl (by decide) rfl ?_
  exact tX1_allRight_4 l hE X hr hk G i0 hi0 FU (0 : Int32) (0 : Int32) h
theorem dX1_allWrong_0 : decode cX1_allWrong 0 = .ok (.iconst 0, 1) := by decide +kernel
theorem dX1_allWrong_1 : decode cX1_allWrong 1 = .ok (.istore_n 1, 1) := by decide +kernel
theorem dX1_allWrong_2 : decode cX1_allWrong 2 = .ok (.iconst 0, 1) := by decide +kernel
theorem dX1_allWrong_3 : decode cX1_allWrong 3 = .ok (.istore_n 2, 1) := by decide +kernel
theorem dX1_allWrong_4 : decode cX1_allWrong 4 = .ok (.iload_n 2, 1) := by decide +kernel
theorem dX1_allWrong_5 : decode cX1_allWrong 5 = .ok (.bipush 6, 2) := by decide +kernel
theorem dX1_allWrong_7 : decode cX1_allWrong 7 = .ok (.if_icmp .ge 18, 3) := by decide +kernel
theorem dX1_allWrong_10 : decode cX1_allWrong 10 = .ok (.iload_n 1, 1) := by decide +kernel
theorem dX1_allWrong_11 : decode cX1_allWrong 11 = .ok (.aload_n 0, 1) := by decide +kernel
theorem dX1_allWrong_12 : decode cX1_allWrong 12 = .ok (.getfield 22, 3) := by decide +kernel
theorem dX1_allWrong_15 : decode cX1_allWrong 15 = .ok (.iload_n 2, 1) := by decide +kernel
theorem dX1_allWrong_16 : decode cX1_allWrong 16 = .ok (.iaload, 1) := by decide +kernel
theorem dX1_allWrong_17 : decode cX1_allWrong 17 = .ok (.iadd, 1) := by decide +kernel
theorem dX1_allWrong_18 : decode cX1_allWrong 18 = .ok (.istore_n 1, 1) := by decide +kernel
theorem dX1_allWrong_19 : decode cX1_allWrong 19 = .ok (.iinc 2 1, 3) := by decide +kernel
theorem dX1_allWrong_22 : decode cX1_allWrong 22 = .ok (.goto (-18), 3) := by decide +kernel
theorem dX1_allWrong_25 : decode cX1_allWrong 25 = .ok (.iload_n 1, 1) := by decide +kernel
theorem dX1_allWrong_26 : decode cX1_allWrong 26 = .ok (.ireturn, 1) := by decide +kernel
set_option maxHeartbeats 4000000 in
set_option maxRecDepth 100000 in
theorem tX1_allWrong_4 (l : Launch) {E : ET} (hE : Aj E) {p : Program} {e : Env} {s : State} {m : MethodId} {args : Array Value} {below : List Frame} {meth : Method} {c : Code} (X : Cx p (rmL 0) s m args c yX1_allWrong.cls cX1_allWrong 3 E (Aw E) 0 0) (hr : meth.sig.returnType = (some .int)) (hk : meth.locks = false) {r : Int32} (G : GT) (i0 : Nat) (hi0 : i0 < cnt 7) : ∀ (n : Nat) (a1 a2 : Int32), fX1_allWrong_4 G i0 n a1 a2 = some r → J p l e (rmL 0) s m args below meth c E (Aw E) s.heap 3 0 0 (MQ below (QI E r G) args s 0 0 (Aw E)) G 4 [(0, .ref (Ad E 7 i0)), (1, .int a1), (2, .int a2)] [] := by
  intro n
  induction n with
  | zero =>
    intro a1 a2 h
    simp [fX1_allWrong_4] at h
  | succ n ih =>
    intro a1 a2 h
    rw [fX1_allWrong_4] at h
    refine j_iload_n (pc := 4) X dX1_allWrong_4 rfl 2 rfl ?_
    refine j_bipush (pc := 5) (v := 6) X dX1_allWrong_5 (by decide) ?_
    refine j_icmp_ge (pc := 7) (tgt := 25) X dX1_allWrong_7 (by decide) (fun hc => ?_) (fun hc => ?_)
    · rw [if_pos hc] at h
      refine j_iload_n (pc := 25) X dX1_allWrong_25 rfl 1 rfl ?_
      exact j_ret (pc := 26) X hr hk (vp_nar_int _) (Option.some.inj h) rfl dX1_allWrong_26
    · rw [if_neg hc] at h
      refine j_iload_n (pc := 10) X dX1_allWrong_10 rfl 1 rfl ?_
      refine j_aload_n (pc := 11) X dX1_allWrong_11 rfl 0 rfl ?_
      refine j_get (pc := 12) (v := .ref (Ad E 10 i0)) X gf_X1_22 hi0 rfl rfl dX1_allWrong_12 ?_
      refine j_iload_n (pc := 15) X dX1_allWrong_15 rfl 2 rfl ?_
      obtain ⟨hg1, h⟩ := gd_s h
      refine j_iald (pc := 16) (n := 6) X hi0 rfl hg1 dX1_allWrong_16 ?_
      refine j_iadd (pc := 17) X dX1_allWrong_17 ?_
      refine j_istore_n (pc := 18) (lv' := [(0, .ref (Ad E 7 i0)), (1, .int (a1 + (G 10 i0 a2.toNatClampNeg))), (2, .int a2)]) X dX1_allWrong_18 rfl (by decide) rfl ?_
      refine j_iinc (pc := 19) (q := 2) (v := (a2 + (1 : Int32))) (lv' := [(0, .ref (Ad E 7 i0)), (1, .int (a1 + (G 10 i0 a2.toNatClampNeg))), (2, .int (a2 + (1 : Int32)))]) X dX1_allWrong_19 rfl rfl (by decide) rfl ?_
      refine j_goto (pc := 22) (tgt := 4) X dX1_allWrong_22 (by decide) ?_
      exact ih (a1 + (G 10 i0 a2.toNatClampNeg)) (a2 + (1 : Int32)) h
set_option maxHeartbeats 4000000 in
set_option maxRecDepth 100000 in
theorem tX1_allWrong (l : Launch) {E : ET} (hE : Aj E) (G : GT) (i0 : Nat) (hi0 : i0 < cnt 7) {r : Int32} (h : fX1_allWrong G i0 = some r) : CI l E yX1_allWrong cX1_allWrong 3 (some .int) 0 [.ref (Ad E 7 i0)] G r G := by
  refine Met_I (lv := [(0, .ref (Ad E 7 i0))]) (by decide +kernel) hE (Nat.le_of_ble_eq_true rfl) rfl ?_
  intro p e s m args below meth c X hr hk
  unfold fX1_allWrong at h
  refine j_iconst (pc := 0) (v := 0) X dX1_allWrong_0 (by decide) ?_
  refine j_istore_n (pc := 1) (lv' := [(0, .ref (Ad E 7 i0)), (1, .int (0 : Int32))]) X dX1_allWrong_1 rfl (by decide) rfl ?_
  refine j_iconst (pc := 2) (v := 0) X dX1_allWrong_2 (by decide) ?_
  refine j_istore_n (pc := 3) (lv' := [(0, .ref (Ad E 7 i0)), (1, .int (0 : Int32)), (2, .int (0 : Int32))]) X dX1_allWrong_3 rfl (by decide) rfl ?_
  exact tX1_allWrong_4 l hE X hr hk G i0 hi0 FU (0 : Int32) (0 : Int32) h
theorem dX2_kindAt_0 : decode cX2_kindAt 0 = .ok (.iload_n 1, 1) := by decide +kernel
theorem dX2_kindAt_1 : decode cX2_kindAt 1 = .ok (.iconst 0, 1) := by decide +kernel
theorem dX2_kindAt_2 : decode cX2_kindAt 2 = .ok (.bipush 39, 2) := by decide +kernel
theorem dX2_kindAt_4 : decode cX2_kindAt 4 = .ok (.invokestatic 18, 3) := by decide +kernel
theorem dX2_kindAt_7 : decode cX2_kindAt 7 = .ok (.ifCond .eq 12, 3) := by decide +kernel
theorem dX2_kindAt_10 : decode cX2_kindAt 10 = .ok (.aload_n 0, 1) := by decide +kernel
theorem dX2_kindAt_11 : decode cX2_kindAt 11 = .ok (.getfield 9, 3) := by decide +kernel
theorem dX2_kindAt_14 : decode cX2_kindAt 14 = .ok (.iload_n 1, 1) := by decide +kernel
theorem dX2_kindAt_15 : decode cX2_kindAt 15 = .ok (.iaload, 1) := by decide +kernel
theorem dX2_kindAt_16 : decode cX2_kindAt 16 = .ok (.goto 4, 3) := by decide +kernel
theorem dX2_kindAt_19 : decode cX2_kindAt 19 = .ok (.iconst 0, 1) := by decide +kernel
theorem dX2_kindAt_20 : decode cX2_kindAt 20 = .ok (.ireturn, 1) := by decide +kernel
set_option maxHeartbeats 4000000 in
set_option maxRecDepth 100000 in
theorem tX2_kindAt (l : Launch) {E : ET} (hE : Aj E) (G : GT) (i0 : Nat) (hi0 : i0 < cnt 0) (a1 : Int32) {r : Int32} (h : fX2_kindAt G i0 a1 = some r) : CI l E yX2_kindAt cX2_kindAt 2 (some .int) 1 [.ref (Ad E 0 i0), .int a1] G r G := by
  refine Met_I (lv := [(0, .ref (Ad E 0 i0)), (1, .int a1)]) (by decide +kernel) hE (Nat.le_of_ble_eq_true rfl) rfl ?_
  intro p e s m args below meth c X hr hk
  unfold fX2_kindAt at h
  refine j_iload_n (pc := 0) X dX2_kindAt_0 rfl 1 rfl ?_
  refine j_iconst (pc := 1) (v := 0) X dX2_kindAt_1 (by decide) ?_
  refine j_bipush (pc := 2) (v := 39) X dX2_kindAt_2 (by decide) ?_
  obtain ⟨r1, hc3, h⟩ := bd_s h
  refine j_staI (pc := 4) X (tX7_isWithin l hE G a1 (0 : Int32) (39 : Int32) hc3) muX7_isWithin (Or.inr ⟨_, q247⟩) rfl rfl (Nat.le_of_ble_eq_true rfl) ⟨Nat.le_of_ble_eq_true rfl, Nat.le_of_ble_eq_true rfl⟩ dX2_kindAt_4 ?_
  refine j_if_eq (pc := 7) (tgt := 19) X dX2_kindAt_7 (by decide) (fun hc => ?_) (fun hc => ?_)
  · rw [if_pos hc] at h
    refine j_iconst (pc := 19) (v := 0) X dX2_kindAt_19 (by decide) ?_
    exact j_ret (pc := 20) X hr hk (vp_nar_int _) (Option.some.inj h) rfl dX2_kindAt_20
  · rw [if_neg hc] at h
    refine j_aload_n (pc := 10) X dX2_kindAt_10 rfl 0 rfl ?_
    refine j_get (pc := 11) (v := .ref (Ad E 1 i0)) X gf_X2_9 hi0 rfl rfl dX2_kindAt_11 ?_
    refine j_iload_n (pc := 14) X dX2_kindAt_14 rfl 1 rfl ?_
    obtain ⟨hg4, h⟩ := gd_s h
    refine j_iald (pc := 15) (n := 40) X hi0 rfl hg4 dX2_kindAt_15 ?_
    refine j_goto (pc := 16) (tgt := 20) X dX2_kindAt_16 (by decide) ?_
    exact j_ret (pc := 20) X hr hk (vp_nar_int _) (Option.some.inj h) rfl dX2_kindAt_20
theorem dX2_tightAt_0 : decode cX2_tightAt 0 = .ok (.iload_n 1, 1) := by decide +kernel
theorem dX2_tightAt_1 : decode cX2_tightAt 1 = .ok (.iconst 0, 1) := by decide +kernel
theorem dX2_tightAt_2 : decode cX2_tightAt 2 = .ok (.bipush 39, 2) := by decide +kernel
theorem dX2_tightAt_4 : decode cX2_tightAt 4 = .ok (.invokestatic 18, 3) := by decide +kernel
theorem dX2_tightAt_7 : decode cX2_tightAt 7 = .ok (.ifCond .eq 12, 3) := by decide +kernel
theorem dX2_tightAt_10 : decode cX2_tightAt 10 = .ok (.aload_n 0, 1) := by decide +kernel
theorem dX2_tightAt_11 : decode cX2_tightAt 11 = .ok (.getfield 15, 3) := by decide +kernel
theorem dX2_tightAt_14 : decode cX2_tightAt 14 = .ok (.iload_n 1, 1) := by decide +kernel
theorem dX2_tightAt_15 : decode cX2_tightAt 15 = .ok (.iaload, 1) := by decide +kernel
theorem dX2_tightAt_16 : decode cX2_tightAt 16 = .ok (.goto 4, 3) := by decide +kernel
theorem dX2_tightAt_19 : decode cX2_tightAt 19 = .ok (.iconst 0, 1) := by decide +kernel
theorem dX2_tightAt_20 : decode cX2_tightAt 20 = .ok (.ireturn, 1) := by decide +kernel
set_option maxHeartbeats 4000000 in
set_option maxRecDepth 100000 in
theorem tX2_tightAt (l : Launch) {E : ET} (hE : Aj E) (G : GT) (i0 : Nat) (hi0 : i0 < cnt 0) (a1 : Int32) {r : Int32} (h : fX2_tightAt G i0 a1 = some r) : CI l E yX2_tightAt cX2_tightAt 2 (some .int) 1 [.ref (Ad E 0 i0), .int a1] G r G := by
  refine Met_I (lv := [(0, .ref (Ad E 0 i0)), (1, .int a1)]) (by decide +kernel) hE (Nat.le_of_ble_eq_true rfl) rfl ?_
  intro p e s m args below meth c X hr hk
  unfold fX2_tightAt at h
  refine j_iload_n (pc := 0) X dX2_tightAt_0 rfl 1 rfl ?_
  refine j_iconst (pc := 1) (v := 0) X dX2_tightAt_1 (by decide) ?_
  refine j_bipush (pc := 2) (v := 39) X dX2_tightAt_2 (by decide) ?_
  obtain ⟨r1, hc3, h⟩ := bd_s h
  refine j_staI (pc := 4) X (tX7_isWithin l hE G a1 (0 : Int32) (39 : Int32) hc3) muX7_isWithin (Or.inr ⟨_, q247⟩) rfl rfl (Nat.le_of_ble_eq_true rfl) ⟨Nat.le_of_ble_eq_true rfl, Nat.le_of_ble_eq_true rfl⟩ dX2_tightAt_4 ?_
  refine j_if_eq (pc := 7) (tgt := 19) X dX2_tightAt_7 (by decide) (fun hc => ?_) (fun hc => ?_)
  · rw [if_pos hc] at h
    refine j_iconst (pc := 19) (v := 0) X dX2_tightAt_19 (by decide) ?_
    exact j_ret (pc := 20) X hr hk (vp_nar_int _) (Option.some.inj h) rfl dX2_tightAt_20
  · rw [if_neg hc] at h
    refine j_aload_n (pc := 10) X dX2_tightAt_10 rfl 0 rfl ?_
    refine j_get (pc := 11) (v := .ref (Ad E 2 i0)) X gf_X2_15 hi0 rfl rfl dX2_tightAt_11 ?_
    refine j_iload_n (pc := 14) X dX2_tightAt_14 rfl 1 rfl ?_
    obtain ⟨hg4, h⟩ := gd_s h
    refine j_iald (pc := 15) (n := 40) X hi0 rfl hg4 dX2_tightAt_15 ?_
    refine j_goto (pc := 16) (tgt := 20) X dX2_tightAt_16 (by decide) ?_
    exact j_ret (pc := 20) X hr hk (vp_nar_int _) (Option.some.inj h) rfl dX2_tightAt_20
theorem dX2_put_0 : decode cX2_put 0 = .ok (.iload_n 1, 1) := by decide +kernel
theorem dX2_put_1 : decode cX2_put 1 = .ok (.iconst 0, 1) := by decide +kernel
theorem dX2_put_2 : decode cX2_put 2 = .ok (.bipush 39, 2) := by decide +kernel
theorem dX2_put_4 : decode cX2_put 4 = .ok (.invokestatic 18, 3) := by decide +kernel
theorem dX2_put_7 : decode cX2_put 7 = .ok (.ifCond .eq 17, 3) := by decide +kernel
theorem dX2_put_10 : decode cX2_put 10 = .ok (.aload_n 0, 1) := by decide +kernel
theorem dX2_put_11 : decode cX2_put 11 = .ok (.getfield 9, 3) := by decide +kernel
theorem dX2_put_14 : decode cX2_put 14 = .ok (.iload_n 1, 1) := by decide +kernel
theorem dX2_put_15 : decode cX2_put 15 = .ok (.iload_n 2, 1) := by decide +kernel
theorem dX2_put_16 : decode cX2_put 16 = .ok (.iastore, 1) := by decide +kernel
theorem dX2_put_17 : decode cX2_put 17 = .ok (.aload_n 0, 1) := by decide +kernel
theorem dX2_put_18 : decode cX2_put 18 = .ok (.getfield 15, 3) := by decide +kernel
theorem dX2_put_21 : decode cX2_put 21 = .ok (.iload_n 1, 1) := by decide +kernel
theorem dX2_put_22 : decode cX2_put 22 = .ok (.iload_n 3, 1) := by decide +kernel
theorem dX2_put_23 : decode cX2_put 23 = .ok (.iastore, 1) := by decide +kernel
theorem dX2_put_24 : decode cX2_put 24 = .ok (.return_, 1) := by decide +kernel
set_option maxHeartbeats 4000000 in
set_option maxRecDepth 100000 in
theorem tX2_put (l : Launch) {E : ET} (hE : Aj E) (G : GT) (i0 : Nat) (hi0 : i0 < cnt 0) (a1 : Int32) (a2 : Int32) (a3 : Int32) {G' : GT} (h : fX2_put G i0 a1 a2 a3 = some G') : CV l E yX2_put cX2_put 4 none 1 [.ref (Ad E 0 i0), .int a1, .int a2, .int a3] G G' := by
  refine Met_V (lv := [(0, .ref (Ad E 0 i0)), (1, .int a1), (2, .int a2), (3, .int a3)]) (by decide +kernel) hE (Nat.le_of_ble_eq_true rfl) rfl ?_
  intro p e s m args below meth c X hr hk
  unfold fX2_put at h
  refine j_iload_n (pc := 0) X dX2_put_0 rfl 1 rfl ?_
  refine j_iconst (pc := 1) (v := 0) X dX2_put_1 (by decide) ?_
  refine j_bipush (pc := 2) (v := 39) X dX2_put_2 (by decide) ?_
  obtain ⟨r1, hc3, h⟩ := bd_s h
  refine j_staI (pc := 4) X (tX7_isWithin l hE G a1 (0 : Int32) (39 : Int32) hc3) muX7_isWithin (Or.inr ⟨_, q247⟩) rfl rfl (Nat.le_of_ble_eq_true rfl) ⟨Nat.le_of_ble_eq_true rfl, Nat.le_of_ble_eq_true rfl⟩ dX2_put_4 ?_
  refine j_if_eq (pc := 7) (tgt := 24) X dX2_put_7 (by decide) (fun hc => ?_) (fun hc => ?_)
  · rw [if_pos hc] at h
    exact j_vret (pc := 24) X hr hk (Option.some.inj h) dX2_put_24
  · rw [if_neg hc] at h
    refine j_aload_n (pc := 10) X dX2_put_10 rfl 0 rfl ?_
    refine j_get (pc := 11) (v := .ref (Ad E 1 i0)) X gf_X2_9 hi0 rfl rfl dX2_put_11 ?_
    refine j_iload_n (pc := 14) X dX2_put_14 rfl 1 rfl ?_
    refine j_iload_n (pc := 15) X dX2_put_15 rfl 2 rfl ?_
    obtain ⟨hg4, h⟩ := gd_s h
    obtain ⟨G5, hG5, h⟩ := st3_s h
    refine j_iast (pc := 16) (n := 40) X hG5 hi0 (fun _ => rfl) hg4 dX2_put_16 ?_
    refine j_aload_n (pc := 17) X dX2_put_17 rfl 0 rfl ?_
    refine j_get (pc := 18) (v := .ref (Ad E 2 i0)) X gf_X2_15 hi0 rfl rfl dX2_put_18 ?_
    refine j_iload_n (pc := 21) X dX2_put_21 rfl 1 rfl ?_
    refine j_iload_n (pc := 22) X dX2_put_22 rfl 3 rfl ?_
    obtain ⟨hg6, h⟩ := gd_s h
    obtain ⟨G7, hG7, h⟩ := st3_s h
    refine j_iast (pc := 23) (n := 40) X hG7 hi0 (fun _ => rfl) hg6 dX2_put_23 ?_
    exact j_vret (pc := 24) X hr hk (Option.some.inj h) dX2_put_24
theorem dX2_clear_0 : decode cX2_clear 0 = .ok (.iconst 0, 1) := by decide +kernel
theorem dX2_clear_1 : decode cX2_clear 1 = .ok (.istore_n 1, 1) := by decide +kernel
theorem dX2_clear_2 : decode cX2_clear 2 = .ok (.iload_n 1, 1) := by decide +kernel
theorem dX2_clear_3 : decode cX2_clear 3 = .ok (.bipush 40, 2) := by decide +kernel
theorem dX2_clear_5 : decode cX2_clear 5 = .ok (.if_icmp .ge 16, 3) := by decide +kernel
theorem dX2_clear_8 : decode cX2_clear 8 = .ok (.aload_n 0, 1) := by decide +kernel
theorem dX2_clear_9 : decode cX2_clear 9 = .ok (.iload_n 1, 1) := by decide +kernel
theorem dX2_clear_10 : decode cX2_clear 10 = .ok (.iconst 0, 1) := by decide +kernel
theorem dX2_clear_11 : decode cX2_clear 11 = .ok (.iconst 0, 1) := by decide +kernel
theorem dX2_clear_12 : decode cX2_clear 12 = .ok (.invokevirtual 22, 3) := by decide +kernel
theorem dX2_clear_15 : decode cX2_clear 15 = .ok (.iinc 1 1, 3) := by decide +kernel
theorem dX2_clear_18 : decode cX2_clear 18 = .ok (.goto (-16), 3) := by decide +kernel
theorem dX2_clear_21 : decode cX2_clear 21 = .ok (.return_, 1) := by decide +kernel
set_option maxHeartbeats 4000000 in
set_option maxRecDepth 100000 in
theorem tX2_clear_2 (l : Launch) {E : ET} (hE : Aj E) {p : Program} {e : Env} {s : State} {m : MethodId} {args : Array Value} {below : List Frame} {meth : Method} {c : Code} (X : Cx p (rmL 2) s m args c yX2_clear.cls cX2_clear 2 E (Aw E) 0 0) (hr : meth.sig.returnType = none) (hk : meth.locks = false) {G' : GT} (i0 : Nat) (hi0 : i0 < cnt 0) : ∀ (n : Nat) (G : GT) (a1 : Int32), fX2_clear_2 i0 n G a1 = some G' → J p l e (rmL 2) s m args below meth c E (Aw E) s.heap 2 0 0 (MQ below (QV E G') args s 0 0 (Aw E)) G 2 [(0, .ref (Ad E 0 i0)), (1, .int a1)] [] := by
  intro n
  induction n with
  | zero =>
    intro G a1 h
    simp [fX2_clear_2] at h
  | succ n ih =>
    intro G a1 h
    rw [fX2_clear_2] at h
    refine j_iload_n (pc := 2) X dX2_clear_2 rfl 1 rfl ?_
    refine j_bipush (pc := 3) (v := 40) X dX2_clear_3 (by decide) ?_
    refine j_icmp_ge (pc := 5) (tgt := 21) X dX2_clear_5 (by decide) (fun hc => ?_) (fun hc => ?_)
    · rw [if_pos hc] at h
      exact j_vret (pc := 21) X hr hk (Option.some.inj h) dX2_clear_21
    · rw [if_neg hc] at h
      refine j_aload_n (pc := 8) X dX2_clear_8 rfl 0 rfl ?_
      refine j_iload_n (pc := 9) X dX2_clear_9 rfl 1 rfl ?_
      refine j_iconst (pc := 10) (v := 0) X dX2_clear_10 (by decide) ?_
      refine j_iconst (pc := 11) (v := 0) X dX2_clear_11 (by decide) ?_
      obtain ⟨G2, hc3, h⟩ := bd_s h
      refine j_callV (pc := 12) X (tX2_put l hE G i0 hi0 a1 (0 : Int32) (0 : Int32) hc3) muX2_put hi0 q337 rfl rfl (Nat.le_of_ble_eq_true rfl) ⟨Nat.le_of_ble_eq_true rfl, Nat.le_of_ble_eq_true rfl⟩ dX2_clear_12 ?_
      refine j_iinc (pc := 15) (q := 1) (v := (a1 + (1 : Int32))) (lv' := [(0, .ref (Ad E 0 i0)), (1, .int (a1 + (1 : Int32)))]) X dX2_clear_15 rfl rfl (by decide) rfl ?_
      refine j_goto (pc := 18) (tgt := 2) X dX2_clear_18 (by decide) ?_
      exact ih G2 (a1 + (1 : Int32)) h
set_option maxHeartbeats 4000000 in
set_option maxRecDepth 100000 in
theorem tX2_clear (l : Launch) {E : ET} (hE : Aj E) (G : GT) (i0 : Nat) (hi0 : i0 < cnt 0) {G' : GT} (h : fX2_clear G i0 = some G') : CV l E yX2_clear cX2_clear 2 none 2 [.ref (Ad E 0 i0)] G G' := by
  refine Met_V (lv := [(0, .ref (Ad E 0 i0))]) (by decide +kernel) hE (Nat.le_of_ble_eq_true rfl) rfl ?_
  intro p e s m args below meth c X hr hk
  unfold fX2_clear at h
  refine j_iconst (pc := 0) (v := 0) X dX2_clear_0 (by decide) ?_
  refine j_istore_n (pc := 1) (lv' := [(0, .ref (Ad E 0 i0)), (1, .int (0 : Int32))]) X dX2_clear_1 rfl (by decide) rfl ?_
  exact tX2_clear_2 l hE X hr hk i0 hi0 FU G (0 : Int32) h
theorem dX2_knotCount_0 : decode cX2_knotCount 0 = .ok (.iconst 0, 1) := by decide +kernel
theorem dX2_knotCount_1 : decode cX2_knotCount 1 = .ok (.istore_n 1, 1) := by decide +kernel
theorem dX2_knotCount_2 : decode cX2_knotCount 2 = .ok (.iconst 0, 1) := by decide +kernel
theorem dX2_knotCount_3 : decode cX2_knotCount 3 = .ok (.istore_n 2, 1) := by decide +kernel
theorem dX2_knotCount_4 : decode cX2_knotCount 4 = .ok (.iload_n 2, 1) := by decide +kernel
theorem dX2_knotCount_5 : decode cX2_knotCount 5 = .ok (.bipush 40, 2) := by decide +kernel
theorem dX2_knotCount_7 : decode cX2_knotCount 7 = .ok (.if_icmp .ge 20, 3) := by decide +kernel
theorem dX2_knotCount_10 : decode cX2_knotCount 10 = .ok (.aload_n 0, 1) := by decide +kernel
theorem dX2_knotCount_11 : decode cX2_knotCount 11 = .ok (.iload_n 2, 1) := by decide +kernel
theorem dX2_knotCount_12 : decode cX2_knotCount 12 = .ok (.invokevirtual 26, 3) := by decide +kernel
theorem dX2_knotCount_15 : decode cX2_knotCount 15 = .ok (.ifCond .eq 6, 3) := by decide +kernel
theorem dX2_knotCount_18 : decode cX2_knotCount 18 = .ok (.iinc 1 1, 3) := by decide +kernel
theorem dX2_knotCount_21 : decode cX2_knotCount 21 = .ok (.iinc 2 1, 3) := by decide +kernel
theorem dX2_knotCount_24 : decode cX2_knotCount 24 = .ok (.goto (-20), 3) := by decide +kernel
theorem dX2_knotCount_27 : decode cX2_knotCount 27 = .ok (.iload_n 1, 1) := by decide +kernel
theorem dX2_knotCount_28 : decode cX2_knotCount 28 = .ok (.ireturn, 1) := by decide +kernel
set_option maxHeartbeats 4000000 in
set_option maxRecDepth 100000 in
theorem tX2_knotCount_4 (l : Launch) {E : ET} (hE : Aj E) {p : Program} {e : Env} {s : State} {m : MethodId} {args : Array Value} {below : List Frame} {meth : Method} {c : Code} (X : Cx p (rmL 2) s m args c yX2_knotCount.cls cX2_knotCount 3 E (Aw E) 0 0) (hr : meth.sig.returnType = (some .int)) (hk : meth.locks = false) {r : Int32} (G : GT) (i0 : Nat) (hi0 : i0 < cnt 0) : ∀ (n : Nat) (a1 a2 : Int32), fX2_knotCount_4 G i0 n a1 a2 = some r → J p l e (rmL 2) s m args below meth c E (Aw E) s.heap 3 0 0 (MQ below (QI E r G) args s 0 0 (Aw E)) G 4 [(0, .ref (Ad E 0 i0)), (1, .int a1), (2, .int a2)] [] := by
  intro n
  induction n with
  | zero =>
    intro a1 a2 h
    simp [fX2_knotCount_4] at h
  | succ n ih =>
    intro a1 a2 h
    rw [fX2_knotCount_4] at h
    refine j_iload_n (pc := 4) X dX2_knotCount_4 rfl 2 rfl ?_
    refine j_bipush (pc := 5) (v := 40) X dX2_knotCount_5 (by decide) ?_
    refine j_icmp_ge (pc := 7) (tgt := 27) X dX2_knotCount_7 (by decide) (fun hc => ?_) (fun hc => ?_)
    · rw [if_pos hc] at h
      refine j_iload_n (pc := 27) X dX2_knotCount_27 rfl 1 rfl ?_
      exact j_ret (pc := 28) X hr hk (vp_nar_int _) (Option.some.inj h) rfl dX2_knotCount_28
    · rw [if_neg hc] at h
      refine j_aload_n (pc := 10) X dX2_knotCount_10 rfl 0 rfl ?_
      refine j_iload_n (pc := 11) X dX2_knotCount_11 rfl 2 rfl ?_
      obtain ⟨r1, hc3, h⟩ := bd_s h
      refine j_callI (pc := 12) X (tX2_kindAt l hE G i0 hi0 a2 hc3) muX2_kindAt hi0 q292 rfl rfl (Nat.le_of_ble_eq_true rfl) ⟨Nat.le_of_ble_eq_true rfl, Nat.le_of_ble_eq_true rfl⟩ dX2_knotCount_12 ?_
      refine j_if_eq (pc := 15) (tgt := 21) X dX2_knotCount_15 (by decide) (fun hc => ?_) (fun hc => ?_)
      · rw [if_pos hc] at h
        refine j_iinc (pc := 21) (q := 2) (v := (a2 + (1 : Int32))) (lv' := [(0, .ref (Ad E 0 i0)), (1, .int a1), (2, .int (a2 + (1 : Int32)))]) X dX2_knotCount_21 rfl rfl (by decide) rfl ?_
        refine j_goto (pc := 24) (tgt := 4) X dX2_knotCount_24 (by decide) ?_
        exact ih a1 (a2 + (1 : Int32)) h
      · rw [if_neg hc] at h
        refine j_iinc (pc := 18) (q := 1) (v := (a1 + (1 : Int32))) (lv' := [(0, .ref (Ad E 0 i0)), (1, .int (a1 + (1 : Int32))), (2, .int a2)]) X dX2_knotCount_18 rfl rfl (by decide) rfl ?_
        refine j_iinc (pc := 21) (q := 2) (v := (a2 + (1 : Int32))) (lv' := [(0, .ref (Ad E 0 i0)), (1, .int (a1 + (1 : Int32))), (2, .int (a2 + (1 : Int32)))]) X dX2_knotCount_21 rfl rfl (by decide) rfl ?_
        refine j_goto (pc := 24) (tgt := 4) X dX2_knotCount_24 (by decide) ?_
        exact ih (a1 + (1 : Int32)) (a2 + (1 : Int32)) h
set_option maxHeartbeats 4000000 in
set_option maxRecDepth 100000 in
theorem tX2_knotCount (l : Launch) {E : ET} (hE : Aj E) (G : GT) (i0 : Nat) (hi0 : i0 < cnt 0) {r : Int32} (h : fX2_knotCount G i0 = some r) : CI l E yX2_knotCount cX2_knotCount 3 (some .int) 2 [.ref (Ad E 0 i0)] G r G := by
  refine Met_I (lv := [(0, .ref (Ad E 0 i0))]) (by decide +kernel) hE (Nat.le_of_ble_eq_true rfl) rfl ?_
  intro p e s m args below meth c X hr hk
  unfold fX2_knotCount at h
  refine j_iconst (pc := 0) (v := 0) X dX2_knotCount_0 (by decide) ?_
  refine j_istore_n (pc := 1) (lv' := [(0, .ref (Ad E 0 i0)), (1, .int (0 : Int32))]) X dX2_knotCount_1 rfl (by decide) rfl ?_
  refine j_iconst (pc := 2) (v := 0) X dX2_knotCount_2 (by decide) ?_
  refine j_istore_n (pc := 3) (lv' := [(0, .ref (Ad E 0 i0)), (1, .int (0 : Int32)), (2, .int (0 : Int32))]) X dX2_knotCount_3 rfl (by decide) rfl ?_
  exact tX2_knotCount_4 l hE X hr hk G i0 hi0 FU (0 : Int32) (0 : Int32) h
theorem dX2_startsRun_0 : decode cX2_startsRun 0 = .ok (.aload_n 0, 1) := by decide +kernel
theorem dX2_startsRun_1 : decode cX2_startsRun 1 = .ok (.iload_n 1, 1) := by decide +kernel
theorem dX2_startsRun_2 : decode cX2_startsRun 2 = .ok (.invokevirtual 26, 3) := by decide +kernel
theorem dX2_startsRun_5 : decode cX2_startsRun 5 = .ok (.ifCond .eq 17, 3) := by decide +kernel
theorem dX2_startsRun_8 : decode cX2_startsRun 8 = .ok (.aload_n 0, 1) := by decide +kernel
theorem dX2_startsRun_9 : decode cX2_startsRun 9 = .ok (.iload_n 1, 1) := by decide +kernel
theorem dX2_startsRun_10 : decode cX2_startsRun 10 = .ok (.iconst 1, 1) := by decide +kernel
theorem dX2_startsRun_11 : decode cX2_startsRun 11 = .ok (.isub, 1) := by decide +kernel
theorem dX2_startsRun_12 : decode cX2_startsRun 12 = .ok (.invokevirtual 26, 3) := by decide +kernel
theorem dX2_startsRun_15 : decode cX2_startsRun 15 = .ok (.ifCond .ne 7, 3) := by decide +kernel
theorem dX2_startsRun_18 : decode cX2_startsRun 18 = .ok (.iconst 1, 1) := by decide +kernel
theorem dX2_startsRun_19 : decode cX2_startsRun 19 = .ok (.goto 4, 3) := by decide +kernel
theorem dX2_startsRun_22 : decode cX2_startsRun 22 = .ok (.iconst 0, 1) := by decide +kernel
theorem dX2_startsRun_23 : decode cX2_startsRun 23 = .ok (.ireturn, 1) := by decide +kernel
set_option maxHeartbeats 4000000 in
set_option maxRecDepth 100000 in
theorem tX2_startsRun (l : Launch) {E : ET} (hE : Aj E) (G : GT) (i0 : Nat) (hi0 : i0 < cnt 0) (a1 : Int32) {r : Int32} (h : fX2_startsRun G i0 a1 = some r) : CI l E yX2_startsRun cX2_startsRun 2 (some .boolean) 2 [.ref (Ad E 0 i0), .int a1] G r G := by
  refine Met_I (lv := [(0, .ref (Ad E 0 i0)), (1, .int a1)]) (by decide +kernel) hE (Nat.le_of_ble_eq_true rfl) rfl ?_
  intro p e s m args below meth c X hr hk
  unfold fX2_startsRun at h
  refine j_aload_n (pc := 0) X dX2_startsRun_0 rfl 0 rfl ?_
  refine j_iload_n (pc := 1) X dX2_startsRun_1 rfl 1 rfl ?_
  obtain ⟨r1, hc3, h⟩ := bd_s h
  refine j_callI (pc := 2) X (tX2_kindAt l hE G i0 hi0 a1 hc3) muX2_kindAt hi0 q292 rfl rfl (Nat.le_of_ble_eq_true rfl) ⟨Nat.le_of_ble_eq_true rfl, Nat.le_of_ble_eq_true rfl⟩ dX2_startsRun_2 ?_
  refine j_if_eq (pc := 5) (tgt := 22) X dX2_startsRun_5 (by decide) (fun hc => ?_) (fun hc => ?_)
  · rw [if_pos hc] at h
    refine j_iconst (pc := 22) (v := 0) X dX2_startsRun_22 (by decide) ?_
    exact j_ret (pc := 23) X hr hk rfl (Option.some.inj h) rfl dX2_startsRun_23
  · rw [if_neg hc] at h
    refine j_aload_n (pc := 8) X dX2_startsRun_8 rfl 0 rfl ?_
    refine j_iload_n (pc := 9) X dX2_startsRun_9 rfl 1 rfl ?_
    refine j_iconst (pc := 10) (v := 1) X dX2_startsRun_10 (by decide) ?_
    refine j_isub (pc := 11) X dX2_startsRun_11 ?_
    obtain ⟨r4, hc6, h⟩ := bd_s h
    refine j_callI (pc := 12) X (tX2_kindAt l hE G i0 hi0 (a1 - (1 : Int32)) hc6) muX2_kindAt hi0 q292 rfl rfl (Nat.le_of_ble_eq_true rfl) ⟨Nat.le_of_ble_eq_true rfl, Nat.le_of_ble_eq_true rfl⟩ dX2_startsRun_12 ?_
    refine j_if_ne (pc := 15) (tgt := 22) X dX2_startsRun_15 (by decide) (fun hc => ?_) (fun hc => ?_)
    · rw [if_neg hc] at h
      refine j_iconst (pc := 22) (v := 0) X dX2_startsRun_22 (by decide) ?_
      exact j_ret (pc := 23) X hr hk rfl (Option.some.inj h) rfl dX2_startsRun_23
    · rw [if_pos hc] at h
      refine j_iconst (pc := 18) (v := 1) X dX2_startsRun_18 (by decide) ?_
      refine j_goto (pc := 19) (tgt := 23) X dX2_startsRun_19 (by decide) ?_
      exact j_ret (pc := 23) X hr hk rfl (Option.some.inj h) rfl dX2_startsRun_23
theorem dX2_lengthFrom_0 : decode cX2_lengthFrom 0 = .ok (.iconst 0, 1) := by decide +kernel
theorem dX2_lengthFrom_1 : decode cX2_lengthFrom 1 = .ok (.istore_n 2, 1) := by decide +kernel
theorem dX2_lengthFrom_2 : decode cX2_lengthFrom 2 = .ok (.iload_n 1, 1) := by decide +kernel
theorem dX2_lengthFrom_3 : decode cX2_lengthFrom 3 = .ok (.istore_n 3, 1) := by decide +kernel
theorem dX2_lengthFrom_4 : decode cX2_lengthFrom 4 = .ok (.iload_n 3, 1) := by decide +kernel
theorem dX2_lengthFrom_5 : decode cX2_lengthFrom 5 = .ok (.bipush 40, 2) := by decide +kernel
theorem dX2_lengthFrom_7 : decode cX2_lengthFrom 7 = .ok (.if_icmp .ge 20, 3) := by decide +kernel
theorem dX2_lengthFrom_10 : decode cX2_lengthFrom 10 = .ok (.aload_n 0, 1) := by decide +kernel
theorem dX2_lengthFrom_11 : decode cX2_lengthFrom 11 = .ok (.iload_n 3, 1) := by decide +kernel
theorem dX2_lengthFrom_12 : decode cX2_lengthFrom 12 = .ok (.invokevirtual 26, 3) := by decide +kernel
theorem dX2_lengthFrom_15 : decode cX2_lengthFrom 15 = .ok (.ifCond .eq 12, 3) := by decide +kernel
theorem dX2_lengthFrom_18 : decode cX2_lengthFrom 18 = .ok (.iinc 2 1, 3) := by decide +kernel
theorem dX2_lengthFrom_21 : decode cX2_lengthFrom 21 = .ok (.iinc 3 1, 3) := by decide +kernel
theorem dX2_lengthFrom_24 : decode cX2_lengthFrom 24 = .ok (.goto (-20), 3) := by decide +kernel
theorem dX2_lengthFrom_27 : decode cX2_lengthFrom 27 = .ok (.iload_n 2, 1) := by decide +kernel
theorem dX2_lengthFrom_28 : decode cX2_lengthFrom 28 = .ok (.ireturn, 1) := by decide +kernel
set_option maxHeartbeats 4000000 in
set_option maxRecDepth 100000 in
theorem tX2_lengthFrom_4 (l : Launch) {E : ET} (hE : Aj E) {p : Program} {e : Env} {s : State} {m : MethodId} {args : Array Value} {below : List Frame} {meth : Method} {c : Code} (X : Cx p (rmL 2) s m args c yX2_lengthFrom.cls cX2_lengthFrom 4 E (Aw E) 0 0) (hr : meth.sig.returnType = (some .int)) (hk : meth.locks = false) {r : Int32} (G : GT) (i0 : Nat) (hi0 : i0 < cnt 0) : ∀ (n : Nat) (a2 a3 : Int32), fX2_lengthFrom_4 G i0 n a2 a3 = some r → J p l e (rmL 2) s m args below meth c E (Aw E) s.heap 4 0 0 (MQ below (QI E r G) args s 0 0 (Aw E)) G 4 [(0, .ref (Ad E 0 i0)), (2, .int a2), (3, .int a3)] [] := by
  intro n
  induction n with
  | zero =>
    intro a2 a3 h
    simp [fX2_lengthFrom_4] at h
  | succ n ih =>
    intro a2 a3 h
    rw [fX2_lengthFrom_4] at h
    refine j_iload_n (pc := 4) X dX2_lengthFrom_4 rfl 2 rfl ?_
    refine j_bipush (pc := 5) (v := 40) X dX2_lengthFrom_5 (by decide) ?_
    refine j_icmp_ge (pc := 7) (tgt := 27) X dX2_lengthFrom_7 (by decide) (fun hc => ?_) (fun hc => ?_)
    · rw [if_pos hc] at h
      refine j_iload_n (pc := 27) X dX2_lengthFrom_27 rfl 1 rfl ?_
      exact j_ret (pc := 28) X hr hk (vp_nar_int _) (Option.some.inj h) rfl dX2_lengthFrom_28
    · rw [if_neg hc] at h
      refine j_aload_n (pc := 10) X dX2_lengthFrom_10 rfl 0 rfl ?_
      refine j_iload_n (pc := 11) X dX2_lengthFrom_11 rfl 2 rfl ?_
      obtain ⟨r1, hc3, h⟩ := bd_s h
      refine j_callI (pc := 12) X (tX2_kindAt l hE G i0 hi0 a3 hc3) muX2_kindAt hi0 q292 rfl rfl (Nat.le_of_ble_eq_true rfl) ⟨Nat.le_of_ble_eq_true rfl, Nat.le_of_ble_eq_true rfl⟩ dX2_lengthFrom_12 ?_
      refine j_if_eq (pc := 15) (tgt := 27) X dX2_lengthFrom_15 (by decide) (fun hc => ?_) (fun hc => ?_)
      · rw [if_pos hc] at h
        refine j_iload_n (pc := 27) X dX2_lengthFrom_27 rfl 1 rfl ?_
        exact j_ret (pc := 28) X hr hk (vp_nar_int _) (Option.some.inj h) rfl dX2_lengthFrom_28
      · rw [if_neg hc] at h
        refine j_iinc (pc := 18) (q := 1) (v := (a2 + (1 : Int32))) (lv' := [(0, .ref (Ad E 0 i0)), (2, .int (a2 + (1 : Int32))), (3, .int a3)]) X dX2_lengthFrom_18 rfl rfl (by decide) rfl ?_
        refine j_iinc (pc := 21) (q := 2) (v := (a3 + (1 : Int32))) (lv' := [(0, .ref (Ad E 0 i0)), (2, .int (a2 + (1 : Int32))), (3, .int (a3 + (1 : Int32)))]) X dX2_lengthFrom_21 rfl rfl (by decide) rfl ?_
        refine j_goto (pc := 24) (tgt := 4) X dX2_lengthFrom_24 (by decide) ?_
        exact ih (a2 + (1 : Int32)) (a3 + (1 : Int32)) h
set_option maxHeartbeats 4000000 in
set_option maxRecDepth 100000 in
theorem tX2_lengthFrom (l : Launch) {E : ET} (hE : Aj E) (G : GT) (i0 : Nat) (hi0 : i0 < cnt 0) (a1 : Int32) {r : Int32} (h : fX2_lengthFrom G i0 a1 = some r) : CI l E yX2_lengthFrom cX2_lengthFrom 4 (some .int) 2 [.ref (Ad E 0 i0), .int a1] G r G := by
  refine Met_I (lv := [(0, .ref (Ad E 0 i0)), (1, .int a1)]) (by decide +kernel) hE (Nat.le_of_ble_eq_true rfl) rfl ?_
  intro p e s m args below meth c X hr hk
  unfold fX2_lengthFrom at h
  refine j_iconst (pc := 0) (v := 0) X dX2_lengthFrom_0 (by decide) ?_
  refine j_istore_n (pc := 1) (lv' := [(0, .ref (Ad E 0 i0)), (1, .int a1), (2, .int (0 : Int32))]) X dX2_lengthFrom_1 rfl (by decide) rfl ?_
  refine j_iload_n (pc := 2) X dX2_lengthFrom_2 rfl 1 rfl ?_
  refine j_istore_n (pc := 3) (lv' := [(0, .ref (Ad E 0 i0)), (1, .int a1), (2, .int (0 : Int32)), (3, .int a1)]) X dX2_lengthFrom_3 rfl (by decide) rfl ?_
  refine j_lv (lv' := [(0, .ref (Ad E 0 i0)), (2, .int (0 : Int32)), (3, .int a1)]) [0, 2, 3] rfl ?_
  exact tX2_lengthFrom_4 l hE X hr hk G i0 hi0 FU (0 : Int32) a1 h
theorem dX2_loosenessFrom_0 : decode cX2_loosenessFrom 0 = .ok (.bipush 9, 2) := by decide +kernel
theorem dX2_loosenessFrom_2 : decode cX2_loosenessFrom 2 = .ok (.istore_n 2, 1) := by decide +kernel
theorem dX2_loosenessFrom_3 : decode cX2_loosenessFrom 3 = .ok (.iload_n 1, 1) := by decide +kernel
theorem dX2_loosenessFrom_4 : decode cX2_loosenessFrom 4 = .ok (.istore_n 3, 1) := by decide +kernel
theorem dX2_loosenessFrom_5 : decode cX2_loosenessFrom 5 = .ok (.iload_n 3, 1) := by decide +kernel
theorem dX2_loosenessFrom_6 : decode cX2_loosenessFrom 6 = .ok (.bipush 40, 2) := by decide +kernel
theorem dX2_loosenessFrom_8 : decode cX2_loosenessFrom 8 = .ok (.if_icmp .ge 27, 3) := by decide +kernel
theorem dX2_loosenessFrom_11 : decode cX2_loosenessFrom 11 = .ok (.aload_n 0, 1) := by decide +kernel
theorem dX2_loosenessFrom_12 : decode cX2_loosenessFrom 12 = .ok (.iload_n 3, 1) := by decide +kernel
theorem dX2_loosenessFrom_13 : decode cX2_loosenessFrom 13 = .ok (.invokevirtual 26, 3) := by decide +kernel
theorem dX2_loosenessFrom_16 : decode cX2_loosenessFrom 16 = .ok (.ifCond .eq 19, 3) := by decide +kernel
theorem dX2_loosenessFrom_19 : decode cX2_loosenessFrom 19 = .ok (.iload_n 2, 1) := by decide +kernel
theorem dX2_loosenessFrom_20 : decode cX2_loosenessFrom 20 = .ok (.aload_n 0, 1) := by decide +kernel
theorem dX2_loosenessFrom_21 : decode cX2_loosenessFrom 21 = .ok (.iload_n 3, 1) := by decide +kernel
theorem dX2_loosenessFrom_22 : decode cX2_loosenessFrom 22 = .ok (.invokevirtual 30, 3) := by decide +kernel
theorem dX2_loosenessFrom_25 : decode cX2_loosenessFrom 25 = .ok (.invokestatic 33, 3) := by decide +kernel
theorem dX2_loosenessFrom_28 : decode cX2_loosenessFrom 28 = .ok (.istore_n 2, 1) := by decide +kernel
theorem dX2_loosenessFrom_29 : decode cX2_loosenessFrom 29 = .ok (.iinc 3 1, 3) := by decide +kernel
theorem dX2_loosenessFrom_32 : decode cX2_loosenessFrom 32 = .ok (.goto (-27), 3) := by decide +kernel
theorem dX2_loosenessFrom_35 : decode cX2_loosenessFrom 35 = .ok (.iload_n 2, 1) := by decide +kernel
theorem dX2_loosenessFrom_36 : decode cX2_loosenessFrom 36 = .ok (.ireturn, 1) := by decide +kernel
set_option maxHeartbeats 4000000 in
set_option maxRecDepth 100000 in
theorem tX2_loosenessFrom_5 (l : Launch) {E : ET} (hE : Aj E) {p : Program} {e : Env} {s : State} {m : MethodId} {args : Array Value} {below : List Frame} {meth : Method} {c : Code} (X : Cx p (rmL 2) s m args c yX2_loosenessFrom.cls cX2_loosenessFrom 4 E (Aw E) 0 0) (hr : meth.sig.returnType = (some .int)) (hk : meth.locks = false) {r : Int32} (G : GT) (i0 : Nat) (hi0 : i0 < cnt 0) : ∀ (n : Nat) (a2 a3 : Int32), fX2_loosenessFrom_5 G i0 n a2 a3 = some r → J p l e (rmL 2) s m args below meth c E (Aw E) s.heap 4 0 0 (MQ below (QI E r G) args s 0 0 (Aw E)) G 5 [(0, .ref (Ad E 0 i0)), (2, .int a2), (3, .int a3)] [] := by
  intro n
  induction n with
  | zero =>
    intro a2 a3 h
    simp [fX2_loosenessFrom_5] at h
  | succ n ih =>
    intro a2 a3 h
    rw [fX2_loosenessFrom_5] at h
    refine j_iload_n (pc := 5) X dX2_loosenessFrom_5 rfl 2 rfl ?_
    refine j_bipush (pc := 6) (v := 40) X dX2_loosenessFrom_6 (by decide) ?_
    refine j_icmp_ge (pc := 8) (tgt := 35) X dX2_loosenessFrom_8 (by decide) (fun hc => ?_) (fun hc => ?_)
    · rw [if_pos hc] at h
      refine j_iload_n (pc := 35) X dX2_loosenessFrom_35 rfl 1 rfl ?_
      exact j_ret (pc := 36) X hr hk (vp_nar_int _) (Option.some.inj h) rfl dX2_loosenessFrom_36
    · rw [if_neg hc] at h
      refine j_aload_n (pc := 11) X dX2_loosenessFrom_11 rfl 0 rfl ?_
      refine j_iload_n (pc := 12) X dX2_loosenessFrom_12 rfl 2 rfl ?_
      obtain ⟨r1, hc3, h⟩ := bd_s h
      refine j_callI (pc := 13) X (tX2_kindAt l hE G i0 hi0 a3 hc3) muX2_kindAt hi0 q292 rfl rfl (Nat.le_of_ble_eq_true rfl) ⟨Nat.le_of_ble_eq_true rfl, Nat.le_of_ble_eq_true rfl⟩ dX2_loosenessFrom_13 ?_
      refine j_if_eq (pc := 16) (tgt := 35) X dX2_loosenessFrom_16 (by decide) (fun hc => ?_) (fun hc => ?_)
      · rw [if_pos hc] at h
        refine j_iload_n (pc := 35) X dX2_loosenessFrom_35 rfl 1 rfl ?_
        exact j_ret (pc := 36) X hr hk (vp_nar_int _) (Option.some.inj h) rfl dX2_loosenessFrom_36
      · rw [if_neg hc] at h
        refine j_iload_n (pc := 19) X dX2_loosenessFrom_19 rfl 1 rfl ?_
        refine j_aload_n (pc := 20) X dX2_loosenessFrom_20 rfl 0 rfl ?_
        refine j_iload_n (pc := 21) X dX2_loosenessFrom_21 rfl 2 rfl ?_
        obtain ⟨r4, hc6, h⟩ := bd_s h
        refine j_callI (pc := 22) X (tX2_tightAt l hE G i0 hi0 a3 hc6) muX2_tightAt hi0 q336 rfl rfl (Nat.le_of_ble_eq_true rfl) ⟨Nat.le_of_ble_eq_true rfl, Nat.le_of_ble_eq_true rfl⟩ dX2_loosenessFrom_22 ?_
        refine j_mmin (pc := 25) X (q537) ⟨Nat.le_of_ble_eq_true rfl, Nat.le_of_ble_eq_true rfl⟩ dX2_loosenessFrom_25 ?_
        refine j_istore_n (pc := 28) (lv' := [(0, .ref (Ad E 0 i0)), (2, .int (imin a2 r4)), (3, .int a3)]) X dX2_loosenessFrom_28 rfl (by decide) rfl ?_
        refine j_iinc (pc := 29) (q := 2) (v := (a3 + (1 : Int32))) (lv' := [(0, .ref (Ad E 0 i0)), (2, .int (imin a2 r4)), (3, .int (a3 + (1 : Int32)))]) X dX2_loosenessFrom_29 rfl rfl (by decide) rfl ?_
        refine j_goto (pc := 32) (tgt := 5) X dX2_loosenessFrom_32 (by decide) ?_
        exact ih (imin a2 r4) (a3 + (1 : Int32)) h
set_option maxHeartbeats 4000000 in
set_option maxRecDepth 100000 in
theorem tX2_loosenessFrom (l : Launch) {E : ET} (hE : Aj E) (G : GT) (i0 : Nat) (hi0 : i0 < cnt 0) (a1 : Int32) {r : Int32} (h : fX2_loosenessFrom G i0 a1 = some r) : CI l E yX2_loosenessFrom cX2_loosenessFrom 4 (some .int) 2 [.ref (Ad E 0 i0), .int a1] G r G := by
  refine Met_I (lv := [(0, .ref (Ad E 0 i0)), (1, .int a1)]) (by decide +kernel) hE (Nat.le_of_ble_eq_true rfl) rfl ?_
  intro p e s m args below meth c X hr hk
  unfold fX2_loosenessFrom at h
  refine j_bipush (pc := 0) (v := 9) X dX2_loosenessFrom_0 (by decide) ?_
  refine j_istore_n (pc := 2) (lv' := [(0, .ref (Ad E 0 i0)), (1, .int a1), (2, .int (9 : Int32))]) X dX2_loosenessFrom_2 rfl (by decide) rfl ?_
  refine j_iload_n (pc := 3) X dX2_loosenessFrom_3 rfl 1 rfl ?_
  refine j_istore_n (pc := 4) (lv' := [(0, .ref (Ad E 0 i0)), (1, .int a1), (2, .int (9 : Int32)), (3, .int a1)]) X dX2_loosenessFrom_4 rfl (by decide) rfl ?_
  refine j_lv (lv' := [(0, .ref (Ad E 0 i0)), (2, .int (9 : Int32)), (3, .int a1)]) [0, 2, 3] rfl ?_
  exact tX2_loosenessFrom_5 l hE X hr hk G i0 hi0 FU (9 : Int32) a1 h
theorem dX2_runAt_0 : decode cX2_runAt 0 = .ok (.aload_n 0, 1) := by decide +kernel
theorem dX2_runAt_1 : decode cX2_runAt 1 = .ok (.iload_n 1, 1) := by decide +kernel
theorem dX2_runAt_2 : decode cX2_runAt 2 = .ok (.invokevirtual 26, 3) := by decide +kernel
theorem dX2_runAt_5 : decode cX2_runAt 5 = .ok (.ifCond .ne 6, 3) := by decide +kernel
theorem dX2_runAt_8 : decode cX2_runAt 8 = .ok (.bipush (-5), 2) := by decide +kernel
theorem dX2_runAt_10 : decode cX2_runAt 10 = .ok (.ireturn, 1) := by decide +kernel
theorem dX2_runAt_11 : decode cX2_runAt 11 = .ok (.iconst (-1), 1) := by decide +kernel
theorem dX2_runAt_12 : decode cX2_runAt 12 = .ok (.istore_n 2, 1) := by decide +kernel
theorem dX2_runAt_13 : decode cX2_runAt 13 = .ok (.iconst 0, 1) := by decide +kernel
theorem dX2_runAt_14 : decode cX2_runAt 14 = .ok (.istore_n 3, 1) := by decide +kernel
theorem dX2_runAt_15 : decode cX2_runAt 15 = .ok (.iload_n 3, 1) := by decide +kernel
theorem dX2_runAt_16 : decode cX2_runAt 16 = .ok (.bipush 40, 2) := by decide +kernel
theorem dX2_runAt_18 : decode cX2_runAt 18 = .ok (.if_icmp .ge 25, 3) := by decide +kernel
theorem dX2_runAt_21 : decode cX2_runAt 21 = .ok (.iload_n 3, 1) := by decide +kernel
theorem dX2_runAt_22 : decode cX2_runAt 22 = .ok (.iload_n 1, 1) := by decide +kernel
theorem dX2_runAt_23 : decode cX2_runAt 23 = .ok (.if_icmp .gt 20, 3) := by decide +kernel
theorem dX2_runAt_26 : decode cX2_runAt 26 = .ok (.aload_n 0, 1) := by decide +kernel
theorem dX2_runAt_27 : decode cX2_runAt 27 = .ok (.iload_n 3, 1) := by decide +kernel
theorem dX2_runAt_28 : decode cX2_runAt 28 = .ok (.invokevirtual 39, 3) := by decide +kernel
theorem dX2_runAt_31 : decode cX2_runAt 31 = .ok (.ifCond .eq 6, 3) := by decide +kernel
theorem dX2_runAt_34 : decode cX2_runAt 34 = .ok (.iinc 2 1, 3) := by decide +kernel
theorem dX2_runAt_37 : decode cX2_runAt 37 = .ok (.iinc 3 1, 3) := by decide +kernel
theorem dX2_runAt_40 : decode cX2_runAt 40 = .ok (.goto (-25), 3) := by decide +kernel
theorem dX2_runAt_43 : decode cX2_runAt 43 = .ok (.iload_n 2, 1) := by decide +kernel
theorem dX2_runAt_44 : decode cX2_runAt 44 = .ok (.ireturn, 1) := by decide +kernel
set_option maxHeartbeats 4000000 in
set_option maxRecDepth 100000 in
theorem tX2_runAt_15 (l : Launch) {E : ET} (hE : Aj E) {p : Program} {e : Env} {s : State} {m : MethodId} {args : Array Value} {below : List Frame} {meth : Method} {c : Code} (X : Cx p (rmL 3) s m args c yX2_runAt.cls cX2_runAt 4 E (Aw E) 0 0) (hr : meth.sig.returnType = (some .int)) (hk : meth.locks = false) {r : Int32} (G : GT) (i0 : Nat) (hi0 : i0 < cnt 0) (a1 : Int32) : ∀ (n : Nat) (a2 a3 : Int32), fX2_runAt_15 G i0 a1 n a2 a3 = some r → J p l e (rmL 3) s m args below meth c E (Aw E) s.heap 4 0 0 (MQ below (QI E r G) args s 0 0 (Aw E)) G 15 [(0, .ref (Ad E 0 i0)), (1, .int a1), (2, .int a2), (3, .int a3)] [] := by
  intro n
  induction n with
  | zero =>
    intro a2 a3 h
    simp [fX2_runAt_15] at h
  | succ n ih =>
    intro a2 a3 h
    rw [fX2_runAt_15] at h
    refine j_iload_n (pc := 15) X dX2_runAt_15 rfl 3 rfl ?_
    refine j_bipush (pc := 16) (v := 40) X dX2_runAt_16 (by decide) ?_
    refine j_icmp_ge (pc := 18) (tgt := 43) X dX2_runAt_18 (by decide) (fun hc => ?_) (fun hc => ?_)
    · rw [if_pos hc] at h
      refine j_iload_n (pc := 43) X dX2_runAt_43 rfl 2 rfl ?_
      exact j_ret (pc := 44) X hr hk (vp_nar_int _) (Option.some.inj h) rfl dX2_runAt_44
    · rw [if_neg hc] at h
      refine j_iload_n (pc := 21) X dX2_runAt_21 rfl 3 rfl ?_
      refine j_iload_n (pc := 22) X dX2_runAt_22 rfl 1 rfl ?_
      refine j_icmp_gt (pc := 23) (tgt := 43) X dX2_runAt_23 (by decide) (fun hc => ?_) (fun hc => ?_)
      · rw [if_pos hc] at h
        refine j_iload_n (pc := 43) X dX2_runAt_43 rfl 2 rfl ?_
        exact j_ret (pc := 44) X hr hk (vp_nar_int _) (Option.some.inj h) rfl dX2_runAt_44
      · rw [if_neg hc] at h
        refine j_aload_n (pc := 26) X dX2_runAt_26 rfl 0 rfl ?_
        refine j_iload_n (pc := 27) X dX2_runAt_27 rfl 3 rfl ?_
        obtain ⟨r1, hc3, h⟩ := bd_s h
        refine j_callI (pc := 28) X (tX2_startsRun l hE G i0 hi0 a3 hc3) muX2_startsRun hi0 q519 rfl rfl (Nat.le_of_ble_eq_true rfl) ⟨Nat.le_of_ble_eq_true rfl, Nat.le_of_ble_eq_true rfl⟩ dX2_runAt_28 ?_
        refine j_if_eq (pc := 31) (tgt := 37) X dX2_runAt_31 (by decide) (fun hc => ?_) (fun hc => ?_)
        · rw [if_pos hc] at h
          refine j_iinc (pc := 37) (q := 3) (v := (a3 + (1 : Int32))) (lv' := [(0, .ref (Ad E 0 i0)), (1, .int a1), (2, .int a2), (3, .int (a3 + (1 : Int32)))]) X dX2_runAt_37 rfl rfl (by decide) rfl ?_
          refine j_goto (pc := 40) (tgt := 15) X dX2_runAt_40 (by decide) ?_
          exact ih a2 (a3 + (1 : Int32)) h
        · rw [if_neg hc] at h
          refine j_iinc (pc := 34) (q := 2) (v := (a2 + (1 : Int32))) (lv' := [(0, .ref (Ad E 0 i0)), (1, .int a1), (2, .int (a2 + (1 : Int32))), (3, .int a3)]) X dX2_runAt_34 rfl rfl (by decide) rfl ?_
          refine j_iinc (pc := 37) (q := 3) (v := (a3 + (1 : Int32))) (lv' := [(0, .ref (Ad E 0 i0)), (1, .int a1), (2, .int (a2 + (1 : Int32))), (3, .int (a3 + (1 : Int32)))]) X dX2_runAt_37 rfl rfl (by decide) rfl ?_
          refine j_goto (pc := 40) (tgt := 15) X dX2_runAt_40 (by decide) ?_
          exact ih (a2 + (1 : Int32)) (a3 + (1 : Int32)) h
set_option maxHeartbeats 4000000 in
set_option maxRecDepth 100000 in
theorem tX2_runAt (l : Launch) {E : ET} (hE : Aj E) (G : GT) (i0 : Nat) (hi0 : i0 < cnt 0) (a1 : Int32) {r : Int32} (h : fX2_runAt G i0 a1 = some r) : CI l E yX2_runAt cX2_runAt 4 (some .int) 3 [.ref (Ad E 0 i0), .int a1] G r G := by
  refine Met_I (lv := [(0, .ref (Ad E 0 i0)), (1, .int a1)]) (by decide +kernel) hE (Nat.le_of_ble_eq_true rfl) rfl ?_
  intro p e s m args below meth c X hr hk
  unfold fX2_runAt at h
  refine j_aload_n (pc := 0) X dX2_runAt_0 rfl 0 rfl ?_
  refine j_iload_n (pc := 1) X dX2_runAt_1 rfl 1 rfl ?_
  obtain ⟨r1, hc3, h⟩ := bd_s h
  refine j_callI (pc := 2) X (tX2_kindAt l hE G i0 hi0 a1 hc3) muX2_kindAt hi0 q292 rfl rfl (Nat.le_of_ble_eq_true rfl) ⟨Nat.le_of_ble_eq_true rfl, Nat.le_of_ble_eq_true rfl⟩ dX2_runAt_2 ?_
  refine j_if_ne (pc := 5) (tgt := 11) X dX2_runAt_5 (by decide) (fun hc => ?_) (fun hc => ?_)
  · rw [if_neg hc] at h
    refine j_iconst (pc := 11) (v := (-1)) X dX2_runAt_11 (by decide) ?_
    refine j_istore_n (pc := 12) (lv' := [(0, .ref (Ad E 0 i0)), (1, .int a1), (2, .int (-1 : Int32))]) X dX2_runAt_12 rfl (by decide) rfl ?_
    refine j_iconst (pc := 13) (v := 0) X dX2_runAt_13 (by decide) ?_
    refine j_istore_n (pc := 14) (lv' := [(0, .ref (Ad E 0 i0)), (1, .int a1), (2, .int (-1 : Int32)), (3, .int (0 : Int32))]) X dX2_runAt_14 rfl (by decide) rfl ?_
    exact tX2_runAt_15 l hE X hr hk G i0 hi0 a1 FU (-1 : Int32) (0 : Int32) h
  · rw [if_pos hc] at h
    refine j_bipush (pc := 8) (v := (-5)) X dX2_runAt_8 (by decide) ?_
    exact j_ret (pc := 10) X hr hk (vp_nar_int _) (Option.some.inj h) rfl dX2_runAt_10
theorem dX2_slip_0 : decode cX2_slip 0 = .ok (.iconst 0, 1) := by decide +kernel
theorem dX2_slip_1 : decode cX2_slip 1 = .ok (.istore_n 2, 1) := by decide +kernel
theorem dX2_slip_2 : decode cX2_slip 2 = .ok (.bipush 38, 2) := by decide +kernel
theorem dX2_slip_4 : decode cX2_slip 4 = .ok (.istore_n 3, 1) := by decide +kernel
theorem dX2_slip_5 : decode cX2_slip 5 = .ok (.iload_n 3, 1) := by decide +kernel
theorem dX2_slip_6 : decode cX2_slip 6 = .ok (.ifCond .lt 75, 3) := by decide +kernel
theorem dX2_slip_9 : decode cX2_slip 9 = .ok (.aload_n 0, 1) := by decide +kernel
theorem dX2_slip_10 : decode cX2_slip 10 = .ok (.iload_n 3, 1) := by decide +kernel
theorem dX2_slip_11 : decode cX2_slip 11 = .ok (.invokevirtual 26, 3) := by decide +kernel
theorem dX2_slip_14 : decode cX2_slip 14 = .ok (.ifCond .eq 16, 3) := by decide +kernel
theorem dX2_slip_17 : decode cX2_slip 17 = .ok (.aload_n 0, 1) := by decide +kernel
theorem dX2_slip_18 : decode cX2_slip 18 = .ok (.iload_n 3, 1) := by decide +kernel
theorem dX2_slip_19 : decode cX2_slip 19 = .ok (.invokevirtual 30, 3) := by decide +kernel
theorem dX2_slip_22 : decode cX2_slip 22 = .ok (.iload_n 1, 1) := by decide +kernel
theorem dX2_slip_23 : decode cX2_slip 23 = .ok (.if_icmp .ge 7, 3) := by decide +kernel
theorem dX2_slip_26 : decode cX2_slip 26 = .ok (.iconst 1, 1) := by decide +kernel
theorem dX2_slip_27 : decode cX2_slip 27 = .ok (.goto 4, 3) := by decide +kernel
theorem dX2_slip_30 : decode cX2_slip 30 = .ok (.iconst 0, 1) := by decide +kernel
theorem dX2_slip_31 : decode cX2_slip 31 = .ok (.istore 4, 2) := by decide +kernel
theorem dX2_slip_33 : decode cX2_slip 33 = .ok (.iload 4, 2) := by decide +kernel
theorem dX2_slip_35 : decode cX2_slip 35 = .ok (.ifCond .eq 40, 3) := by decide +kernel
theorem dX2_slip_38 : decode cX2_slip 38 = .ok (.aload_n 0, 1) := by decide +kernel
theorem dX2_slip_39 : decode cX2_slip 39 = .ok (.iload_n 3, 1) := by decide +kernel
theorem dX2_slip_40 : decode cX2_slip 40 = .ok (.iconst 1, 1) := by decide +kernel
theorem dX2_slip_41 : decode cX2_slip 41 = .ok (.iadd, 1) := by decide +kernel
theorem dX2_slip_42 : decode cX2_slip 42 = .ok (.invokevirtual 26, 3) := by decide +kernel
theorem dX2_slip_45 : decode cX2_slip 45 = .ok (.ifCond .ne 30, 3) := by decide +kernel
theorem dX2_slip_48 : decode cX2_slip 48 = .ok (.aload_n 0, 1) := by decide +kernel
theorem dX2_slip_49 : decode cX2_slip 49 = .ok (.iload_n 3, 1) := by decide +kernel
theorem dX2_slip_50 : decode cX2_slip 50 = .ok (.iconst 1, 1) := by decide +kernel
theorem dX2_slip_51 : decode cX2_slip 51 = .ok (.iadd, 1) := by decide +kernel
theorem dX2_slip_52 : decode cX2_slip 52 = .ok (.aload_n 0, 1) := by decide +kernel
theorem dX2_slip_53 : decode cX2_slip 53 = .ok (.iload_n 3, 1) := by decide +kernel
theorem dX2_slip_54 : decode cX2_slip 54 = .ok (.invokevirtual 26, 3) := by decide +kernel
theorem dX2_slip_57 : decode cX2_slip 57 = .ok (.aload_n 0, 1) := by decide +kernel
theorem dX2_slip_58 : decode cX2_slip 58 = .ok (.iload_n 3, 1) := by decide +kernel
theorem dX2_slip_59 : decode cX2_slip 59 = .ok (.invokevirtual 30, 3) := by decide +kernel
theorem dX2_slip_62 : decode cX2_slip 62 = .ok (.invokevirtual 22, 3) := by decide +kernel
theorem dX2_slip_65 : decode cX2_slip 65 = .ok (.aload_n 0, 1) := by decide +kernel
theorem dX2_slip_66 : decode cX2_slip 66 = .ok (.iload_n 3, 1) := by decide +kernel
theorem dX2_slip_67 : decode cX2_slip 67 = .ok (.iconst 0, 1) := by decide +kernel
theorem dX2_slip_68 : decode cX2_slip 68 = .ok (.iconst 0, 1) := by decide +kernel
theorem dX2_slip_69 : decode cX2_slip 69 = .ok (.invokevirtual 22, 3) := by decide +kernel
theorem dX2_slip_72 : decode cX2_slip 72 = .ok (.iinc 2 1, 3) := by decide +kernel
theorem dX2_slip_75 : decode cX2_slip 75 = .ok (.iinc 3 (-1), 3) := by decide +kernel
theorem dX2_slip_78 : decode cX2_slip 78 = .ok (.goto (-73), 3) := by decide +kernel
theorem dX2_slip_81 : decode cX2_slip 81 = .ok (.iload_n 2, 1) := by decide +kernel
theorem dX2_slip_82 : decode cX2_slip 82 = .ok (.ireturn, 1) := by decide +kernel
set_option maxHeartbeats 4000000 in
set_option maxRecDepth 100000 in
theorem tX2_slip_31 (l : Launch) {E : ET} (hE : Aj E) {p : Program} {e : Env} {s : State} {m : MethodId} {args : Array Value} {below : List Frame} {meth : Method} {c : Code} (X : Cx p (rmL 2) s m args c yX2_slip.cls cX2_slip 5 E (Aw E) 0 0) (hr : meth.sig.returnType = (some .int)) (hk : meth.locks = false) {r : Int32} {G' : GT} (G : GT) (i0 : Nat) (hi0 : i0 < cnt 0) (a1 : Int32) (a2 : Int32) (a3 : Int32) (s0 : Int32) (k5 : GT → Int32 → Int32 → Option (Int32 × GT)) (hk5 : ∀ (G : GT) (a2 a3 : Int32), k5 G a2 a3 = some (r, G') → J p l e (rmL 2) s m args below meth c E (Aw E) s.heap 5 0 0 (MQ below (QI E r G') args s 0 0 (Aw E)) G 5 [(0, .ref (Ad E 0 i0)), (1, .int a1), (2, .int a2), (3, .int a3)] []) (h : fX2_slip_31 G i0 a1 a2 a3 s0 k5 = some (r, G')) : J p l e (rmL 2) s m args below meth c E (Aw E) s.heap 5 0 0 (MQ below (QI E r G') args s 0 0 (Aw E)) G 31 [(0, .ref (Ad E 0 i0)), (1, .int a1), (2, .int a2), (3, .int a3)] [.int s0] := by
  unfold fX2_slip_31 at h
  refine j_istore (pc := 31) (lv' := [(0, .ref (Ad E 0 i0)), (1, .int a1), (2, .int a2), (3, .int a3), (4, .int s0)]) X dX2_slip_31 (by decide) rfl ?_
  refine j_iload (pc := 33) X dX2_slip_33 4 rfl ?_
  refine j_if_eq (pc := 35) (tgt := 75) X dX2_slip_35 (by decide) (fun hc => ?_) (fun hc => ?_)
  · rw [if_pos hc] at h
    refine j_iinc (pc := 75) (q := 3) (v := (a3 + (-1 : Int32))) (lv' := [(0, .ref (Ad E 0 i0)), (1, .int a1), (2, .int a2), (3, .int (a3 + (-1 : Int32))), (4, .int s0)]) X dX2_slip_75 rfl rfl (by decide) rfl ?_
    refine j_goto (pc := 78) (tgt := 5) X dX2_slip_78 (by decide) ?_
    refine j_lv (lv' := [(0, .ref (Ad E 0 i0)), (1, .int a1), (2, .int a2), (3, .int (a3 + (-1 : Int32)))]) [0, 1, 2, 3] rfl ?_
    exact hk5 G a2 (a3 + (-1 : Int32)) h
  · rw [if_neg hc] at h
    refine j_aload_n (pc := 38) X dX2_slip_38 rfl 0 rfl ?_
    refine j_iload_n (pc := 39) X dX2_slip_39 rfl 3 rfl ?_
    refine j_iconst (pc := 40) (v := 1) X dX2_slip_40 (by decide) ?_
    refine j_iadd (pc := 41) X dX2_slip_41 ?_
    obtain ⟨r1, hc3, h⟩ := bd_s h
    refine j_callI (pc := 42) X (tX2_kindAt l hE G i0 hi0 (a3 + (1 : Int32)) hc3) muX2_kindAt hi0 q292 rfl rfl (Nat.le_of_ble_eq_true rfl) ⟨Nat.le_of_ble_eq_true rfl, Nat.le_of_ble_eq_true rfl⟩ dX2_slip_42 ?_
    refine j_if_ne (pc := 45) (tgt := 75) X dX2_slip_45 (by decide) (fun hc => ?_) (fun hc => ?_)
    · rw [if_neg hc] at h
      refine j_iinc (pc := 75) (q := 3) (v := (a3 + (-1 : Int32))) (lv' := [(0, .ref (Ad E 0 i0)), (1, .int a1), (2, .int a2), (3, .int (a3 + (-1 : Int32))), (4, .int s0)]) X dX2_slip_75 rfl rfl (by decide) rfl ?_
      refine j_goto (pc := 78) (tgt := 5) X dX2_slip_78 (by decide) ?_
      refine j_lv (lv' := [(0, .ref (Ad E 0 i0)), (1, .int a1), (2, .int a2), (3, .int (a3 + (-1 : Int32)))]) [0, 1, 2, 3] rfl ?_
      exact hk5 G a2 (a3 + (-1 : Int32)) h
    · rw [if_pos hc] at h
      refine j_aload_n (pc := 48) X dX2_slip_48 rfl 0 rfl ?_
      refine j_iload_n (pc := 49) X dX2_slip_49 rfl 3 rfl ?_
      refine j_iconst (pc := 50) (v := 1) X dX2_slip_50 (by decide) ?_
      refine j_iadd (pc := 51) X dX2_slip_51 ?_
      refine j_aload_n (pc := 52) X dX2_slip_52 rfl 0 rfl ?_
      refine j_iload_n (pc := 53) X dX2_slip_53 rfl 3 rfl ?_
      obtain ⟨r4, hc6, h⟩ := bd_s h
      refine j_callI (pc := 54) X (tX2_kindAt l hE G i0 hi0 a3 hc6) muX2_kindAt hi0 q292 rfl rfl (Nat.le_of_ble_eq_true rfl) ⟨Nat.le_of_ble_eq_true rfl, Nat.le_of_ble_eq_true rfl⟩ dX2_slip_54 ?_
      refine j_aload_n (pc := 57) X dX2_slip_57 rfl 0 rfl ?_
      refine j_iload_n (pc := 58) X dX2_slip_58 rfl 3 rfl ?_
      obtain ⟨r7, hc9, h⟩ := bd_s h
      refine j_callI (pc := 59) X (tX2_tightAt l hE G i0 hi0 a3 hc9) muX2_tightAt hi0 q336 rfl rfl (Nat.le_of_ble_eq_true rfl) ⟨Nat.le_of_ble_eq_true rfl, Nat.le_of_ble_eq_true rfl⟩ dX2_slip_59 ?_
      obtain ⟨G11, hc12, h⟩ := bd_s h
      refine j_callV (pc := 62) X (tX2_put l hE G i0 hi0 (a3 + (1 : Int32)) r4 r7 hc12) muX2_put hi0 q337 rfl rfl (Nat.le_of_ble_eq_true rfl) ⟨Nat.le_of_ble_eq_true rfl, Nat.le_of_ble_eq_true rfl⟩ dX2_slip_62 ?_
      refine j_aload_n (pc := 65) X dX2_slip_65 rfl 0 rfl ?_
      refine j_iload_n (pc := 66) X dX2_slip_66 rfl 3 rfl ?_
      refine j_iconst (pc := 67) (v := 0) X dX2_slip_67 (by decide) ?_
      refine j_iconst (pc := 68) (v := 0) X dX2_slip_68 (by decide) ?_
      obtain ⟨G14, hc15, h⟩ := bd_s h
      refine j_callV (pc := 69) X (tX2_put l hE G11 i0 hi0 a3 (0 : Int32) (0 : Int32) hc15) muX2_put hi0 q337 rfl rfl (Nat.le_of_ble_eq_true rfl) ⟨Nat.le_of_ble_eq_true rfl, Nat.le_of_ble_eq_true rfl⟩ dX2_slip_69 ?_
      refine j_iinc (pc := 72) (q := 2) (v := (a2 + (1 : Int32))) (lv' := [(0, .ref (Ad E 0 i0)), (1, .int a1), (2, .int (a2 + (1 : Int32))), (3, .int a3), (4, .int s0)]) X dX2_slip_72 rfl rfl (by decide) rfl ?_
      refine j_iinc (pc := 75) (q := 3) (v := (a3 + (-1 : Int32))) (lv' := [(0, .ref (Ad E 0 i0)), (1, .int a1), (2, .int (a2 + (1 : Int32))), (3, .int (a3 + (-1 : Int32))), (4, .int s0)]) X dX2_slip_75 rfl rfl (by decide) rfl ?_
      refine j_goto (pc := 78) (tgt := 5) X dX2_slip_78 (by decide) ?_
      refine j_lv (lv' := [(0, .ref (Ad E 0 i0)), (1, .int a1), (2, .int (a2 + (1 : Int32))), (3, .int (a3 + (-1 : Int32)))]) [0, 1, 2, 3] rfl ?_
      exact hk5 G14 (a2 + (1 : Int32)) (a3 + (-1 : Int32)) h
set_option maxHeartbeats 4000000 in
set_option maxRecDepth 100000 in
theorem tX2_slip_30 (l : Launch) {E : ET} (hE : Aj E) {p : Program} {e : Env} {s : State} {m : MethodId} {args : Array Value} {below : List Frame} {meth : Method} {c : Code} (X : Cx p (rmL 2) s m args c yX2_slip.cls cX2_slip 5 E (Aw E) 0 0) (hr : meth.sig.returnType = (some .int)) (hk : meth.locks = false) {r : Int32} {G' : GT} (G : GT) (i0 : Nat) (hi0 : i0 < cnt 0) (a1 : Int32) (a2 : Int32) (a3 : Int32) (k5 : GT → Int32 → Int32 → Option (Int32 × GT)) (hk5 : ∀ (G : GT) (a2 a3 : Int32), k5 G a2 a3 = some (r, G') → J p l e (rmL 2) s m args below meth c E (Aw E) s.heap 5 0 0 (MQ below (QI E r G') args s 0 0 (Aw E)) G 5 [(0, .ref (Ad E 0 i0)), (1, .int a1), (2, .int a2), (3, .int a3)] []) (h : fX2_slip_30 G i0 a1 a2 a3 k5 = some (r, G')) : J p l e (rmL 2) s m args below meth c E (Aw E) s.heap 5 0 0 (MQ below (QI E r G') args s 0 0 (Aw E)) G 30 [(0, .ref (Ad E 0 i0)), (1, .int a1), (2, .int a2), (3, .int a3)] [] := by
  unfold fX2_slip_30 at h
  refine j_iconst (pc := 30) (v := 0) X dX2_slip_30 (by decide) ?_
  exact tX2_slip_31 l hE X hr hk G i0 hi0 a1 a2 a3 (0 : Int32) k5 hk5 h
set_option maxHeartbeats 4000000 in
set_option maxRecDepth 100000 in
theorem tX2_slip_5 (l : Launch) {E : ET} (hE : Aj E) {p : Program} {e : Env} {s : State} {m : MethodId} {args : Array Value} {below : List Frame} {meth : Method} {c : Code} (X : Cx p (rmL 2) s m args c yX2_slip.cls cX2_slip 5 E (Aw E) 0 0) (hr : meth.sig.returnType = (some .int)) (hk : meth.locks = false) {r : Int32} {G' : GT} (i0 : Nat) (hi0 : i0 < cnt 0) (a1 : Int32) : ∀ (n : Nat) (G : GT) (a2 a3 : Int32), fX2_slip_5 i0 a1 n G a2 a3 = some (r, G') → J p l e (rmL 2) s m args below meth c E (Aw E) s.heap 5 0 0 (MQ below (QI E r G') args s 0 0 (Aw E)) G 5 [(0, .ref (Ad E 0 i0)), (1, .int a1), (2, .int a2), (3, .int a3)] [] := by
  intro n
  induction n with
  | zero =>
    intro G a2 a3 h
    simp [fX2_slip_5] at h
  | succ n ih =>
    intro G a2 a3 h
    rw [fX2_slip_5] at h
    refine j_iload_n (pc := 5) X dX2_slip_5 rfl 3 rfl ?_
    refine j_if_lt (pc := 6) (tgt := 81) X dX2_slip_6 (by decide) (fun hc => ?_) (fun hc => ?_)
    · rw [if_pos hc] at h
      refine j_iload_n (pc := 81) X dX2_slip_81 rfl 2 rfl ?_
      exact j_ret (pc := 82) X hr hk (vp_nar_int _) (pr_s h).1 (pr_s h).2 dX2_slip_82
    · rw [if_neg hc] at h
      refine j_aload_n (pc := 9) X dX2_slip_9 rfl 0 rfl ?_
      refine j_iload_n (pc := 10) X dX2_slip_10 rfl 3 rfl ?_
      obtain ⟨r1, hc3, h⟩ := bd_s h
      refine j_callI (pc := 11) X (tX2_kindAt l hE G i0 hi0 a3 hc3) muX2_kindAt hi0 q292 rfl rfl (Nat.le_of_ble_eq_true rfl) ⟨Nat.le_of_ble_eq_true rfl, Nat.le_of_ble_eq_true rfl⟩ dX2_slip_11 ?_
      refine j_if_eq (pc := 14) (tgt := 30) X dX2_slip_14 (by decide) (fun hc => ?_) (fun hc => ?_)
      · rw [if_pos hc] at h
        exact tX2_slip_30 l hE X hr hk G i0 hi0 a1 a2 a3 (fX2_slip_5 i0 a1 n) ih h
      · rw [if_neg hc] at h
        refine j_aload_n (pc := 17) X dX2_slip_17 rfl 0 rfl ?_
        refine j_iload_n (pc := 18) X dX2_slip_18 rfl 3 rfl ?_
        obtain ⟨r4, hc6, h⟩ := bd_s h
        refine j_callI (pc := 19) X (tX2_tightAt l hE G i0 hi0 a3 hc6) muX2_tightAt hi0 q336 rfl rfl (Nat.le_of_ble_eq_true rfl) ⟨Nat.le_of_ble_eq_true rfl, Nat.le_of_ble_eq_true rfl⟩ dX2_slip_19 ?_
        refine j_iload_n (pc := 22) X dX2_slip_22 rfl 1 rfl ?_
        refine j_icmp_ge (pc := 23) (tgt := 30) X dX2_slip_23 (by decide) (fun hc => ?_) (fun hc => ?_)
        · rw [if_pos hc] at h
          exact tX2_slip_30 l hE X hr hk G i0 hi0 a1 a2 a3 (fX2_slip_5 i0 a1 n) ih h
        · rw [if_neg hc] at h
          refine j_iconst (pc := 26) (v := 1) X dX2_slip_26 (by decide) ?_
          refine j_goto (pc := 27) (tgt := 31) X dX2_slip_27 (by decide) ?_
          exact tX2_slip_31 l hE X hr hk G i0 hi0 a1 a2 a3 (1 : Int32) (fX2_slip_5 i0 a1 n) ih h
set_option maxHeartbeats 4000000 in
set_option maxRecDepth 100000 in
theorem tX2_slip (l : Launch) {E : ET} (hE : Aj E) (G : GT) (i0 : Nat) (hi0 : i0 < cnt 0) (a1 : Int32) {r : Int32} {G' : GT} (h : fX2_slip G i0 a1 = some (r, G')) : CI l E yX2_slip cX2_slip 5 (some .int) 2 [.ref (Ad E 0 i0), .int a1] G r G' := by
  refine Met_I (lv := [(0, .ref (Ad E 0 i0)), (1, .int a1)]) (by decide +kernel) hE (Nat.le_of_ble_eq_true rfl) rfl ?_
  intro p e s m args below meth c X hr hk
  unfold fX2_slip at h
  refine j_iconst (pc := 0) (v := 0) X dX2_slip_0 (by decide) ?_
  refine j_istore_n (pc := 1) (lv' := [(0, .ref (Ad E 0 i0)), (1, .int a1), (2, .int (0 : Int32))]) X dX2_slip_1 rfl (by decide) rfl ?_
  refine j_bipush (pc := 2) (v := 38) X dX2_slip_2 (by decide) ?_
  refine j_istore_n (pc := 4) (lv' := [(0, .ref (Ad E 0 i0)), (1, .int a1), (2, .int (0 : Int32)), (3, .int (38 : Int32))]) X dX2_slip_4 rfl (by decide) rfl ?_
  exact tX2_slip_5 l hE X hr hk i0 hi0 a1 FU G (0 : Int32) (38 : Int32) h
theorem dX6_has_0 : decode cX6_has 0 = .ok (.iload_n 1, 1) := by decide +kernel
theorem dX6_has_1 : decode cX6_has 1 = .ok (.ifCond .lt 21, 3) := by decide +kernel
theorem dX6_has_4 : decode cX6_has 4 = .ok (.iload_n 1, 1) := by decide +kernel
theorem dX6_has_5 : decode cX6_has 5 = .ok (.aload_n 0, 1) := by decide +kernel
theorem dX6_has_6 : decode cX6_has 6 = .ok (.getfield 9, 3) := by decide +kernel
theorem dX6_has_9 : decode cX6_has 9 = .ok (.if_icmp .ge 13, 3) := by decide +kernel
theorem dX6_has_12 : decode cX6_has 12 = .ok (.iload_n 1, 1) := by decide +kernel
theorem dX6_has_13 : decode cX6_has 13 = .ok (.bipush 16, 2) := by decide +kernel
theorem dX6_has_15 : decode cX6_has 15 = .ok (.if_icmp .ge 7, 3) := by decide +kernel
theorem dX6_has_18 : decode cX6_has 18 = .ok (.iconst 1, 1) := by decide +kernel
theorem dX6_has_19 : decode cX6_has 19 = .ok (.goto 4, 3) := by decide +kernel
theorem dX6_has_22 : decode cX6_has 22 = .ok (.iconst 0, 1) := by decide +kernel
theorem dX6_has_23 : decode cX6_has 23 = .ok (.ireturn, 1) := by decide +kernel
set_option maxHeartbeats 4000000 in
set_option maxRecDepth 100000 in
theorem tX6_has (l : Launch) {E : ET} (hE : Aj E) (G : GT) (i0 : Nat) (hi0 : i0 < cnt 3) (a1 : Int32) {r : Int32} (h : fX6_has G i0 a1 = some r) : CI l E yX6_has cX6_has 2 (some .boolean) 0 [.ref (Ad E 3 i0), .int a1] G r G := by
  refine Met_I (lv := [(0, .ref (Ad E 3 i0)), (1, .int a1)]) (by decide +kernel) hE (Nat.le_of_ble_eq_true rfl) rfl ?_
  intro p e s m args below meth c X hr hk
  unfold fX6_has at h
  refine j_iload_n (pc := 0) X dX6_has_0 rfl 1 rfl ?_
  refine j_if_lt (pc := 1) (tgt := 22) X dX6_has_1 (by decide) (fun hc => ?_) (fun hc => ?_)
  · rw [if_pos hc] at h
    refine j_iconst (pc := 22) (v := 0) X dX6_has_22 (by decide) ?_
    exact j_ret (pc := 23) X hr hk rfl (Option.some.inj h) rfl dX6_has_23
  · rw [if_neg hc] at h
    refine j_iload_n (pc := 4) X dX6_has_4 rfl 1 rfl ?_
    refine j_aload_n (pc := 5) X dX6_has_5 rfl 0 rfl ?_
    refine j_get (pc := 6) (v := .int (G 3 i0 0)) X gf_X6_9 hi0 rfl rfl dX6_has_6 ?_
    refine j_icmp_ge (pc := 9) (tgt := 22) X dX6_has_9 (by decide) (fun hc => ?_) (fun hc => ?_)
    · rw [if_pos hc] at h
      refine j_iconst (pc := 22) (v := 0) X dX6_has_22 (by decide) ?_
      exact j_ret (pc := 23) X hr hk rfl (Option.some.inj h) rfl dX6_has_23
    · rw [if_neg hc] at h
      refine j_iload_n (pc := 12) X dX6_has_12 rfl 1 rfl ?_
      refine j_bipush (pc := 13) (v := 16) X dX6_has_13 (by decide) ?_
      refine j_icmp_ge (pc := 15) (tgt := 22) X dX6_has_15 (by decide) (fun hc => ?_) (fun hc => ?_)
      · rw [if_pos hc] at h
        refine j_iconst (pc := 22) (v := 0) X dX6_has_22 (by decide) ?_
        exact j_ret (pc := 23) X hr hk rfl (Option.some.inj h) rfl dX6_has_23
      · rw [if_neg hc] at h
        refine j_iconst (pc := 18) (v := 1) X dX6_has_18 (by decide) ?_
        refine j_goto (pc := 19) (tgt := 23) X dX6_has_19 (by decide) ?_
        exact j_ret (pc := 23) X hr hk rfl (Option.some.inj h) rfl dX6_has_23
theorem dX6_lengthOf_0 : decode cX6_lengthOf 0 = .ok (.aload_n 0, 1) := by decide +kernel
theorem dX6_lengthOf_1 : decode cX6_lengthOf 1 = .ok (.iload_n 1, 1) := by decide +kernel
theorem dX6_lengthOf_2 : decode cX6_lengthOf 2 = .ok (.invokevirtual 25, 3) := by decide +kernel
theorem dX6_lengthOf_5 : decode cX6_lengthOf 5 = .ok (.ifCond .eq 12, 3) := by decide +kernel
theorem dX6_lengthOf_8 : decode cX6_lengthOf 8 = .ok (.aload_n 0, 1) := by decide +kernel
theorem dX6_lengthOf_9 : decode cX6_lengthOf 9 = .ok (.getfield 15, 3) := by decide +kernel
theorem dX6_lengthOf_12 : decode cX6_lengthOf 12 = .ok (.iload_n 1, 1) := by decide +kernel
theorem dX6_lengthOf_13 : decode cX6_lengthOf 13 = .ok (.iaload, 1) := by decide +kernel
theorem dX6_lengthOf_14 : decode cX6_lengthOf 14 = .ok (.goto 4, 3) := by decide +kernel
theorem dX6_lengthOf_17 : decode cX6_lengthOf 17 = .ok (.iconst 0, 1) := by decide +kernel
theorem dX6_lengthOf_18 : decode cX6_lengthOf 18 = .ok (.ireturn, 1) := by decide +kernel
set_option maxHeartbeats 4000000 in
set_option maxRecDepth 100000 in
theorem tX6_lengthOf (l : Launch) {E : ET} (hE : Aj E) (G : GT) (i0 : Nat) (hi0 : i0 < cnt 3) (a1 : Int32) {r : Int32} (h : fX6_lengthOf G i0 a1 = some r) : CI l E yX6_lengthOf cX6_lengthOf 2 (some .int) 1 [.ref (Ad E 3 i0), .int a1] G r G := by
  refine Met_I (lv := [(0, .ref (Ad E 3 i0)), (1, .int a1)]) (by decide +kernel) hE (Nat.le_of_ble_eq_true rfl) rfl ?_
  intro p e s m args below meth c X hr hk
  unfold fX6_lengthOf at h
  refine j_aload_n (pc := 0) X dX6_lengthOf_0 rfl 0 rfl ?_
  refine j_iload_n (pc := 1) X dX6_lengthOf_1 rfl 1 rfl ?_
  obtain ⟨r1, hc3, h⟩ := bd_s h
  refine j_callI (pc := 2) X (tX6_has l hE G i0 hi0 a1 hc3) muX6_has hi0 q305 rfl rfl (Nat.le_of_ble_eq_true rfl) ⟨Nat.le_of_ble_eq_true rfl, Nat.le_of_ble_eq_true rfl⟩ dX6_lengthOf_2 ?_
  refine j_if_eq (pc := 5) (tgt := 17) X dX6_lengthOf_5 (by decide) (fun hc => ?_) (fun hc => ?_)
  · rw [if_pos hc] at h
    refine j_iconst (pc := 17) (v := 0) X dX6_lengthOf_17 (by decide) ?_
    exact j_ret (pc := 18) X hr hk (vp_nar_int _) (Option.some.inj h) rfl dX6_lengthOf_18
  · rw [if_neg hc] at h
    refine j_aload_n (pc := 8) X dX6_lengthOf_8 rfl 0 rfl ?_
    refine j_get (pc := 9) (v := .ref (Ad E 4 i0)) X gf_X6_15 hi0 rfl rfl dX6_lengthOf_9 ?_
    refine j_iload_n (pc := 12) X dX6_lengthOf_12 rfl 1 rfl ?_
    obtain ⟨hg4, h⟩ := gd_s h
    refine j_iald (pc := 13) (n := 16) X hi0 rfl hg4 dX6_lengthOf_13 ?_
    refine j_goto (pc := 14) (tgt := 18) X dX6_lengthOf_14 (by decide) ?_
    exact j_ret (pc := 18) X hr hk (vp_nar_int _) (Option.some.inj h) rfl dX6_lengthOf_18
theorem dX6_kindAt_0 : decode cX6_kindAt 0 = .ok (.aload_n 0, 1) := by decide +kernel
theorem dX6_kindAt_1 : decode cX6_kindAt 1 = .ok (.iload_n 1, 1) := by decide +kernel
theorem dX6_kindAt_2 : decode cX6_kindAt 2 = .ok (.invokevirtual 25, 3) := by decide +kernel
theorem dX6_kindAt_5 : decode cX6_kindAt 5 = .ok (.ifCond .eq 16, 3) := by decide +kernel
theorem dX6_kindAt_8 : decode cX6_kindAt 8 = .ok (.iload_n 2, 1) := by decide +kernel
theorem dX6_kindAt_9 : decode cX6_kindAt 9 = .ok (.iconst 0, 1) := by decide +kernel
theorem dX6_kindAt_10 : decode cX6_kindAt 10 = .ok (.iconst 4, 1) := by decide +kernel
theorem dX6_kindAt_11 : decode cX6_kindAt 11 = .ok (.invokestatic 29, 3) := by decide +kernel
theorem dX6_kindAt_14 : decode cX6_kindAt 14 = .ok (.ifCond .eq 7, 3) := by decide +kernel
theorem dX6_kindAt_17 : decode cX6_kindAt 17 = .ok (.iconst 1, 1) := by decide +kernel
theorem dX6_kindAt_18 : decode cX6_kindAt 18 = .ok (.goto 4, 3) := by decide +kernel
theorem dX6_kindAt_21 : decode cX6_kindAt 21 = .ok (.iconst 0, 1) := by decide +kernel
theorem dX6_kindAt_22 : decode cX6_kindAt 22 = .ok (.istore_n 3, 1) := by decide +kernel
theorem dX6_kindAt_23 : decode cX6_kindAt 23 = .ok (.iload_n 3, 1) := by decide +kernel
theorem dX6_kindAt_24 : decode cX6_kindAt 24 = .ok (.ifCond .eq 16, 3) := by decide +kernel
theorem dX6_kindAt_27 : decode cX6_kindAt 27 = .ok (.aload_n 0, 1) := by decide +kernel
theorem dX6_kindAt_28 : decode cX6_kindAt 28 = .ok (.getfield 22, 3) := by decide +kernel
theorem dX6_kindAt_31 : decode cX6_kindAt 31 = .ok (.iload_n 1, 1) := by decide +kernel
theorem dX6_kindAt_32 : decode cX6_kindAt 32 = .ok (.iconst 5, 1) := by decide +kernel
theorem dX6_kindAt_33 : decode cX6_kindAt 33 = .ok (.imul, 1) := by decide +kernel
theorem dX6_kindAt_34 : decode cX6_kindAt 34 = .ok (.iload_n 2, 1) := by decide +kernel
theorem dX6_kindAt_35 : decode cX6_kindAt 35 = .ok (.iadd, 1) := by decide +kernel
theorem dX6_kindAt_36 : decode cX6_kindAt 36 = .ok (.iaload, 1) := by decide +kernel
theorem dX6_kindAt_37 : decode cX6_kindAt 37 = .ok (.goto 4, 3) := by decide +kernel
theorem dX6_kindAt_40 : decode cX6_kindAt 40 = .ok (.iconst 0, 1) := by decide +kernel
theorem dX6_kindAt_41 : decode cX6_kindAt 41 = .ok (.ireturn, 1) := by decide +kernel
set_option maxHeartbeats 4000000 in
set_option maxRecDepth 100000 in
theorem tX6_kindAt_22 (l : Launch) {E : ET} (hE : Aj E) {p : Program} {e : Env} {s : State} {m : MethodId} {args : Array Value} {below : List Frame} {meth : Method} {c : Code} (X : Cx p (rmL 1) s m args c yX6_kindAt.cls cX6_kindAt 4 E (Aw E) 0 0) (hr : meth.sig.returnType = (some .int)) (hk : meth.locks = false) {r : Int32} (G : GT) (i0 : Nat) (hi0 : i0 < cnt 3) (a1 : Int32) (a2 : Int32) (s0 : Int32) (h : fX6_kindAt_22 G i0 a1 a2 s0 = some r) : J p l e (rmL 1) s m args below meth c E (Aw E) s.heap 4 0 0 (MQ below (QI E r G) args s 0 0 (Aw E)) G 22 [(0, .ref (Ad E 3 i0)), (1, .int a1), (2, .int a2)] [.int s0] := by
  unfold fX6_kindAt_22 at h
  refine j_istore_n (pc := 22) (lv' := [(0, .ref (Ad E 3 i0)), (1, .int a1), (2, .int a2), (3, .int s0)]) X dX6_kindAt_22 rfl (by decide) rfl ?_
  refine j_iload_n (pc := 23) X dX6_kindAt_23 rfl 3 rfl ?_
  refine j_if_eq (pc := 24) (tgt := 40) X dX6_kindAt_24 (by decide) (fun hc => ?_) (fun hc => ?_)
  · rw [if_pos hc] at h
    refine j_iconst (pc := 40) (v := 0) X dX6_kindAt_40 (by decide) ?_
    exact j_ret (pc := 41) X hr hk (vp_nar_int _) (Option.some.inj h) rfl dX6_kindAt_41
  · rw [if_neg hc] at h
    refine j_aload_n (pc := 27) X dX6_kindAt_27 rfl 0 rfl ?_
    refine j_get (pc := 28) (v := .ref (Ad E 6 i0)) X gf_X6_22 hi0 rfl rfl dX6_kindAt_28 ?_
    refine j_iload_n (pc := 31) X dX6_kindAt_31 rfl 1 rfl ?_
    refine j_iconst (pc := 32) (v := 5) X dX6_kindAt_32 (by decide) ?_
    refine j_imul (pc := 33) X dX6_kindAt_33 ?_
    refine j_iload_n (pc := 34) X dX6_kindAt_34 rfl 2 rfl ?_
    refine j_iadd (pc := 35) X dX6_kindAt_35 ?_
    obtain ⟨hg1, h⟩ := gd_s h
    refine j_iald (pc := 36) (n := 80) X hi0 rfl hg1 dX6_kindAt_36 ?_
    refine j_goto (pc := 37) (tgt := 41) X dX6_kindAt_37 (by decide) ?_
    exact j_ret (pc := 41) X hr hk (vp_nar_int _) (Option.some.inj h) rfl dX6_kindAt_41
set_option maxHeartbeats 4000000 in
set_option maxRecDepth 100000 in
theorem tX6_kindAt_21 (l : Launch) {E : ET} (hE : Aj E) {p : Program} {e : Env} {s : State} {m : MethodId} {args : Array Value} {below : List Frame} {meth : Method} {c : Code} (X : Cx p (rmL 1) s m args c yX6_kindAt.cls cX6_kindAt 4 E (Aw E) 0 0) (hr : meth.sig.returnType = (some .int)) (hk : meth.locks = false) {r : Int32} (G : GT) (i0 : Nat) (hi0 : i0 < cnt 3) (a1 : Int32) (a2 : Int32) (h : fX6_kindAt_21 G i0 a1 a2 = some r) : J p l e (rmL 1) s m args below meth c E (Aw E) s.heap 4 0 0 (MQ below (QI E r G) args s 0 0 (Aw E)) G 21 [(0, .ref (Ad E 3 i0)), (1, .int a1), (2, .int a2)] [] := by
  unfold fX6_kindAt_21 at h
  refine j_iconst (pc := 21) (v := 0) X dX6_kindAt_21 (by decide) ?_
  exact tX6_kindAt_22 l hE X hr hk G i0 hi0 a1 a2 (0 : Int32) h
set_option maxHeartbeats 4000000 in
set_option maxRecDepth 100000 in
theorem tX6_kindAt (l : Launch) {E : ET} (hE : Aj E) (G : GT) (i0 : Nat) (hi0 : i0 < cnt 3) (a1 : Int32) (a2 : Int32) {r : Int32} (h : fX6_kindAt G i0 a1 a2 = some r) : CI l E yX6_kindAt cX6_kindAt 4 (some .int) 1 [.ref (Ad E 3 i0), .int a1, .int a2] G r G := by
  refine Met_I (lv := [(0, .ref (Ad E 3 i0)), (1, .int a1), (2, .int a2)]) (by decide +kernel) hE (Nat.le_of_ble_eq_true rfl) rfl ?_
  intro p e s m args below meth c X hr hk
  unfold fX6_kindAt at h
  refine j_aload_n (pc := 0) X dX6_kindAt_0 rfl 0 rfl ?_
  refine j_iload_n (pc := 1) X dX6_kindAt_1 rfl 1 rfl ?_
  obtain ⟨r1, hc3, h⟩ := bd_s h
  refine j_callI (pc := 2) X (tX6_has l hE G i0 hi0 a1 hc3) muX6_has hi0 q305 rfl rfl (Nat.le_of_ble_eq_true rfl) ⟨Nat.le_of_ble_eq_true rfl, Nat.le_of_ble_eq_true rfl⟩ dX6_kindAt_2 ?_
  refine j_if_eq (pc := 5) (tgt := 21) X dX6_kindAt_5 (by decide) (fun hc => ?_) (fun hc => ?_)
  · rw [if_pos hc] at h
    exact tX6_kindAt_21 l hE X hr hk G i0 hi0 a1 a2 h
  · rw [if_neg hc] at h
    refine j_iload_n (pc := 8) X dX6_kindAt_8 rfl 2 rfl ?_
    refine j_iconst (pc := 9) (v := 0) X dX6_kindAt_9 (by decide) ?_
    refine j_iconst (pc := 10) (v := 4) X dX6_kindAt_10 (by decide) ?_
    obtain ⟨r4, hc6, h⟩ := bd_s h
    refine j_staI (pc := 11) X (tX7_isWithin l hE G a2 (0 : Int32) (4 : Int32) hc6) muX7_isWithin (Or.inr ⟨_, q317⟩) rfl rfl (Nat.le_of_ble_eq_true rfl) ⟨Nat.le_of_ble_eq_true rfl, Nat.le_of_ble_eq_true rfl⟩ dX6_kindAt_11 ?_
    refine j_if_eq (pc := 14) (tgt := 21) X dX6_kindAt_14 (by decide) (fun hc => ?_) (fun hc => ?_)
    · rw [if_pos hc] at h
      exact tX6_kindAt_21 l hE X hr hk G i0 hi0 a1 a2 h
    · rw [if_neg hc] at h
      refine j_iconst (pc := 17) (v := 1) X dX6_kindAt_17 (by decide) ?_
      refine j_goto (pc := 18) (tgt := 22) X dX6_kindAt_18 (by decide) ?_
      exact tX6_kindAt_22 l hE X hr hk G i0 hi0 a1 a2 (1 : Int32) h
theorem dX6_standsAt_0 : decode cX6_standsAt 0 = .ok (.aload_n 0, 1) := by decide +kernel
theorem dX6_standsAt_1 : decode cX6_standsAt 1 = .ok (.iload_n 1, 1) := by decide +kernel
theorem dX6_standsAt_2 : decode cX6_standsAt 2 = .ok (.invokevirtual 39, 3) := by decide +kernel
theorem dX6_standsAt_5 : decode cX6_standsAt 5 = .ok (.istore 4, 2) := by decide +kernel
theorem dX6_standsAt_7 : decode cX6_standsAt 7 = .ok (.iconst 0, 1) := by decide +kernel
theorem dX6_standsAt_8 : decode cX6_standsAt 8 = .ok (.istore 5, 2) := by decide +kernel
theorem dX6_standsAt_10 : decode cX6_standsAt 10 = .ok (.iload 5, 2) := by decide +kernel
theorem dX6_standsAt_12 : decode cX6_standsAt 12 = .ok (.iload 4, 2) := by decide +kernel
theorem dX6_standsAt_14 : decode cX6_standsAt 14 = .ok (.if_icmp .ge 29, 3) := by decide +kernel
theorem dX6_standsAt_17 : decode cX6_standsAt 17 = .ok (.aload_n 0, 1) := by decide +kernel
theorem dX6_standsAt_18 : decode cX6_standsAt 18 = .ok (.iload_n 1, 1) := by decide +kernel
theorem dX6_standsAt_19 : decode cX6_standsAt 19 = .ok (.iload 5, 2) := by decide +kernel
theorem dX6_standsAt_21 : decode cX6_standsAt 21 = .ok (.invokevirtual 42, 3) := by decide +kernel
theorem dX6_standsAt_24 : decode cX6_standsAt 24 = .ok (.aload_n 2, 1) := by decide +kernel
theorem dX6_standsAt_25 : decode cX6_standsAt 25 = .ok (.iload_n 3, 1) := by decide +kernel
theorem dX6_standsAt_26 : decode cX6_standsAt 26 = .ok (.iload 5, 2) := by decide +kernel
theorem dX6_standsAt_28 : decode cX6_standsAt 28 = .ok (.iadd, 1) := by decide +kernel
theorem dX6_standsAt_29 : decode cX6_standsAt 29 = .ok (.invokevirtual 33, 3) := by decide +kernel
theorem dX6_standsAt_32 : decode cX6_standsAt 32 = .ok (.if_icmp .eq 5, 3) := by decide +kernel
theorem dX6_standsAt_35 : decode cX6_standsAt 35 = .ok (.iconst 0, 1) := by decide +kernel
theorem dX6_standsAt_36 : decode cX6_standsAt 36 = .ok (.ireturn, 1) := by decide +kernel
theorem dX6_standsAt_37 : decode cX6_standsAt 37 = .ok (.iinc 5 1, 3) := by decide +kernel
theorem dX6_standsAt_40 : decode cX6_standsAt 40 = .ok (.goto (-30), 3) := by decide +kernel
theorem dX6_standsAt_43 : decode cX6_standsAt 43 = .ok (.iconst 1, 1) := by decide +kernel
theorem dX6_standsAt_44 : decode cX6_standsAt 44 = .ok (.ireturn, 1) := by decide +kernel
set_option maxHeartbeats 4000000 in
set_option maxRecDepth 100000 in
theorem tX6_standsAt_10 (l : Launch) {E : ET} (hE : Aj E) {p : Program} {e : Env} {s : State} {m : MethodId} {args : Array Value} {below : List Frame} {meth : Method} {c : Code} (X : Cx p (rmL 2) s m args c yX6_standsAt.cls cX6_standsAt 6 E (Aw E) 0 0) (hr : meth.sig.returnType = (some .boolean)) (hk : meth.locks = false) {r : Int32} (G : GT) (i0 : Nat) (hi0 : i0 < cnt 3) (i2 : Nat) (hi2 : i2 < cnt 0) (a1 : Int32) (a3 : Int32) (a4 : Int32) : ∀ (n : Nat) (a5 : Int32), fX6_standsAt_10 G i0 i2 a1 a3 a4 n a5 = some r → J p l e (rmL 2) s m args below meth c E (Aw E) s.heap 6 0 0 (MQ below (QI E r G) args s 0 0 (Aw E)) G 10 [(0, .ref (Ad E 3 i0)), (1, .int a1), (2, .ref (Ad E 0 i2)), (3, .int a3), (4, .int a4), (5, .int a5)] [] := by
  intro n
  induction n with
  | zero =>
    intro a5 h
    simp [fX6_standsAt_10] at h
  | succ n ih =>
    intro a5 h
    rw [fX6_standsAt_10] at h
    refine j_iload (pc := 10) X dX6_standsAt_10 5 rfl ?_
    refine j_iload (pc := 12) X dX6_standsAt_12 4 rfl ?_
    refine j_icmp_ge (pc := 14) (tgt := 43) X dX6_standsAt_14 (by decide) (fun hc => ?_) (fun hc => ?_)
    · rw [if_pos hc] at h
      refine j_iconst (pc := 43) (v := 1) X dX6_standsAt_43 (by decide) ?_
      exact j_ret (pc := 44) X hr hk rfl (Option.some.inj h) rfl dX6_standsAt_44
    · rw [if_neg hc] at h
      refine j_aload_n (pc := 17) X dX6_standsAt_17 rfl 0 rfl ?_
      refine j_iload_n (pc := 18) X dX6_standsAt_18 rfl 1 rfl ?_
      refine j_iload (pc := 19) X dX6_standsAt_19 5 rfl ?_
      obtain ⟨r1, hc3, h⟩ := bd_s h
      refine j_callI (pc := 21) X (tX6_kindAt l hE G i0 hi0 a1 a5 hc3) muX6_kindAt hi0 q313 rfl rfl (Nat.le_of_ble_eq_true rfl) ⟨Nat.le_of_ble_eq_true rfl, Nat.le_of_ble_eq_true rfl⟩ dX6_standsAt_21 ?_
      refine j_aload_n (pc := 24) X dX6_standsAt_24 rfl 2 rfl ?_
      refine j_iload_n (pc := 25) X dX6_standsAt_25 rfl 3 rfl ?_
      refine j_iload (pc := 26) X dX6_standsAt_26 5 rfl ?_
      refine j_iadd (pc := 28) X dX6_standsAt_28 ?_
      obtain ⟨r4, hc6, h⟩ := bd_s h
      refine j_callI (pc := 29) X (tX2_kindAt l hE G i2 hi2 (a3 + a5) hc6) muX2_kindAt hi2 q318 rfl rfl (Nat.le_of_ble_eq_true rfl) ⟨Nat.le_of_ble_eq_true rfl, Nat.le_of_ble_eq_true rfl⟩ dX6_standsAt_29 ?_
      refine j_icmp_eq (pc := 32) (tgt := 37) X dX6_standsAt_32 (by decide) (fun hc => ?_) (fun hc => ?_)
      · rw [if_pos hc] at h
        refine j_iinc (pc := 37) (q := 5) (v := (a5 + (1 : Int32))) (lv' := [(0, .ref (Ad E 3 i0)), (1, .int a1), (2, .ref (Ad E 0 i2)), (3, .int a3), (4, .int a4), (5, .int (a5 + (1 : Int32)))]) X dX6_standsAt_37 rfl rfl (by decide) rfl ?_
        refine j_goto (pc := 40) (tgt := 10) X dX6_standsAt_40 (by decide) ?_
        exact ih (a5 + (1 : Int32)) h
      · rw [if_neg hc] at h
        refine j_iconst (pc := 35) (v := 0) X dX6_standsAt_35 (by decide) ?_
        exact j_ret (pc := 36) X hr hk rfl (Option.some.inj h) rfl dX6_standsAt_36
set_option maxHeartbeats 4000000 in
set_option maxRecDepth 100000 in
theorem tX6_standsAt (l : Launch) {E : ET} (hE : Aj E) (G : GT) (i0 : Nat) (hi0 : i0 < cnt 3) (a1 : Int32) (i2 : Nat) (hi2 : i2 < cnt 0) (a3 : Int32) {r : Int32} (h : fX6_standsAt G i0 a1 i2 a3 = some r) : CI l E yX6_standsAt cX6_standsAt 6 (some .boolean) 2 [.ref (Ad E 3 i0), .int a1, .ref (Ad E 0 i2), .int a3] G r G := by
  refine Met_I (lv := [(0, .ref (Ad E 3 i0)), (1, .int a1), (2, .ref (Ad E 0 i2)), (3, .int a3)]) (by decide +kernel) hE (Nat.le_of_ble_eq_true rfl) rfl ?_
  intro p e s m args below meth c X hr hk
  unfold fX6_standsAt at h
  refine j_aload_n (pc := 0) X dX6_standsAt_0 rfl 0 rfl ?_
  refine j_iload_n (pc := 1) X dX6_standsAt_1 rfl 1 rfl ?_
  obtain ⟨r1, hc3, h⟩ := bd_s h
  refine j_callI (pc := 2) X (tX6_lengthOf l hE G i0 hi0 a1 hc3) muX6_lengthOf hi0 q301 rfl rfl (Nat.le_of_ble_eq_true rfl) ⟨Nat.le_of_ble_eq_true rfl, Nat.le_of_ble_eq_true rfl⟩ dX6_standsAt_2 ?_
  refine j_istore (pc := 5) (lv' := [(0, .ref (Ad E 3 i0)), (1, .int a1), (2, .ref (Ad E 0 i2)), (3, .int a3), (4, .int r1)]) X dX6_standsAt_5 (by decide) rfl ?_
  refine j_iconst (pc := 7) (v := 0) X dX6_standsAt_7 (by decide) ?_
  refine j_istore (pc := 8) (lv' := [(0, .ref (Ad E 3 i0)), (1, .int a1), (2, .ref (Ad E 0 i2)), (3, .int a3), (4, .int r1), (5, .int (0 : Int32))]) X dX6_standsAt_8 (by decide) rfl ?_
  exact tX6_standsAt_10 l hE X hr hk G i0 hi0 i2 hi2 a1 a3 r1 FU (0 : Int32) h
