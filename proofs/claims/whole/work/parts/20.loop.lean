set_option maxRecDepth 100000 in
theorem law_loop {p : Program} {l : Launch} {e : Env} {s : State} {m : MethodId} {below : List Frame} {meth : Method} {c : Code} {E : ET} {Q : State → Prop} {b L : Nat} {xs : Nat → Int32} (X : Cx p room_1 s m #[Value.ref b] c R_law code 4 E (fun q : Nat => s.heap.size ≤ q) 96 4339) (hX : va_X b L xs s s.heap ∧ b < s.heap.size ∧ ¬ (fun q : Nat => s.heap.size ≤ q) b) (hE : Aj E) (hL : L ≤ 2048) (Inv : Nat → GT → Prop) (hmono : ∀ n G, Inv n G → Inv (n + 1) G) (hstep : ∀ (n : Nat) (G : GT) (o : Nat) (x y w : Int32), n < 512 → o < 29 → Inv n G → ∃ v G1 G2, oc o G x y w = some (v, G1) ∧ om o G1 x y w = some (v, G2) ∧ Inv (n + 1) G2) (hend : ∀ G lv, J p l e room_1 s m #[Value.ref b] below meth c E (fun q : Nat => s.heap.size ≤ q) s.heap 4 96 4339 Q G 905 lv []) : ∀ (n t : Nat) (G : GT), 4 * t ≤ L → L + 1 ≤ 4 * t + n → Inv t G → J p l e room_1 s m #[Value.ref b] below meth c E (fun q : Nat => s.heap.size ≤ q) s.heap 4 96 4339 Q G 18 [(0, .ref b), (1, .ref (Ad E 20 0)), (2, .ref (Ad E 22 0)), (3, .int (nI (4 * t)))] [] := by
  intro n
  induction n with
  | zero => intro t G h1 h2 _; exact absurd h2 (by omega)
  | succ n ih =>
    intro t G ht hn hI
    refine j_iload_n (pc := 18) X dL_18 rfl 3 rfl ?_
    refine j_aload_n (pc := 19) X dL_19 rfl 0 rfl ?_
    refine j_slen (pc := 20) X hX dL_20 ?_
    refine j_iconst (pc := 21) (v := 4) X dL_21 (by decide) ?_
    refine j_isub (pc := 22) X dL_22 ?_
    have e4 : (nI L - 4).toInt = (L : Int) - 4 := pk_sub_toInt (a := L) (b := 4) (by omega) (by decide)
    have ez : (nI (4 * t)).toInt = ((4 * t : Nat) : Int) := nI_toInt (by omega)
    refine j_icmp_gt (pc := 23) (tgt := 905) X dL_23 (by decide) (fun _ => hend G _) (fun hc => ?_)
    have hle : 4 * t + 4 ≤ L := by
      rw [Int32.lt_iff_toInt_lt, e4, ez] at hc
      omega
    have hr : ∀ k : Nat, k < 4 → inb (nI (4 * t) + nI k) L = true := by
      intro k hk
      rw [nI_add]
      exact decide_eq_true (by rw [nI_toInt (by omega)]; omega)
    have hr0 : inb (nI (4 * t)) L = true := decide_eq_true (by rw [ez]; omega)
    have next : ∀ G2 : GT, Inv (t + 1) G2 → J p l e room_1 s m #[Value.ref b] below meth c E (fun q : Nat => s.heap.size ≤ q) s.heap 4 96 4339 Q G2 899 [(0, .ref b), (1, .ref (Ad E 20 0)), (2, .ref (Ad E 22 0)), (3, .int (nI (4 * t)))] [] := by
      intro G2 hI2
      refine j_iinc (pc := 899) (q := 3) (v := nI (4 * (t + 1))) (lv' := [(0, .ref b), (1, .ref (Ad E 20 0)), (2, .ref (Ad E 22 0)), (3, .int (nI (4 * (t + 1))))]) X dL_899 rfl (by rw [show Int32.ofInt 4 = nI 4 by decide, nI_add]; rfl) (by decide) rfl ?_
      refine j_goto (pc := 902) (tgt := 18) X dL_902 (by decide) ?_
      exact ih (t + 1) G2 (by omega) (by omega) hI2
    refine j_aload_n (pc := 26) X dL_26 rfl 0 rfl ?_
    refine j_iload_n (pc := 27) X dL_27 rfl 3 rfl ?_
    refine j_sld (pc := 28) X hX hr0 dL_28 ?_
    refine j_bipush (pc := 29) (v := 31) X dL_29 (by decide) ?_
    refine j_iand (pc := 31) X dL_31 ?_
    generalize (xs (nI (4 * t)).toNatClampNeg &&& 31) = o
    by_cases x0 : o = 0
    · refine j_tabIn (pc := 32) (tgt := 164) (off := 132) X dL_32 (by rw [x0]; decide) (by rw [x0]; decide) (by rw [x0]; decide) (by decide) ?_
      obtain ⟨v, G1, G2, hc, hm, hI2⟩ := hstep t G 0 (xs (nI (4 * t) + 1).toNatClampNeg) (xs (nI (4 * t) + 2).toNatClampNeg) (xs (nI (4 * t) + 3).toNatClampNeg) (by omega) (by omega) hI
      rw [oc_0] at hc
      rw [om_0] at hm
      exact law_0 X hX hE (hr 1 (by omega)) (hr 2 (by omega)) (hr 3 (by omega)) hc hm (next G2 hI2)
    by_cases x1 : o = 1
    · refine j_tabIn (pc := 32) (tgt := 207) (off := 175) X dL_32 (by rw [x1]; decide) (by rw [x1]; decide) (by rw [x1]; decide) (by decide) ?_
      obtain ⟨v, G1, G2, hc, hm, hI2⟩ := hstep t G 1 (xs (nI (4 * t) + 1).toNatClampNeg) (xs (nI (4 * t) + 2).toNatClampNeg) (xs (nI (4 * t) + 3).toNatClampNeg) (by omega) (by omega) hI
      rw [oc_1] at hc
      rw [om_1] at hm
      exact law_1 X hX hE (hr 1 (by omega)) (hr 2 (by omega)) (hr 3 (by omega)) hc hm (next G2 hI2)
    by_cases x2 : o = 2
    · refine j_tabIn (pc := 32) (tgt := 230) (off := 198) X dL_32 (by rw [x2]; decide) (by rw [x2]; decide) (by rw [x2]; decide) (by decide) ?_
      obtain ⟨v, G1, G2, hc, hm, hI2⟩ := hstep t G 2 (xs (nI (4 * t) + 1).toNatClampNeg) (xs (nI (4 * t) + 2).toNatClampNeg) (xs (nI (4 * t) + 3).toNatClampNeg) (by omega) (by omega) hI
      rw [oc_2] at hc
      rw [om_2] at hm
      exact law_2 X hX hE (hr 1 (by omega)) (hr 2 (by omega)) (hr 3 (by omega)) hc hm (next G2 hI2)
    by_cases x3 : o = 3
    · refine j_tabIn (pc := 32) (tgt := 253) (off := 221) X dL_32 (by rw [x3]; decide) (by rw [x3]; decide) (by rw [x3]; decide) (by decide) ?_
      obtain ⟨v, G1, G2, hc, hm, hI2⟩ := hstep t G 3 (xs (nI (4 * t) + 1).toNatClampNeg) (xs (nI (4 * t) + 2).toNatClampNeg) (xs (nI (4 * t) + 3).toNatClampNeg) (by omega) (by omega) hI
      rw [oc_3] at hc
      rw [om_3] at hm
      exact law_3 X hX hE (hr 1 (by omega)) (hr 2 (by omega)) (hr 3 (by omega)) hc hm (next G2 hI2)
    by_cases x4 : o = 4
    · refine j_tabIn (pc := 32) (tgt := 266) (off := 234) X dL_32 (by rw [x4]; decide) (by rw [x4]; decide) (by rw [x4]; decide) (by decide) ?_
      obtain ⟨v, G1, G2, hc, hm, hI2⟩ := hstep t G 4 (xs (nI (4 * t) + 1).toNatClampNeg) (xs (nI (4 * t) + 2).toNatClampNeg) (xs (nI (4 * t) + 3).toNatClampNeg) (by omega) (by omega) hI
      rw [oc_4] at hc
      rw [om_4] at hm
      exact law_4 X hX hE (hr 1 (by omega)) (hr 2 (by omega)) (hr 3 (by omega)) hc hm (next G2 hI2)
    by_cases x5 : o = 5
    · refine j_tabIn (pc := 32) (tgt := 289) (off := 257) X dL_32 (by rw [x5]; decide) (by rw [x5]; decide) (by rw [x5]; decide) (by decide) ?_
      obtain ⟨v, G1, G2, hc, hm, hI2⟩ := hstep t G 5 (xs (nI (4 * t) + 1).toNatClampNeg) (xs (nI (4 * t) + 2).toNatClampNeg) (xs (nI (4 * t) + 3).toNatClampNeg) (by omega) (by omega) hI
      rw [oc_5] at hc
      rw [om_5] at hm
      exact law_5 X hX hE (hr 1 (by omega)) (hr 2 (by omega)) (hr 3 (by omega)) hc hm (next G2 hI2)
    by_cases x6 : o = 6
    · refine j_tabIn (pc := 32) (tgt := 322) (off := 290) X dL_32 (by rw [x6]; decide) (by rw [x6]; decide) (by rw [x6]; decide) (by decide) ?_
      obtain ⟨v, G1, G2, hc, hm, hI2⟩ := hstep t G 6 (xs (nI (4 * t) + 1).toNatClampNeg) (xs (nI (4 * t) + 2).toNatClampNeg) (xs (nI (4 * t) + 3).toNatClampNeg) (by omega) (by omega) hI
      rw [oc_6] at hc
      rw [om_6] at hm
      exact law_6 X hX hE (hr 1 (by omega)) (hr 2 (by omega)) (hr 3 (by omega)) hc hm (next G2 hI2)
    by_cases x7 : o = 7
    · refine j_tabIn (pc := 32) (tgt := 335) (off := 303) X dL_32 (by rw [x7]; decide) (by rw [x7]; decide) (by rw [x7]; decide) (by decide) ?_
      obtain ⟨v, G1, G2, hc, hm, hI2⟩ := hstep t G 7 (xs (nI (4 * t) + 1).toNatClampNeg) (xs (nI (4 * t) + 2).toNatClampNeg) (xs (nI (4 * t) + 3).toNatClampNeg) (by omega) (by omega) hI
      rw [oc_7] at hc
      rw [om_7] at hm
      exact law_7 X hX hE (hr 1 (by omega)) (hr 2 (by omega)) (hr 3 (by omega)) hc hm (next G2 hI2)
    by_cases x8 : o = 8
    · refine j_tabIn (pc := 32) (tgt := 368) (off := 336) X dL_32 (by rw [x8]; decide) (by rw [x8]; decide) (by rw [x8]; decide) (by decide) ?_
      obtain ⟨v, G1, G2, hc, hm, hI2⟩ := hstep t G 8 (xs (nI (4 * t) + 1).toNatClampNeg) (xs (nI (4 * t) + 2).toNatClampNeg) (xs (nI (4 * t) + 3).toNatClampNeg) (by omega) (by omega) hI
      rw [oc_8] at hc
      rw [om_8] at hm
      exact law_8 X hX hE (hr 1 (by omega)) (hr 2 (by omega)) (hr 3 (by omega)) hc hm (next G2 hI2)
    by_cases x9 : o = 9
    · refine j_tabIn (pc := 32) (tgt := 401) (off := 369) X dL_32 (by rw [x9]; decide) (by rw [x9]; decide) (by rw [x9]; decide) (by decide) ?_
      obtain ⟨v, G1, G2, hc, hm, hI2⟩ := hstep t G 9 (xs (nI (4 * t) + 1).toNatClampNeg) (xs (nI (4 * t) + 2).toNatClampNeg) (xs (nI (4 * t) + 3).toNatClampNeg) (by omega) (by omega) hI
      rw [oc_9] at hc
      rw [om_9] at hm
      exact law_9 X hX hE (hr 1 (by omega)) (hr 2 (by omega)) (hr 3 (by omega)) hc hm (next G2 hI2)
    by_cases x10 : o = 10
    · refine j_tabIn (pc := 32) (tgt := 424) (off := 392) X dL_32 (by rw [x10]; decide) (by rw [x10]; decide) (by rw [x10]; decide) (by decide) ?_
      obtain ⟨v, G1, G2, hc, hm, hI2⟩ := hstep t G 10 (xs (nI (4 * t) + 1).toNatClampNeg) (xs (nI (4 * t) + 2).toNatClampNeg) (xs (nI (4 * t) + 3).toNatClampNeg) (by omega) (by omega) hI
      rw [oc_10] at hc
      rw [om_10] at hm
      exact law_10 X hX hE (hr 1 (by omega)) (hr 2 (by omega)) (hr 3 (by omega)) hc hm (next G2 hI2)
    by_cases x11 : o = 11
    · refine j_tabIn (pc := 32) (tgt := 449) (off := 417) X dL_32 (by rw [x11]; decide) (by rw [x11]; decide) (by rw [x11]; decide) (by decide) ?_
      obtain ⟨v, G1, G2, hc, hm, hI2⟩ := hstep t G 11 (xs (nI (4 * t) + 1).toNatClampNeg) (xs (nI (4 * t) + 2).toNatClampNeg) (xs (nI (4 * t) + 3).toNatClampNeg) (by omega) (by omega) hI
      rw [oc_11] at hc
      rw [om_11] at hm
      exact law_11 X hX hE (hr 1 (by omega)) (hr 2 (by omega)) (hr 3 (by omega)) hc hm (next G2 hI2)
    by_cases x12 : o = 12
    · refine j_tabIn (pc := 32) (tgt := 462) (off := 430) X dL_32 (by rw [x12]; decide) (by rw [x12]; decide) (by rw [x12]; decide) (by decide) ?_
      obtain ⟨v, G1, G2, hc, hm, hI2⟩ := hstep t G 12 (xs (nI (4 * t) + 1).toNatClampNeg) (xs (nI (4 * t) + 2).toNatClampNeg) (xs (nI (4 * t) + 3).toNatClampNeg) (by omega) (by omega) hI
      rw [oc_12] at hc
      rw [om_12] at hm
      exact law_12 X hX hE (hr 1 (by omega)) (hr 2 (by omega)) (hr 3 (by omega)) hc hm (next G2 hI2)
    by_cases x13 : o = 13
    · refine j_tabIn (pc := 32) (tgt := 511) (off := 479) X dL_32 (by rw [x13]; decide) (by rw [x13]; decide) (by rw [x13]; decide) (by decide) ?_
      obtain ⟨v, G1, G2, hc, hm, hI2⟩ := hstep t G 13 (xs (nI (4 * t) + 1).toNatClampNeg) (xs (nI (4 * t) + 2).toNatClampNeg) (xs (nI (4 * t) + 3).toNatClampNeg) (by omega) (by omega) hI
      rw [oc_13] at hc
      rw [om_13] at hm
      exact law_13 X hX hE (hr 1 (by omega)) (hr 2 (by omega)) (hr 3 (by omega)) hc hm (next G2 hI2)
    by_cases x14 : o = 14
    · refine j_tabIn (pc := 32) (tgt := 524) (off := 492) X dL_32 (by rw [x14]; decide) (by rw [x14]; decide) (by rw [x14]; decide) (by decide) ?_
      obtain ⟨v, G1, G2, hc, hm, hI2⟩ := hstep t G 14 (xs (nI (4 * t) + 1).toNatClampNeg) (xs (nI (4 * t) + 2).toNatClampNeg) (xs (nI (4 * t) + 3).toNatClampNeg) (by omega) (by omega) hI
      rw [oc_14] at hc
      rw [om_14] at hm
      exact law_14 X hX hE (hr 1 (by omega)) (hr 2 (by omega)) (hr 3 (by omega)) hc hm (next G2 hI2)
    by_cases x15 : o = 15
    · refine j_tabIn (pc := 32) (tgt := 537) (off := 505) X dL_32 (by rw [x15]; decide) (by rw [x15]; decide) (by rw [x15]; decide) (by decide) ?_
      obtain ⟨v, G1, G2, hc, hm, hI2⟩ := hstep t G 15 (xs (nI (4 * t) + 1).toNatClampNeg) (xs (nI (4 * t) + 2).toNatClampNeg) (xs (nI (4 * t) + 3).toNatClampNeg) (by omega) (by omega) hI
      rw [oc_15] at hc
      rw [om_15] at hm
      exact law_15 X hX hE (hr 1 (by omega)) (hr 2 (by omega)) (hr 3 (by omega)) hc hm (next G2 hI2)
    by_cases x16 : o = 16
    · refine j_tabIn (pc := 32) (tgt := 550) (off := 518) X dL_32 (by rw [x16]; decide) (by rw [x16]; decide) (by rw [x16]; decide) (by decide) ?_
      obtain ⟨v, G1, G2, hc, hm, hI2⟩ := hstep t G 16 (xs (nI (4 * t) + 1).toNatClampNeg) (xs (nI (4 * t) + 2).toNatClampNeg) (xs (nI (4 * t) + 3).toNatClampNeg) (by omega) (by omega) hI
      rw [oc_16] at hc
      rw [om_16] at hm
      exact law_16 X hX hE (hr 1 (by omega)) (hr 2 (by omega)) (hr 3 (by omega)) hc hm (next G2 hI2)
    by_cases x17 : o = 17
    · refine j_tabIn (pc := 32) (tgt := 583) (off := 551) X dL_32 (by rw [x17]; decide) (by rw [x17]; decide) (by rw [x17]; decide) (by decide) ?_
      obtain ⟨v, G1, G2, hc, hm, hI2⟩ := hstep t G 17 (xs (nI (4 * t) + 1).toNatClampNeg) (xs (nI (4 * t) + 2).toNatClampNeg) (xs (nI (4 * t) + 3).toNatClampNeg) (by omega) (by omega) hI
      rw [oc_17] at hc
      rw [om_17] at hm
      exact law_17 X hX hE (hr 1 (by omega)) (hr 2 (by omega)) (hr 3 (by omega)) hc hm (next G2 hI2)
    by_cases x18 : o = 18
    · refine j_tabIn (pc := 32) (tgt := 616) (off := 584) X dL_32 (by rw [x18]; decide) (by rw [x18]; decide) (by rw [x18]; decide) (by decide) ?_
      obtain ⟨v, G1, G2, hc, hm, hI2⟩ := hstep t G 18 (xs (nI (4 * t) + 1).toNatClampNeg) (xs (nI (4 * t) + 2).toNatClampNeg) (xs (nI (4 * t) + 3).toNatClampNeg) (by omega) (by omega) hI
      rw [oc_18] at hc
      rw [om_18] at hm
      exact law_18 X hX hE (hr 1 (by omega)) (hr 2 (by omega)) (hr 3 (by omega)) hc hm (next G2 hI2)
    by_cases x19 : o = 19
    · refine j_tabIn (pc := 32) (tgt := 639) (off := 607) X dL_32 (by rw [x19]; decide) (by rw [x19]; decide) (by rw [x19]; decide) (by decide) ?_
      obtain ⟨v, G1, G2, hc, hm, hI2⟩ := hstep t G 19 (xs (nI (4 * t) + 1).toNatClampNeg) (xs (nI (4 * t) + 2).toNatClampNeg) (xs (nI (4 * t) + 3).toNatClampNeg) (by omega) (by omega) hI
      rw [oc_19] at hc
      rw [om_19] at hm
      exact law_19 X hX hE (hr 1 (by omega)) (hr 2 (by omega)) (hr 3 (by omega)) hc hm (next G2 hI2)
    by_cases x20 : o = 20
    · refine j_tabIn (pc := 32) (tgt := 662) (off := 630) X dL_32 (by rw [x20]; decide) (by rw [x20]; decide) (by rw [x20]; decide) (by decide) ?_
      obtain ⟨v, G1, G2, hc, hm, hI2⟩ := hstep t G 20 (xs (nI (4 * t) + 1).toNatClampNeg) (xs (nI (4 * t) + 2).toNatClampNeg) (xs (nI (4 * t) + 3).toNatClampNeg) (by omega) (by omega) hI
      rw [oc_20] at hc
      rw [om_20] at hm
      exact law_20 X hX hE (hr 1 (by omega)) (hr 2 (by omega)) (hr 3 (by omega)) hc hm (next G2 hI2)
    by_cases x21 : o = 21
    · refine j_tabIn (pc := 32) (tgt := 695) (off := 663) X dL_32 (by rw [x21]; decide) (by rw [x21]; decide) (by rw [x21]; decide) (by decide) ?_
      obtain ⟨v, G1, G2, hc, hm, hI2⟩ := hstep t G 21 (xs (nI (4 * t) + 1).toNatClampNeg) (xs (nI (4 * t) + 2).toNatClampNeg) (xs (nI (4 * t) + 3).toNatClampNeg) (by omega) (by omega) hI
      rw [oc_21] at hc
      rw [om_21] at hm
      exact law_21 X hX hE (hr 1 (by omega)) (hr 2 (by omega)) (hr 3 (by omega)) hc hm (next G2 hI2)
    by_cases x22 : o = 22
    · refine j_tabIn (pc := 32) (tgt := 728) (off := 696) X dL_32 (by rw [x22]; decide) (by rw [x22]; decide) (by rw [x22]; decide) (by decide) ?_
      obtain ⟨v, G1, G2, hc, hm, hI2⟩ := hstep t G 22 (xs (nI (4 * t) + 1).toNatClampNeg) (xs (nI (4 * t) + 2).toNatClampNeg) (xs (nI (4 * t) + 3).toNatClampNeg) (by omega) (by omega) hI
      rw [oc_22] at hc
      rw [om_22] at hm
      exact law_22 X hX hE (hr 1 (by omega)) (hr 2 (by omega)) (hr 3 (by omega)) hc hm (next G2 hI2)
    by_cases x23 : o = 23
    · refine j_tabIn (pc := 32) (tgt := 761) (off := 729) X dL_32 (by rw [x23]; decide) (by rw [x23]; decide) (by rw [x23]; decide) (by decide) ?_
      obtain ⟨v, G1, G2, hc, hm, hI2⟩ := hstep t G 23 (xs (nI (4 * t) + 1).toNatClampNeg) (xs (nI (4 * t) + 2).toNatClampNeg) (xs (nI (4 * t) + 3).toNatClampNeg) (by omega) (by omega) hI
      rw [oc_23] at hc
      rw [om_23] at hm
      exact law_23 X hX hE (hr 1 (by omega)) (hr 2 (by omega)) (hr 3 (by omega)) hc hm (next G2 hI2)
    by_cases x24 : o = 24
    · refine j_tabIn (pc := 32) (tgt := 794) (off := 762) X dL_32 (by rw [x24]; decide) (by rw [x24]; decide) (by rw [x24]; decide) (by decide) ?_
      obtain ⟨v, G1, G2, hc, hm, hI2⟩ := hstep t G 24 (xs (nI (4 * t) + 1).toNatClampNeg) (xs (nI (4 * t) + 2).toNatClampNeg) (xs (nI (4 * t) + 3).toNatClampNeg) (by omega) (by omega) hI
      rw [oc_24] at hc
      rw [om_24] at hm
      exact law_24 X hX hE (hr 1 (by omega)) (hr 2 (by omega)) (hr 3 (by omega)) hc hm (next G2 hI2)
    by_cases x25 : o = 25
    · refine j_tabIn (pc := 32) (tgt := 817) (off := 785) X dL_32 (by rw [x25]; decide) (by rw [x25]; decide) (by rw [x25]; decide) (by decide) ?_
      obtain ⟨v, G1, G2, hc, hm, hI2⟩ := hstep t G 25 (xs (nI (4 * t) + 1).toNatClampNeg) (xs (nI (4 * t) + 2).toNatClampNeg) (xs (nI (4 * t) + 3).toNatClampNeg) (by omega) (by omega) hI
      rw [oc_25] at hc
      rw [om_25] at hm
      exact law_25 X hX hE (hr 1 (by omega)) (hr 2 (by omega)) (hr 3 (by omega)) hc hm (next G2 hI2)
    by_cases x26 : o = 26
    · refine j_tabIn (pc := 32) (tgt := 850) (off := 818) X dL_32 (by rw [x26]; decide) (by rw [x26]; decide) (by rw [x26]; decide) (by decide) ?_
      obtain ⟨v, G1, G2, hc, hm, hI2⟩ := hstep t G 26 (xs (nI (4 * t) + 1).toNatClampNeg) (xs (nI (4 * t) + 2).toNatClampNeg) (xs (nI (4 * t) + 3).toNatClampNeg) (by omega) (by omega) hI
      rw [oc_26] at hc
      rw [om_26] at hm
      exact law_26 X hX hE (hr 1 (by omega)) (hr 2 (by omega)) (hr 3 (by omega)) hc hm (next G2 hI2)
    by_cases x27 : o = 27
    · refine j_tabIn (pc := 32) (tgt := 863) (off := 831) X dL_32 (by rw [x27]; decide) (by rw [x27]; decide) (by rw [x27]; decide) (by decide) ?_
      obtain ⟨v, G1, G2, hc, hm, hI2⟩ := hstep t G 27 (xs (nI (4 * t) + 1).toNatClampNeg) (xs (nI (4 * t) + 2).toNatClampNeg) (xs (nI (4 * t) + 3).toNatClampNeg) (by omega) (by omega) hI
      rw [oc_27] at hc
      rw [om_27] at hm
      exact law_27 X hX hE (hr 1 (by omega)) (hr 2 (by omega)) (hr 3 (by omega)) hc hm (next G2 hI2)
    by_cases x28 : o = 28
    · refine j_tabIn (pc := 32) (tgt := 876) (off := 844) X dL_32 (by rw [x28]; decide) (by rw [x28]; decide) (by rw [x28]; decide) (by decide) ?_
      obtain ⟨v, G1, G2, hc, hm, hI2⟩ := hstep t G 28 (xs (nI (4 * t) + 1).toNatClampNeg) (xs (nI (4 * t) + 2).toNatClampNeg) (xs (nI (4 * t) + 3).toNatClampNeg) (by omega) (by omega) hI
      rw [oc_28] at hc
      rw [om_28] at hm
      exact law_28 X hX hE (hr 1 (by omega)) (hr 2 (by omega)) (hr 3 (by omega)) hc hm (next G2 hI2)
    refine j_tabOut (pc := 32) (tgt := 899) X dL_32 (tab_out 28 (by decide) (fun j hj => by match j, hj with | 0, _ => exact x0 | 1, _ => exact x1 | 2, _ => exact x2 | 3, _ => exact x3 | 4, _ => exact x4 | 5, _ => exact x5 | 6, _ => exact x6 | 7, _ => exact x7 | 8, _ => exact x8 | 9, _ => exact x9 | 10, _ => exact x10 | 11, _ => exact x11 | 12, _ => exact x12 | 13, _ => exact x13 | 14, _ => exact x14 | 15, _ => exact x15 | 16, _ => exact x16 | 17, _ => exact x17 | 18, _ => exact x18 | 19, _ => exact x19 | 20, _ => exact x20 | 21, _ => exact x21 | 22, _ => exact x22 | 23, _ => exact x23 | 24, _ => exact x24 | 25, _ => exact x25 | 26, _ => exact x26 | 27, _ => exact x27 | 28, _ => exact x28 | j + 29, hj => omega)) (by decide) ?_
    exact next G (hmono t G hI)
