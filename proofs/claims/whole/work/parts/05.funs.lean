theorem pr_s {α β : Type} {a c : α} {b d : β} (h : some (a, b) = some (c, d)) : a = c ∧ b = d := Prod.mk.inj (Option.some.inj h)
noncomputable def fX7_isWithin (a0 : Int32) (a1 : Int32) (a2 : Int32) : Option Int32 := if a0 < a1 then some (0 : Int32) else if a2 < a0 then some (0 : Int32) else some (1 : Int32)
noncomputable def fX2_copyFrom_2 (i0 : Nat) (i1 : Nat) : Nat → GT → Int32 → Option GT
  | 0, _, _ => none
  | n + 1, G, a2 => if (40 : Int32) ≤ a2 then some G else gd (inb a2 40) (gd (inb a2 40) (st3 G 1 i0 a2.toNatClampNeg (G 1 i1 a2.toNatClampNeg) (fun G3 => gd (inb a2 40) (gd (inb a2 40) (st3 G3 2 i0 a2.toNatClampNeg (G3 2 i1 a2.toNatClampNeg) (fun G6 => fX2_copyFrom_2 i0 i1 n G6 (a2 + (1 : Int32))))))))
noncomputable def fX2_copyFrom (G : GT) (i0 : Nat) (i1 : Nat) : Option GT := fX2_copyFrom_2 i0 i1 FU G (0 : Int32)
noncomputable def fX6_copyFrom_48 (i0 : Nat) (i1 : Nat) : Nat → GT → Int32 → Option GT
  | 0, _, _ => none
  | n + 1, G, a2 => if (80 : Int32) ≤ a2 then some G else gd (inb a2 80) (gd (inb a2 80) (st3 G 6 i0 a2.toNatClampNeg (G 6 i1 a2.toNatClampNeg) (fun G3 => fX6_copyFrom_48 i0 i1 n G3 (a2 + (1 : Int32)))))
noncomputable def fX6_copyFrom_10 (i0 : Nat) (i1 : Nat) : Nat → GT → Int32 → Option GT
  | 0, _, _ => none
  | n + 1, G, a2 => if (16 : Int32) ≤ a2 then fX6_copyFrom_48 i0 i1 FU G (0 : Int32) else gd (inb a2 16) (gd (inb a2 16) (st3 G 4 i0 a2.toNatClampNeg (G 4 i1 a2.toNatClampNeg) (fun G3 => gd (inb a2 16) (gd (inb a2 16) (st3 G3 5 i0 a2.toNatClampNeg (G3 5 i1 a2.toNatClampNeg) (fun G6 => fX6_copyFrom_10 i0 i1 n G6 (a2 + (1 : Int32))))))))
noncomputable def fX6_copyFrom (G : GT) (i0 : Nat) (i1 : Nat) : Option GT := st3 G 3 i0 0 (G 3 i1 0) (fun G1 => fX6_copyFrom_10 i0 i1 FU G1 (0 : Int32))
noncomputable def fX1_copyFrom_36 (i0 : Nat) (i1 : Nat) : Nat → GT → Int32 → Option GT
  | 0, _, _ => none
  | n + 1, G, a2 => if (6 : Int32) ≤ a2 then some G else gd (inb a2 6) (gd (inb a2 6) (st3 G 9 i0 a2.toNatClampNeg (G 9 i1 a2.toNatClampNeg) (fun G3 => gd (inb a2 6) (gd (inb a2 6) (st3 G3 10 i0 a2.toNatClampNeg (G3 10 i1 a2.toNatClampNeg) (fun G6 => fX1_copyFrom_36 i0 i1 n G6 (a2 + (1 : Int32))))))))
noncomputable def fX1_copyFrom_10 (i0 : Nat) (i1 : Nat) : Nat → GT → Int32 → Option GT
  | 0, _, _ => none
  | n + 1, G, a2 => if (96 : Int32) ≤ a2 then fX1_copyFrom_36 i0 i1 FU G (0 : Int32) else gd (inb a2 96) (gd (inb a2 96) (st3 G 8 i0 a2.toNatClampNeg (G 8 i1 a2.toNatClampNeg) (fun G3 => fX1_copyFrom_10 i0 i1 n G3 (a2 + (1 : Int32)))))
noncomputable def fX1_copyFrom (G : GT) (i0 : Nat) (i1 : Nat) : Option GT := st3 G 7 i0 0 (G 7 i1 0) (fun G1 => fX1_copyFrom_10 i0 i1 FU G1 (0 : Int32))
noncomputable def fX4_copyFrom (G : GT) (i0 : Nat) (i1 : Nat) : Option GT := bd (fX2_copyFrom G i0 i1) (fun G2 => bd (fX6_copyFrom G2 i0 i1) (fun G5 => bd (fX1_copyFrom G5 i0 i1) (fun G8 => st3 G8 11 i0 3 (G8 11 i1 3) (fun G10 => st3 G10 11 i0 4 (G10 11 i1 4) (fun G11 => st3 G11 11 i0 5 (G11 11 i1 5) (fun G12 => some G12))))))
noncomputable def fX0_remember_57 (G : GT) (i1 : Nat) (s1 : Int32) : Option GT := st3 G 12 0 2 s1 (fun G1 => st3 G1 12 0 1 (imin (4 : Int32) ((G1 12 0 1) + (1 : Int32))) (fun G2 => some G2))
noncomputable def fX0_remember (G : GT) (i1 : Nat) : Option GT := bd (fX7_isWithin (G 12 0 2) (0 : Int32) (3 : Int32)) (fun r1 => if r1 = 0 then some G else gd (inb (G 12 0 2) 4) (gd (inb (G 12 0 2) 4) (bd (fX4_copyFrom G (2 + (G 12 0 2).toNatClampNeg) i1) (fun G9 => if (G9 12 0 2) = (3 : Int32) then fX0_remember_57 G9 i1 (0 : Int32) else fX0_remember_57 G9 i1 ((G9 12 0 2) + (1 : Int32))))))
noncomputable def fX0_takeBack_17 (G : GT) (i1 : Nat) (s0 : Int32) : Option GT := if (G 12 0 1) = 0 then some G else bd (fX7_isWithin s0 (0 : Int32) (3 : Int32)) (fun r1 => if r1 = 0 then some G else gd (inb s0 4) (gd (inb s0 4) (bd (fX4_copyFrom G i1 (2 + s0.toNatClampNeg)) (fun G9 => st3 G9 12 0 2 s0 (fun G11 => st3 G11 12 0 1 ((G11 12 0 1) - (1 : Int32)) (fun G12 => some G12))))))
noncomputable def fX0_takeBack (G : GT) (i1 : Nat) : Option GT := if (G 12 0 2) = 0 then fX0_takeBack_17 G i1 (3 : Int32) else fX0_takeBack_17 G i1 ((G 12 0 2) - (1 : Int32))
noncomputable def fX7_isLearner (a0 : Int32) : Option Int32 := bd (fX7_isWithin a0 (0 : Int32) (5 : Int32)) (fun r1 => gd (isB r1) (some r1))
noncomputable def fX1_areThere (a0 : Int32) (a1 : Int32) : Option Int32 := bd (fX7_isLearner a0) (fun r1 => if r1 = 0 then some (0 : Int32) else bd (fX7_isWithin a1 (0 : Int32) (15 : Int32)) (fun r4 => if r4 = 0 then some (0 : Int32) else some (1 : Int32)))
noncomputable def fX1_timesHeard (G : GT) (i0 : Nat) (a1 : Int32) (a2 : Int32) : Option Int32 := bd (fX1_areThere a1 a2) (fun r1 => if r1 = 0 then some (0 : Int32) else gd (inb ((a1 * (16 : Int32)) + a2) 96) (some (G 8 i0 ((a1 * (16 : Int32)) + a2).toNatClampNeg)))
noncomputable def fX1_hear (G : GT) (i0 : Nat) (a1 : Int32) (a2 : Int32) (a3 : Int32) : Option GT := bd (fX1_areThere a1 a2) (fun r1 => if r1 = 0 then some G else gd (inb ((a1 * (16 : Int32)) + a2) 96) (gd (inb ((a1 * (16 : Int32)) + a2) 96) (st3 G 8 i0 ((a1 * (16 : Int32)) + a2).toNatClampNeg ((G 8 i0 ((a1 * (16 : Int32)) + a2).toNatClampNeg) + a3) (fun G6 => some G6))))
noncomputable def fX1_knows (G : GT) (i0 : Nat) (a1 : Int32) (a2 : Int32) : Option Int32 := bd (fX1_timesHeard G i0 a1 a2) (fun r1 => if r1 < (G 7 i0 0) then some (0 : Int32) else some (1 : Int32))
noncomputable def fX1_mostMissing_4 (G : GT) (i0 : Nat) (a1 : Int32) : Nat → Int32 → Int32 → Option Int32
  | 0, _, _ => none
  | n + 1, a2, a3 => if (6 : Int32) ≤ a3 then some a2 else bd (fX1_timesHeard G i0 a3 a1) (fun r1 => fX1_mostMissing_4 G i0 a1 n (imax a2 ((G 7 i0 0) - r1)) (a3 + (1 : Int32)))
noncomputable def fX1_mostMissing (G : GT) (i0 : Nat) (a1 : Int32) : Option Int32 := fX1_mostMissing_4 G i0 a1 FU (0 : Int32) (0 : Int32)
noncomputable def fX1_whoKnow_4 (G : GT) (i0 : Nat) (a1 : Int32) : Nat → Int32 → Int32 → Option Int32
  | 0, _, _ => none
  | n + 1, a2, a3 => if (6 : Int32) ≤ a3 then some a2 else bd (fX1_knows G i0 a3 a1) (fun r1 => if r1 = 0 then fX1_whoKnow_4 G i0 a1 n a2 (a3 + (1 : Int32)) else fX1_whoKnow_4 G i0 a1 n (a2 ||| ((1 : Int32) <<< (a3 &&& 31))) (a3 + (1 : Int32)))
noncomputable def fX1_whoKnow (G : GT) (i0 : Nat) (a1 : Int32) : Option Int32 := fX1_whoKnow_4 G i0 a1 FU (0 : Int32) (0 : Int32)
noncomputable def fX1_knownBy_5 (G : GT) (i0 : Nat) (a1 : Int32) (a2 : Int32) : Nat → Int32 → Int32 → Option Int32
  | 0, _, _ => none
  | n + 1, a3, a4 => if (16 : Int32) ≤ a4 then some a3 else if a2 ≤ a4 then some a3 else bd (fX1_knows G i0 a1 a4) (fun r1 => if r1 = 0 then fX1_knownBy_5 G i0 a1 a2 n a3 (a4 + (1 : Int32)) else fX1_knownBy_5 G i0 a1 a2 n (a3 ||| ((1 : Int32) <<< (a4 &&& 31))) (a4 + (1 : Int32)))
noncomputable def fX1_knownBy (G : GT) (i0 : Nat) (a1 : Int32) (a2 : Int32) : Option Int32 := fX1_knownBy_5 G i0 a1 a2 FU (0 : Int32) (0 : Int32)
noncomputable def fX1_account (G : GT) (i0 : Nat) (a1 : Int32) (a2 : Int32) : Option GT := bd (fX7_isLearner a1) (fun r1 => if r1 = 0 then some G else if a2 = 0 then gd (inb a1 6) (gd (inb a1 6) (st3 G 10 i0 a1.toNatClampNeg ((G 10 i0 a1.toNatClampNeg) + (1 : Int32)) (fun G6 => some G6))) else gd (inb a1 6) (gd (inb a1 6) (st3 G 9 i0 a1.toNatClampNeg ((G 9 i0 a1.toNatClampNeg) + (1 : Int32)) (fun G9 => some G9))))
noncomputable def fX1_rightOf (G : GT) (i0 : Nat) (a1 : Int32) : Option Int32 := bd (fX7_isLearner a1) (fun r1 => if r1 = 0 then some (0 : Int32) else gd (inb a1 6) (some (G 9 i0 a1.toNatClampNeg)))
noncomputable def fX1_wrongOf (G : GT) (i0 : Nat) (a1 : Int32) : Option Int32 := bd (fX7_isLearner a1) (fun r1 => if r1 = 0 then some (0 : Int32) else gd (inb a1 6) (some (G 10 i0 a1.toNatClampNeg)))
noncomputable def fX1_allRight_4 (G : GT) (i0 : Nat) : Nat → Int32 → Int32 → Option Int32
  | 0, _, _ => none
  | n + 1, a1, a2 => if (6 : Int32) ≤ a2 then some a1 else gd (inb a2 6) (fX1_allRight_4 G i0 n (a1 + (G 9 i0 a2.toNatClampNeg)) (a2 + (1 : Int32)))
noncomputable def fX1_allRight (G : GT) (i0 : Nat) : Option Int32 := fX1_allRight_4 G i0 FU (0 : Int32) (0 : Int32)
noncomputable def fX1_allWrong_4 (G : GT) (i0 : Nat) : Nat → Int32 → Int32 → Option Int32
  | 0, _, _ => none
  | n + 1, a1, a2 => if (6 : Int32) ≤ a2 then some a1 else gd (inb a2 6) (fX1_allWrong_4 G i0 n (a1 + (G 10 i0 a2.toNatClampNeg)) (a2 + (1 : Int32)))
noncomputable def fX1_allWrong (G : GT) (i0 : Nat) : Option Int32 := fX1_allWrong_4 G i0 FU (0 : Int32) (0 : Int32)
noncomputable def fX2_kindAt (G : GT) (i0 : Nat) (a1 : Int32) : Option Int32 := bd (fX7_isWithin a1 (0 : Int32) (39 : Int32)) (fun r1 => if r1 = 0 then some (0 : Int32) else gd (inb a1 40) (some (G 1 i0 a1.toNatClampNeg)))
noncomputable def fX2_tightAt (G : GT) (i0 : Nat) (a1 : Int32) : Option Int32 := bd (fX7_isWithin a1 (0 : Int32) (39 : Int32)) (fun r1 => if r1 = 0 then some (0 : Int32) else gd (inb a1 40) (some (G 2 i0 a1.toNatClampNeg)))
noncomputable def fX2_put (G : GT) (i0 : Nat) (a1 : Int32) (a2 : Int32) (a3 : Int32) : Option GT := bd (fX7_isWithin a1 (0 : Int32) (39 : Int32)) (fun r1 => if r1 = 0 then some G else gd (inb a1 40) (st3 G 1 i0 a1.toNatClampNeg a2 (fun G5 => gd (inb a1 40) (st3 G5 2 i0 a1.toNatClampNeg a3 (fun G7 => some G7)))))
noncomputable def fX2_clear_2 (i0 : Nat) : Nat → GT → Int32 → Option GT
  | 0, _, _ => none
  | n + 1, G, a1 => if (40 : Int32) ≤ a1 then some G else bd (fX2_put G i0 a1 (0 : Int32) (0 : Int32)) (fun G2 => fX2_clear_2 i0 n G2 (a1 + (1 : Int32)))
noncomputable def fX2_clear (G : GT) (i0 : Nat) : Option GT := fX2_clear_2 i0 FU G (0 : Int32)
noncomputable def fX2_knotCount_4 (G : GT) (i0 : Nat) : Nat → Int32 → Int32 → Option Int32
  | 0, _, _ => none
  | n + 1, a1, a2 => if (40 : Int32) ≤ a2 then some a1 else bd (fX2_kindAt G i0 a2) (fun r1 => if r1 = 0 then fX2_knotCount_4 G i0 n a1 (a2 + (1 : Int32)) else fX2_knotCount_4 G i0 n (a1 + (1 : Int32)) (a2 + (1 : Int32)))
noncomputable def fX2_knotCount (G : GT) (i0 : Nat) : Option Int32 := fX2_knotCount_4 G i0 FU (0 : Int32) (0 : Int32)
noncomputable def fX2_startsRun (G : GT) (i0 : Nat) (a1 : Int32) : Option Int32 := bd (fX2_kindAt G i0 a1) (fun r1 => if r1 = 0 then some (0 : Int32) else bd (fX2_kindAt G i0 (a1 - (1 : Int32))) (fun r4 => if r4 = 0 then some (1 : Int32) else some (0 : Int32)))
noncomputable def fX2_lengthFrom_4 (G : GT) (i0 : Nat) : Nat → Int32 → Int32 → Option Int32
  | 0, _, _ => none
  | n + 1, a2, a3 => if (40 : Int32) ≤ a3 then some a2 else bd (fX2_kindAt G i0 a3) (fun r1 => if r1 = 0 then some a2 else fX2_lengthFrom_4 G i0 n (a2 + (1 : Int32)) (a3 + (1 : Int32)))
noncomputable def fX2_lengthFrom (G : GT) (i0 : Nat) (a1 : Int32) : Option Int32 := fX2_lengthFrom_4 G i0 FU (0 : Int32) a1
noncomputable def fX2_loosenessFrom_5 (G : GT) (i0 : Nat) : Nat → Int32 → Int32 → Option Int32
  | 0, _, _ => none
  | n + 1, a2, a3 => if (40 : Int32) ≤ a3 then some a2 else bd (fX2_kindAt G i0 a3) (fun r1 => if r1 = 0 then some a2 else bd (fX2_tightAt G i0 a3) (fun r4 => fX2_loosenessFrom_5 G i0 n (imin a2 r4) (a3 + (1 : Int32))))
noncomputable def fX2_loosenessFrom (G : GT) (i0 : Nat) (a1 : Int32) : Option Int32 := fX2_loosenessFrom_5 G i0 FU (9 : Int32) a1
noncomputable def fX2_runAt_15 (G : GT) (i0 : Nat) (a1 : Int32) : Nat → Int32 → Int32 → Option Int32
  | 0, _, _ => none
  | n + 1, a2, a3 => if (40 : Int32) ≤ a3 then some a2 else if a1 < a3 then some a2 else bd (fX2_startsRun G i0 a3) (fun r1 => if r1 = 0 then fX2_runAt_15 G i0 a1 n a2 (a3 + (1 : Int32)) else fX2_runAt_15 G i0 a1 n (a2 + (1 : Int32)) (a3 + (1 : Int32)))
noncomputable def fX2_runAt (G : GT) (i0 : Nat) (a1 : Int32) : Option Int32 := bd (fX2_kindAt G i0 a1) (fun r1 => if r1 = 0 then some (-5 : Int32) else fX2_runAt_15 G i0 a1 FU (-1 : Int32) (0 : Int32))
noncomputable def fX2_slip_31 (G : GT) (i0 : Nat) (a1 : Int32) (a2 : Int32) (a3 : Int32) (s0 : Int32) (k5 : GT → Int32 → Int32 → Option (Int32 × GT)) : Option (Int32 × GT) := if s0 = 0 then k5 G a2 (a3 + (-1 : Int32)) else bd (fX2_kindAt G i0 (a3 + (1 : Int32))) (fun r1 => if r1 = 0 then bd (fX2_kindAt G i0 a3) (fun r4 => bd (fX2_tightAt G i0 a3) (fun r7 => bd (fX2_put G i0 (a3 + (1 : Int32)) r4 r7) (fun G11 => bd (fX2_put G11 i0 a3 (0 : Int32) (0 : Int32)) (fun G14 => k5 G14 (a2 + (1 : Int32)) (a3 + (-1 : Int32)))))) else k5 G a2 (a3 + (-1 : Int32)))
noncomputable def fX2_slip_30 (G : GT) (i0 : Nat) (a1 : Int32) (a2 : Int32) (a3 : Int32) (k5 : GT → Int32 → Int32 → Option (Int32 × GT)) : Option (Int32 × GT) := fX2_slip_31 G i0 a1 a2 a3 (0 : Int32) k5
noncomputable def fX2_slip_5 (i0 : Nat) (a1 : Int32) : Nat → GT → Int32 → Int32 → Option (Int32 × GT)
  | 0, _, _, _ => none
  | n + 1, G, a2, a3 => if a3 < 0 then some (a2, G) else bd (fX2_kindAt G i0 a3) (fun r1 => if r1 = 0 then fX2_slip_30 G i0 a1 a2 a3 (fX2_slip_5 i0 a1 n) else bd (fX2_tightAt G i0 a3) (fun r4 => if a1 ≤ r4 then fX2_slip_30 G i0 a1 a2 a3 (fX2_slip_5 i0 a1 n) else fX2_slip_31 G i0 a1 a2 a3 (1 : Int32) (fX2_slip_5 i0 a1 n)))
noncomputable def fX2_slip (G : GT) (i0 : Nat) (a1 : Int32) : Option (Int32 × GT) := fX2_slip_5 i0 a1 FU G (0 : Int32) (38 : Int32)
noncomputable def fX6_has (G : GT) (i0 : Nat) (a1 : Int32) : Option Int32 := if a1 < 0 then some (0 : Int32) else if (G 3 i0 0) ≤ a1 then some (0 : Int32) else if (16 : Int32) ≤ a1 then some (0 : Int32) else some (1 : Int32)
noncomputable def fX6_lengthOf (G : GT) (i0 : Nat) (a1 : Int32) : Option Int32 := bd (fX6_has G i0 a1) (fun r1 => if r1 = 0 then some (0 : Int32) else gd (inb a1 16) (some (G 4 i0 a1.toNatClampNeg)))
noncomputable def fX6_kindAt_22 (G : GT) (i0 : Nat) (a1 : Int32) (a2 : Int32) (s0 : Int32) : Option Int32 := if s0 = 0 then some (0 : Int32) else gd (inb ((a1 * (5 : Int32)) + a2) 80) (some (G 6 i0 ((a1 * (5 : Int32)) + a2).toNatClampNeg))
noncomputable def fX6_kindAt_21 (G : GT) (i0 : Nat) (a1 : Int32) (a2 : Int32) : Option Int32 := fX6_kindAt_22 G i0 a1 a2 (0 : Int32)
noncomputable def fX6_kindAt (G : GT) (i0 : Nat) (a1 : Int32) (a2 : Int32) : Option Int32 := bd (fX6_has G i0 a1) (fun r1 => if r1 = 0 then fX6_kindAt_21 G i0 a1 a2 else bd (fX7_isWithin a2 (0 : Int32) (4 : Int32)) (fun r4 => if r4 = 0 then fX6_kindAt_21 G i0 a1 a2 else fX6_kindAt_22 G i0 a1 a2 (1 : Int32)))
noncomputable def fX6_standsAt_10 (G : GT) (i0 : Nat) (i2 : Nat) (a1 : Int32) (a3 : Int32) (a4 : Int32) : Nat → Int32 → Option Int32
  | 0, _ => none
  | n + 1, a5 => if a4 ≤ a5 then some (1 : Int32) else bd (fX6_kindAt G i0 a1 a5) (fun r1 => bd (fX2_kindAt G i2 (a3 + a5)) (fun r4 => if r1 = r4 then fX6_standsAt_10 G i0 i2 a1 a3 a4 n (a5 + (1 : Int32)) else some (0 : Int32)))
noncomputable def fX6_standsAt (G : GT) (i0 : Nat) (a1 : Int32) (i2 : Nat) (a3 : Int32) : Option Int32 := bd (fX6_lengthOf G i0 a1) (fun r1 => fX6_standsAt_10 G i0 i2 a1 a3 r1 FU (0 : Int32))
noncomputable def fX6_find_3 (G : GT) (i0 : Nat) (i1 : Nat) (a2 : Int32) (a3 : Int32) : Nat → Int32 → Option Int32
  | 0, _ => none
  | n + 1, a4 => if (G 3 i0 0) ≤ a4 then some (-5 : Int32) else bd (fX6_lengthOf G i0 a4) (fun r1 => if r1 = a3 then bd (fX6_standsAt G i0 a4 i1 a2) (fun r4 => if r4 = 0 then fX6_find_3 G i0 i1 a2 a3 n (a4 + (1 : Int32)) else some a4) else fX6_find_3 G i0 i1 a2 a3 n (a4 + (1 : Int32)))
noncomputable def fX6_find (G : GT) (i0 : Nat) (i1 : Nat) (a2 : Int32) (a3 : Int32) : Option Int32 := fX6_find_3 G i0 i1 a2 a3 FU (0 : Int32)
noncomputable def fX3_read_7 (i0 : Nat) (i1 : Nat) (i2 : Nat) : Nat → GT → Int32 → Option GT
  | 0, _, _ => none
  | n + 1, G, a3 => if (40 : Int32) ≤ a3 then some G else if (20 : Int32) ≤ (G 16 i0 0) then some G else bd (fX2_startsRun G i1 a3) (fun r1 => if r1 = 0 then fX3_read_7 i0 i1 i2 n G (a3 + (1 : Int32)) else gd (inb (G 16 i0 0) 20) (st3 G 17 i0 (G 16 i0 0).toNatClampNeg a3 (fun G5 => bd (fX2_lengthFrom G5 i1 a3) (fun r6 => gd (inb (G5 16 i0 0) 20) (st3 G5 18 i0 (G5 16 i0 0).toNatClampNeg r6 (fun G10 => gd (inb (G10 16 i0 0) 20) (bd (fX6_find G10 i2 i1 a3 (G10 18 i0 (G10 16 i0 0).toNatClampNeg)) (fun r12 => gd (inb (G10 16 i0 0) 20) (st3 G10 19 i0 (G10 16 i0 0).toNatClampNeg r12 (fun G16 => st3 G16 16 i0 0 ((G16 16 i0 0) + (1 : Int32)) (fun G17 => fX3_read_7 i0 i1 i2 n G17 (a3 + (1 : Int32)))))))))))))
noncomputable def fX3_read (G : GT) (i0 : Nat) (i1 : Nat) (i2 : Nat) : Option GT := st3 G 16 i0 0 (0 : Int32) (fun G1 => fX3_read_7 i0 i1 i2 FU G1 (0 : Int32))
noncomputable def fX3_has (G : GT) (i0 : Nat) (a1 : Int32) : Option Int32 := if a1 < 0 then some (0 : Int32) else if (G 16 i0 0) ≤ a1 then some (0 : Int32) else if (20 : Int32) ≤ a1 then some (0 : Int32) else some (1 : Int32)
noncomputable def fX3_firstOf (G : GT) (i0 : Nat) (a1 : Int32) : Option Int32 := bd (fX3_has G i0 a1) (fun r1 => if r1 = 0 then some (0 : Int32) else gd (inb a1 20) (some (G 17 i0 a1.toNatClampNeg)))
noncomputable def fX3_lengthOf (G : GT) (i0 : Nat) (a1 : Int32) : Option Int32 := bd (fX3_has G i0 a1) (fun r1 => if r1 = 0 then some (0 : Int32) else gd (inb a1 20) (some (G 18 i0 a1.toNatClampNeg)))
noncomputable def fX3_wordOf (G : GT) (i0 : Nat) (a1 : Int32) : Option Int32 := bd (fX3_has G i0 a1) (fun r1 => if r1 = 0 then some (-5 : Int32) else gd (inb a1 20) (some (G 19 i0 a1.toNatClampNeg)))
noncomputable def fX3_wordRuns_4 (G : GT) (i0 : Nat) : Nat → Int32 → Int32 → Option Int32
  | 0, _, _ => none
  | n + 1, a1, a2 => if (G 16 i0 0) ≤ a2 then some a1 else bd (fX3_wordOf G i0 a2) (fun r1 => if r1 = (-5 : Int32) then fX3_wordRuns_4 G i0 n a1 (a2 + (1 : Int32)) else fX3_wordRuns_4 G i0 n (a1 + (1 : Int32)) (a2 + (1 : Int32)))
noncomputable def fX3_wordRuns (G : GT) (i0 : Nat) : Option Int32 := fX3_wordRuns_4 G i0 FU (0 : Int32) (0 : Int32)
noncomputable def fX3_countOf_4 (G : GT) (i0 : Nat) (a1 : Int32) : Nat → Int32 → Int32 → Option Int32
  | 0, _, _ => none
  | n + 1, a2, a3 => if (G 16 i0 0) ≤ a3 then some a2 else bd (fX3_wordOf G i0 a3) (fun r1 => if r1 = a1 then fX3_countOf_4 G i0 a1 n (a2 + (1 : Int32)) (a3 + (1 : Int32)) else fX3_countOf_4 G i0 a1 n a2 (a3 + (1 : Int32)))
noncomputable def fX3_countOf (G : GT) (i0 : Nat) (a1 : Int32) : Option Int32 := fX3_countOf_4 G i0 a1 FU (0 : Int32) (0 : Int32)
noncomputable def fX3_nextWord_2 (G : GT) (i0 : Nat) : Nat → Int32 → Option Int32
  | 0, _ => none
  | n + 1, a2 => if (G 16 i0 0) ≤ a2 then some (G 16 i0 0) else bd (fX3_wordOf G i0 a2) (fun r1 => if r1 = (-5 : Int32) then fX3_nextWord_2 G i0 n (a2 + (1 : Int32)) else some a2)
noncomputable def fX3_nextWord (G : GT) (i0 : Nat) (a1 : Int32) : Option Int32 := fX3_nextWord_2 G i0 FU a1
noncomputable def fX3_sameWordsAs_4 (G : GT) (i0 : Nat) (i1 : Nat) : Nat → Int32 → Int32 → Option Int32
  | 0, _, _ => none
  | n + 1, a2, a3 => if (G 16 i0 0) ≤ a3 then bd (fX3_wordRuns G i0) (fun r1 => bd (fX3_wordRuns G i1) (fun r4 => if r1 = r4 then some (1 : Int32) else some (0 : Int32))) else bd (fX3_wordOf G i0 a3) (fun r7 => if r7 = (-5 : Int32) then fX3_sameWordsAs_4 G i0 i1 n a2 (a3 + (1 : Int32)) else bd (fX3_nextWord G i1 a2) (fun r10 => bd (fX3_wordOf G i0 a3) (fun r13 => bd (fX3_wordOf G i1 r10) (fun r16 => if r13 = r16 then fX3_sameWordsAs_4 G i0 i1 n (r10 + (1 : Int32)) (a3 + (1 : Int32)) else some (0 : Int32)))))
noncomputable def fX3_sameWordsAs (G : GT) (i0 : Nat) (i1 : Nat) : Option Int32 := fX3_sameWordsAs_4 G i0 i1 FU (0 : Int32) (0 : Int32)
noncomputable def fX5_append (G : GT) (a1 : Int32) : Option GT := bd (fX7_isWithin (G 14 0 1) (0 : Int32) (49 : Int32)) (fun r1 => if r1 = 0 then some G else gd (inb (G 14 0 1) 50) (st3 G 15 0 (G 14 0 1).toNatClampNeg (vp_nar .char a1) (fun G5 => st3 G5 14 0 1 ((G5 14 0 1) + (1 : Int32)) (fun G6 => some G6))))
noncomputable def fX5_clear (G : GT) : Option GT := st3 G 14 0 1 (0 : Int32) (fun G1 => some G1)
noncomputable def fX5_characterAt (G : GT) (a1 : Int32) : Option Int32 := bd (fX7_isWithin a1 (0 : Int32) (49 : Int32)) (fun r1 => if r1 = 0 then some (0 : Int32) else gd (inb a1 50) (gd (isC (G 15 0 a1.toNatClampNeg)) (some (G 15 0 a1.toNatClampNeg))))
noncomputable def fX5_isKind (a0 : Int32) : Option Int32 := if a0 < (49 : Int32) then some (0 : Int32) else if (53 : Int32) < a0 then some (0 : Int32) else some (1 : Int32)
noncomputable def fX5_isPlace (a0 : Int32) : Option Int32 := if a0 = (46 : Int32) then some (1 : Int32) else bd (fX5_isKind a0) (fun r1 => if r1 = 0 then some (0 : Int32) else some (1 : Int32))
noncomputable def fX5_ropeFault_37 (G : GT) (a1 : Int32) (a3 : Int32) (a4 : Int32) (k6 : Int32 → Int32 → Int32 → Option Int32) : Option Int32 := bd (fX5_isPlace a4) (fun r1 => if r1 = 0 then some a3 else if (40 : Int32) ≤ a1 then some a3 else bd (fX5_isKind a4) (fun r4 => k6 (a1 + (1 : Int32)) r4 (a3 + (1 : Int32))))
noncomputable def fX5_ropeFault_6 (G : GT) : Nat → Int32 → Int32 → Int32 → Option Int32
  | 0, _, _, _ => none
  | n + 1, a1, a2, a3 => if (G 14 0 1) ≤ a3 then some (-5 : Int32) else bd (fX5_characterAt G a3) (fun r1 => if r1 = (33 : Int32) then if a2 = 0 then fX5_ropeFault_37 G a1 a3 r1 (fX5_ropeFault_6 G n) else fX5_ropeFault_6 G n a1 (0 : Int32) (a3 + (1 : Int32)) else fX5_ropeFault_37 G a1 a3 r1 (fX5_ropeFault_6 G n))
noncomputable def fX5_ropeFault (G : GT) : Option Int32 := fX5_ropeFault_6 G FU (0 : Int32) (0 : Int32) (0 : Int32)
noncomputable def fX5_patternFault_2 (G : GT) : Nat → Int32 → Option Int32
  | 0, _ => none
  | n + 1, a1 => if (G 14 0 1) ≤ a1 then some (-5 : Int32) else bd (fX5_characterAt G a1) (fun r1 => bd (fX5_isKind r1) (fun r4 => if r4 = 0 then some a1 else if a1 < (5 : Int32) then fX5_patternFault_2 G n (a1 + (1 : Int32)) else some a1))
noncomputable def fX5_patternFault (G : GT) : Option Int32 := fX5_patternFault_2 G FU (0 : Int32)
noncomputable def fX5_faultIndex (G : GT) (a1 : Int32) : Option Int32 := if (G 14 0 1) = 0 then some (0 : Int32) else if a1 = 0 then bd (fX5_patternFault G) (fun r1 => some r1) else bd (fX5_ropeFault G) (fun r4 => some r4)
noncomputable def fX5_isDigit (a0 : Int32) : Option Int32 := if a0 < (48 : Int32) then some (0 : Int32) else if (57 : Int32) < a0 then some (0 : Int32) else some (1 : Int32)
noncomputable def fX5_faultKind_36 (G : GT) (a3 : Int32) : Option Int32 := bd (fX5_isDigit a3) (fun r1 => if r1 = 0 then some (4 : Int32) else some (2 : Int32))
noncomputable def fX5_faultKind (G : GT) (a1 : Int32) (a2 : Int32) : Option Int32 := if a2 < (G 14 0 1) then bd (fX5_characterAt G a2) (fun r1 => bd (fX5_isKind r1) (fun r4 => if r4 = 0 then if a1 = 0 then fX5_faultKind_36 G r1 else bd (fX5_isPlace r1) (fun r7 => if r7 = 0 then fX5_faultKind_36 G r1 else some (3 : Int32)) else some (3 : Int32))) else some (1 : Int32)
noncomputable def fX5_layOn_48 (G : GT) (i1 : Nat) (a2 : Int32) (a3 : Int32) (a4 : Int32) (k8 : GT → Int32 → Int32 → Option GT) : Option GT := bd (fX5_isKind a4) (fun r1 => if r1 = 0 then k8 G a2 (a3 + (1 : Int32)) else bd (fX2_put G i1 a2 (a4 - (48 : Int32)) (5 : Int32)) (fun G5 => k8 G5 a2 (a3 + (1 : Int32))))
noncomputable def fX5_layOn_8 (i1 : Nat) : Nat → GT → Int32 → Int32 → Option GT
  | 0, _, _, _ => none
  | n + 1, G, a2, a3 => if (G 14 0 1) ≤ a3 then some G else bd (fX5_characterAt G a3) (fun r1 => if r1 = (33 : Int32) then bd (fX2_kindAt G i1 a2) (fun r4 => bd (fX2_put G i1 a2 r4 (9 : Int32)) (fun G8 => fX5_layOn_48 G8 i1 a2 a3 r1 (fX5_layOn_8 i1 n))) else fX5_layOn_48 G i1 (a2 + (1 : Int32)) a3 r1 (fX5_layOn_8 i1 n))
noncomputable def fX5_layOn (G : GT) (i1 : Nat) : Option GT := bd (fX2_clear G i1) (fun G2 => fX5_layOn_8 i1 FU G2 (-1 : Int32) (0 : Int32))
noncomputable def fX6_ringsOf (G : GT) (i0 : Nat) (a1 : Int32) : Option Int32 := bd (fX6_has G i0 a1) (fun r1 => if r1 = 0 then some (0 : Int32) else gd (inb a1 16) (some (G 5 i0 a1.toNatClampNeg)))
noncomputable def fX6_changeRings (G : GT) (i0 : Nat) (a1 : Int32) (a2 : Int32) : Option GT := bd (fX6_has G i0 a1) (fun r1 => if r1 = 0 then some G else gd (inb a1 16) (st3 G 5 i0 a1.toNatClampNeg a2 (fun G5 => some G5)))
noncomputable def fX6_add_41 (i0 : Nat) (i1 : Nat) (a2 : Int32) (a4 : Int32) : Nat → GT → Int32 → Option (Int32 × GT)
  | 0, _, _ => none
  | n + 1, G, a5 => if (5 : Int32) ≤ a5 then st3 G 3 i0 0 ((G 3 i0 0) + (1 : Int32)) (fun G1 => some (a4, G1)) else if a2 ≤ a5 then gd (inb ((a4 * (5 : Int32)) + a5) 80) (st3 G 6 i0 ((a4 * (5 : Int32)) + a5).toNatClampNeg (0 : Int32) (fun G3 => fX6_add_41 i0 i1 a2 a4 n G3 (a5 + (1 : Int32)))) else bd (fX2_kindAt G i1 a5) (fun r4 => gd (inb ((a4 * (5 : Int32)) + a5) 80) (st3 G 6 i0 ((a4 * (5 : Int32)) + a5).toNatClampNeg r4 (fun G8 => fX6_add_41 i0 i1 a2 a4 n G8 (a5 + (1 : Int32)))))
noncomputable def fX6_add (G : GT) (i0 : Nat) (i1 : Nat) (a2 : Int32) (a3 : Int32) : Option (Int32 × GT) := bd (fX7_isWithin (G 3 i0 0) (0 : Int32) (15 : Int32)) (fun r1 => if r1 = 0 then some ((-3 : Int32), G) else gd (inb (G 3 i0 0) 16) (st3 G 4 i0 (G 3 i0 0).toNatClampNeg a2 (fun G5 => gd (inb (G 3 i0 0) 16) (st3 G5 5 i0 (G 3 i0 0).toNatClampNeg a3 (fun G7 => fX6_add_41 i0 i1 a2 (G 3 i0 0) FU G7 (0 : Int32))))))
noncomputable def fX6_differing_30 (G : GT) (i0 : Nat) (i2 : Nat) (a1 : Int32) (a3 : Int32) (a5 : Int32) : Nat → Int32 → Int32 → Option Int32
  | 0, _, _ => none
  | n + 1, a6, a7 => if a5 ≤ a7 then some a6 else bd (fX6_kindAt G i0 a1 a7) (fun r1 => bd (fX2_kindAt G i2 (a3 + a7)) (fun r4 => if r1 = r4 then fX6_differing_30 G i0 i2 a1 a3 a5 n a6 (a7 + (1 : Int32)) else fX6_differing_30 G i0 i2 a1 a3 a5 n (a6 + (1 : Int32)) (a7 + (1 : Int32))))
noncomputable def fX6_differing (G : GT) (i0 : Nat) (a1 : Int32) (i2 : Nat) (a3 : Int32) (a4 : Int32) : Option Int32 := bd (fX6_lengthOf G i0 a1) (fun r1 => bd (fX6_lengthOf G i0 a1) (fun r4 => fX6_differing_30 G i0 i2 a1 a3 (imin a4 r1) FU ((imax a4 r4) - (imin a4 r1)) (0 : Int32)))
noncomputable def fX7_readRuns (G : GT) : Option GT := bd (fX3_read G 0 0 0) (fun G2 => some G2)
noncomputable def fX7_tie_67 (G : GT) (a1 : Int32) (a2 : Int32) (a3 : Int32) : Option (Int32 × GT) := bd (fX0_remember G 0) (fun G2 => bd (fX2_put G2 0 a1 a2 a3) (fun G5 => bd (fX7_readRuns G5) (fun G8 => some ((G8 16 0 0), G8))))
noncomputable def fX7_tie (G : GT) (a1 : Int32) (a2 : Int32) (a3 : Int32) : Option (Int32 × GT) := bd (fX7_isWithin a1 (0 : Int32) (39 : Int32)) (fun r1 => if r1 = 0 then some ((-1 : Int32), G) else bd (fX7_isWithin a2 (1 : Int32) (5 : Int32)) (fun r4 => if r4 = 0 then some ((-2 : Int32), G) else bd (fX7_isWithin a3 (1 : Int32) (9 : Int32)) (fun r7 => if r7 = 0 then some ((-2 : Int32), G) else bd (fX2_kindAt G 0 a1) (fun r10 => if r10 = a2 then bd (fX2_tightAt G 0 a1) (fun r13 => if r13 = a3 then some ((-5 : Int32), G) else fX7_tie_67 G a1 a2 a3) else fX7_tie_67 G a1 a2 a3))))
noncomputable def fX7_untie (G : GT) (a1 : Int32) : Option (Int32 × GT) := bd (fX7_isWithin a1 (0 : Int32) (39 : Int32)) (fun r1 => if r1 = 0 then some ((-1 : Int32), G) else bd (fX2_kindAt G 0 a1) (fun r4 => if r4 = 0 then some ((-5 : Int32), G) else bd (fX0_remember G 0) (fun G8 => bd (fX2_put G8 0 a1 (0 : Int32) (0 : Int32)) (fun G11 => some (r4, G11)))))
noncomputable def fX7_tryPull (G : GT) (a1 : Int32) : Option (Int32 × GT) := bd (fX2_copyFrom G 6 0) (fun G2 => bd2 (fX2_slip G2 6 a1) (fun r4 G5 => some (r4, G5)))
noncomputable def fX7_pull (G : GT) (a1 : Int32) : Option (Int32 × GT) := bd (fX7_isWithin a1 (1 : Int32) (9 : Int32)) (fun r1 => if r1 = 0 then some ((-2 : Int32), G) else bd2 (fX7_tryPull G a1) (fun r4 G5 => if r4 = 0 then some ((-5 : Int32), G5) else bd (fX0_remember G5 0) (fun G8 => bd (fX2_copyFrom G8 0 6) (fun G11 => st3 G11 11 0 3 ((G11 11 0 3) + (1 : Int32)) (fun G13 => st3 G13 11 0 4 ((G13 11 0 4) + r4) (fun G14 => some (r4, G14)))))))
noncomputable def fX7_layRope (G : GT) : Option (Int32 × GT) := bd (fX5_faultIndex G (1 : Int32)) (fun r1 => if r1 = (-5 : Int32) then bd (fX0_remember G 0) (fun G5 => bd (fX5_layOn G5 0) (fun G8 => bd (fX2_knotCount G8 0) (fun r10 => some (r10, G8)))) else some (((-100 : Int32) - r1), G))
noncomputable def fX7_teach (G : GT) (a1 : Int32) : Option (Int32 × GT) := bd (fX7_isWithin a1 (1 : Int32) (9 : Int32)) (fun r1 => if r1 = 0 then some ((-2 : Int32), G) else bd (fX5_faultIndex G (0 : Int32)) (fun r4 => if r4 = (-5 : Int32) then bd (fX5_layOn G 6) (fun G8 => bd (fX6_find G8 0 6 (0 : Int32) (G8 14 0 1)) (fun r10 => if r10 = (-5 : Int32) then if (G8 3 0 0) < (16 : Int32) then bd (fX0_remember G8 0) (fun G14 => bd2 (fX6_add G14 0 6 (G14 14 0 1) a1) (fun r16 G17 => some (r16, G17))) else some ((-3 : Int32), G8) else some ((-4 : Int32), G8))) else some (((-100 : Int32) - r4), G)))
noncomputable def fX7_setRings (G : GT) (a1 : Int32) (a2 : Int32) : Option (Int32 × GT) := bd (fX6_has G 0 a1) (fun r1 => if r1 = 0 then some ((-1 : Int32), G) else bd (fX7_isWithin a2 (1 : Int32) (9 : Int32)) (fun r4 => if r4 = 0 then some ((-2 : Int32), G) else bd (fX6_ringsOf G 0 a1) (fun r7 => if r7 = a2 then some ((-5 : Int32), G) else bd (fX0_remember G 0) (fun G11 => bd (fX6_changeRings G11 0 a1 a2) (fun G14 => some (r7, G14))))))
noncomputable def fX7_rightAnswer_4 (G : GT) (i1 : Nat) : Nat → Int32 → Int32 → Option Int32
  | 0, _, _ => none
  | n + 1, a2, a3 => if (G 16 i1 0) ≤ a3 then some a2 else bd (fX3_wordOf G i1 a3) (fun r1 => bd (fX6_ringsOf G 0 r1) (fun r4 => fX7_rightAnswer_4 G i1 n (a2 + r4) (a3 + (1 : Int32))))
noncomputable def fX7_rightAnswer (G : GT) (i1 : Nat) : Option Int32 := fX7_rightAnswer_4 G i1 FU (0 : Int32) (0 : Int32)
noncomputable def fX7_answerOf_4 (G : GT) (a1 : Int32) : Nat → Int32 → Int32 → Option Int32
  | 0, _, _ => none
  | n + 1, a2, a3 => if (G 16 0 0) ≤ a3 then some a2 else bd (fX3_wordOf G 0 a3) (fun r1 => bd (fX1_knows G 0 a1 r1) (fun r4 => if r4 = 0 then fX7_answerOf_4 G a1 n a2 (a3 + (1 : Int32)) else bd (fX6_ringsOf G 0 r1) (fun r7 => fX7_answerOf_4 G a1 n (a2 + r7) (a3 + (1 : Int32)))))
noncomputable def fX7_answerOf (G : GT) (a1 : Int32) : Option Int32 := fX7_answerOf_4 G a1 FU (0 : Int32) (0 : Int32)
noncomputable def fX7_hearRope_2 (a1 : Int32) : Nat → GT → Int32 → Option GT
  | 0, _, _ => none
  | n + 1, G, a2 => if (G 16 0 0) ≤ a2 then some G else bd (fX3_wordOf G 0 a2) (fun r1 => bd (fX1_hear G 0 a1 r1 (1 : Int32)) (fun G5 => fX7_hearRope_2 a1 n G5 (a2 + (1 : Int32))))
noncomputable def fX7_hearRope (G : GT) (a1 : Int32) : Option GT := fX7_hearRope_2 a1 FU G (0 : Int32)
noncomputable def fX7_ring_85 (G : GT) (a1 : Int32) (a2 : Int32) (a3 : Int32) (a4 : Int32) (k55 : GT → Int32 → Int32 → Option (Int32 × GT)) : Option (Int32 × GT) := bd (fX1_account G 0 a3 a4) (fun G2 => bd (fX7_hearRope G2 a3) (fun G5 => k55 G5 a2 (a3 + (1 : Int32))))
noncomputable def fX7_ring_75 (G : GT) (a1 : Int32) (a2 : Int32) (a3 : Int32) (s0 : Int32) (k55 : GT → Int32 → Int32 → Option (Int32 × GT)) : Option (Int32 × GT) := if s0 = 0 then fX7_ring_85 G a1 a2 a3 s0 k55 else fX7_ring_85 G a1 (a2 + (1 : Int32)) a3 s0 k55
noncomputable def fX7_ring_55 (a1 : Int32) : Nat → GT → Int32 → Int32 → Option (Int32 × GT)
  | 0, _, _, _ => none
  | n + 1, G, a2, a3 => if (6 : Int32) ≤ a3 then some (a2, G) else bd (fX7_answerOf G a3) (fun r1 => if r1 = a1 then fX7_ring_75 G a1 a2 a3 (1 : Int32) (fX7_ring_55 a1 n) else fX7_ring_75 G a1 a2 a3 (0 : Int32) (fX7_ring_55 a1 n))
noncomputable def fX7_ring (G : GT) : Option (Int32 × GT) := bd (fX7_readRuns G) (fun G2 => bd (fX3_wordRuns G2 0) (fun r4 => if r4 = 0 then some ((-5 : Int32), G2) else bd (fX0_remember G2 0) (fun G8 => st3 G8 11 0 5 ((G8 11 0 5) + (1 : Int32)) (fun G10 => bd (fX7_rightAnswer G10 0) (fun r11 => fX7_ring_55 r11 FU G10 (0 : Int32) (0 : Int32))))))
noncomputable def fX7_forget (G : GT) (a1 : Int32) (a2 : Int32) : Option (Int32 × GT) := bd (fX7_isLearner a1) (fun r1 => if r1 = 0 then some ((-1 : Int32), G) else bd (fX6_has G 0 a2) (fun r4 => if r4 = 0 then some ((-1 : Int32), G) else bd (fX1_timesHeard G 0 a1 a2) (fun r7 => if r7 = 0 then some ((-5 : Int32), G) else bd (fX0_remember G 0) (fun G11 => bd (fX1_hear G11 0 a1 a2 (-r7)) (fun G14 => some (r7, G14))))))
noncomputable def fX7_tell (G : GT) (a1 : Int32) (a2 : Int32) : Option (Int32 × GT) := bd (fX7_isLearner a1) (fun r1 => if r1 = 0 then some ((-1 : Int32), G) else bd (fX6_has G 0 a2) (fun r4 => if r4 = 0 then some ((-1 : Int32), G) else bd (fX1_timesHeard G 0 a1 a2) (fun r7 => if r7 < (999 : Int32) then bd (fX0_remember G 0) (fun G11 => bd (fX1_hear G11 0 a1 a2 (1 : Int32)) (fun G14 => bd (fX1_timesHeard G14 0 a1 a2) (fun r16 => some (r16, G14)))) else some ((-3 : Int32), G))))
noncomputable def fX7_set (G : GT) (a1 : Int32) : Option (Int32 × GT) := bd (fX7_isWithin a1 (1 : Int32) (9 : Int32)) (fun r1 => if r1 = 0 then some ((-2 : Int32), G) else if (G 7 0 0) = a1 then some ((-5 : Int32), G) else bd (fX0_remember G 0) (fun G5 => st3 G5 7 0 0 a1 (fun G7 => some ((G 7 0 0), G7))))
noncomputable def fX7_type (G : GT) (a1 : Int32) : Option (Int32 × GT) := if (G 14 0 1) < (50 : Int32) then bd (fX5_append G a1) (fun G2 => some ((G2 14 0 1), G2)) else some ((-3 : Int32), G)
noncomputable def fX7_clearText (G : GT) : Option (Int32 × GT) := bd (fX5_clear G) (fun G2 => some ((G 14 0 1), G2))
noncomputable def fX7_fault (G : GT) (a1 : Int32) (a2 : Int32) : Option Int32 := bd (fX7_isWithin a2 (0 : Int32) (1 : Int32)) (fun r1 => if r1 = 0 then some (-2 : Int32) else bd (fX5_faultIndex G a1) (fun r4 => if r4 = (-5 : Int32) then some r4 else if a2 = 0 then some r4 else bd (fX5_faultKind G a1 r4) (fun r7 => some r7)))
noncomputable def fX7_undo (G : GT) : Option (Int32 × GT) := if (G 12 0 1) = 0 then some ((-5 : Int32), G) else bd (fX0_takeBack G 0) (fun G2 => some ((G2 12 0 1), G2))
noncomputable def fX7_keep (G : GT) : Option (Int32 × GT) := bd (fX4_copyFrom G 1 0) (fun G2 => st3 G2 20 0 2 (1 : Int32) (fun G4 => bd (fX2_knotCount G4 0) (fun r5 => some (r5, G4))))
noncomputable def fX7_restore (G : GT) : Option (Int32 × GT) := if (G 20 0 2) = 0 then some ((-5 : Int32), G) else bd (fX0_remember G 0) (fun G2 => bd (fX4_copyFrom G2 0 1) (fun G5 => bd (fX2_knotCount G5 0) (fun r7 => some (r7, G5))))
noncomputable def fX7_knot (G : GT) (a1 : Int32) (a2 : Int32) : Option Int32 := bd (fX7_isWithin a1 (0 : Int32) (39 : Int32)) (fun r1 => if r1 = 0 then some (-1 : Int32) else if a2 = 0 then bd (fX2_kindAt G 0 a1) (fun r5 => some r5) else if a2 = 1 then bd (fX2_tightAt G 0 a1) (fun r9 => some r9) else if a2 = 2 then bd (fX2_runAt G 0 a1) (fun r13 => some r13) else some (-2 : Int32))
noncomputable def fX7_run (G : GT) (a1 : Int32) (a2 : Int32) : Option (Int32 × GT) := bd (fX7_readRuns G) (fun G2 => bd (fX3_has G2 0 a1) (fun r4 => if r4 = 0 then some ((-1 : Int32), G2) else if a2 = 0 then bd (fX3_firstOf G2 0 a1) (fun r8 => some (r8, G2)) else if a2 = 1 then bd (fX3_lengthOf G2 0 a1) (fun r12 => some (r12, G2)) else if a2 = 2 then bd (fX3_wordOf G2 0 a1) (fun r16 => some (r16, G2)) else if a2 = 3 then bd (fX3_firstOf G2 0 a1) (fun r20 => bd (fX2_loosenessFrom G2 0 r20) (fun r23 => some (r23, G2))) else some ((-2 : Int32), G2)))
noncomputable def fX7_waysFrom_6 (G : GT) (a1 : Int32) (a2 : Int32) (a3 : Int32) : Nat → Int32 → Int32 → Option Int32
  | 0, _, _ => none
  | n + 1, a4, a5 => if (G 3 0 0) ≤ a5 then some a4 else bd (fX6_lengthOf G 0 a5) (fun r1 => bd (fX7_isWithin (a2 + r1) (a2 + (1 : Int32)) a3) (fun r4 => if r4 = 0 then fX7_waysFrom_6 G a1 a2 a3 n a4 (a5 + (1 : Int32)) else bd (fX6_standsAt G 0 a5 0 (a1 + a2)) (fun r7 => if r7 = 0 then fX7_waysFrom_6 G a1 a2 a3 n a4 (a5 + (1 : Int32)) else gd (inb (a2 + r1) 41) (fX7_waysFrom_6 G a1 a2 a3 n (imin (9999 : Int32) (a4 + (G 21 0 (a2 + r1).toNatClampNeg))) (a5 + (1 : Int32))))))
noncomputable def fX7_waysFrom (G : GT) (a1 : Int32) (a2 : Int32) (a3 : Int32) : Option Int32 := fX7_waysFrom_6 G a1 a2 a3 FU (0 : Int32) (0 : Int32)
noncomputable def fX7_splits_48 (a2 : Int32) (a3 : Int32) : Nat → GT → Int32 → Option (Int32 × GT)
  | 0, _, _ => none
  | n + 1, G, a4 => if a4 < 0 then gd (inb (0 : Int32) 41) (some ((G 21 0 (0 : Int32).toNatClampNeg), G)) else bd (fX7_waysFrom G a2 a4 a3) (fun r2 => gd (inb a4 41) (st3 G 21 0 a4.toNatClampNeg r2 (fun G6 => fX7_splits_48 a2 a3 n G6 (a4 + (-1 : Int32)))))
noncomputable def fX7_splits (G : GT) (a1 : Int32) : Option (Int32 × GT) := bd (fX7_readRuns G) (fun G2 => bd (fX3_has G2 0 a1) (fun r4 => if r4 = 0 then some ((-1 : Int32), G2) else bd (fX3_firstOf G2 0 a1) (fun r7 => bd (fX3_lengthOf G2 0 a1) (fun r10 => gd (inb (imin (40 : Int32) r10) 41) (st3 G2 21 0 (imin (40 : Int32) r10).toNatClampNeg (1 : Int32) (fun G14 => fX7_splits_48 r7 (imin (40 : Int32) r10) FU G14 ((imin (40 : Int32) r10) - (1 : Int32))))))))
noncomputable def fX7_waysUpTo_5 (G : GT) (a1 : Int32) (a2 : Int32) : Nat → Int32 → Int32 → Option Int32
  | 0, _, _ => none
  | n + 1, a3, a4 => if (G 3 0 0) ≤ a4 then some a3 else bd (fX6_lengthOf G 0 a4) (fun r1 => bd (fX7_isWithin (a2 - r1) (0 : Int32) (a2 - (1 : Int32))) (fun r4 => if r4 = 0 then fX7_waysUpTo_5 G a1 a2 n a3 (a4 + (1 : Int32)) else bd (fX6_standsAt G 0 a4 0 (a1 + (a2 - r1))) (fun r7 => if r7 = 0 then fX7_waysUpTo_5 G a1 a2 n a3 (a4 + (1 : Int32)) else gd (inb (a2 - r1) 41) (fX7_waysUpTo_5 G a1 a2 n (imin (9999 : Int32) (a3 + (G 21 0 (a2 - r1).toNatClampNeg))) (a4 + (1 : Int32))))))
noncomputable def fX7_waysUpTo (G : GT) (a1 : Int32) (a2 : Int32) : Option Int32 := fX7_waysUpTo_5 G a1 a2 FU (0 : Int32) (0 : Int32)
noncomputable def fX7_splitsBack_46 (a2 : Int32) (a3 : Int32) : Nat → GT → Int32 → Option (Int32 × GT)
  | 0, _, _ => none
  | n + 1, G, a4 => if a3 < a4 then gd (inb a3 41) (some ((G 21 0 a3.toNatClampNeg), G)) else bd (fX7_waysUpTo G a2 a4) (fun r2 => gd (inb a4 41) (st3 G 21 0 a4.toNatClampNeg r2 (fun G6 => fX7_splitsBack_46 a2 a3 n G6 (a4 + (1 : Int32)))))
noncomputable def fX7_splitsBack (G : GT) (a1 : Int32) : Option (Int32 × GT) := bd (fX7_readRuns G) (fun G2 => bd (fX3_has G2 0 a1) (fun r4 => if r4 = 0 then some ((-1 : Int32), G2) else bd (fX3_firstOf G2 0 a1) (fun r7 => bd (fX3_lengthOf G2 0 a1) (fun r10 => gd (inb (0 : Int32) 41) (st3 G2 21 0 (0 : Int32).toNatClampNeg (1 : Int32) (fun G14 => fX7_splitsBack_46 r7 (imin (40 : Int32) r10) FU G14 (1 : Int32)))))))
noncomputable def fX7_nearest_35 (G : GT) (a1 : Int32) (a2 : Int32) : Nat → Int32 → Int32 → Int32 → Option (Int32 × GT)
  | 0, _, _, _ => none
  | n + 1, a3, a4, a5 => if (G 3 0 0) ≤ a5 then if a2 = 0 then some (a3, G) else some (a4, G) else bd (fX3_firstOf G 0 a1) (fun r1 => bd (fX3_lengthOf G 0 a1) (fun r4 => bd (fX6_differing G 0 a5 0 r1 r4) (fun r7 => if a3 = (-5 : Int32) then fX7_nearest_35 G a1 a2 n a5 r7 (a5 + (1 : Int32)) else if a4 ≤ r7 then fX7_nearest_35 G a1 a2 n a3 a4 (a5 + (1 : Int32)) else fX7_nearest_35 G a1 a2 n a5 r7 (a5 + (1 : Int32)))))
noncomputable def fX7_nearest (G : GT) (a1 : Int32) (a2 : Int32) : Option (Int32 × GT) := bd (fX7_readRuns G) (fun G2 => bd (fX3_has G2 0 a1) (fun r4 => if r4 = 0 then some ((-1 : Int32), G2) else bd (fX7_isWithin a2 (0 : Int32) (1 : Int32)) (fun r7 => if r7 = 0 then some ((-2 : Int32), G2) else fX7_nearest_35 G2 a1 a2 FU (-5 : Int32) (-5 : Int32) (0 : Int32))))
noncomputable def fX7_word (G : GT) (a1 : Int32) (a2 : Int32) : Option (Int32 × GT) := bd (fX6_has G 0 a1) (fun r1 => if r1 = 0 then some ((-1 : Int32), G) else if a2 = 0 then bd (fX6_lengthOf G 0 a1) (fun r5 => some (r5, G)) else if a2 = 1 then bd (fX6_ringsOf G 0 a1) (fun r9 => some (r9, G)) else if a2 = 2 then bd (fX7_readRuns G) (fun G14 => bd (fX3_countOf G14 0 a1) (fun r16 => some (r16, G14))) else if a2 = 3 then bd (fX1_whoKnow G 0 a1) (fun r20 => some (r20, G)) else bd (fX7_isWithin a2 (4 : Int32) (8 : Int32)) (fun r23 => if r23 = 0 then some ((-2 : Int32), G) else bd (fX6_kindAt G 0 a1 (a2 - (4 : Int32))) (fun r26 => some (r26, G))))
noncomputable def fX7_learner (G : GT) (a1 : Int32) (a2 : Int32) : Option (Int32 × GT) := bd (fX7_isLearner a1) (fun r1 => if r1 = 0 then some ((-1 : Int32), G) else if a2 = 0 then bd (fX1_knownBy G 0 a1 (G 3 0 0)) (fun r5 => some (r5, G)) else if a2 = 1 then bd (fX7_readRuns G) (fun G10 => bd (fX7_answerOf G10 a1) (fun r12 => some (r12, G10))) else if a2 = 2 then bd (fX1_rightOf G 0 a1) (fun r16 => some (r16, G)) else if a2 = 3 then bd (fX1_wrongOf G 0 a1) (fun r20 => some (r20, G)) else some ((-2 : Int32), G))
noncomputable def fX7_heard (G : GT) (a1 : Int32) (a2 : Int32) : Option Int32 := bd (fX7_isLearner a1) (fun r1 => if r1 = 0 then some (-1 : Int32) else bd (fX6_has G 0 a2) (fun r4 => if r4 = 0 then some (-1 : Int32) else bd (fX1_timesHeard G 0 a1 a2) (fun r7 => some r7)))
noncomputable def fX7_reason_24 (G : GT) (a1 : Int32) : Nat → Int32 → Option (Int32 × GT)
  | 0, _ => none
  | n + 1, a2 => if (G 16 0 0) ≤ a2 then some ((0 : Int32), G) else bd (fX3_wordOf G 0 a2) (fun r1 => if r1 = (-5 : Int32) then fX7_reason_24 G a1 n (a2 + (1 : Int32)) else bd (fX1_knows G 0 a1 r1) (fun r4 => if r4 = 0 then some (((100 : Int32) + a2), G) else fX7_reason_24 G a1 n (a2 + (1 : Int32))))
noncomputable def fX7_reason (G : GT) (a1 : Int32) : Option (Int32 × GT) := bd (fX7_isLearner a1) (fun r1 => if r1 = 0 then some ((-1 : Int32), G) else bd (fX7_readRuns G) (fun G5 => bd (fX3_wordRuns G5 0) (fun r7 => if r7 = 0 then some ((-5 : Int32), G5) else fX7_reason_24 G5 a1 FU (0 : Int32))))
noncomputable def fX7_ifPulled (G : GT) (a1 : Int32) (a2 : Int32) : Option (Int32 × GT) := bd (fX7_isWithin a1 (1 : Int32) (9 : Int32)) (fun r1 => if r1 = 0 then some ((-2 : Int32), G) else bd2 (fX7_tryPull G a1) (fun r4 G5 => bd (fX3_read G5 1 6 0) (fun G8 => if a2 = 0 then some (r4, G8) else if a2 = 1 then some ((G8 16 1 0), G8) else if a2 = 2 then bd (fX3_wordRuns G8 1) (fun r13 => some (r13, G8)) else if a2 = 3 then bd (fX7_rightAnswer G8 1) (fun r17 => some (r17, G8)) else some ((-2 : Int32), G8))))
noncomputable def fX7_safePull_8  : Nat → GT → Int32 → Option (Int32 × GT)
  | 0, _, _ => none
  | n + 1, G, a1 => if a1 ≤ (1 : Int32) then some ((1 : Int32), G) else bd2 (fX7_tryPull G a1) (fun r1 G2 => bd (fX3_read G2 1 6 0) (fun G5 => bd (fX3_sameWordsAs G5 1 0) (fun r7 => if r7 = 0 then fX7_safePull_8 n G5 (a1 + (-1 : Int32)) else some (a1, G5))))
noncomputable def fX7_safePull (G : GT) : Option (Int32 × GT) := bd (fX7_readRuns G) (fun G2 => fX7_safePull_8 FU G2 (9 : Int32))
noncomputable def fX7_ringsUntilAllKnow (G : GT) (a1 : Int32) (a2 : Int32) : Option Int32 := if 0 < a2 then bd (fX1_mostMissing G 0 a1) (fun r1 => gd (nz a2) (some (((r1 + a2) - (1 : Int32)) / a2))) else some (0 : Int32)
noncomputable def fX7_allRightIn_17 (G : GT) : Nat → Int32 → Int32 → Option (Int32 × GT)
  | 0, _, _ => none
  | n + 1, a1, a2 => if (G 3 0 0) ≤ a2 then some (a1, G) else bd (fX3_countOf G 0 a2) (fun r1 => bd (fX7_ringsUntilAllKnow G a2 r1) (fun r4 => fX7_allRightIn_17 G n (imax a1 r4) (a2 + (1 : Int32))))
noncomputable def fX7_allRightIn (G : GT) : Option (Int32 × GT) := bd (fX7_readRuns G) (fun G2 => bd (fX3_wordRuns G2 0) (fun r4 => if r4 = 0 then some ((-5 : Int32), G2) else fX7_allRightIn_17 G2 FU (0 : Int32) (0 : Int32)))
noncomputable def fX7_count (G : GT) (a1 : Int32) : Option (Int32 × GT) := if a1 = 0 then bd (fX2_knotCount G 0) (fun r2 => some (r2, G)) else if a1 = 1 then bd (fX7_readRuns G) (fun G7 => some ((G7 16 0 0), G7)) else if a1 = 2 then bd (fX7_readRuns G) (fun G11 => bd (fX3_wordRuns G11 0) (fun r13 => some (r13, G11))) else if a1 = 3 then bd (fX7_readRuns G) (fun G18 => bd (fX7_rightAnswer G18 0) (fun r20 => some (r20, G18))) else if a1 = 4 then some ((G 3 0 0), G) else if a1 = 5 then some ((G 11 0 3), G) else if a1 = 6 then some ((G 11 0 4), G) else if a1 = 7 then some ((G 11 0 5), G) else if a1 = 8 then bd (fX1_allRight G 0) (fun r28 => some (r28, G)) else if a1 = 9 then bd (fX1_allWrong G 0) (fun r32 => some (r32, G)) else if a1 = 10 then some ((G 7 0 0), G) else if a1 = 11 then some ((G 12 0 1), G) else if a1 = 12 then some ((G 14 0 1), G) else some ((-2 : Int32), G)
noncomputable def fX8_in (a0 : Int32) (a1 : Int32) (a2 : Int32) : Option Int32 := if a0 < a1 then some (0 : Int32) else if a2 < a0 then some (0 : Int32) else some (1 : Int32)
noncomputable def fX8_isPlace (a0 : Int32) : Option Int32 := bd (fX8_in a0 (0 : Int32) (39 : Int32)) (fun r1 => gd (isB r1) (some r1))
noncomputable def fX8_isWord (G : GT) (a1 : Int32) : Option Int32 := gd (inb (80 : Int32) 289) (bd (fX8_in a1 (0 : Int32) ((G 23 0 (80 : Int32).toNatClampNeg) - (1 : Int32))) (fun r2 => gd (isB r2) (some r2)))
noncomputable def fX8_isLearner (a0 : Int32) : Option Int32 := bd (fX8_in a0 (0 : Int32) (5 : Int32)) (fun r1 => gd (isB r1) (some r1))
noncomputable def fX8_knots_4 (G : GT) : Nat → Int32 → Int32 → Option Int32
  | 0, _, _ => none
  | n + 1, a1, a2 => if (40 : Int32) ≤ a2 then some a1 else gd (inb ((0 : Int32) + a2) 289) (if (G 23 0 ((0 : Int32) + a2).toNatClampNeg) ≤ 0 then fX8_knots_4 G n (a1 + (0 : Int32)) (a2 + (1 : Int32)) else fX8_knots_4 G n (a1 + (1 : Int32)) (a2 + (1 : Int32)))
noncomputable def fX8_knots (G : GT) : Option Int32 := fX8_knots_4 G FU (0 : Int32) (0 : Int32)
noncomputable def fX8_record_51  : Nat → GT → Int32 → Option GT
  | 0, _, _ => none
  | n + 1, G, a1 => if (289 : Int32) ≤ a1 then st3 G 22 0 3 ((G 22 0 3) + (1 : Int32)) (fun G1 => some G1) else gd (inb a1 289) (gd (inb (((289 : Int32) * (G 22 0 3)) + a1) 1156) (st3 G 25 0 (((289 : Int32) * (G 22 0 3)) + a1).toNatClampNeg (G 23 0 a1.toNatClampNeg) (fun G4 => fX8_record_51 n G4 (a1 + (1 : Int32)))))
noncomputable def fX8_record_10  : Nat → GT → Int32 → Option GT
  | 0, _, _ => none
  | n + 1, G, a1 => if (867 : Int32) ≤ a1 then st3 G 22 0 3 ((G 22 0 3) - (1 : Int32)) (fun G1 => fX8_record_51 FU G1 (0 : Int32)) else gd (inb ((289 : Int32) + a1) 1156) (gd (inb a1 1156) (st3 G 25 0 a1.toNatClampNeg (G 25 0 ((289 : Int32) + a1).toNatClampNeg) (fun G4 => fX8_record_10 n G4 (a1 + (1 : Int32)))))
noncomputable def fX8_record (G : GT) : Option GT := if (G 22 0 3) = (4 : Int32) then fX8_record_10 FU G (0 : Int32) else fX8_record_51 FU G (0 : Int32)
noncomputable def fX8_undo_22  : Nat → GT → Int32 → Option (Int32 × GT)
  | 0, _, _ => none
  | n + 1, G, a1 => if (289 : Int32) ≤ a1 then some ((G 22 0 3), G) else gd (inb (((289 : Int32) * (G 22 0 3)) + a1) 1156) (gd (inb a1 289) (st3 G 23 0 a1.toNatClampNeg (G 25 0 (((289 : Int32) * (G 22 0 3)) + a1).toNatClampNeg) (fun G3 => fX8_undo_22 n G3 (a1 + (1 : Int32)))))
noncomputable def fX8_undo (G : GT) : Option (Int32 × GT) := if (G 22 0 3) = 0 then some ((-5 : Int32), G) else st3 G 22 0 3 ((G 22 0 3) - (1 : Int32)) (fun G1 => fX8_undo_22 FU G1 (0 : Int32))
noncomputable def fX8_keep_2  : Nat → GT → Int32 → Option (Int32 × GT)
  | 0, _, _ => none
  | n + 1, G, a1 => if (289 : Int32) ≤ a1 then st3 G 22 0 5 (1 : Int32) (fun G1 => bd (fX8_knots G1) (fun r2 => some (r2, G1))) else gd (inb a1 289) (gd (inb a1 289) (st3 G 26 0 a1.toNatClampNeg (G 23 0 a1.toNatClampNeg) (fun G7 => fX8_keep_2 n G7 (a1 + (1 : Int32)))))
noncomputable def fX8_keep (G : GT) : Option (Int32 × GT) := fX8_keep_2 FU G (0 : Int32)
noncomputable def fX8_restore_16  : Nat → GT → Int32 → Option (Int32 × GT)
  | 0, _, _ => none
  | n + 1, G, a1 => if (289 : Int32) ≤ a1 then bd (fX8_knots G) (fun r1 => some (r1, G)) else gd (inb a1 289) (gd (inb a1 289) (st3 G 23 0 a1.toNatClampNeg (G 26 0 a1.toNatClampNeg) (fun G6 => fX8_restore_16 n G6 (a1 + (1 : Int32)))))
noncomputable def fX8_restore (G : GT) : Option (Int32 × GT) := if (G 22 0 5) = 0 then some ((-5 : Int32), G) else bd (fX8_record G) (fun G2 => fX8_restore_16 FU G2 (0 : Int32))
noncomputable def fX8_putAside_2  : Nat → GT → Int32 → Option GT
  | 0, _, _ => none
  | n + 1, G, a1 => if (289 : Int32) ≤ a1 then some G else gd (inb a1 289) (gd (inb a1 289) (st3 G 24 0 a1.toNatClampNeg (G 23 0 a1.toNatClampNeg) (fun G3 => fX8_putAside_2 n G3 (a1 + (1 : Int32)))))
noncomputable def fX8_putAside (G : GT) : Option GT := fX8_putAside_2 FU G (0 : Int32)
noncomputable def fX8_putBack_2  : Nat → GT → Int32 → Option GT
  | 0, _, _ => none
  | n + 1, G, a1 => if (289 : Int32) ≤ a1 then some G else gd (inb a1 289) (gd (inb a1 289) (st3 G 23 0 a1.toNatClampNeg (G 24 0 a1.toNatClampNeg) (fun G3 => fX8_putBack_2 n G3 (a1 + (1 : Int32)))))
noncomputable def fX8_putBack (G : GT) : Option GT := fX8_putBack_2 FU G (0 : Int32)
noncomputable def fX8_isKnot (G : GT) (a1 : Int32) : Option Int32 := bd (fX8_isPlace a1) (fun r1 => if r1 = 0 then some (0 : Int32) else gd (inb ((0 : Int32) + a1) 289) (if (G 23 0 ((0 : Int32) + a1).toNatClampNeg) ≤ 0 then some (0 : Int32) else some (1 : Int32)))
noncomputable def fX8_begins (G : GT) (a1 : Int32) : Option Int32 := bd (fX8_isKnot G a1) (fun r1 => if r1 = 0 then some (0 : Int32) else bd (fX8_isKnot G (a1 - (1 : Int32))) (fun r4 => if r4 = 0 then some (1 : Int32) else some (0 : Int32)))
noncomputable def fX8_runs_4 (G : GT) : Nat → Int32 → Int32 → Option Int32
  | 0, _, _ => none
  | n + 1, a1, a2 => if (40 : Int32) ≤ a2 then some a1 else bd (fX8_begins G a2) (fun r1 => if r1 = 0 then fX8_runs_4 G n (a1 + (0 : Int32)) (a2 + (1 : Int32)) else fX8_runs_4 G n (a1 + (1 : Int32)) (a2 + (1 : Int32)))
noncomputable def fX8_runs (G : GT) : Option Int32 := fX8_runs_4 G FU (0 : Int32) (0 : Int32)
noncomputable def fX8_isRun (G : GT) (a1 : Int32) : Option Int32 := bd (fX8_runs G) (fun r1 => bd (fX8_in a1 (0 : Int32) (r1 - (1 : Int32))) (fun r4 => gd (isB r4) (some r4)))
noncomputable def fX8_firstOf_8 (G : GT) (a1 : Int32) : Nat → Int32 → Int32 → Int32 → Option Int32
  | 0, _, _, _ => none
  | n + 1, a2, a3, a4 => if (40 : Int32) ≤ a4 then some a3 else bd (fX8_begins G a4) (fun r1 => if r1 = 0 then fX8_firstOf_8 G a1 n a2 a3 (a4 + (1 : Int32)) else if a2 = a1 then fX8_firstOf_8 G a1 n (a2 + (1 : Int32)) a4 (a4 + (1 : Int32)) else fX8_firstOf_8 G a1 n (a2 + (1 : Int32)) a3 (a4 + (1 : Int32)))
noncomputable def fX8_firstOf (G : GT) (a1 : Int32) : Option Int32 := fX8_firstOf_8 G a1 FU (0 : Int32) (-5 : Int32) (0 : Int32)
noncomputable def fX8_lengthFrom_2 (G : GT) (a1 : Int32) : Nat → Int32 → Option Int32
  | 0, _ => none
  | n + 1, a2 => bd (fX8_isKnot G (a1 + a2)) (fun r1 => if r1 = 0 then some a2 else fX8_lengthFrom_2 G a1 n (a2 + (1 : Int32)))
noncomputable def fX8_lengthFrom (G : GT) (a1 : Int32) : Option Int32 := fX8_lengthFrom_2 G a1 FU (0 : Int32)
noncomputable def fX8_patternAt (G : GT) (a1 : Int32) (a2 : Int32) : Option Int32 := gd (inb (((81 : Int32) + ((5 : Int32) * a1)) + a2) 289) (some (G 23 0 (((81 : Int32) + ((5 : Int32) * a1)) + a2).toNatClampNeg))
noncomputable def fX8_lengthOf_2 (G : GT) (a1 : Int32) : Nat → Int32 → Option Int32
  | 0, _ => none
  | n + 1, a2 => if (5 : Int32) ≤ a2 then some a2 else bd (fX8_patternAt G a1 a2) (fun r1 => if r1 ≤ 0 then some a2 else fX8_lengthOf_2 G a1 n (a2 + (1 : Int32)))
noncomputable def fX8_lengthOf (G : GT) (a1 : Int32) : Option Int32 := fX8_lengthOf_2 G a1 FU (0 : Int32)
noncomputable def fX8_isAt_5 (G : GT) (a1 : Int32) (a2 : Int32) : Nat → Int32 → Int32 → Option Int32
  | 0, _, _ => none
  | n + 1, a3, a4 => bd (fX8_lengthOf G a1) (fun r1 => if r1 ≤ a4 then gd (isB a3) (some a3) else if a3 = 0 then fX8_isAt_5 G a1 a2 n (0 : Int32) (a4 + (1 : Int32)) else bd (fX8_isKnot G (a2 + a4)) (fun r5 => if r5 = 0 then fX8_isAt_5 G a1 a2 n (0 : Int32) (a4 + (1 : Int32)) else gd (inb (((0 : Int32) + a2) + a4) 289) (bd (fX8_patternAt G a1 a4) (fun r9 => if (G 23 0 (((0 : Int32) + a2) + a4).toNatClampNeg) = r9 then fX8_isAt_5 G a1 a2 n (1 : Int32) (a4 + (1 : Int32)) else fX8_isAt_5 G a1 a2 n (0 : Int32) (a4 + (1 : Int32))))))
noncomputable def fX8_isAt (G : GT) (a1 : Int32) (a2 : Int32) : Option Int32 := fX8_isAt_5 G a1 a2 FU (1 : Int32) (0 : Int32)
noncomputable def fX8_wordFrom_5 (G : GT) (a1 : Int32) : Nat → Int32 → Int32 → Option Int32
  | 0, _, _ => none
  | n + 1, a2, a3 => gd (inb (80 : Int32) 289) (if (G 23 0 (80 : Int32).toNatClampNeg) ≤ a3 then some a2 else bd (fX8_lengthOf G a3) (fun r2 => bd (fX8_lengthFrom G a1) (fun r5 => if r2 = r5 then bd (fX8_isAt G a3 a1) (fun r8 => if r8 = 0 then fX8_wordFrom_5 G a1 n a2 (a3 + (1 : Int32)) else fX8_wordFrom_5 G a1 n a3 (a3 + (1 : Int32))) else fX8_wordFrom_5 G a1 n a2 (a3 + (1 : Int32)))))
noncomputable def fX8_wordFrom (G : GT) (a1 : Int32) : Option Int32 := fX8_wordFrom_5 G a1 FU (-5 : Int32) (0 : Int32)
noncomputable def fX8_wordOf (G : GT) (a1 : Int32) : Option Int32 := bd (fX8_firstOf G a1) (fun r1 => bd (fX8_wordFrom G r1) (fun r4 => some r4))
noncomputable def fX8_wordRuns_4 (G : GT) : Nat → Int32 → Int32 → Option Int32
  | 0, _, _ => none
  | n + 1, a1, a2 => if (40 : Int32) ≤ a2 then some a1 else bd (fX8_begins G a2) (fun r1 => if r1 = 0 then fX8_wordRuns_4 G n (a1 + (0 : Int32)) (a2 + (1 : Int32)) else bd (fX8_wordFrom G a2) (fun r4 => if r4 < 0 then fX8_wordRuns_4 G n (a1 + (0 : Int32)) (a2 + (1 : Int32)) else fX8_wordRuns_4 G n (a1 + (1 : Int32)) (a2 + (1 : Int32))))
noncomputable def fX8_wordRuns (G : GT) : Option Int32 := fX8_wordRuns_4 G FU (0 : Int32) (0 : Int32)
noncomputable def fX8_runsOf_4 (G : GT) (a1 : Int32) : Nat → Int32 → Int32 → Option Int32
  | 0, _, _ => none
  | n + 1, a2, a3 => if (40 : Int32) ≤ a3 then some a2 else bd (fX8_begins G a3) (fun r1 => if r1 = 0 then fX8_runsOf_4 G a1 n (a2 + (0 : Int32)) (a3 + (1 : Int32)) else bd (fX8_wordFrom G a3) (fun r4 => if r4 = a1 then fX8_runsOf_4 G a1 n (a2 + (1 : Int32)) (a3 + (1 : Int32)) else fX8_runsOf_4 G a1 n (a2 + (0 : Int32)) (a3 + (1 : Int32))))
noncomputable def fX8_runsOf (G : GT) (a1 : Int32) : Option Int32 := fX8_runsOf_4 G a1 FU (0 : Int32) (0 : Int32)
noncomputable def fX8_rightAnswer_4 (G : GT) : Nat → Int32 → Int32 → Option Int32
  | 0, _, _ => none
  | n + 1, a1, a2 => gd (inb (80 : Int32) 289) (if (G 23 0 (80 : Int32).toNatClampNeg) ≤ a2 then some a1 else bd (fX8_runsOf G a2) (fun r2 => gd (inb ((161 : Int32) + a2) 289) (fX8_rightAnswer_4 G n (a1 + (r2 * (G 23 0 ((161 : Int32) + a2).toNatClampNeg))) (a2 + (1 : Int32)))))
noncomputable def fX8_rightAnswer (G : GT) : Option Int32 := fX8_rightAnswer_4 G FU (0 : Int32) (0 : Int32)
noncomputable def fX8_tie_59 (G : GT) (a1 : Int32) (a2 : Int32) (a3 : Int32) : Option (Int32 × GT) := bd (fX8_record G) (fun G2 => gd (inb ((0 : Int32) + a1) 289) (st3 G2 23 0 ((0 : Int32) + a1).toNatClampNeg a2 (fun G5 => gd (inb ((40 : Int32) + a1) 289) (st3 G5 23 0 ((40 : Int32) + a1).toNatClampNeg a3 (fun G7 => bd (fX8_runs G7) (fun r8 => some (r8, G7)))))))
noncomputable def fX8_tie (G : GT) (a1 : Int32) (a2 : Int32) (a3 : Int32) : Option (Int32 × GT) := bd (fX8_isPlace a1) (fun r1 => if r1 = 0 then some ((-1 : Int32), G) else bd (fX8_in a2 (1 : Int32) (5 : Int32)) (fun r4 => if r4 = 0 then some ((-2 : Int32), G) else bd (fX8_in a3 (1 : Int32) (9 : Int32)) (fun r7 => if r7 = 0 then some ((-2 : Int32), G) else gd (inb ((0 : Int32) + a1) 289) (if (G 23 0 ((0 : Int32) + a1).toNatClampNeg) = a2 then gd (inb ((40 : Int32) + a1) 289) (if (G 23 0 ((40 : Int32) + a1).toNatClampNeg) = a3 then some ((-5 : Int32), G) else fX8_tie_59 G a1 a2 a3) else fX8_tie_59 G a1 a2 a3))))
noncomputable def fX8_untie (G : GT) (a1 : Int32) : Option (Int32 × GT) := bd (fX8_isPlace a1) (fun r1 => if r1 = 0 then some ((-1 : Int32), G) else gd (inb ((0 : Int32) + a1) 289) (if (G 23 0 ((0 : Int32) + a1).toNatClampNeg) = 0 then some ((-5 : Int32), G) else bd (fX8_record G) (fun G6 => gd (inb ((0 : Int32) + a1) 289) (st3 G6 23 0 ((0 : Int32) + a1).toNatClampNeg (0 : Int32) (fun G9 => gd (inb ((40 : Int32) + a1) 289) (st3 G9 23 0 ((40 : Int32) + a1).toNatClampNeg (0 : Int32) (fun G11 => some ((G 23 0 ((0 : Int32) + a1).toNatClampNeg), G11))))))))
noncomputable def fX8_doPull_5 (a1 : Int32) : Nat → GT → Int32 → Int32 → Option (Int32 × GT)
  | 0, _, _, _ => none
  | n + 1, G, a2, a3 => if a3 < 0 then some (a2, G) else bd (fX8_isKnot G a3) (fun r1 => if r1 = 0 then fX8_doPull_5 a1 n G a2 (a3 + (-1 : Int32)) else gd (inb ((40 : Int32) + a3) 289) (if a1 ≤ (G 23 0 ((40 : Int32) + a3).toNatClampNeg) then fX8_doPull_5 a1 n G a2 (a3 + (-1 : Int32)) else bd (fX8_isKnot G (a3 + (1 : Int32))) (fun r5 => if r5 = 0 then gd (inb ((0 : Int32) + a3) 289) (gd (inb (((0 : Int32) + a3) + (1 : Int32)) 289) (st3 G 23 0 (((0 : Int32) + a3) + (1 : Int32)).toNatClampNeg (G 23 0 ((0 : Int32) + a3).toNatClampNeg) (fun G10 => gd (inb ((40 : Int32) + a3) 289) (gd (inb (((40 : Int32) + a3) + (1 : Int32)) 289) (st3 G10 23 0 (((40 : Int32) + a3) + (1 : Int32)).toNatClampNeg (G10 23 0 ((40 : Int32) + a3).toNatClampNeg) (fun G13 => gd (inb ((0 : Int32) + a3) 289) (st3 G13 23 0 ((0 : Int32) + a3).toNatClampNeg (0 : Int32) (fun G15 => gd (inb ((40 : Int32) + a3) 289) (st3 G15 23 0 ((40 : Int32) + a3).toNatClampNeg (0 : Int32) (fun G17 => fX8_doPull_5 a1 n G17 (a2 + (1 : Int32)) (a3 + (-1 : Int32)))))))))))) else fX8_doPull_5 a1 n G a2 (a3 + (-1 : Int32)))))
noncomputable def fX8_doPull (G : GT) (a1 : Int32) : Option (Int32 × GT) := fX8_doPull_5 a1 FU G (0 : Int32) (38 : Int32)
noncomputable def fX8_slipsOf (G : GT) (a1 : Int32) : Option (Int32 × GT) := bd (fX8_putAside G) (fun G2 => bd2 (fX8_doPull G2 a1) (fun r4 G5 => bd (fX8_putBack G5) (fun G8 => some (r4, G8))))
noncomputable def fX8_pull (G : GT) (a1 : Int32) : Option (Int32 × GT) := bd (fX8_in a1 (1 : Int32) (9 : Int32)) (fun r1 => if r1 = 0 then some ((-2 : Int32), G) else bd2 (fX8_slipsOf G a1) (fun r4 G5 => if r4 = 0 then some ((-5 : Int32), G5) else bd (fX8_record G5) (fun G8 => bd2 (fX8_doPull G8 a1) (fun r10 G11 => gd (inb (286 : Int32) 289) (gd (inb (286 : Int32) 289) (st3 G11 23 0 (286 : Int32).toNatClampNeg ((G11 23 0 (286 : Int32).toNatClampNeg) + (1 : Int32)) (fun G15 => gd (inb (287 : Int32) 289) (gd (inb (287 : Int32) 289) (st3 G15 23 0 (287 : Int32).toNatClampNeg ((G15 23 0 (287 : Int32).toNatClampNeg) + r10) (fun G18 => some (r10, G18)))))))))))
noncomputable def fX8_findFault_153 (G : GT) (a1 : Int32) (a2 : Int32) (a3 : Int32) (a6 : Int32) (k4 : Int32 → Int32 → Option (Int32 × GT)) : Option (Int32 × GT) := if a6 = 0 then k4 (a2 + (0 : Int32)) (a3 + (1 : Int32)) else k4 (a2 + (1 : Int32)) (a3 + (1 : Int32))
noncomputable def fX8_findFault_143 (G : GT) (a1 : Int32) (a2 : Int32) (a3 : Int32) (a6 : Int32) (s0 : Int32) (s1 : Int32) (k4 : Int32 → Int32 → Option (Int32 × GT)) : Option (Int32 × GT) := if s0 = s1 then st3 G 22 0 8 (3 : Int32) (fun G1 => some (a3, G1)) else fX8_findFault_153 G a1 a2 a3 a6 k4
noncomputable def fX8_findFault_127 (G : GT) (a1 : Int32) (a2 : Int32) (a3 : Int32) (a6 : Int32) (k4 : Int32 → Int32 → Option (Int32 × GT)) : Option (Int32 × GT) := if a6 = 0 then fX8_findFault_153 G a1 a2 a3 a6 k4 else if a1 = 0 then fX8_findFault_143 G a1 a2 a3 a6 a2 (5 : Int32) k4 else fX8_findFault_143 G a1 a2 a3 a6 a2 (40 : Int32) k4
noncomputable def fX8_findFault_92 (G : GT) (a1 : Int32) (a2 : Int32) (a3 : Int32) (a4 : Int32) (a6 : Int32) (s0 : Int32) (k4 : Int32 → Int32 → Option (Int32 × GT)) : Option (Int32 × GT) := if s0 = 0 then if a6 = 0 then bd (fX8_in a4 (48 : Int32) (57 : Int32)) (fun r1 => if r1 = 0 then st3 G 22 0 8 (4 : Int32) (fun G4 => some (a3, G4)) else st3 G 22 0 8 (2 : Int32) (fun G5 => some (a3, G5))) else fX8_findFault_127 G a1 a2 a3 a6 k4 else fX8_findFault_127 G a1 a2 a3 a6 k4
noncomputable def fX8_findFault_91 (G : GT) (a1 : Int32) (a2 : Int32) (a3 : Int32) (a4 : Int32) (a6 : Int32) (k4 : Int32 → Int32 → Option (Int32 × GT)) : Option (Int32 × GT) := fX8_findFault_92 G a1 a2 a3 a4 a6 (0 : Int32) k4
noncomputable def fX8_findFault_52 (G : GT) (a1 : Int32) (a2 : Int32) (a3 : Int32) (a4 : Int32) (s0 : Int32) (k4 : Int32 → Int32 → Option (Int32 × GT)) : Option (Int32 × GT) := if a1 = 0 then fX8_findFault_91 G a1 a2 a3 a4 s0 k4 else if a4 = (33 : Int32) then if a3 ≤ 0 then fX8_findFault_91 G a1 a2 a3 a4 s0 k4 else gd (inb (a3 - (1 : Int32)) 50) (bd (fX8_in (G 27 0 (a3 - (1 : Int32)).toNatClampNeg) (49 : Int32) (53 : Int32)) (fun r2 => if r2 = 0 then fX8_findFault_91 G a1 a2 a3 a4 s0 k4 else fX8_findFault_92 G a1 a2 a3 a4 s0 (1 : Int32) k4)) else fX8_findFault_91 G a1 a2 a3 a4 s0 k4
noncomputable def fX8_findFault_47 (G : GT) (a1 : Int32) (a2 : Int32) (a3 : Int32) (a4 : Int32) (k4 : Int32 → Int32 → Option (Int32 × GT)) : Option (Int32 × GT) := fX8_findFault_52 G a1 a2 a3 a4 (1 : Int32) k4
noncomputable def fX8_findFault_51 (G : GT) (a1 : Int32) (a2 : Int32) (a3 : Int32) (a4 : Int32) (k4 : Int32 → Int32 → Option (Int32 × GT)) : Option (Int32 × GT) := fX8_findFault_52 G a1 a2 a3 a4 (0 : Int32) k4
noncomputable def fX8_findFault_4 (G : GT) (a1 : Int32) : Nat → Int32 → Int32 → Option (Int32 × GT)
  | 0, _, _ => none
  | n + 1, a2, a3 => if (G 22 0 7) ≤ a3 then st3 G 22 0 8 (1 : Int32) (fun G1 => if (G1 22 0 7) = 0 then some ((0 : Int32), G1) else some ((-5 : Int32), G1)) else gd (inb a3 50) (bd (fX8_in (G 27 0 a3.toNatClampNeg) (49 : Int32) (53 : Int32)) (fun r3 => if r3 = 0 then if a1 = 0 then fX8_findFault_51 G a1 a2 a3 (G 27 0 a3.toNatClampNeg) (fX8_findFault_4 G a1 n) else if (G 27 0 a3.toNatClampNeg) = (46 : Int32) then fX8_findFault_47 G a1 a2 a3 (G 27 0 a3.toNatClampNeg) (fX8_findFault_4 G a1 n) else fX8_findFault_51 G a1 a2 a3 (G 27 0 a3.toNatClampNeg) (fX8_findFault_4 G a1 n) else fX8_findFault_47 G a1 a2 a3 (G 27 0 a3.toNatClampNeg) (fX8_findFault_4 G a1 n)))
noncomputable def fX8_findFault (G : GT) (a1 : Int32) : Option (Int32 × GT) := fX8_findFault_4 G a1 FU (0 : Int32) (0 : Int32)
noncomputable def fX8_layRope_122 (G : GT) (a2 : Int32) (a3 : Int32) (s1 : Int32) (s2 : Int32) (k56 : GT → Int32 → Int32 → Option (Int32 × GT)) : Option (Int32 × GT) := gd (inb s1 289) (st3 G 23 0 s1.toNatClampNeg s2 (fun G2 => gd (inb a3 50) (if (G2 27 0 a3.toNatClampNeg) = (46 : Int32) then gd (inb ((40 : Int32) + a2) 289) (st3 G2 23 0 ((40 : Int32) + a2).toNatClampNeg (0 : Int32) (fun G7 => k56 G7 (a2 + (1 : Int32)) (a3 + (1 : Int32)))) else gd (inb ((40 : Int32) + a2) 289) (st3 G2 23 0 ((40 : Int32) + a2).toNatClampNeg (5 : Int32) (fun G5 => k56 G5 (a2 + (1 : Int32)) (a3 + (1 : Int32)))))))
noncomputable def fX8_layRope_56  : Nat → GT → Int32 → Int32 → Option (Int32 × GT)
  | 0, _, _, _ => none
  | n + 1, G, a2, a3 => if (G 22 0 7) ≤ a3 then bd (fX8_knots G) (fun r1 => some (r1, G)) else gd (inb a3 50) (if (G 27 0 a3.toNatClampNeg) = (33 : Int32) then gd (inb (((40 : Int32) + a2) - (1 : Int32)) 289) (st3 G 23 0 (((40 : Int32) + a2) - (1 : Int32)).toNatClampNeg (9 : Int32) (fun G8 => fX8_layRope_56 n G8 a2 (a3 + (1 : Int32)))) else gd (inb a3 50) (if (G 27 0 a3.toNatClampNeg) = (46 : Int32) then fX8_layRope_122 G a2 a3 ((0 : Int32) + a2) (0 : Int32) (fX8_layRope_56  n) else gd (inb a3 50) (fX8_layRope_122 G a2 a3 ((0 : Int32) + a2) ((G 27 0 a3.toNatClampNeg) - (48 : Int32)) (fX8_layRope_56  n))))
noncomputable def fX8_layRope_21  : Nat → GT → Int32 → Option (Int32 × GT)
  | 0, _, _ => none
  | n + 1, G, a2 => if (40 : Int32) ≤ a2 then fX8_layRope_56 FU G (0 : Int32) (0 : Int32) else gd (inb ((0 : Int32) + a2) 289) (st3 G 23 0 ((0 : Int32) + a2).toNatClampNeg (0 : Int32) (fun G2 => gd (inb ((40 : Int32) + a2) 289) (st3 G2 23 0 ((40 : Int32) + a2).toNatClampNeg (0 : Int32) (fun G4 => fX8_layRope_21 n G4 (a2 + (1 : Int32))))))
noncomputable def fX8_layRope (G : GT) : Option (Int32 × GT) := bd2 (fX8_findFault G (1 : Int32)) (fun r1 G2 => if r1 < 0 then bd (fX8_record G2) (fun G5 => fX8_layRope_21 FU G5 (0 : Int32)) else some (((-100 : Int32) - r1), G2))
noncomputable def fX8_isTaught_36 (G : GT) (a1 : Int32) (a2 : Int32) (k4 : Int32 → Int32 → Option Int32) : Nat → Int32 → Int32 → Option Int32
  | 0, _, _ => none
  | n + 1, a3, a4 => if (G 22 0 7) ≤ a4 then if a1 = 0 then if a3 = 0 then k4 (0 : Int32) (a2 + (1 : Int32)) else k4 (1 : Int32) (a2 + (1 : Int32)) else k4 (1 : Int32) (a2 + (1 : Int32)) else if a3 = 0 then fX8_isTaught_36 G a1 a2 k4 n (0 : Int32) (a4 + (1 : Int32)) else bd (fX8_patternAt G a2 a4) (fun r1 => gd (inb a4 50) (if r1 = ((G 27 0 a4.toNatClampNeg) - (48 : Int32)) then fX8_isTaught_36 G a1 a2 k4 n (1 : Int32) (a4 + (1 : Int32)) else fX8_isTaught_36 G a1 a2 k4 n (0 : Int32) (a4 + (1 : Int32))))
noncomputable def fX8_isTaught_4 (G : GT) : Nat → Int32 → Int32 → Option Int32
  | 0, _, _ => none
  | n + 1, a1, a2 => gd (inb (80 : Int32) 289) (if (G 23 0 (80 : Int32).toNatClampNeg) ≤ a2 then gd (isB a1) (some a1) else bd (fX8_lengthOf G a2) (fun r3 => if r3 = (G 22 0 7) then fX8_isTaught_36 G a1 a2 (fX8_isTaught_4 G n) FU (1 : Int32) (0 : Int32) else fX8_isTaught_36 G a1 a2 (fX8_isTaught_4 G n) FU (0 : Int32) (0 : Int32)))
noncomputable def fX8_isTaught (G : GT) : Option Int32 := fX8_isTaught_4 G FU (0 : Int32) (0 : Int32)
noncomputable def fX8_teach_68 (a1 : Int32) (a3 : Int32) : Nat → GT → Int32 → Option (Int32 × GT)
  | 0, _, _ => none
  | n + 1, G, a4 => if (5 : Int32) ≤ a4 then gd (inb ((161 : Int32) + a3) 289) (st3 G 23 0 ((161 : Int32) + a3).toNatClampNeg a1 (fun G2 => gd (inb (80 : Int32) 289) (gd (inb (80 : Int32) 289) (st3 G2 23 0 (80 : Int32).toNatClampNeg ((G2 23 0 (80 : Int32).toNatClampNeg) + (1 : Int32)) (fun G5 => some (a3, G5)))))) else if (G 22 0 7) ≤ a4 then gd (inb (((81 : Int32) + ((5 : Int32) * a3)) + a4) 289) (st3 G 23 0 (((81 : Int32) + ((5 : Int32) * a3)) + a4).toNatClampNeg (0 : Int32) (fun G7 => fX8_teach_68 a1 a3 n G7 (a4 + (1 : Int32)))) else gd (inb a4 50) (gd (inb (((81 : Int32) + ((5 : Int32) * a3)) + a4) 289) (st3 G 23 0 (((81 : Int32) + ((5 : Int32) * a3)) + a4).toNatClampNeg ((G 27 0 a4.toNatClampNeg) - (48 : Int32)) (fun G10 => fX8_teach_68 a1 a3 n G10 (a4 + (1 : Int32)))))
noncomputable def fX8_teach (G : GT) (a1 : Int32) : Option (Int32 × GT) := bd (fX8_in a1 (1 : Int32) (9 : Int32)) (fun r1 => if r1 = 0 then some ((-2 : Int32), G) else bd2 (fX8_findFault G (0 : Int32)) (fun r4 G5 => if r4 < 0 then bd (fX8_isTaught G5) (fun r7 => if r7 = 0 then gd (inb (80 : Int32) 289) (if (G5 23 0 (80 : Int32).toNatClampNeg) = (16 : Int32) then some ((-3 : Int32), G5) else bd (fX8_record G5) (fun G12 => gd (inb (80 : Int32) 289) (fX8_teach_68 a1 (G12 23 0 (80 : Int32).toNatClampNeg) FU G12 (0 : Int32)))) else some ((-4 : Int32), G5)) else some (((-100 : Int32) - r4), G5)))
noncomputable def fX8_setRings (G : GT) (a1 : Int32) (a2 : Int32) : Option (Int32 × GT) := bd (fX8_isWord G a1) (fun r1 => if r1 = 0 then some ((-1 : Int32), G) else bd (fX8_in a2 (1 : Int32) (9 : Int32)) (fun r4 => if r4 = 0 then some ((-2 : Int32), G) else gd (inb ((161 : Int32) + a1) 289) (if (G 23 0 ((161 : Int32) + a1).toNatClampNeg) = a2 then some ((-5 : Int32), G) else bd (fX8_record G) (fun G9 => gd (inb ((161 : Int32) + a1) 289) (st3 G9 23 0 ((161 : Int32) + a1).toNatClampNeg a2 (fun G12 => some ((G 23 0 ((161 : Int32) + a1).toNatClampNeg), G12)))))))
noncomputable def fX8_heardOf (G : GT) (a1 : Int32) (a2 : Int32) : Option Int32 := gd (inb (((177 : Int32) + ((16 : Int32) * a1)) + a2) 289) (some (G 23 0 (((177 : Int32) + ((16 : Int32) * a1)) + a2).toNatClampNeg))
noncomputable def fX8_knows (G : GT) (a1 : Int32) (a2 : Int32) : Option Int32 := bd (fX8_heardOf G a1 a2) (fun r1 => gd (inb (285 : Int32) 289) (if r1 < (G 23 0 (285 : Int32).toNatClampNeg) then some (0 : Int32) else some (1 : Int32)))
noncomputable def fX8_answerOf_4 (G : GT) (a1 : Int32) : Nat → Int32 → Int32 → Option Int32
  | 0, _, _ => none
  | n + 1, a2, a3 => gd (inb (80 : Int32) 289) (if (G 23 0 (80 : Int32).toNatClampNeg) ≤ a3 then some a2 else bd (fX8_knows G a1 a3) (fun r2 => if r2 = 0 then fX8_answerOf_4 G a1 n (a2 + (0 : Int32)) (a3 + (1 : Int32)) else bd (fX8_runsOf G a3) (fun r5 => gd (inb ((161 : Int32) + a3) 289) (fX8_answerOf_4 G a1 n (a2 + (r5 * (G 23 0 ((161 : Int32) + a3).toNatClampNeg))) (a3 + (1 : Int32))))))
noncomputable def fX8_answerOf (G : GT) (a1 : Int32) : Option Int32 := fX8_answerOf_4 G a1 FU (0 : Int32) (0 : Int32)
noncomputable def fX8_ring_101 (a1 : Int32) (a2 : Int32) (k18 : GT → Int32 → Int32 → Option (Int32 × GT)) : Nat → GT → Int32 → Option (Int32 × GT)
  | 0, _, _ => none
  | n + 1, G, a4 => gd (inb (80 : Int32) 289) (if (G 23 0 (80 : Int32).toNatClampNeg) ≤ a4 then k18 G a1 (a2 + (1 : Int32)) else gd (inb (((177 : Int32) + ((16 : Int32) * a2)) + a4) 289) (bd (fX8_runsOf G a4) (fun r3 => gd (inb (((177 : Int32) + ((16 : Int32) * a2)) + a4) 289) (st3 G 23 0 (((177 : Int32) + ((16 : Int32) * a2)) + a4).toNatClampNeg ((G 23 0 (((177 : Int32) + ((16 : Int32) * a2)) + a4).toNatClampNeg) + r3) (fun G7 => fX8_ring_101 a1 a2 k18 n G7 (a4 + (1 : Int32)))))))
noncomputable def fX8_ring_74 (G : GT) (a1 : Int32) (a2 : Int32) (a3 : Int32) (s1 : Int32) (s2 : Int32) (s3 : Int32) (k18 : GT → Int32 → Int32 → Option (Int32 × GT)) : Option (Int32 × GT) := gd (inb s1 289) (st3 G 23 0 s1.toNatClampNeg (s2 + s3) (fun G2 => gd (inb ((279 : Int32) + a2) 289) (if a3 = 0 then gd (inb ((279 : Int32) + a2) 289) (st3 G2 23 0 ((279 : Int32) + a2).toNatClampNeg ((G2 23 0 ((279 : Int32) + a2).toNatClampNeg) + (1 : Int32)) (fun G5 => fX8_ring_101 a1 a2 k18 FU G5 (0 : Int32))) else gd (inb ((279 : Int32) + a2) 289) (st3 G2 23 0 ((279 : Int32) + a2).toNatClampNeg ((G2 23 0 ((279 : Int32) + a2).toNatClampNeg) + (0 : Int32)) (fun G7 => fX8_ring_101 a1 a2 k18 FU G7 (0 : Int32))))))
noncomputable def fX8_ring_52 (G : GT) (a2 : Int32) (a3 : Int32) (s0 : Int32) (s1 : Int32) (k18 : GT → Int32 → Int32 → Option (Int32 × GT)) : Option (Int32 × GT) := gd (inb ((273 : Int32) + a2) 289) (if a3 = 0 then fX8_ring_74 G (s0 + s1) a2 a3 ((273 : Int32) + a2) (G 23 0 ((273 : Int32) + a2).toNatClampNeg) (0 : Int32) k18 else fX8_ring_74 G (s0 + s1) a2 a3 ((273 : Int32) + a2) (G 23 0 ((273 : Int32) + a2).toNatClampNeg) (1 : Int32) k18)
noncomputable def fX8_ring_41 (G : GT) (a1 : Int32) (a2 : Int32) (s0 : Int32) (k18 : GT → Int32 → Int32 → Option (Int32 × GT)) : Option (Int32 × GT) := if s0 = 0 then fX8_ring_52 G a2 s0 a1 (0 : Int32) k18 else fX8_ring_52 G a2 s0 a1 (1 : Int32) k18
noncomputable def fX8_ring_18  : Nat → GT → Int32 → Int32 → Option (Int32 × GT)
  | 0, _, _, _ => none
  | n + 1, G, a1, a2 => if (6 : Int32) ≤ a2 then gd (inb (288 : Int32) 289) (gd (inb (288 : Int32) 289) (st3 G 23 0 (288 : Int32).toNatClampNeg ((G 23 0 (288 : Int32).toNatClampNeg) + (1 : Int32)) (fun G3 => some (a1, G3)))) else bd (fX8_answerOf G a2) (fun r4 => bd (fX8_rightAnswer G) (fun r7 => if r4 = r7 then fX8_ring_41 G a1 a2 (1 : Int32) (fX8_ring_18  n) else fX8_ring_41 G a1 a2 (0 : Int32) (fX8_ring_18  n)))
noncomputable def fX8_ring (G : GT) : Option (Int32 × GT) := bd (fX8_wordRuns G) (fun r1 => if r1 = 0 then some ((-5 : Int32), G) else bd (fX8_record G) (fun G5 => fX8_ring_18 FU G5 (0 : Int32) (0 : Int32)))
noncomputable def fX8_forget (G : GT) (a1 : Int32) (a2 : Int32) : Option (Int32 × GT) := bd (fX8_isLearner a1) (fun r1 => if r1 = 0 then some ((-1 : Int32), G) else bd (fX8_isWord G a2) (fun r4 => if r4 = 0 then some ((-1 : Int32), G) else bd (fX8_heardOf G a1 a2) (fun r7 => if r7 = 0 then some ((-5 : Int32), G) else bd (fX8_record G) (fun G11 => gd (inb (((177 : Int32) + ((16 : Int32) * a1)) + a2) 289) (st3 G11 23 0 (((177 : Int32) + ((16 : Int32) * a1)) + a2).toNatClampNeg (0 : Int32) (fun G14 => some (r7, G14)))))))
noncomputable def fX8_tell (G : GT) (a1 : Int32) (a2 : Int32) : Option (Int32 × GT) := bd (fX8_isLearner a1) (fun r1 => if r1 = 0 then some ((-1 : Int32), G) else bd (fX8_isWord G a2) (fun r4 => if r4 = 0 then some ((-1 : Int32), G) else bd (fX8_heardOf G a1 a2) (fun r7 => if r7 < (999 : Int32) then bd (fX8_record G) (fun G11 => gd (inb (((177 : Int32) + ((16 : Int32) * a1)) + a2) 289) (gd (inb (((177 : Int32) + ((16 : Int32) * a1)) + a2) 289) (st3 G11 23 0 (((177 : Int32) + ((16 : Int32) * a1)) + a2).toNatClampNeg ((G11 23 0 (((177 : Int32) + ((16 : Int32) * a1)) + a2).toNatClampNeg) + (1 : Int32)) (fun G15 => bd (fX8_heardOf G15 a1 a2) (fun r16 => some (r16, G15)))))) else some ((-3 : Int32), G))))
noncomputable def fX8_set (G : GT) (a1 : Int32) : Option (Int32 × GT) := bd (fX8_in a1 (1 : Int32) (9 : Int32)) (fun r1 => if r1 = 0 then some ((-2 : Int32), G) else gd (inb (285 : Int32) 289) (if (G 23 0 (285 : Int32).toNatClampNeg) = a1 then some ((-5 : Int32), G) else bd (fX8_record G) (fun G6 => gd (inb (285 : Int32) 289) (st3 G6 23 0 (285 : Int32).toNatClampNeg a1 (fun G9 => some ((G 23 0 (285 : Int32).toNatClampNeg), G9))))))
noncomputable def fX8_type (G : GT) (a1 : Int32) : Option (Int32 × GT) := if (G 22 0 7) = (50 : Int32) then some ((-3 : Int32), G) else gd (inb (G 22 0 7) 50) (st3 G 27 0 (G 22 0 7).toNatClampNeg a1 (fun G2 => st3 G2 22 0 7 ((G2 22 0 7) + (1 : Int32)) (fun G3 => some ((G3 22 0 7), G3))))
noncomputable def fX8_clearText (G : GT) : Option (Int32 × GT) := st3 G 22 0 7 (0 : Int32) (fun G1 => some ((G 22 0 7), G1))
noncomputable def fX8_fault (G : GT) (a1 : Int32) (a2 : Int32) : Option (Int32 × GT) := bd (fX8_in a2 (0 : Int32) (1 : Int32)) (fun r1 => if r1 = 0 then some ((-2 : Int32), G) else bd2 (fX8_findFault G a1) (fun r4 G5 => if 0 ≤ r4 then if a2 = 0 then some (r4, G5) else some ((G5 22 0 8), G5) else some ((-5 : Int32), G5)))
noncomputable def fX8_runAt_4 (G : GT) (a1 : Int32) : Nat → Int32 → Int32 → Option Int32
  | 0, _, _ => none
  | n + 1, a2, a3 => if a1 < a3 then bd (fX8_isKnot G a1) (fun r1 => if r1 = 0 then some (-5 : Int32) else some (a2 - (1 : Int32))) else bd (fX8_begins G a3) (fun r4 => if r4 = 0 then fX8_runAt_4 G a1 n (a2 + (0 : Int32)) (a3 + (1 : Int32)) else fX8_runAt_4 G a1 n (a2 + (1 : Int32)) (a3 + (1 : Int32)))
noncomputable def fX8_runAt (G : GT) (a1 : Int32) : Option Int32 := fX8_runAt_4 G a1 FU (0 : Int32) (0 : Int32)
noncomputable def fX8_knot (G : GT) (a1 : Int32) (a2 : Int32) : Option Int32 := bd (fX8_isPlace a1) (fun r1 => if r1 = 0 then some (-1 : Int32) else if a2 = 0 then gd (inb ((0 : Int32) + a1) 289) (some (G 23 0 ((0 : Int32) + a1).toNatClampNeg)) else if a2 = 1 then gd (inb ((40 : Int32) + a1) 289) (some (G 23 0 ((40 : Int32) + a1).toNatClampNeg)) else if a2 = 2 then bd (fX8_runAt G a1) (fun r9 => some r9) else some (-2 : Int32))
noncomputable def fX8_loosest_5 (G : GT) : Nat → Int32 → Int32 → Option Int32
  | 0, _, _ => none
  | n + 1, a2, a3 => bd (fX8_isKnot G a3) (fun r1 => if r1 = 0 then some a2 else gd (inb ((40 : Int32) + a3) 289) (if a2 ≤ (G 23 0 ((40 : Int32) + a3).toNatClampNeg) then fX8_loosest_5 G n a2 (a3 + (1 : Int32)) else gd (inb ((40 : Int32) + a3) 289) (fX8_loosest_5 G n (G 23 0 ((40 : Int32) + a3).toNatClampNeg) (a3 + (1 : Int32)))))
noncomputable def fX8_loosest (G : GT) (a1 : Int32) : Option Int32 := fX8_loosest_5 G FU (9 : Int32) a1
noncomputable def fX8_run (G : GT) (a1 : Int32) (a2 : Int32) : Option Int32 := bd (fX8_isRun G a1) (fun r1 => if r1 = 0 then some (-1 : Int32) else if a2 = 0 then bd (fX8_firstOf G a1) (fun r5 => some r5) else if a2 = 1 then bd (fX8_firstOf G a1) (fun r9 => bd (fX8_lengthFrom G r9) (fun r12 => some r12)) else if a2 = 2 then bd (fX8_wordOf G a1) (fun r16 => some r16) else if a2 = 3 then bd (fX8_firstOf G a1) (fun r20 => bd (fX8_loosest G r20) (fun r23 => some r23)) else some (-2 : Int32))
noncomputable def fX8_splitsOf_40 (a2 : Int32) (a4 : Int32) (k24 : GT → Int32 → Option (Int32 × GT)) : Nat → GT → Int32 → Option (Int32 × GT)
  | 0, _, _ => none
  | n + 1, G, a5 => gd (inb (80 : Int32) 289) (if (G 23 0 (80 : Int32).toNatClampNeg) ≤ a5 then gd (inb a4 41) (if (G 28 0 a4.toNatClampNeg) ≤ (9999 : Int32) then gd (inb a4 41) (gd (inb a4 41) (st3 G 28 0 a4.toNatClampNeg (G 28 0 a4.toNatClampNeg) (fun G5 => k24 G5 (a4 + (-1 : Int32))))) else gd (inb a4 41) (st3 G 28 0 a4.toNatClampNeg (9999 : Int32) (fun G7 => k24 G7 (a4 + (-1 : Int32))))) else bd (fX8_isAt G a5 (a2 + a4)) (fun r8 => if r8 = 0 then fX8_splitsOf_40 a2 a4 k24 n G (a5 + (1 : Int32)) else gd (inb a4 41) (bd (fX8_lengthOf G a5) (fun r12 => gd (inb (a4 + r12) 41) (gd (inb a4 41) (st3 G 28 0 a4.toNatClampNeg ((G 28 0 a4.toNatClampNeg) + (G 28 0 (a4 + r12).toNatClampNeg)) (fun G17 => fX8_splitsOf_40 a2 a4 k24 n G17 (a5 + (1 : Int32)))))))))
noncomputable def fX8_splitsOf_24 (a2 : Int32) : Nat → GT → Int32 → Option (Int32 × GT)
  | 0, _, _ => none
  | n + 1, G, a4 => if a4 < 0 then gd (inb (0 : Int32) 41) (some ((G 28 0 (0 : Int32).toNatClampNeg), G)) else gd (inb a4 41) (st3 G 28 0 a4.toNatClampNeg (0 : Int32) (fun G3 => fX8_splitsOf_40 a2 a4 (fX8_splitsOf_24 a2 n) FU G3 (0 : Int32)))
noncomputable def fX8_splitsOf (G : GT) (a1 : Int32) : Option (Int32 × GT) := bd (fX8_firstOf G a1) (fun r1 => bd (fX8_lengthFrom G r1) (fun r4 => gd (inb r4 41) (st3 G 28 0 r4.toNatClampNeg (1 : Int32) (fun G8 => fX8_splitsOf_24 r1 FU G8 (r4 - (1 : Int32))))))
noncomputable def fX8_splits (G : GT) (a1 : Int32) : Option (Int32 × GT) := bd (fX8_isRun G a1) (fun r1 => if r1 = 0 then some ((-1 : Int32), G) else bd2 (fX8_splitsOf G a1) (fun r4 G5 => some (r4, G5)))
noncomputable def fX8_splitsBack (G : GT) (a1 : Int32) : Option (Int32 × GT) := bd (fX8_isRun G a1) (fun r1 => if r1 = 0 then some ((-1 : Int32), G) else bd2 (fX8_splitsOf G a1) (fun r4 G5 => some (r4, G5)))
noncomputable def fX8_unlike_76 (G : GT) (a1 : Int32) (a2 : Int32) (a3 : Int32) (a4 : Int32) (a5 : Int32) (s0 : Int32) (k5 : Int32 → Int32 → Option Int32) : Option Int32 := if a5 = s0 then k5 (a3 + (0 : Int32)) (a4 + (1 : Int32)) else k5 (a3 + (1 : Int32)) (a4 + (1 : Int32))
noncomputable def fX8_unlike_57 (G : GT) (a1 : Int32) (a2 : Int32) (a3 : Int32) (a4 : Int32) (s0 : Int32) (k5 : Int32 → Int32 → Option Int32) : Option Int32 := if (5 : Int32) ≤ a4 then fX8_unlike_76 G a1 a2 a3 a4 s0 (0 : Int32) k5 else bd (fX8_patternAt G a2 a4) (fun r1 => fX8_unlike_76 G a1 a2 a3 a4 s0 r1 k5)
noncomputable def fX8_unlike_32 (G : GT) (a1 : Int32) (a2 : Int32) (a3 : Int32) (a4 : Int32) (k5 : Int32 → Int32 → Option Int32) : Option Int32 := bd (fX8_lengthFrom G a1) (fun r1 => if r1 ≤ a4 then fX8_unlike_57 G a1 a2 a3 a4 (0 : Int32) k5 else gd (inb (((0 : Int32) + a1) + a4) 289) (fX8_unlike_57 G a1 a2 a3 a4 (G 23 0 (((0 : Int32) + a1) + a4).toNatClampNeg) k5))
noncomputable def fX8_unlike_5 (G : GT) (a1 : Int32) (a2 : Int32) : Nat → Int32 → Int32 → Option Int32
  | 0, _, _ => none
  | n + 1, a3, a4 => if a4 < (5 : Int32) then fX8_unlike_32 G a1 a2 a3 a4 (fX8_unlike_5 G a1 a2 n) else bd (fX8_isKnot G (a1 + a4)) (fun r1 => if r1 = 0 then some a3 else bd (fX8_lengthFrom G a1) (fun r4 => if r4 ≤ a4 then some a3 else fX8_unlike_32 G a1 a2 a3 a4 (fX8_unlike_5 G a1 a2 n)))
noncomputable def fX8_unlike (G : GT) (a1 : Int32) (a2 : Int32) : Option Int32 := fX8_unlike_5 G a1 a2 FU (0 : Int32) (0 : Int32)
noncomputable def fX8_nearest_32 (G : GT) (a1 : Int32) (a2 : Int32) : Nat → Int32 → Int32 → Int32 → Option Int32
  | 0, _, _, _ => none
  | n + 1, a3, a4, a5 => gd (inb (80 : Int32) 289) (if (G 23 0 (80 : Int32).toNatClampNeg) ≤ a5 then if a2 = 0 then some a3 else some a4 else bd (fX8_firstOf G a1) (fun r2 => bd (fX8_unlike G r2 a5) (fun r5 => if a3 < 0 then fX8_nearest_32 G a1 a2 n a5 r5 (a5 + (1 : Int32)) else if a4 ≤ r5 then fX8_nearest_32 G a1 a2 n a3 a4 (a5 + (1 : Int32)) else fX8_nearest_32 G a1 a2 n a5 r5 (a5 + (1 : Int32)))))
noncomputable def fX8_nearest (G : GT) (a1 : Int32) (a2 : Int32) : Option Int32 := bd (fX8_isRun G a1) (fun r1 => if r1 = 0 then some (-1 : Int32) else bd (fX8_in a2 (0 : Int32) (1 : Int32)) (fun r4 => if r4 = 0 then some (-2 : Int32) else fX8_nearest_32 G a1 a2 FU (-5 : Int32) (-5 : Int32) (0 : Int32)))
noncomputable def fX8_knowing_4 (G : GT) (a1 : Int32) : Nat → Int32 → Int32 → Option Int32
  | 0, _, _ => none
  | n + 1, a2, a3 => if (6 : Int32) ≤ a3 then some a2 else bd (fX8_knows G a3 a1) (fun r1 => if r1 = 0 then fX8_knowing_4 G a1 n (a2 ||| (0 : Int32)) (a3 + (1 : Int32)) else fX8_knowing_4 G a1 n (a2 ||| ((1 : Int32) <<< (a3 &&& 31))) (a3 + (1 : Int32)))
noncomputable def fX8_knowing (G : GT) (a1 : Int32) : Option Int32 := fX8_knowing_4 G a1 FU (0 : Int32) (0 : Int32)
noncomputable def fX8_word (G : GT) (a1 : Int32) (a2 : Int32) : Option Int32 := bd (fX8_isWord G a1) (fun r1 => if r1 = 0 then some (-1 : Int32) else if a2 = 0 then bd (fX8_lengthOf G a1) (fun r5 => some r5) else if a2 = 1 then gd (inb ((161 : Int32) + a1) 289) (some (G 23 0 ((161 : Int32) + a1).toNatClampNeg)) else if a2 = 2 then bd (fX8_runsOf G a1) (fun r11 => some r11) else if a2 = 3 then bd (fX8_knowing G a1) (fun r15 => some r15) else bd (fX8_in a2 (4 : Int32) (8 : Int32)) (fun r18 => if r18 = 0 then some (-2 : Int32) else bd (fX8_patternAt G a1 (a2 - (4 : Int32))) (fun r21 => some r21)))
noncomputable def fX8_known_4 (G : GT) (a1 : Int32) : Nat → Int32 → Int32 → Option Int32
  | 0, _, _ => none
  | n + 1, a2, a3 => gd (inb (80 : Int32) 289) (if (G 23 0 (80 : Int32).toNatClampNeg) ≤ a3 then some a2 else bd (fX8_knows G a1 a3) (fun r2 => if r2 = 0 then fX8_known_4 G a1 n (a2 ||| (0 : Int32)) (a3 + (1 : Int32)) else fX8_known_4 G a1 n (a2 ||| ((1 : Int32) <<< (a3 &&& 31))) (a3 + (1 : Int32))))
noncomputable def fX8_known (G : GT) (a1 : Int32) : Option Int32 := fX8_known_4 G a1 FU (0 : Int32) (0 : Int32)
noncomputable def fX8_learner (G : GT) (a1 : Int32) (a2 : Int32) : Option Int32 := bd (fX8_isLearner a1) (fun r1 => if r1 = 0 then some (-1 : Int32) else if a2 = 0 then bd (fX8_known G a1) (fun r5 => some r5) else if a2 = 1 then bd (fX8_answerOf G a1) (fun r9 => some r9) else if a2 = 2 then gd (inb ((273 : Int32) + a1) 289) (some (G 23 0 ((273 : Int32) + a1).toNatClampNeg)) else if a2 = 3 then gd (inb ((279 : Int32) + a1) 289) (some (G 23 0 ((279 : Int32) + a1).toNatClampNeg)) else some (-2 : Int32))
noncomputable def fX8_heard (G : GT) (a1 : Int32) (a2 : Int32) : Option Int32 := bd (fX8_isLearner a1) (fun r1 => if r1 = 0 then some (-1 : Int32) else bd (fX8_isWord G a2) (fun r4 => if r4 = 0 then some (-1 : Int32) else bd (fX8_heardOf G a1 a2) (fun r7 => some r7)))
noncomputable def fX8_reason_28 (G : GT) (a1 : Int32) : Nat → Int32 → Int32 → Option Int32
  | 0, _, _ => none
  | n + 1, a2, a3 => if a3 < 0 then some a2 else bd (fX8_wordOf G a3) (fun r1 => if r1 < 0 then fX8_reason_28 G a1 n a2 (a3 + (-1 : Int32)) else bd (fX8_knows G a1 r1) (fun r4 => if r4 = 0 then fX8_reason_28 G a1 n ((100 : Int32) + a3) (a3 + (-1 : Int32)) else fX8_reason_28 G a1 n a2 (a3 + (-1 : Int32))))
noncomputable def fX8_reason (G : GT) (a1 : Int32) : Option Int32 := bd (fX8_isLearner a1) (fun r1 => if r1 = 0 then some (-1 : Int32) else bd (fX8_wordRuns G) (fun r4 => if r4 = 0 then some (-5 : Int32) else bd (fX8_runs G) (fun r7 => fX8_reason_28 G a1 FU (0 : Int32) (r7 - (1 : Int32)))))
noncomputable def fX8_ifPulled (G : GT) (a1 : Int32) (a2 : Int32) : Option (Int32 × GT) := bd (fX8_in a1 (1 : Int32) (9 : Int32)) (fun r1 => if r1 = 0 then some ((-2 : Int32), G) else bd (fX8_in a2 (0 : Int32) (3 : Int32)) (fun r4 => if r4 = 0 then some ((-2 : Int32), G) else bd (fX8_putAside G) (fun G8 => bd2 (fX8_doPull G8 a1) (fun r10 G11 => if a2 = 0 then bd (fX8_putBack G11) (fun G32 => some (r10, G32)) else if a2 = (1 : Int32) then bd (fX8_runs G11) (fun r25 => bd (fX8_putBack G11) (fun G29 => some (r25, G29))) else if a2 = (2 : Int32) then bd (fX8_wordRuns G11) (fun r19 => bd (fX8_putBack G11) (fun G23 => some (r19, G23))) else bd (fX8_rightAnswer G11) (fun r13 => bd (fX8_putBack G11) (fun G17 => some (r13, G17)))))))
noncomputable def fX8_wordAt_8 (G : GT) (a1 : Int32) : Nat → Int32 → Int32 → Int32 → Option Int32
  | 0, _, _, _ => none
  | n + 1, a2, a3, a4 => if (40 : Int32) ≤ a4 then some a3 else bd (fX8_begins G a4) (fun r1 => if r1 = 0 then fX8_wordAt_8 G a1 n a2 a3 (a4 + (1 : Int32)) else bd (fX8_wordFrom G a4) (fun r4 => if r4 < 0 then fX8_wordAt_8 G a1 n a2 a3 (a4 + (1 : Int32)) else if a2 = a1 then bd (fX8_wordFrom G a4) (fun r7 => fX8_wordAt_8 G a1 n (a2 + (1 : Int32)) r7 (a4 + (1 : Int32))) else fX8_wordAt_8 G a1 n (a2 + (1 : Int32)) a3 (a4 + (1 : Int32))))
noncomputable def fX8_wordAt (G : GT) (a1 : Int32) : Option Int32 := fX8_wordAt_8 G a1 FU (0 : Int32) (-5 : Int32) (0 : Int32)
noncomputable def fX8_isSafe_4 (a1 : Int32) : Nat → GT → Int32 → Int32 → Option (Int32 × GT)
  | 0, _, _, _ => none
  | n + 1, G, a2, a3 => if (20 : Int32) < a3 then gd (isB a2) (some (a2, G)) else bd (fX8_wordAt G a3) (fun r2 => bd (fX8_putAside G) (fun G6 => bd2 (fX8_doPull G6 a1) (fun r8 G9 => if a2 = 0 then bd (fX8_putBack G9) (fun G12 => fX8_isSafe_4 a1 n G12 (0 : Int32) (a3 + (1 : Int32))) else bd (fX8_wordAt G9 a3) (fun r14 => if r14 = r2 then bd (fX8_putBack G9) (fun G21 => fX8_isSafe_4 a1 n G21 (1 : Int32) (a3 + (1 : Int32))) else bd (fX8_putBack G9) (fun G18 => fX8_isSafe_4 a1 n G18 (0 : Int32) (a3 + (1 : Int32)))))))
noncomputable def fX8_isSafe (G : GT) (a1 : Int32) : Option (Int32 × GT) := fX8_isSafe_4 a1 FU G (1 : Int32) (0 : Int32)
noncomputable def fX8_safePull_4  : Nat → GT → Int32 → Int32 → Option (Int32 × GT)
  | 0, _, _, _ => none
  | n + 1, G, a1, a2 => if (9 : Int32) < a2 then some (a1, G) else bd2 (fX8_isSafe G a2) (fun r1 G2 => if r1 = 0 then fX8_safePull_4 n G2 a1 (a2 + (1 : Int32)) else fX8_safePull_4 n G2 a2 (a2 + (1 : Int32)))
noncomputable def fX8_safePull (G : GT) : Option (Int32 × GT) := fX8_safePull_4 FU G (1 : Int32) (2 : Int32)
noncomputable def fX8_allRightIn_80 (G : GT) (a1 : Int32) (a2 : Int32) (a3 : Int32) (a4 : Int32) (s0 : Int32) (k14 : Int32 → Int32 → Option Int32) (k34 : Int32 → Int32 → Option Int32) : Option Int32 := if s0 ≤ a1 then k34 a1 (a4 + (1 : Int32)) else k34 s0 (a4 + (1 : Int32))
noncomputable def fX8_allRightIn_34 (G : GT) (a2 : Int32) (a3 : Int32) (k14 : Int32 → Int32 → Option Int32) : Nat → Int32 → Int32 → Option Int32
  | 0, _, _ => none
  | n + 1, a1, a4 => if (6 : Int32) ≤ a4 then k14 a1 (a2 + (1 : Int32)) else if a3 ≤ 0 then k14 a1 (a2 + (1 : Int32)) else gd (inb (285 : Int32) 289) (bd (fX8_heardOf G a4 a2) (fun r2 => if ((G 23 0 (285 : Int32).toNatClampNeg) - r2) ≤ 0 then fX8_allRightIn_80 G a1 a2 a3 a4 (0 : Int32) k14 (fX8_allRightIn_34 G a2 a3 k14 n) else gd (nz a3) (fX8_allRightIn_80 G a1 a2 a3 a4 (((((G 23 0 (285 : Int32).toNatClampNeg) - r2) + a3) - (1 : Int32)) / a3) k14 (fX8_allRightIn_34 G a2 a3 k14 n))))
noncomputable def fX8_allRightIn_14 (G : GT) : Nat → Int32 → Int32 → Option Int32
  | 0, _, _ => none
  | n + 1, a1, a2 => gd (inb (80 : Int32) 289) (if (G 23 0 (80 : Int32).toNatClampNeg) ≤ a2 then some a1 else bd (fX8_runsOf G a2) (fun r2 => fX8_allRightIn_34 G a2 r2 (fX8_allRightIn_14 G n) FU a1 (0 : Int32)))
noncomputable def fX8_allRightIn (G : GT) : Option Int32 := bd (fX8_wordRuns G) (fun r1 => if r1 = 0 then some (-5 : Int32) else fX8_allRightIn_14 G FU (0 : Int32) (0 : Int32))
noncomputable def fX8_answers_4 (G : GT) (a1 : Int32) : Nat → Int32 → Int32 → Option Int32
  | 0, _, _ => none
  | n + 1, a2, a3 => if (6 : Int32) ≤ a3 then some a2 else gd (inb (a1 + a3) 289) (fX8_answers_4 G a1 n (a2 + (G 23 0 (a1 + a3).toNatClampNeg)) (a3 + (1 : Int32)))
noncomputable def fX8_answers (G : GT) (a1 : Int32) : Option Int32 := fX8_answers_4 G a1 FU (0 : Int32) (0 : Int32)
noncomputable def fX8_count (G : GT) (a1 : Int32) : Option Int32 := if a1 = 0 then bd (fX8_knots G) (fun r2 => some r2) else if a1 = 1 then bd (fX8_runs G) (fun r6 => some r6) else if a1 = 2 then bd (fX8_wordRuns G) (fun r10 => some r10) else if a1 = 3 then bd (fX8_rightAnswer G) (fun r14 => some r14) else if a1 = 4 then gd (inb (80 : Int32) 289) (some (G 23 0 (80 : Int32).toNatClampNeg)) else if a1 = 5 then gd (inb (((286 : Int32) + a1) - (5 : Int32)) 289) (some (G 23 0 (((286 : Int32) + a1) - (5 : Int32)).toNatClampNeg)) else if a1 = 6 then gd (inb (((286 : Int32) + a1) - (5 : Int32)) 289) (some (G 23 0 (((286 : Int32) + a1) - (5 : Int32)).toNatClampNeg)) else if a1 = 7 then gd (inb (((286 : Int32) + a1) - (5 : Int32)) 289) (some (G 23 0 (((286 : Int32) + a1) - (5 : Int32)).toNatClampNeg)) else if a1 = 8 then bd (fX8_answers G (273 : Int32)) (fun r26 => some r26) else if a1 = 9 then bd (fX8_answers G (279 : Int32)) (fun r30 => some r30) else if a1 = 10 then gd (inb (285 : Int32) 289) (some (G 23 0 (285 : Int32).toNatClampNeg)) else if a1 = 11 then some (G 22 0 3) else if a1 = 12 then some (G 22 0 7) else some (-2 : Int32)
