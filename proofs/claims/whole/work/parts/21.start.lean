def bs (i : Nat) : Nat := [1, 13, 27, 39, 51, 63].getD i 0
def ix (k i : Nat) : Nat := match k with
  | 0 => if i = 6 then 81 else bs i + 1
  | 1 => if i = 6 then 82 else bs i + 2
  | 2 => if i = 6 then 83 else bs i + 3
  | 3 => bs i + 4
  | 4 => bs i + 5
  | 5 => bs i + 6
  | 6 => bs i + 7
  | 7 => bs i + 8
  | 8 => bs i + 9
  | 9 => bs i + 10
  | 10 => bs i + 11
  | 11 => bs i
  | 12 => 25
  | 13 => 26
  | 14 => 75
  | 15 => 76
  | 16 => [77, 84].getD i 0
  | 17 => [78, 85].getD i 0
  | 18 => [79, 86].getD i 0
  | 19 => [80, 87].getD i 0
  | 20 => 0
  | 21 => 88
  | n => n + 67
def ixi (j : Nat) : Nat × Nat := [(20, 0), (11, 0), (0, 0), (1, 0), (2, 0), (3, 0), (4, 0), (5, 0), (6, 0), (7, 0), (8, 0), (9, 0), (10, 0), (11, 1), (0, 1), (1, 1), (2, 1), (3, 1), (4, 1), (5, 1), (6, 1), (7, 1), (8, 1), (9, 1), (10, 1), (12, 0), (13, 0), (11, 2), (0, 2), (1, 2), (2, 2), (3, 2), (4, 2), (5, 2), (6, 2), (7, 2), (8, 2), (9, 2), (10, 2), (11, 3), (0, 3), (1, 3), (2, 3), (3, 3), (4, 3), (5, 3), (6, 3), (7, 3), (8, 3), (9, 3), (10, 3), (11, 4), (0, 4), (1, 4), (2, 4), (3, 4), (4, 4), (5, 4), (6, 4), (7, 4), (8, 4), (9, 4), (10, 4), (11, 5), (0, 5), (1, 5), (2, 5), (3, 5), (4, 5), (5, 5), (6, 5), (7, 5), (8, 5), (9, 5), (10, 5), (14, 0), (15, 0), (16, 0), (17, 0), (18, 0), (19, 0), (0, 6), (1, 6), (2, 6), (16, 1), (17, 1), (18, 1), (19, 1), (21, 0), (22, 0), (23, 0), (24, 0), (25, 0), (26, 0), (27, 0), (28, 0)].getD j (0, 0)
theorem ix_ok : ∀ k, k < 29 → ∀ i, i < cnt k → ix k i < 96 ∧ ixi (ix k i) = (k, i) := by decide +kernel
theorem cnt_lt {k i : Nat} (h : i < cnt k) : k < 29 := by
  rcases Nat.lt_or_ge k 29 with q | q
  · exact q
  · obtain ⟨n, rfl⟩ : ∃ n, k = n + 29 := ⟨k - 29, by omega⟩
    exact absurd h (Nat.not_lt_zero _)
def adr (a b : Nat → Nat) (j : Nat) : Nat := if j < 89 then a j else b (j - 89)
abbrev EE (D : va_G) (cI cC cS : ClassId) (a b : Nat → Nat) : ET := (D, fun k i => adr a b (ix k i), cI, cC, cS)
def G0 : GT := fun k _ j => match k with
  | 7 => if j = 0 then 2 else 0
  | 23 => if j = 285 then 2 else 0
  | _ => 0
theorem arrV_congr {cA : ClassId} {N : Nat} {f g : Nat → Value} (h : ∀ j, j < N → f j = g j) : arrV cA N f = arrV cA N g := by
  have e : (fun j : Fin N => f j.val) = fun j => g j.val := funext fun j => h j.val j.isLt
  unfold arrV
  rw [e]
set_option maxHeartbeats 4000000 in
set_option maxRecDepth 100000 in
theorem ws_fst (E : ET) (a b : Nat → Nat) : (wKnots E a ++ wModel E b).map Prod.fst = (List.range 96).map (adr a b) := by rfl
theorem ws_at (E : ET) (a b : Nat → Nat) {j : Nat} (hj : j < 96) : ∃ e, (wKnots E a ++ wModel E b)[j]? = some (adr a b j, e) := by
  have h : ((wKnots E a ++ wModel E b).map Prod.fst)[j]? = some (adr a b j) := by rw [ws_fst]; simp [hj]
  rw [List.getElem?_map] at h
  cases hq : (wKnots E a ++ wModel E b)[j]? with
  | none => rw [hq] at h; cases h
  | some q =>
    rw [hq] at h
    obtain ⟨x, y⟩ := q
    cases h
    exact ⟨y, rfl⟩
set_option maxHeartbeats 4000000 in
set_option maxRecDepth 100000 in
theorem hd_0 (D : va_G) (cI cC cS : ClassId) (a b : Nat → Nat) (H : Heap) (hP : va_P D cls (wKnots (EE D cI cC cS a b) a ++ wModel (EE D cI cC cS a b) b) H) (i : Nat) (hi : i < 7) : va_at D cls (Ad (EE D cI cC cS a b) 0 i, cnf (EE D cI cC cS a b) 0 i (G0 0 i)) H := by
  rcases (show i = 0 ∨ i = 1 ∨ i = 2 ∨ i = 3 ∨ i = 4 ∨ i = 5 ∨ i = 6 by omega) with rfl | rfl | rfl | rfl | rfl | rfl | rfl
  · exact hP 2 _ rfl
  · exact hP 14 _ rfl
  · exact hP 28 _ rfl
  · exact hP 40 _ rfl
  · exact hP 52 _ rfl
  · exact hP 64 _ rfl
  · exact hP 81 _ rfl
set_option maxHeartbeats 4000000 in
set_option maxRecDepth 100000 in
theorem hd_1 (D : va_G) (cI cC cS : ClassId) (a b : Nat → Nat) (H : Heap) (hP : va_P D cls (wKnots (EE D cI cC cS a b) a ++ wModel (EE D cI cC cS a b) b) H) (i : Nat) (hi : i < 7) : va_at D cls (Ad (EE D cI cC cS a b) 1 i, cnf (EE D cI cC cS a b) 1 i (G0 1 i)) H := by
  rcases (show i = 0 ∨ i = 1 ∨ i = 2 ∨ i = 3 ∨ i = 4 ∨ i = 5 ∨ i = 6 by omega) with rfl | rfl | rfl | rfl | rfl | rfl | rfl
  · exact hP 3 _ rfl
  · exact hP 15 _ rfl
  · exact hP 29 _ rfl
  · exact hP 41 _ rfl
  · exact hP 53 _ rfl
  · exact hP 65 _ rfl
  · exact hP 82 _ rfl
set_option maxHeartbeats 4000000 in
set_option maxRecDepth 100000 in
theorem hd_2 (D : va_G) (cI cC cS : ClassId) (a b : Nat → Nat) (H : Heap) (hP : va_P D cls (wKnots (EE D cI cC cS a b) a ++ wModel (EE D cI cC cS a b) b) H) (i : Nat) (hi : i < 7) : va_at D cls (Ad (EE D cI cC cS a b) 2 i, cnf (EE D cI cC cS a b) 2 i (G0 2 i)) H := by
  rcases (show i = 0 ∨ i = 1 ∨ i = 2 ∨ i = 3 ∨ i = 4 ∨ i = 5 ∨ i = 6 by omega) with rfl | rfl | rfl | rfl | rfl | rfl | rfl
  · exact hP 4 _ rfl
  · exact hP 16 _ rfl
  · exact hP 30 _ rfl
  · exact hP 42 _ rfl
  · exact hP 54 _ rfl
  · exact hP 66 _ rfl
  · exact hP 83 _ rfl
set_option maxHeartbeats 4000000 in
set_option maxRecDepth 100000 in
theorem hd_3 (D : va_G) (cI cC cS : ClassId) (a b : Nat → Nat) (H : Heap) (hP : va_P D cls (wKnots (EE D cI cC cS a b) a ++ wModel (EE D cI cC cS a b) b) H) (i : Nat) (hi : i < 6) : va_at D cls (Ad (EE D cI cC cS a b) 3 i, cnf (EE D cI cC cS a b) 3 i (G0 3 i)) H := by
  rcases (show i = 0 ∨ i = 1 ∨ i = 2 ∨ i = 3 ∨ i = 4 ∨ i = 5 by omega) with rfl | rfl | rfl | rfl | rfl | rfl
  · exact hP 5 _ rfl
  · exact hP 17 _ rfl
  · exact hP 31 _ rfl
  · exact hP 43 _ rfl
  · exact hP 55 _ rfl
  · exact hP 67 _ rfl
set_option maxHeartbeats 4000000 in
set_option maxRecDepth 100000 in
theorem hd_4 (D : va_G) (cI cC cS : ClassId) (a b : Nat → Nat) (H : Heap) (hP : va_P D cls (wKnots (EE D cI cC cS a b) a ++ wModel (EE D cI cC cS a b) b) H) (i : Nat) (hi : i < 6) : va_at D cls (Ad (EE D cI cC cS a b) 4 i, cnf (EE D cI cC cS a b) 4 i (G0 4 i)) H := by
  rcases (show i = 0 ∨ i = 1 ∨ i = 2 ∨ i = 3 ∨ i = 4 ∨ i = 5 by omega) with rfl | rfl | rfl | rfl | rfl | rfl
  · exact hP 6 _ rfl
  · exact hP 18 _ rfl
  · exact hP 32 _ rfl
  · exact hP 44 _ rfl
  · exact hP 56 _ rfl
  · exact hP 68 _ rfl
set_option maxHeartbeats 4000000 in
set_option maxRecDepth 100000 in
theorem hd_5 (D : va_G) (cI cC cS : ClassId) (a b : Nat → Nat) (H : Heap) (hP : va_P D cls (wKnots (EE D cI cC cS a b) a ++ wModel (EE D cI cC cS a b) b) H) (i : Nat) (hi : i < 6) : va_at D cls (Ad (EE D cI cC cS a b) 5 i, cnf (EE D cI cC cS a b) 5 i (G0 5 i)) H := by
  rcases (show i = 0 ∨ i = 1 ∨ i = 2 ∨ i = 3 ∨ i = 4 ∨ i = 5 by omega) with rfl | rfl | rfl | rfl | rfl | rfl
  · exact hP 7 _ rfl
  · exact hP 19 _ rfl
  · exact hP 33 _ rfl
  · exact hP 45 _ rfl
  · exact hP 57 _ rfl
  · exact hP 69 _ rfl
set_option maxHeartbeats 4000000 in
set_option maxRecDepth 100000 in
theorem hd_6 (D : va_G) (cI cC cS : ClassId) (a b : Nat → Nat) (H : Heap) (hP : va_P D cls (wKnots (EE D cI cC cS a b) a ++ wModel (EE D cI cC cS a b) b) H) (i : Nat) (hi : i < 6) : va_at D cls (Ad (EE D cI cC cS a b) 6 i, cnf (EE D cI cC cS a b) 6 i (G0 6 i)) H := by
  rcases (show i = 0 ∨ i = 1 ∨ i = 2 ∨ i = 3 ∨ i = 4 ∨ i = 5 by omega) with rfl | rfl | rfl | rfl | rfl | rfl
  · exact hP 8 _ rfl
  · exact hP 20 _ rfl
  · exact hP 34 _ rfl
  · exact hP 46 _ rfl
  · exact hP 58 _ rfl
  · exact hP 70 _ rfl
set_option maxHeartbeats 4000000 in
set_option maxRecDepth 100000 in
theorem hd_7 (D : va_G) (cI cC cS : ClassId) (a b : Nat → Nat) (H : Heap) (hP : va_P D cls (wKnots (EE D cI cC cS a b) a ++ wModel (EE D cI cC cS a b) b) H) (i : Nat) (hi : i < 6) : va_at D cls (Ad (EE D cI cC cS a b) 7 i, cnf (EE D cI cC cS a b) 7 i (G0 7 i)) H := by
  rcases (show i = 0 ∨ i = 1 ∨ i = 2 ∨ i = 3 ∨ i = 4 ∨ i = 5 by omega) with rfl | rfl | rfl | rfl | rfl | rfl
  · exact hP 9 _ rfl
  · exact hP 21 _ rfl
  · exact hP 35 _ rfl
  · exact hP 47 _ rfl
  · exact hP 59 _ rfl
  · exact hP 71 _ rfl
set_option maxHeartbeats 4000000 in
set_option maxRecDepth 100000 in
theorem hd_8 (D : va_G) (cI cC cS : ClassId) (a b : Nat → Nat) (H : Heap) (hP : va_P D cls (wKnots (EE D cI cC cS a b) a ++ wModel (EE D cI cC cS a b) b) H) (i : Nat) (hi : i < 6) : va_at D cls (Ad (EE D cI cC cS a b) 8 i, cnf (EE D cI cC cS a b) 8 i (G0 8 i)) H := by
  rcases (show i = 0 ∨ i = 1 ∨ i = 2 ∨ i = 3 ∨ i = 4 ∨ i = 5 by omega) with rfl | rfl | rfl | rfl | rfl | rfl
  · exact hP 10 _ rfl
  · exact hP 22 _ rfl
  · exact hP 36 _ rfl
  · exact hP 48 _ rfl
  · exact hP 60 _ rfl
  · exact hP 72 _ rfl
set_option maxHeartbeats 4000000 in
set_option maxRecDepth 100000 in
theorem hd_9 (D : va_G) (cI cC cS : ClassId) (a b : Nat → Nat) (H : Heap) (hP : va_P D cls (wKnots (EE D cI cC cS a b) a ++ wModel (EE D cI cC cS a b) b) H) (i : Nat) (hi : i < 6) : va_at D cls (Ad (EE D cI cC cS a b) 9 i, cnf (EE D cI cC cS a b) 9 i (G0 9 i)) H := by
  rcases (show i = 0 ∨ i = 1 ∨ i = 2 ∨ i = 3 ∨ i = 4 ∨ i = 5 by omega) with rfl | rfl | rfl | rfl | rfl | rfl
  · exact hP 11 _ rfl
  · exact hP 23 _ rfl
  · exact hP 37 _ rfl
  · exact hP 49 _ rfl
  · exact hP 61 _ rfl
  · exact hP 73 _ rfl
set_option maxHeartbeats 4000000 in
set_option maxRecDepth 100000 in
theorem hd_10 (D : va_G) (cI cC cS : ClassId) (a b : Nat → Nat) (H : Heap) (hP : va_P D cls (wKnots (EE D cI cC cS a b) a ++ wModel (EE D cI cC cS a b) b) H) (i : Nat) (hi : i < 6) : va_at D cls (Ad (EE D cI cC cS a b) 10 i, cnf (EE D cI cC cS a b) 10 i (G0 10 i)) H := by
  rcases (show i = 0 ∨ i = 1 ∨ i = 2 ∨ i = 3 ∨ i = 4 ∨ i = 5 by omega) with rfl | rfl | rfl | rfl | rfl | rfl
  · exact hP 12 _ rfl
  · exact hP 24 _ rfl
  · exact hP 38 _ rfl
  · exact hP 50 _ rfl
  · exact hP 62 _ rfl
  · exact hP 74 _ rfl
set_option maxHeartbeats 4000000 in
set_option maxRecDepth 100000 in
theorem hd_11 (D : va_G) (cI cC cS : ClassId) (a b : Nat → Nat) (H : Heap) (hP : va_P D cls (wKnots (EE D cI cC cS a b) a ++ wModel (EE D cI cC cS a b) b) H) (i : Nat) (hi : i < 6) : va_at D cls (Ad (EE D cI cC cS a b) 11 i, cnf (EE D cI cC cS a b) 11 i (G0 11 i)) H := by
  rcases (show i = 0 ∨ i = 1 ∨ i = 2 ∨ i = 3 ∨ i = 4 ∨ i = 5 by omega) with rfl | rfl | rfl | rfl | rfl | rfl
  · exact hP 1 _ rfl
  · exact hP 13 _ rfl
  · exact hP 27 _ rfl
  · exact hP 39 _ rfl
  · exact hP 51 _ rfl
  · exact hP 63 _ rfl
set_option maxHeartbeats 4000000 in
set_option maxRecDepth 100000 in
theorem hd_12 (D : va_G) (cI cC cS : ClassId) (a b : Nat → Nat) (H : Heap) (hP : va_P D cls (wKnots (EE D cI cC cS a b) a ++ wModel (EE D cI cC cS a b) b) H) (i : Nat) (hi : i < 1) : va_at D cls (Ad (EE D cI cC cS a b) 12 i, cnf (EE D cI cC cS a b) 12 i (G0 12 i)) H := by
  obtain rfl : i = 0 := by omega
  exact hP 25 _ rfl
set_option maxHeartbeats 4000000 in
set_option maxRecDepth 100000 in
theorem hd_13 (D : va_G) (cI cC cS : ClassId) (a b : Nat → Nat) (H : Heap) (hP : va_P D cls (wKnots (EE D cI cC cS a b) a ++ wModel (EE D cI cC cS a b) b) H) (i : Nat) (hi : i < 1) : va_at D cls (Ad (EE D cI cC cS a b) 13 i, cnf (EE D cI cC cS a b) 13 i (G0 13 i)) H := by
  obtain rfl : i = 0 := by omega
  have h := hP 26 (_, _) rfl
  show H[_]? = some (vp_cell cS (4, .inr (.inr (.inr (.inr _)))))
  refine (show H[_]? = some (vp_cell cS (4, .inr (.inr (.inr (.inr _))))) from h).trans (congrArg some ?_)
  rw [vp_cell_q, vp_cell_q]
  refine arrV_congr (fun j hj => ?_)
  rcases (show j = 0 ∨ j = 1 ∨ j = 2 ∨ j = 3 by omega) with rfl | rfl | rfl | rfl <;> rfl
set_option maxHeartbeats 4000000 in
set_option maxRecDepth 100000 in
theorem hd_14 (D : va_G) (cI cC cS : ClassId) (a b : Nat → Nat) (H : Heap) (hP : va_P D cls (wKnots (EE D cI cC cS a b) a ++ wModel (EE D cI cC cS a b) b) H) (i : Nat) (hi : i < 1) : va_at D cls (Ad (EE D cI cC cS a b) 14 i, cnf (EE D cI cC cS a b) 14 i (G0 14 i)) H := by
  obtain rfl : i = 0 := by omega
  exact hP 75 _ rfl
set_option maxHeartbeats 4000000 in
set_option maxRecDepth 100000 in
theorem hd_15 (D : va_G) (cI cC cS : ClassId) (a b : Nat → Nat) (H : Heap) (hP : va_P D cls (wKnots (EE D cI cC cS a b) a ++ wModel (EE D cI cC cS a b) b) H) (i : Nat) (hi : i < 1) : va_at D cls (Ad (EE D cI cC cS a b) 15 i, cnf (EE D cI cC cS a b) 15 i (G0 15 i)) H := by
  obtain rfl : i = 0 := by omega
  exact hP 76 _ rfl
set_option maxHeartbeats 4000000 in
set_option maxRecDepth 100000 in
theorem hd_16 (D : va_G) (cI cC cS : ClassId) (a b : Nat → Nat) (H : Heap) (hP : va_P D cls (wKnots (EE D cI cC cS a b) a ++ wModel (EE D cI cC cS a b) b) H) (i : Nat) (hi : i < 2) : va_at D cls (Ad (EE D cI cC cS a b) 16 i, cnf (EE D cI cC cS a b) 16 i (G0 16 i)) H := by
  rcases (show i = 0 ∨ i = 1 by omega) with rfl | rfl
  · exact hP 77 _ rfl
  · exact hP 84 _ rfl
set_option maxHeartbeats 4000000 in
set_option maxRecDepth 100000 in
theorem hd_17 (D : va_G) (cI cC cS : ClassId) (a b : Nat → Nat) (H : Heap) (hP : va_P D cls (wKnots (EE D cI cC cS a b) a ++ wModel (EE D cI cC cS a b) b) H) (i : Nat) (hi : i < 2) : va_at D cls (Ad (EE D cI cC cS a b) 17 i, cnf (EE D cI cC cS a b) 17 i (G0 17 i)) H := by
  rcases (show i = 0 ∨ i = 1 by omega) with rfl | rfl
  · exact hP 78 _ rfl
  · exact hP 85 _ rfl
set_option maxHeartbeats 4000000 in
set_option maxRecDepth 100000 in
theorem hd_18 (D : va_G) (cI cC cS : ClassId) (a b : Nat → Nat) (H : Heap) (hP : va_P D cls (wKnots (EE D cI cC cS a b) a ++ wModel (EE D cI cC cS a b) b) H) (i : Nat) (hi : i < 2) : va_at D cls (Ad (EE D cI cC cS a b) 18 i, cnf (EE D cI cC cS a b) 18 i (G0 18 i)) H := by
  rcases (show i = 0 ∨ i = 1 by omega) with rfl | rfl
  · exact hP 79 _ rfl
  · exact hP 86 _ rfl
set_option maxHeartbeats 4000000 in
set_option maxRecDepth 100000 in
theorem hd_19 (D : va_G) (cI cC cS : ClassId) (a b : Nat → Nat) (H : Heap) (hP : va_P D cls (wKnots (EE D cI cC cS a b) a ++ wModel (EE D cI cC cS a b) b) H) (i : Nat) (hi : i < 2) : va_at D cls (Ad (EE D cI cC cS a b) 19 i, cnf (EE D cI cC cS a b) 19 i (G0 19 i)) H := by
  rcases (show i = 0 ∨ i = 1 by omega) with rfl | rfl
  · exact hP 80 _ rfl
  · exact hP 87 _ rfl
set_option maxHeartbeats 4000000 in
set_option maxRecDepth 100000 in
theorem hd_20 (D : va_G) (cI cC cS : ClassId) (a b : Nat → Nat) (H : Heap) (hP : va_P D cls (wKnots (EE D cI cC cS a b) a ++ wModel (EE D cI cC cS a b) b) H) (i : Nat) (hi : i < 1) : va_at D cls (Ad (EE D cI cC cS a b) 20 i, cnf (EE D cI cC cS a b) 20 i (G0 20 i)) H := by
  obtain rfl : i = 0 := by omega
  exact hP 0 _ rfl
set_option maxHeartbeats 4000000 in
set_option maxRecDepth 100000 in
theorem hd_21 (D : va_G) (cI cC cS : ClassId) (a b : Nat → Nat) (H : Heap) (hP : va_P D cls (wKnots (EE D cI cC cS a b) a ++ wModel (EE D cI cC cS a b) b) H) (i : Nat) (hi : i < 1) : va_at D cls (Ad (EE D cI cC cS a b) 21 i, cnf (EE D cI cC cS a b) 21 i (G0 21 i)) H := by
  obtain rfl : i = 0 := by omega
  exact hP 88 _ rfl
set_option maxHeartbeats 4000000 in
set_option maxRecDepth 100000 in
theorem hd_22 (D : va_G) (cI cC cS : ClassId) (a b : Nat → Nat) (H : Heap) (hP : va_P D cls (wKnots (EE D cI cC cS a b) a ++ wModel (EE D cI cC cS a b) b) H) (i : Nat) (hi : i < 1) : va_at D cls (Ad (EE D cI cC cS a b) 22 i, cnf (EE D cI cC cS a b) 22 i (G0 22 i)) H := by
  obtain rfl : i = 0 := by omega
  exact hP 89 _ rfl
set_option maxHeartbeats 4000000 in
set_option maxRecDepth 100000 in
theorem hd_23 (D : va_G) (cI cC cS : ClassId) (a b : Nat → Nat) (H : Heap) (hP : va_P D cls (wKnots (EE D cI cC cS a b) a ++ wModel (EE D cI cC cS a b) b) H) (i : Nat) (hi : i < 1) : va_at D cls (Ad (EE D cI cC cS a b) 23 i, cnf (EE D cI cC cS a b) 23 i (G0 23 i)) H := by
  obtain rfl : i = 0 := by omega
  exact hP 90 _ rfl
set_option maxHeartbeats 4000000 in
set_option maxRecDepth 100000 in
theorem hd_24 (D : va_G) (cI cC cS : ClassId) (a b : Nat → Nat) (H : Heap) (hP : va_P D cls (wKnots (EE D cI cC cS a b) a ++ wModel (EE D cI cC cS a b) b) H) (i : Nat) (hi : i < 1) : va_at D cls (Ad (EE D cI cC cS a b) 24 i, cnf (EE D cI cC cS a b) 24 i (G0 24 i)) H := by
  obtain rfl : i = 0 := by omega
  exact hP 91 _ rfl
set_option maxHeartbeats 4000000 in
set_option maxRecDepth 100000 in
theorem hd_25 (D : va_G) (cI cC cS : ClassId) (a b : Nat → Nat) (H : Heap) (hP : va_P D cls (wKnots (EE D cI cC cS a b) a ++ wModel (EE D cI cC cS a b) b) H) (i : Nat) (hi : i < 1) : va_at D cls (Ad (EE D cI cC cS a b) 25 i, cnf (EE D cI cC cS a b) 25 i (G0 25 i)) H := by
  obtain rfl : i = 0 := by omega
  exact hP 92 _ rfl
set_option maxHeartbeats 4000000 in
set_option maxRecDepth 100000 in
theorem hd_26 (D : va_G) (cI cC cS : ClassId) (a b : Nat → Nat) (H : Heap) (hP : va_P D cls (wKnots (EE D cI cC cS a b) a ++ wModel (EE D cI cC cS a b) b) H) (i : Nat) (hi : i < 1) : va_at D cls (Ad (EE D cI cC cS a b) 26 i, cnf (EE D cI cC cS a b) 26 i (G0 26 i)) H := by
  obtain rfl : i = 0 := by omega
  exact hP 93 _ rfl
set_option maxHeartbeats 4000000 in
set_option maxRecDepth 100000 in
theorem hd_27 (D : va_G) (cI cC cS : ClassId) (a b : Nat → Nat) (H : Heap) (hP : va_P D cls (wKnots (EE D cI cC cS a b) a ++ wModel (EE D cI cC cS a b) b) H) (i : Nat) (hi : i < 1) : va_at D cls (Ad (EE D cI cC cS a b) 27 i, cnf (EE D cI cC cS a b) 27 i (G0 27 i)) H := by
  obtain rfl : i = 0 := by omega
  exact hP 94 _ rfl
set_option maxHeartbeats 4000000 in
set_option maxRecDepth 100000 in
theorem hd_28 (D : va_G) (cI cC cS : ClassId) (a b : Nat → Nat) (H : Heap) (hP : va_P D cls (wKnots (EE D cI cC cS a b) a ++ wModel (EE D cI cC cS a b) b) H) (i : Nat) (hi : i < 1) : va_at D cls (Ad (EE D cI cC cS a b) 28 i, cnf (EE D cI cC cS a b) 28 i (G0 28 i)) H := by
  obtain rfl : i = 0 := by omega
  exact hP 95 _ rfl
theorem hd_of (D : va_G) (cI cC cS : ClassId) (a b : Nat → Nat) (H : Heap) (hP : va_P D cls (wKnots (EE D cI cC cS a b) a ++ wModel (EE D cI cC cS a b) b) H) : Hd (EE D cI cC cS a b) G0 H := by
  intro k i hi
  match k, hi with
  | 0, hi => exact hd_0 D cI cC cS a b H hP i hi
  | 1, hi => exact hd_1 D cI cC cS a b H hP i hi
  | 2, hi => exact hd_2 D cI cC cS a b H hP i hi
  | 3, hi => exact hd_3 D cI cC cS a b H hP i hi
  | 4, hi => exact hd_4 D cI cC cS a b H hP i hi
  | 5, hi => exact hd_5 D cI cC cS a b H hP i hi
  | 6, hi => exact hd_6 D cI cC cS a b H hP i hi
  | 7, hi => exact hd_7 D cI cC cS a b H hP i hi
  | 8, hi => exact hd_8 D cI cC cS a b H hP i hi
  | 9, hi => exact hd_9 D cI cC cS a b H hP i hi
  | 10, hi => exact hd_10 D cI cC cS a b H hP i hi
  | 11, hi => exact hd_11 D cI cC cS a b H hP i hi
  | 12, hi => exact hd_12 D cI cC cS a b H hP i hi
  | 13, hi => exact hd_13 D cI cC cS a b H hP i hi
  | 14, hi => exact hd_14 D cI cC cS a b H hP i hi
  | 15, hi => exact hd_15 D cI cC cS a b H hP i hi
  | 16, hi => exact hd_16 D cI cC cS a b H hP i hi
  | 17, hi => exact hd_17 D cI cC cS a b H hP i hi
  | 18, hi => exact hd_18 D cI cC cS a b H hP i hi
  | 19, hi => exact hd_19 D cI cC cS a b H hP i hi
  | 20, hi => exact hd_20 D cI cC cS a b H hP i hi
  | 21, hi => exact hd_21 D cI cC cS a b H hP i hi
  | 22, hi => exact hd_22 D cI cC cS a b H hP i hi
  | 23, hi => exact hd_23 D cI cC cS a b H hP i hi
  | 24, hi => exact hd_24 D cI cC cS a b H hP i hi
  | 25, hi => exact hd_25 D cI cC cS a b H hP i hi
  | 26, hi => exact hd_26 D cI cC cS a b H hP i hi
  | 27, hi => exact hd_27 D cI cC cS a b H hP i hi
  | 28, hi => exact hd_28 D cI cC cS a b H hP i hi
  | n + 29, hi => exact absurd hi (Nat.not_lt_zero _)
theorem aj_of {D : va_G} {cI cC cS : ClassId} {a b : Nat → Nat} {A : Nat → Prop} (E : ET) (hD : va_D A (wKnots E a ++ wModel E b)) : Aj (EE D cI cC cS a b) ∧ ∀ q, Aw (EE D cI cC cS a b) q → A q := by
  refine ⟨fun k i k' i' hi hi' he => ?_, fun q hq => ?_⟩
  · obtain ⟨h1, h2⟩ := ix_ok k (cnt_lt hi) i hi
    obtain ⟨h3, h4⟩ := ix_ok k' (cnt_lt hi') i' hi'
    obtain ⟨e1, g1⟩ := ws_at E a b h1
    obtain ⟨e2, g2⟩ := ws_at E a b h3
    have h5 := hD.1 _ _ _ _ g1 g2 he
    rw [h5] at h2
    exact Prod.mk.inj (h2.symm.trans h4)
  · obtain ⟨k, i, hi, rfl⟩ := hq
    obtain ⟨h1, h2⟩ := ix_ok k (cnt_lt hi) i hi
    obtain ⟨e1, g1⟩ := ws_at E a b h1
    exact hD.2 _ _ g1
set_option maxHeartbeats 4000000 in
set_option maxRecDepth 100000 in
/-- the law from its entry, out of an invariant of its steps -/
theorem whole_gen (Inv : Nat → GT → Prop) (hmono : ∀ n G, Inv n G → Inv (n + 1) G) (hstep : ∀ (n : Nat) (G : GT) (o : Nat) (x y w : Int32), n < 512 → o < 29 → Inv n G → ∃ v G1 G2, oc o G x y w = some (v, G1) ∧ om o G1 x y w = some (v, G2) ∧ Inv (n + 1) G2) (hI0 : Inv 0 G0) {p : Program} {e : Env} {s : State} {m : MethodId} {below : List Frame} {meth : Method} {c : Code} (l : Launch) {b L : Nat} {xs : Nat → Int32} (hL : L ≤ 2048) (C0 : lw_At p s m meth c b L xs) : W p l e room_1 s m #[Value.ref b] below meth c s.heap [] 0 0 (lw_Z below #[Value.ref b] s) (entryFrame m ([Value.ref b] : List Value).toArray 4) := by
  obtain ⟨hx, hb, hr, hml, hown, hts, hX, hbl, hlocks, hgv⟩ := id C0
  have hts2 : ∀ w ∈ gt, w.before #[Value.ref b] s = true := fun w hw => hts w (List.mem_filter.mp hw).1
  obtain ⟨c0, i0, hKn0⟩ := u_known (C := RX0) (T := TX0) (N := 3) (n := 3) hts2 inX0 (hts2 _ (gt_in (i := 152) (by decide +kernel) (by decide +kernel) : Cond.instantiable RX0 3 ∈ gt))
  obtain ⟨c1, i1, hKn1⟩ := u_known (C := RX1) (T := TX1) (N := 4) (n := 4) hts2 inX1 (hts2 _ (gt_in (i := 107) (by decide +kernel) (by decide +kernel) : Cond.instantiable RX1 4 ∈ gt))
  obtain ⟨c2, i2, hKn2⟩ := u_known (C := RX2) (T := TX2) (N := 2) (n := 2) hts2 inX2 (hts2 _ (gt_in (i := 73) (by decide +kernel) (by decide +kernel) : Cond.instantiable RX2 2 ∈ gt))
  obtain ⟨c3, i3, hKn3⟩ := u_known (C := RX3) (T := TX3) (N := 4) (n := 4) hts2 inX3 (hts2 _ (gt_in (i := 187) (by decide +kernel) (by decide +kernel) : Cond.instantiable RX3 4 ∈ gt))
  obtain ⟨c4, i4, hKn4⟩ := u_known (C := RX4) (T := TX4) (N := 6) (n := 6) hts2 inX4 (hts2 _ (gt_in (i := 67) (by decide +kernel) (by decide +kernel) : Cond.instantiable RX4 6 ∈ gt))
  obtain ⟨c5, i5, hKn5⟩ := u_known (C := RX5) (T := TX5) (N := 2) (n := 2) hts2 inX5 (hts2 _ (gt_in (i := 172) (by decide +kernel) (by decide +kernel) : Cond.instantiable RX5 2 ∈ gt))
  obtain ⟨c6, i6, hKn6⟩ := u_known (C := RX6) (T := TX6) (N := 4) (n := 4) hts2 inX6 (hts2 _ (gt_in (i := 87) (by decide +kernel) (by decide +kernel) : Cond.instantiable RX6 4 ∈ gt))
  obtain ⟨c7, i7, hKn7⟩ := u_known (C := RX7) (T := TX7) (N := 9) (n := 9) hts2 inX7 (hts2 _ (gt_in (i := 59) (by decide +kernel) (by decide +kernel) : Cond.instantiable RX7 9 ∈ gt))
  obtain ⟨c8, i8, hKn8⟩ := u_known (C := RX8) (T := TX8) (N := 10) (n := 10) hts2 inX8 (hts2 _ (gt_in (i := 651) (by decide +kernel) (by decide +kernel) : Cond.instantiable RX8 10 ∈ gt))
  obtain ⟨dC, dI, hKc⟩ : ∃ (dC : Nat → ClassId) (dI : Nat → Nat → Nat), ∀ (k : Nat) (q : vw_C), cls[k]? = some q → u_Kn s q.1 q.2.1 q.2.2 (dC k) (dI k) := by
    refine ⟨fun k => if k = 0 then c0 else if k = 1 then c1 else if k = 2 then c2 else if k = 3 then c3 else if k = 4 then c4 else if k = 5 then c5 else if k = 6 then c6 else if k = 7 then c7 else c8, fun k => if k = 0 then i0 else if k = 1 then i1 else if k = 2 then i2 else if k = 3 then i3 else if k = 4 then i4 else if k = 5 then i5 else if k = 6 then i6 else if k = 7 then i7 else i8, ?_⟩
    intro k q hq
    match k, hq with
    | 0, hq => cases hq; exact hKn0
    | 1, hq => cases hq; exact hKn1
    | 2, hq => cases hq; exact hKn2
    | 3, hq => cases hq; exact hKn3
    | 4, hq => cases hq; exact hKn4
    | 5, hq => cases hq; exact hKn5
    | 6, hq => cases hq; exact hKn6
    | 7, hq => cases hq; exact hKn7
    | 8, hq => cases hq; exact hKn8
    | k + 9, hq => simp [cls] at hq
  obtain ⟨cI, kI, compI, f1, f2, f3⟩ := Cond.arrayClass_spec (hts2 _ gt_arri)
  obtain ⟨cC, kC, compC, g1, g2, g3⟩ := Cond.arrayClass_spec (hts2 _ gt_arrc)
  have hover : (Cond.arrayOver (.object "RopeKnots$State")).before #[Value.ref b] s = true := hts _ (List.mem_of_getElem? (i := 158) (by decide +kernel))
  obtain ⟨compS, cS, kS, e1, e2, e3, e4, e5⟩ := Cond.arrayOver_spec hover
  have key : ∀ ad : Nat → Nat → Nat, Ck ((dC, dI), ad, cI, cC, cS) s := by
    intro ad
    refine ⟨⟨⟨hKc, fun k q hq => ?_⟩, fun w hw hn => va_Nw.of (by cases w <;> first | rfl | cases hn) (hts w hw)⟩, va_AO.of hover⟩
    match k, hq with
    | 0, hq => cases hq; exact ⟨fun n z => ⟨fun k h => (by cases h), kI, f2, compI, f3⟩, f1⟩
    | 1, hq => cases hq; exact ⟨fun n z => ⟨fun k h => (by cases h), kC, g2, compC, g3⟩, g1⟩
    | 2, hq => cases hq; exact ⟨fun n z => ⟨fun k h => (by cases h), kS, e3, compS, e4⟩, ⟨kS, compS, e3, e4, e1, e5⟩⟩
    | k + 3, hq => simp [tyE] at hq
  obtain ⟨E0, hE0⟩ : ∃ E0 : ET, E0 = ((dC, dI), fun _ _ => 0, cI, cC, cS) := ⟨_, rfl⟩
  have X0 : Cy p s m #[Value.ref b] meth c R_law code 4 E0 (fun q : Nat => s.heap.size ≤ q) s.heap := ⟨⟨hx, hb, hml, hown, hts2⟩, hE0 ▸ key _, fun q h => h⟩
  have hl := lv_entry ([.ref b]) (n := 4) (Nat.le_of_ble_eq_true rfl)
  rw [lg_entry_eq]
  suffices hJ : JP p l e room_1 s m #[Value.ref b] below meth c (fun q : Nat => s.heap.size ≤ q) s.heap E0.1 4 0 0 (lw_Z below #[Value.ref b] s) [] 0 [(0, .ref b)] [] from hJ s.heap [] _ (fun k q h => by simp at h) ⟨fun i j p q h => by simp at h, fun k q h => by simp at h⟩ va_S.rf hl
  refine n_new (pc := 0) (ci := 7) X0 rfl inX7 tyX7 tyX7_ok (gt_in (i := 58) (by decide +kernel) (by decide +kernel)) (gt_in (i := 59) (by decide +kernel) (by decide +kernel)) (gt_in (i := 48) (by decide +kernel) (by decide +kernel)) rfl [.null, .null, .int 0, .null, .null, .null, .null, .null, .null] (fun j hj => by rcases (show j = 0 ∨ j = 1 ∨ j = 2 ∨ j = 3 ∨ j = 4 ∨ j = 5 ∨ j = 6 ∨ j = 7 ∨ j = 8 by omega) with rfl | rfl | rfl | rfl | rfl | rfl | rfl | rfl | rfl <;> rfl) (Nat.le_of_ble_eq_true rfl) (Nat.le_of_ble_eq_true rfl) dL_0 (fun q0 => ?_)
  refine n_dup (pc := 3) X0 dL_3 rfl ?_
  refine n_ctor (pc := 4) X0 rfl (oX7_init l E0) mcX7 (gt_in (i := 60) (by decide +kernel) (by decide +kernel)) (Nat.le_of_ble_eq_true rfl) ⟨Nat.le_of_ble_eq_true rfl, Nat.le_of_ble_eq_true rfl⟩ ⟨Nat.le_of_ble_eq_true rfl, Nat.le_of_ble_eq_true rfl⟩ dL_4 (fun a1 ha1 => ?_)
  subst ha1
  refine n_astore_n (pc := 7) (lv' := [(0, .ref b), (1, .ref (a1 0))]) X0 dL_7 rfl (by decide) rfl ?_
  refine n_new (pc := 8) (ci := 8) X0 rfl inX8 tyX8 tyX8_ok (gt_in (i := 650) (by decide +kernel) (by decide +kernel)) (gt_in (i := 651) (by decide +kernel) (by decide +kernel)) (gt_in (i := 56) (by decide +kernel) (by decide +kernel)) rfl [.null, .null, .null, .int 0, .null, .int 0, .null, .int 0, .int 0, .null] (fun j hj => by rcases (show j = 0 ∨ j = 1 ∨ j = 2 ∨ j = 3 ∨ j = 4 ∨ j = 5 ∨ j = 6 ∨ j = 7 ∨ j = 8 ∨ j = 9 by omega) with rfl | rfl | rfl | rfl | rfl | rfl | rfl | rfl | rfl | rfl <;> rfl) (Nat.le_of_ble_eq_true rfl) (Nat.le_of_ble_eq_true rfl) dL_8 (fun q1 => ?_)
  refine n_dup (pc := 11) X0 dL_11 rfl ?_
  refine n_ctor (pc := 12) X0 rfl (oX8_init l E0) mcX8 (gt_in (i := 652) (by decide +kernel) (by decide +kernel)) (Nat.le_of_ble_eq_true rfl) ⟨Nat.le_of_ble_eq_true rfl, Nat.le_of_ble_eq_true rfl⟩ ⟨Nat.le_of_ble_eq_true rfl, Nat.le_of_ble_eq_true rfl⟩ dL_12 (fun a2 ha2 => ?_)
  subst ha2
  refine n_astore_n (pc := 15) (lv' := [(0, .ref b), (1, .ref (a1 0)), (2, .ref (a2 0))]) X0 dL_15 rfl (by decide) rfl ?_
  refine n_iconst (pc := 16) (v := 0) X0 dL_16 (by decide) ?_
  refine n_istore_n (pc := 17) (lv' := [(0, .ref b), (1, .ref (a1 0)), (2, .ref (a2 0)), (3, .int 0)]) X0 dL_17 rfl (by decide) rfl ?_
  refine n_widen (k := 96) (n := 4339) (Nat.le_of_ble_eq_true rfl) (Nat.le_of_ble_eq_true rfl) ?_
  intro H locs ls hP hD hS hl
  subst hE0
  have hP : va_P (dC, dI) cls (wKnots (EE (dC, dI) cI cC cS a1 a2) a1 ++ wModel (EE (dC, dI) cI cC cS a1 a2) a2) H := hP
  have hD : va_D (fun q : Nat => s.heap.size ≤ q) (wKnots (EE (dC, dI) cI cC cS a1 a2) a1 ++ wModel (EE (dC, dI) cI cC cS a1 a2) a2) := hD
  obtain ⟨hE, hA⟩ := aj_of (D := (dC, dI)) (cI := cI) (cC := cC) (cS := cS) _ hD
  have X : Cx p room_1 s m #[Value.ref b] c R_law code 4 (EE (dC, dI) cI cC cS a1 a2) (fun q : Nat => s.heap.size ≤ q) 96 4339 := ⟨⟨hx, hb, hml, hown, hts2⟩, (key _).1, hE, hA, Nat.le_of_ble_eq_true rfl, Nat.le_of_ble_eq_true rfl⟩
  refine law_loop X ⟨hX, hbl, Nat.not_le.mpr hbl⟩ hE hL Inv hmono hstep ?_ (L + 1) 0 G0 (by omega) (by omega) hI0 H locs ls (hd_of _ _ _ _ _ _ _ hP) hS hl
  intro G lv H locs ls _ hS _
  refine lv_iconst (v := 1) hx hb dL_905 (by decide) ?_
  refine va_forget (fun q hq => hS.2.2 q hq) ?_
  refine W.widen (k := 600000) (n := 7302250) (Nat.le_of_ble_eq_true rfl) (Nat.le_of_ble_eq_true rfl) ?_
  exact lw_ret hx hb hr hlocks dL_906
