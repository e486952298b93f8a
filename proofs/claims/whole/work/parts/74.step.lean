/-! the step of the law's loop -/
theorem inv_step (n : Nat) (G : GT) (o : Nat) (x y w : Int32) (hn : n < 512) (ho : o < 29) (hI : Inv n G) : ∃ v G1 G2, oc o G x y w = some (v, G1) ∧ om o G1 x y w = some (v, G2) ∧ Inv (n + 1) G2 := by
  have h : o = 0 ∨ o = 1 ∨ o = 2 ∨ o = 3 ∨ o = 4 ∨ o = 5 ∨ o = 6 ∨ o = 7 ∨ o = 8 ∨ o = 9 ∨ o = 10 ∨ o = 11 ∨ o = 12 ∨ o = 13 ∨ o = 14 ∨ o = 15 ∨ o = 16 ∨ o = 17 ∨ o = 18 ∨ o = 19 ∨ o = 20 ∨ o = 21 ∨ o = 22 ∨ o = 23 ∨ o = 24 ∨ o = 25 ∨ o = 26 ∨ o = 27 ∨ o = 28 := by omega
  rcases h with h | h | h | h | h | h | h | h | h | h | h | h | h | h | h | h | h | h | h | h | h | h | h | h | h | h | h | h | h
  · subst h
    simp only [oc_0, om_0]
    exact op0 hI x y w
  · subst h
    simp only [oc_1, om_1]
    exact op1 hI x
  · subst h
    simp only [oc_2, om_2]
    exact op2 hI x
  · subst h
    simp only [oc_3, om_3]
    exact op3 hI
  · subst h
    simp only [oc_4, om_4]
    exact op4 hI x
  · subst h
    simp only [oc_5, om_5]
    exact op5 hI x y
  · subst h
    simp only [oc_6, om_6]
    exact op6 hI
  · subst h
    simp only [oc_7, om_7]
    exact op7 hI x y
  · subst h
    simp only [oc_8, om_8]
    exact op8 hI x y
  · subst h
    simp only [oc_9, om_9]
    exact op9 hI x
  · subst h
    simp only [oc_10, om_10]
    exact op10 hI (char_ok x)
  · subst h
    simp only [oc_11, om_11]
    exact op11 hI
  · subst h
    simp only [oc_12, om_12]
    exact op12 hI x y
  · subst h
    simp only [oc_13, om_13]
    exact op13 hI
  · subst h
    simp only [oc_14, om_14]
    exact op14 hI
  · subst h
    simp only [oc_15, om_15]
    exact op15 hI
  · subst h
    simp only [oc_16, om_16]
    exact op16 hI x y
  · subst h
    simp only [oc_17, om_17]
    exact op17 hI x y
  · subst h
    simp only [oc_18, om_18]
    exact op18 hI x
  · subst h
    simp only [oc_19, om_19]
    exact op19 hI x
  · subst h
    simp only [oc_20, om_20]
    exact op20 hI x y
  · subst h
    simp only [oc_21, om_21]
    exact op21 hI x y
  · subst h
    simp only [oc_22, om_22]
    exact op22 hI x y
  · subst h
    simp only [oc_23, om_23]
    exact op23 hI x y
  · subst h
    simp only [oc_24, om_24]
    exact op24 hI x
  · subst h
    simp only [oc_25, om_25]
    exact op25 hI x y
  · subst h
    simp only [oc_26, om_26]
    exact op26 hI
  · subst h
    simp only [oc_27, om_27]
    exact op27 hI (by omega)
  · subst h
    simp only [oc_28, om_28]
    exact op28 hI x
