/-! ONE WORLD: every object of the class and of the reference has a place (kind k, number i); ints that change are G k i slot; references never change after the start -/
abbrev GT : Type := Nat → Nat → Nat → Int32
abbrev ET : Type := va_G × (Nat → Nat → Nat) × ClassId × ClassId × ClassId
def Ad (E : ET) (k i : Nat) : Nat := E.2.1 k i
def up3 (G : GT) (k i j : Nat) (x : Int32) : GT := fun a b => if a = k ∧ b = i then upd (G a b) j x else G a b
theorem up3_at (G : GT) (k i j : Nat) (x : Int32) : up3 G k i j x k i = upd (G k i) j x := by simp [up3]
theorem up3_ne {G : GT} {k i j a b : Nat} {x : Int32} (h : ¬ (a = k ∧ b = i)) : up3 G k i j x a b = G a b := by simp only [up3, if_neg h]
def cls : List vw_C := [(RX0, TX0, 3), (RX1, TX1, 4), (RX2, TX2, 2), (RX3, TX3, 4), (RX4, TX4, 6), (RX5, TX5, 2), (RX6, TX6, 4), (RX7, TX7, 9), (RX8, TX8, 10)]
/-- how many objects of a kind -/
def cnt (k : Nat) : Nat := match k with
  | 0 => 7 | 1 => 7 | 2 => 7 | 3 => 6 | 4 => 6 | 5 => 6 | 6 => 6 | 7 => 6 | 8 => 6 | 9 => 6 | 10 => 6 | 11 => 6
  | 12 => 1 | 13 => 1 | 14 => 1 | 15 => 1 | 16 => 2 | 17 => 2 | 18 => 2 | 19 => 2 | 20 => 1 | 21 => 1
  | 22 => 1 | 23 => 1 | 24 => 1 | 25 => 1 | 26 => 1 | 27 => 1 | 28 => 1 | _ => 0
def ia (E : ET) (n : Nat) (g : Nat → Int32) : va_E := .inl (E.2.2.1, (n, .inl g))
/-- what a cell holds -/
def cnf (E : ET) (k i : Nat) (g : Nat → Int32) : va_E := match k with
  | 0 => .inr (2, [.ref (Ad E 1 i), .ref (Ad E 2 i)])
  | 1 => ia E 40 g
  | 2 => ia E 40 g
  | 3 => .inr (6, [.int (g 0), .ref (Ad E 4 i), .ref (Ad E 5 i), .ref (Ad E 6 i)])
  | 4 => ia E 16 g
  | 5 => ia E 16 g
  | 6 => ia E 80 g
  | 7 => .inr (1, [.int (g 0), .ref (Ad E 8 i), .ref (Ad E 9 i), .ref (Ad E 10 i)])
  | 8 => ia E 96 g
  | 9 => ia E 6 g
  | 10 => ia E 6 g
  | 11 => .inr (4, [.ref (Ad E 0 i), .ref (Ad E 3 i), .ref (Ad E 7 i), .int (g 3), .int (g 4), .int (g 5)])
  | 12 => .inr (0, [.ref (Ad E 13 0), .int (g 1), .int (g 2)])
  | 13 => .inl (E.2.2.2.2, (4, .inr (.inr (.inr (.inr (fun j => some (Ad E 11 (2 + j))))))))
  | 14 => .inr (5, [.ref (Ad E 15 0), .int (g 1)])
  | 15 => .inl (E.2.2.2.1, (50, .inl g))
  | 16 => .inr (3, [.int (g 0), .ref (Ad E 17 i), .ref (Ad E 18 i), .ref (Ad E 19 i)])
  | 17 => ia E 20 g
  | 18 => ia E 20 g
  | 19 => ia E 20 g
  | 20 => .inr (7, [.ref (Ad E 11 0), .ref (Ad E 11 1), .int (g 2), .ref (Ad E 12 0), .ref (Ad E 14 0), .ref (Ad E 16 0), .ref (Ad E 0 6), .ref (Ad E 16 1), .ref (Ad E 21 0)])
  | 21 => ia E 41 g
  | 22 => .inr (8, [.ref (Ad E 23 0), .ref (Ad E 24 0), .ref (Ad E 25 0), .int (g 3), .ref (Ad E 26 0), .int (g 5), .ref (Ad E 27 0), .int (g 7), .int (g 8), .ref (Ad E 28 0)])
  | 23 => ia E 289 g
  | 24 => ia E 289 g
  | 25 => ia E 1156 g
  | 26 => ia E 289 g
  | 27 => ia E 50 g
  | _ => ia E 41 g
def Hd (E : ET) (G : GT) (H : Heap) : Prop := ∀ k i, i < cnt k → va_at E.1 cls (Ad E k i, cnf E k i (G k i)) H
def Aj (E : ET) : Prop := ∀ k i a b, i < cnt k → b < cnt a → Ad E k i = Ad E a b → k = a ∧ i = b
def Aw (E : ET) : Nat → Prop := fun q => ∃ k i, i < cnt k ∧ q = Ad E k i
def tyE (E : ET) : List (ClassId × FieldType) := [(E.2.2.1, .int), (E.2.2.2.1, .char), (E.2.2.2.2, .object "RopeKnots$State")]
def isNest : Cond → Bool
  | .fieldLinkNest .. => true
  | .methodLinkNest .. => true
  | _ => false
def Kd (E : ET) (U : State) : Prop := va_K E.1 cls (tyE E) U ∧ ∀ w, w ∈ lw_tbl → isNest w = true → va_Nw w U
theorem Kd.moved {E : ET} {s U : State} (h : Kd E s) (hW : s.WarmedH U.vm) : Kd E U := by
  refine ⟨h.1.moved hW.alike, fun w hw hn => ?_⟩
  have h2 := h.2 w hw hn
  cases w <;> first | exact va_Nw.warmF hW h2 | exact va_Nw.warmM hW h2 | cases hn
theorem Kd.same {E : ET} {s U : State} (h : Kd E s) (e : s.vm = U.vm) : Kd E U := by
  refine ⟨h.1.moved (e ▸ Vm.Alike.refl s.vm), fun w hw hn => ?_⟩
  have h2 := h.2 w hw hn
  cases w <;> first | exact va_Nw.same rfl e h2 | cases hn
theorem Hd.put {E : ET} {G : GT} {H H1 : Heap} {k i j : Nat} {x : Int32} (hH : Hd E G H) (hE : Aj E) (hi : i < cnt k) (he : va_at E.1 cls (Ad E k i, cnf E k i (upd (G k i) j x)) H1) (oq : ∀ q : Nat, q ≠ Ad E k i → H1[q]? = H[q]?) : Hd E (up3 G k i j x) H1 := by
  intro a b hb
  by_cases h : a = k ∧ b = i
  · obtain ⟨rfl, rfl⟩ := h
    rw [up3_at]
    exact he
  · rw [up3_ne h]
    exact (hH a b hb).kept (oq _ (fun z => h (hE a b k i hb hi z)))
theorem Hd.one {E : ET} {G : GT} {H : Heap} {k i : Nat} (hH : Hd E G H) (hi : i < cnt k) {e : va_E} (he : cnf E k i (G k i) = e) : va_P E.1 cls [(Ad E k i, e)] H := by
  intro n q hq
  match n, hq with
  | 0, hq => cases hq; rw [← he]; exact hH k i hi
  | n + 1, hq => simp at hq
/-- the words that a method may take with it -/
def gt : List Cond := lw_tbl.filter goodWord
theorem gt_good : GoodIn gt gt := fun w hw => ⟨hw, good_of_word (List.mem_filter.mp hw).2⟩
theorem gt_in {w : Cond} {i : Nat} (h : lw_tbl[i]? = some w) (hg : goodWord w = true) : w ∈ gt := List.mem_filter.mpr ⟨List.mem_of_getElem? h, hg⟩
theorem gt_cons {y : MethodName} {bytes : ByteArray} {maxL : Nat} {ret : Option FieldType} (h : Cond.code y bytes maxL ret ∈ gt) : GoodIn gt (Cond.code y bytes maxL ret :: gt) := by
  intro w hw
  rcases List.mem_cons.mp hw with rfl | hw
  · exact gt_good _ h
  · exact gt_good w hw
abbrev rmL (d : Nat) : Room := { frames := d, cells := 0, slots := 0, locals := 40 * d }
abbrev QI (E : ET) (v : Int32) (G' : GT) : Array Value → State → Outcome → State → Prop := va_Qi (S := GT) (fun r u => r = v ∧ u = G') (fun u t => Hd E u t.heap) (Aw E)
abbrev QV (E : ET) (G' : GT) : Array Value → State → Outcome → State → Prop := va_Qv (S := GT) (fun u => u = G') (fun u t => Hd E u t.heap) (Aw E)
abbrev QR (E : ET) (a : Nat) (G' : GT) : Array Value → State → Outcome → State → Prop := va_Qr (S := GT) (fun u => u = G') (fun u b t => b = a ∧ Hd E u t.heap) (Aw E)
abbrev PcE (E : ET) (av : List Value) (G : GT) : Array Value → State → Prop := va_Pc av (fun U => Hd E G U.heap ∧ Kd E U)
def CI (l : Launch) (E : ET) (y : MethodName) (bytes : ByteArray) (maxL : Nat) (ret : Option FieldType) (d : Nat) (av : List Value) (G : GT) (v : Int32) (G' : GT) : Prop := Met l y (Cond.code y bytes maxL ret :: gt) (rmL d) (PcE E av G) (QI E v G') 0 0 (Aw E)
def CV (l : Launch) (E : ET) (y : MethodName) (bytes : ByteArray) (maxL : Nat) (ret : Option FieldType) (d : Nat) (av : List Value) (G : GT) (G' : GT) : Prop := Met l y (Cond.code y bytes maxL ret :: gt) (rmL d) (PcE E av G) (QV E G') 0 0 (Aw E)
def CR (l : Launch) (E : ET) (y : MethodName) (bytes : ByteArray) (maxL : Nat) (ret : Option FieldType) (d : Nat) (av : List Value) (G : GT) (a : Nat) (G' : GT) : Prop := Met l y (Cond.code y bytes maxL ret :: gt) (rmL d) (PcE E av G) (QR E a G') 0 0 (Aw E)
def Cx (p : Program) (R : Room) (s : State) (m : MethodId) (args : Array Value) (c : Code) (own : String) (cc : ByteArray) (nL : Nat) (E : ET) (A : Nat → Prop) (cells slots : Nat) : Prop :=
  CallFix p m c cc nL s args gt own ∧ Kd E s ∧ Aj E ∧ (∀ q, Aw E q → A q) ∧ cells ≤ R.cells ∧ slots ≤ R.slots
def J (p : Program) (l : Launch) (e : Env) (R : Room) (s : State) (m : MethodId) (args : Array Value) (below : List Frame) (meth : Method) (c : Code) (E : ET) (A : Nat → Prop) (H0 : Heap) (nL cells slots : Nat) (Q : State → Prop) (G : GT) (pc : Nat) (lv : List (Nat × Value)) (st : List Value) : Prop :=
  ∀ (H : Heap) (locs : List Loc) (ls : Array Slot), Hd E G H → va_S A H0 H locs → lv_has ls nL lv → W p l e R s m args below meth c H locs cells slots Q (F0 m pc ls st)
def lvins (i : Nat) (v : Value) : List (Nat × Value) → List (Nat × Value)
  | [] => [(i, v)]
  | q :: r => if i < q.1 then (i, v) :: q :: r else q :: lvins i v r
theorem lvins_sub (i : Nat) (v : Value) : ∀ (l : List (Nat × Value)) (q : Nat × Value), q ∈ lvins i v l → q ∈ (i, v) :: l
  | [], q, h => h
  | a :: r, q, h => by
    unfold lvins at h
    split at h
    · exact h
    · rcases List.mem_cons.mp h with h | h
      · exact List.mem_cons_of_mem _ (h ▸ List.mem_cons_self)
      · rcases List.mem_cons.mp (lvins_sub i v r q h) with h | h
        · exact h ▸ List.mem_cons_self
        · exact List.mem_cons_of_mem _ (List.mem_cons_of_mem _ h)
def lvput (i : Nat) (v : Value) (lv : List (Nat × Value)) : List (Nat × Value) := lvins i v (lv.filter (fun q => !(q.1 == i) && !(q.1 + 1 == i && q.2.category == 2)))
theorem lvput_has {ls : Array Slot} {nL i : Nat} {v : Value} {lv lv' : List (Nat × Value)} (h : lv_has ls nL ((i, v) :: lv.filter (fun q => !(q.1 == i) && !(q.1 + 1 == i && q.2.category == 2)))) (e : lvput i v lv = lv') : lv_has ls nL lv' := by
  subst e
  exact ⟨h.1, h.2.1, fun q hq => h.2.2 q (lvins_sub _ _ _ _ hq)⟩
/-! what the pure functions are made of -/
def gd {β : Type} (b : Bool) (x : Option β) : Option β := if b = true then x else none
def bd {α β : Type} (o : Option α) (f : α → Option β) : Option β := o.bind f
def bd2 {α β γ : Type} (o : Option (α × β)) (f : α → β → Option γ) : Option γ := o.bind (fun u => f u.1 u.2)
def st3 {β : Type} (G : GT) (k i j : Nat) (x : Int32) (f : GT → Option β) : Option β := f (up3 G k i j x)
theorem gd_s {β : Type} {b : Bool} {x : Option β} {r : β} (h : gd b x = some r) : b = true ∧ x = some r := by
  unfold gd at h
  split at h
  · exact ⟨by assumption, h⟩
  · cases h
theorem bd_s {α β : Type} {o : Option α} {f : α → Option β} {r : β} (h : bd o f = some r) : ∃ a, o = some a ∧ f a = some r := Option.bind_eq_some_iff.mp h
theorem bd2_s {α β γ : Type} {o : Option (α × β)} {f : α → β → Option γ} {r : γ} (h : bd2 o f = some r) : ∃ a b, o = some (a, b) ∧ f a b = some r := by
  obtain ⟨⟨a, b⟩, h1, h2⟩ := Option.bind_eq_some_iff.mp h
  exact ⟨a, b, h1, h2⟩
theorem st3_s {β : Type} {G : GT} {k i j : Nat} {x : Int32} {f : GT → Option β} {r : β} (h : st3 G k i j x f = some r) : ∃ G1, G1 = up3 G k i j x ∧ f G1 = some r := ⟨_, rfl, h⟩
def inb (x : Int32) (n : Nat) : Bool := decide (0 ≤ x.toInt ∧ x.toInt < n)
def nz (x : Int32) : Bool := decide (¬ x = 0)
def isB (x : Int32) : Bool := decide (narrow .boolean (.int x) = .int x)
def isC (x : Int32) : Bool := decide (narrow .char (.int x) = .int x)
theorem fu_ex : ∃ n : Nat, n = 1300 := ⟨1300, rfl⟩
/-- the fuel of every loop: a number that no reduction unfolds -/
noncomputable def FU : Nat := Classical.choose fu_ex
theorem FU_eq : FU = 1300 := Classical.choose_spec fu_ex
def imax (x y : Int32) : Int32 := if x < y then y else x
def imin (x y : Int32) : Int32 := if y < x then y else x
theorem inb_in {x : Int32} {n : Nat} (h : inb x n = true) : vp_in x n := vp_in_iff.mpr (of_decide_eq_true h)
theorem inb_lt {x : Int32} {n : Nat} (h : inb x n = true) : x.toNatClampNeg < n := by
  have h1 : 0 ≤ x.toInt ∧ x.toInt < n := of_decide_eq_true h
  have h2 : x.toNatClampNeg = x.toInt.toNat := rfl
  omega
