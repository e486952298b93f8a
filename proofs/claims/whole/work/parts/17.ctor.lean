theorem gt_obj : Cond.instanceMethod Lib.objectInit ∈ gt ∧ Cond.code Lib.objectInit ⟨#[0xb1]⟩ 1 none ∈ gt := ⟨gt_in (i := 64) (by decide +kernel) (by decide +kernel), gt_in (i := 65) (by decide +kernel) (by decide +kernel)⟩
theorem gt_arri : Cond.arrayClass .int ∈ gt := gt_in (i := 85) (by decide +kernel) (by decide +kernel)
theorem gt_arrc : Cond.arrayClass .char ∈ gt := gt_in (i := 185) (by decide +kernel) (by decide +kernel)
def JP (p : Program) (l : Launch) (e : Env) (R : Room) (s : State) (m : MethodId) (args : Array Value) (below : List Frame) (meth : Method) (c : Code) (A : Nat → Prop) (H0 : Heap) (D : va_G) (nL cells slots : Nat) (Q : State → Prop) (ws : va_W) (pc : Nat) (lv : List (Nat × Value)) (st : List Value) : Prop :=
  ∀ (H : Heap) (locs : List Loc) (ls : Array Slot), va_P D cls ws H → va_D A ws → va_S A H0 H locs → lv_has ls nL lv → W p l e R s m args below meth c H locs cells slots Q (F0 m pc ls st)
def Ck (E : ET) (U : State) : Prop := Kd E U ∧ va_AO "RopeKnots$State" U
theorem Ck.moved {E : ET} {s U : State} (h : Ck E s) (hW : s.WarmedH U.vm) : Ck E U := ⟨h.1.moved hW, h.2.moved hW.alike⟩
theorem Ck.same {E : ET} {s U : State} (h : Ck E s) (e : s.vm = U.vm) : Ck E U := ⟨h.1.same e, h.2.moved (e ▸ Vm.Alike.refl s.vm)⟩
def Cy (p : Program) (s : State) (m : MethodId) (args : Array Value) (meth : Method) (c : Code) (own : String) (cc : ByteArray) (nL : Nat) (E : ET) (A : Nat → Prop) (H0 : Heap) : Prop :=
  CallFix p m c cc nL s args gt own ∧ Ck E s ∧ (∀ q : Nat, H0.size ≤ q → A q)
section JPR
variable {p : Program} {l : Launch} {e : Env} {R : Room} {s : State} {m : MethodId} {args : Array Value} {below : List Frame} {meth : Method} {c : Code} {E : ET} {A : Nat → Prop} {H0 : Heap} {D : va_G} {nL cells slots : Nat} {Q : State → Prop} {ws : va_W} {pc : Nat} {lv : List (Nat × Value)} {st : List Value} {own : String} {cc : ByteArray}
theorem n_iconst (X : Cy p s m args meth c own cc nL E A H0) {n : Int} {v : Int32} (hdg : decode cc pc = .ok (.iconst n, 1)) (hv : Int32.ofInt n = v) (k : JP p l e R s m args below meth c A H0 D nL cells slots Q ws (pc + 1) lv (.int v :: st)) : JP p l e R s m args below meth c A H0 D nL cells slots Q ws pc lv st := fun H locs ls hP hD hS hl => lv_iconst X.1.1 X.1.2.1 hdg hv (k H locs ls hP hD hS hl)
theorem n_bipush (X : Cy p s m args meth c own cc nL E A H0) {n : Int} {v : Int32} (hdg : decode cc pc = .ok (.bipush n, 2)) (hv : (Int8.ofInt n).toInt32 = v) (k : JP p l e R s m args below meth c A H0 D nL cells slots Q ws (pc + 2) lv (.int v :: st)) : JP p l e R s m args below meth c A H0 D nL cells slots Q ws pc lv st := fun H locs ls hP hD hS hl => lv_bipush X.1.1 X.1.2.1 hdg hv (k H locs ls hP hD hS hl)
theorem n_sipush (X : Cy p s m args meth c own cc nL E A H0) {n : Int} {v : Int32} (hdg : decode cc pc = .ok (.sipush n, 3)) (hv : (Int16.ofInt n).toInt32 = v) (k : JP p l e R s m args below meth c A H0 D nL cells slots Q ws (pc + 3) lv (.int v :: st)) : JP p l e R s m args below meth c A H0 D nL cells slots Q ws pc lv st := fun H locs ls hP hD hS hl => lv_sipush X.1.1 X.1.2.1 hdg hv (k H locs ls hP hD hS hl)
theorem n_iload_n (X : Cy p s m args meth c own cc nL E A H0) {k : Fin 4} {i : Nat} {x : Int32} (hdg : decode cc pc = .ok (.iload_n k, 1)) (hi : (k : Nat) = i) (q : Nat) (hl : lv[q]? = some (i, .int x)) (kk : JP p l e R s m args below meth c A H0 D nL cells slots Q ws (pc + 1) lv (.int x :: st)) : JP p l e R s m args below meth c A H0 D nL cells slots Q ws pc lv st := fun H locs ls hP hD hS h => lv_iload_n X.1.1 X.1.2.1 hdg hi (lv_at h q hl) (kk H locs ls hP hD hS h)
theorem n_aload_n (X : Cy p s m args meth c own cc nL E A H0) {k : Fin 4} {i : Nat} {x : Nat} (hdg : decode cc pc = .ok (.aload_n k, 1)) (hi : (k : Nat) = i) (q : Nat) (hl : lv[q]? = some (i, .ref x)) (kk : JP p l e R s m args below meth c A H0 D nL cells slots Q ws (pc + 1) lv (.ref x :: st)) : JP p l e R s m args below meth c A H0 D nL cells slots Q ws pc lv st := fun H locs ls hP hD hS h => lv_aload_n X.1.1 X.1.2.1 hdg hi (lv_at h q hl) (kk H locs ls hP hD hS h)
theorem n_istore_n (X : Cy p s m args meth c own cc nL E A H0) {k : Fin 4} {i : Nat} {x : Int32} {lv' : List (Nat × Value)} (hdg : decode cc pc = .ok (.istore_n k, 1)) (hi : (k : Nat) = i) (hn : i < nL) (hl : lvput i (.int x) lv = lv') (kk : JP p l e R s m args below meth c A H0 D nL cells slots Q ws (pc + 1) lv' st) : JP p l e R s m args below meth c A H0 D nL cells slots Q ws pc lv (.int x :: st) := fun H locs ls hP hD hS h => lv_istore_n X.1.1 X.1.2.1 hdg hi h hn rfl (fun ls' h' => kk H locs ls' hP hD hS (lvput_has h' hl))
theorem n_astore_n (X : Cy p s m args meth c own cc nL E A H0) {k : Fin 4} {i : Nat} {x : Nat} {lv' : List (Nat × Value)} (hdg : decode cc pc = .ok (.astore_n k, 1)) (hi : (k : Nat) = i) (hn : i < nL) (hl : lvput i (.ref x) lv = lv') (kk : JP p l e R s m args below meth c A H0 D nL cells slots Q ws (pc + 1) lv' st) : JP p l e R s m args below meth c A H0 D nL cells slots Q ws pc lv (.ref x :: st) := fun H locs ls hP hD hS h => lv_astore_n X.1.1 X.1.2.1 hdg hi h hn rfl (fun ls' h' => kk H locs ls' hP hD hS (lvput_has h' hl))
theorem n_iinc (X : Cy p s m args meth c own cc nL E A H0) {i q : Nat} {n : Int} {x v : Int32} {lv' : List (Nat × Value)} (hdg : decode cc pc = .ok (.iinc i n, 3)) (hk : lv[q]? = some (i, .int x)) (hv : x + Int32.ofInt n = v) (hn : i < nL) (hl : lvput i (.int v) lv = lv') (kk : JP p l e R s m args below meth c A H0 D nL cells slots Q ws (pc + 3) lv' st) : JP p l e R s m args below meth c A H0 D nL cells slots Q ws pc lv st := fun H locs ls hP hD hS h => lv_iinc X.1.1 X.1.2.1 hdg h hk hv hn rfl (fun ls' h' => kk H locs ls' hP hD hS (lvput_has h' hl))
theorem n_dup (X : Cy p s m args meth c own cc nL E A H0) {v : Value} (hdg : decode cc pc = .ok (.dup, 1)) (hv : v.category = 1) (k : JP p l e R s m args below meth c A H0 D nL cells slots Q ws (pc + 1) lv (v :: v :: st)) : JP p l e R s m args below meth c A H0 D nL cells slots Q ws pc lv (v :: st) := fun H locs ls hP hD hS hl => lv_dup X.1.1 X.1.2.1 hdg hv (k H locs ls hP hD hS hl)
theorem n_goto (X : Cy p s m args meth c own cc nL E A H0) {off : Int} {tgt : Nat} (hdg : decode cc pc = .ok (.goto off, 3)) (ht : (pc : Int) + off = (tgt : Int)) (k : JP p l e R s m args below meth c A H0 D nL cells slots Q ws tgt lv st) : JP p l e R s m args below meth c A H0 D nL cells slots Q ws pc lv st := fun H locs ls hP hD hS hl => lv_goto X.1.1 X.1.2.1 hdg ht (k H locs ls hP hD hS hl)
theorem n_icmp_ge (X : Cy p s m args meth c own cc nL E A H0) {x y : Int32} {off : Int} {tgt : Nat} (hdg : decode cc pc = .ok (.if_icmp .ge off, 3)) (ht : (pc : Int) + off = (tgt : Int)) (kt : y ≤ x → JP p l e R s m args below meth c A H0 D nL cells slots Q ws tgt lv st) (kf : ¬ y ≤ x → JP p l e R s m args below meth c A H0 D nL cells slots Q ws (pc + 3) lv st) : JP p l e R s m args below meth c A H0 D nL cells slots Q ws pc lv (.int y :: .int x :: st) := fun H locs ls hP hD hS hl => lv_icmp_ge X.1.1 X.1.2.1 hdg ht (fun q => kt q H locs ls hP hD hS hl) (fun q => kf q H locs ls hP hD hS hl)
theorem n_widen {k n : Nat} (h1 : cells ≤ k) (h2 : slots ≤ n) (kk : JP p l e R s m args below meth c A H0 D nL k n Q ws pc lv st) : JP p l e R s m args below meth c A H0 D nL cells slots Q ws pc lv st := fun H locs ls hP hD hS hl => W.widen h1 h2 (kk H locs ls hP hD hS hl)
theorem n_init (X : Cy p s m args meth c own cc nL E A H0) {idx a : Nat} (hlk : Cond.methodLink own idx Lib.objectInit ∈ gt) (hdg : decode cc pc = .ok (.invokespecial idx, 3)) (hR : 1 ≤ R.frames ∧ (st.map fun v => v.category).sum + 12 ≤ R.locals) (kk : JP p l e R s m args below meth c A H0 D nL cells slots Q ws (pc + 3) lv st) : JP p l e R s m args below meth c A H0 D nL cells slots Q ws pc lv (.ref a :: st) := by
  intro H locs ls hP hD hS hl
  obtain ⟨⟨hx, hb, hml, hown, hts⟩, -, -⟩ := X
  exact W.objInit hx hb hown (hts _ hlk) (hts _ gt_obj.1) (hts _ gt_obj.2) rfl (by rw [hml]; exact hl.1) rfl hdg hR.1 (by show 2 * 0 + _ + 12 ≤ _; omega) (kk H locs ls hP hD hS hl)
theorem n_new (X : Cy p s m args meth c own cc nL E A H0) {C : String} {T : u_T} {N ci index : Nat} (hDE : D = E.1) (hin : ∀ w ∈ u_ws C T N, w ∈ gt) (ty : Nat → FieldType) (hty : ∀ k, k < N → parseFieldDescriptor (T k).2.2.1 = some (ty k)) (hcl : Cond.classLink own index C ∈ gt) (hinst : Cond.instantiable C N ∈ gt) (hini : Cond.initialized C ∈ gt) (hc : cls[ci]? = some (C, T, N)) (fs : List Value) (hfs : ∀ j, j < N → defaultValue (ty j) = vp_V fs j) (hcells : cells + 1 ≤ R.cells) (hslots : slots + N ≤ R.slots) (hdg : decode cc pc = .ok (.new index, 3)) (kk : ∀ q : Nat, JP p l e R s m args below meth c A H0 D nL (cells + 1) (slots + N) Q (ws ++ [(q, .inr (ci, fs))]) (pc + 3) lv (.ref q :: st)) : JP p l e R s m args below meth c A H0 D nL cells slots Q ws pc lv st := by
  intro H locs ls hP hD hS hl
  subst hDE
  obtain ⟨⟨hx, hb, hml, hown, hts⟩, hK, hA⟩ := X
  exact va_new hx hb hts hin ty hty hown (hts _ hcl) (hts _ hinst) (hts _ hini) hK.1.1 hP hD hS hA hc hfs hcells hslots hdg (fun q H1 hP hD hS => kk q H1 locs ls hP hD hS hl)
theorem n_newi (X : Cy p s m args meth c own cc nL E A H0) {n : Int32} {N : Nat} (hDE : D = E.1) (hn : ¬ n < 0) (hN : n.toNatClampNeg = N) (hbytes : N * componentBytes .int ≤ 536870912) (hcells : cells + 1 ≤ R.cells) (hslots : slots + N ≤ R.slots) (hdg : decode cc pc = .ok (.newarray .int, 2)) (kk : ∀ q : Nat, JP p l e R s m args below meth c A H0 D nL (cells + 1) (slots + N) Q (ws ++ [(q, .inl (E.2.2.1, (N, .inl (fun _ => 0))))]) (pc + 2) lv (.ref q :: st)) : JP p l e R s m args below meth c A H0 D nL cells slots Q ws pc lv (.int n :: st) := by
  intro H locs ls hP hD hS hl
  subst hDE
  obtain ⟨⟨hx, hb, hml, hown, hts⟩, hK, hA⟩ := X
  refine va_newa (atype := .int) (ty := .int) (a0 := (N, .inl (fun _ => 0))) hx hb (hts _ gt_arri) rfl hK.1.1 hP hD hS hA (fun _ => rfl) hn hN hbytes hcells hslots hdg (fun q cA H1 hK1 hP hD hS => ?_)
  have h1 : s.vm.findClass ("[" ++ (.int : FieldType).toString) = some cA := (hK1.2 (tyE E).length (cA, .int) (by simp)).2
  have h2 : s.vm.findClass ("[" ++ (.int : FieldType).toString) = some E.2.2.1 := (hK.1.1.2 0 _ rfl).2
  have h3 : cA = E.2.2.1 := Option.some.inj (h1.symm.trans h2)
  subst h3
  exact kk q H1 locs ls hP hD hS hl
theorem n_newc (X : Cy p s m args meth c own cc nL E A H0) {n : Int32} {N : Nat} (hDE : D = E.1) (hn : ¬ n < 0) (hN : n.toNatClampNeg = N) (hbytes : N * componentBytes .char ≤ 536870912) (hcells : cells + 1 ≤ R.cells) (hslots : slots + N ≤ R.slots) (hdg : decode cc pc = .ok (.newarray .char, 2)) (kk : ∀ q : Nat, JP p l e R s m args below meth c A H0 D nL (cells + 1) (slots + N) Q (ws ++ [(q, .inl (E.2.2.2.1, (N, .inl (fun _ => 0))))]) (pc + 2) lv (.ref q :: st)) : JP p l e R s m args below meth c A H0 D nL cells slots Q ws pc lv (.int n :: st) := by
  intro H locs ls hP hD hS hl
  subst hDE
  obtain ⟨⟨hx, hb, hml, hown, hts⟩, hK, hA⟩ := X
  refine va_newa (atype := .char) (ty := .char) (a0 := (N, .inl (fun _ => 0))) hx hb (hts _ gt_arrc) rfl hK.1.1 hP hD hS hA (fun _ => rfl) hn hN hbytes hcells hslots hdg (fun q cA H1 hK1 hP hD hS => ?_)
  have h1 : s.vm.findClass ("[" ++ (.char : FieldType).toString) = some cA := (hK1.2 (tyE E).length (cA, .char) (by simp)).2
  have h2 : s.vm.findClass ("[" ++ (.char : FieldType).toString) = some E.2.2.2.1 := (hK.1.1.2 1 _ rfl).2
  have h3 : cA = E.2.2.2.1 := Option.some.inj (h1.symm.trans h2)
  subst h3
  exact kk q H1 locs ls hP hD hS hl
theorem n_newq (X : Cy p s m args meth c own cc nL E A H0) {n : Int32} {N index : Nat} (hDE : D = E.1) (hcl : Cond.classLink own index "RopeKnots$State" ∈ gt) (hn : ¬ n < 0) (hN : n.toNatClampNeg = N) (hbytes : N * 4 ≤ 536870912) (hcells : cells + 1 ≤ R.cells) (hslots : slots + N ≤ R.slots) (hdg : decode cc pc = .ok (.anewarray index, 3)) (kk : ∀ q : Nat, JP p l e R s m args below meth c A H0 D nL (cells + 1) (slots + N) Q (ws ++ [(q, .inl (E.2.2.2.2, (N, .inr (.inr (.inr (.inr (fun _ => none)))))))]) (pc + 3) lv (.ref q :: st)) : JP p l e R s m args below meth c A H0 D nL cells slots Q ws pc lv (.int n :: st) := by
  intro H locs ls hP hD hS hl
  subst hDE
  obtain ⟨⟨hx, hb, hml, hown, hts⟩, hK, hA⟩ := X
  refine va_newq hx hb hown (hts _ hcl) hK.2 hK.1.1 hP hD hS hA hn hN hbytes hcells hslots hdg (fun q cA H1 hK1 hP hD hS => ?_)
  obtain ⟨_, _, -, -, -, h1⟩ := (hK1.2 (tyE E).length (cA, .object "RopeKnots$State") (by simp)).2
  obtain ⟨_, _, -, -, -, h2⟩ := (hK.1.1.2 2 _ rfl).2
  have h3 : cA = E.2.2.2.2 := Option.some.inj (h1.symm.trans h2)
  subst h3
  exact kk q H1 locs ls hP hD hS hl
theorem n_put (X : Cy p s m args meth c own cc nL E A H0) {ci slot index N a : Nat} {C : String} {T : u_T} {F : List Value} {v : Value} {rest : va_W} {ty : FieldType} (hDE : D = E.1) (hf : Fg own index ci slot C T N) (ty0 : Nat → FieldType) (hty : ∀ k, k < N → parseFieldDescriptor (T k).2.2.1 = some (ty0 k)) (hnm : ∀ a, a < N → ∀ b, b < N → a ≠ b → (T a).2.1 ≠ (T b).2.1) (hl0 : slot < F.length) (hfin : (T slot).2.2.2 = false) (hd : ty0 slot = ty) (hn : narrow ty v = v) (hfit : fits ty v = true) (hdg : decode cc pc = .ok (.putfield index, 3)) (hlk : Cond.fieldLink own index C (T slot).2.1 (T slot).2.2.1 ∈ gt) (kk : JP p l e R s m args below meth c A H0 D nL cells slots Q ((a, .inr (ci, F.set slot v)) :: rest) (pc + 3) lv st) : JP p l e R s m args below meth c A H0 D nL cells slots Q ((a, .inr (ci, F)) :: rest) pc lv (v :: .ref a :: st) := by
  intro H locs ls hP hD hS hl
  subst hDE
  obtain ⟨h1, h2, h3, h4, -⟩ := hf
  obtain ⟨⟨hx, hb, hml, hown, hts⟩, hK, hA⟩ := X
  exact va_put (C := C) (ref := C) (ty := ty) hx hb hts h3 ty0 hty hnm hown hK.1.1 hP hD hS 0 rfl h2 slot h1 (hts _ hlk) (fun z hz => by rw [← h4]; rw [h4] at hz ⊢; exact hz) hfin ((hty slot h1).trans (congrArg some hd)) hn hfit hl0 hdg (fun H1 locs1 hP hD hS => kk H1 locs1 ls hP hD hS hl)
theorem n_putF (X : Cy p s m args meth c own cc nL E A H0) {ci slot index N a : Nat} {C : String} {T : u_T} {F : List Value} {v : Value} {rest : va_W} {ty : FieldType} (hDE : D = E.1) (hf : Fg own index ci slot C T N) (ty0 : Nat → FieldType) (hty : ∀ k, k < N → parseFieldDescriptor (T k).2.2.1 = some (ty0 k)) (hnm : ∀ a, a < N → ∀ b, b < N → a ≠ b → (T a).2.1 ≠ (T b).2.1) (hl0 : slot < F.length) (hfin : (T slot).2.2.2 = true) (hin2 : meth.name = "<init>") (hdecl : (T slot).1 = own) (hd : ty0 slot = ty) (hn : narrow ty v = v) (hfit : fits ty v = true) (hdg : decode cc pc = .ok (.putfield index, 3)) (hlk : Cond.fieldLink own index C (T slot).2.1 (T slot).2.2.1 ∈ gt) (kk : JP p l e R s m args below meth c A H0 D nL cells slots Q ((a, .inr (ci, F.set slot v)) :: rest) (pc + 3) lv st) : JP p l e R s m args below meth c A H0 D nL cells slots Q ((a, .inr (ci, F)) :: rest) pc lv (v :: .ref a :: st) := by
  intro H locs ls hP hD hS hl
  subst hDE
  obtain ⟨h1, h2, h3, h4, -⟩ := hf
  obtain ⟨⟨hx, hb, hml, hown, hts⟩, hK, hA⟩ := X
  exact va_putF (C := C) (ref := C) (ty := ty) hx hb hts h3 ty0 hty hnm hown hK.1.1 hP hD hS 0 rfl h2 slot h1 (hts _ hlk) (fun z hz => by rw [← h4]; rw [h4] at hz ⊢; exact hz) hfin hin2 hdecl ((hty slot h1).trans (congrArg some hd)) hn hfit hl0 hdg (fun H1 locs1 hP hD hS => kk H1 locs1 ls hP hD hS hl)
theorem n_get (X : Cy p s m args meth c own cc nL E A H0) {ci slot index N a : Nat} {C : String} {T : u_T} {F : List Value} {v : Value} {rest : va_W} (hDE : D = E.1) (hf : Fg own index ci slot C T N) (hlk : Cond.fieldLink own index C (T slot).2.1 (T slot).2.2.1 ∈ gt) (hv : F[slot]? = some v) (hdg : decode cc pc = .ok (.getfield index, 3)) (kk : JP p l e R s m args below meth c A H0 D nL cells slots Q ((a, .inr (ci, F)) :: rest) (pc + 3) lv (v :: st)) : JP p l e R s m args below meth c A H0 D nL cells slots Q ((a, .inr (ci, F)) :: rest) pc lv (.ref a :: st) := by
  intro H locs ls hP hD hS hl
  subst hDE
  obtain ⟨h1, h2, h3, h4, -⟩ := hf
  obtain ⟨⟨hx, hb, hml, hown, hts⟩, hK, hA⟩ := X
  exact va_get (C := C) (ref := C) hx hb hts h3 hown hK.1.1 hP 0 rfl h2 slot h1 (hts _ hlk) (fun z hz => by rw [← h4]; rw [h4] at hz ⊢; exact hz) hv hdg (kk H locs ls hP hD hS hl)
theorem n_iast (X : Cy p s m args meth c own cc nL E A H0) {a n q0 : Nat} {f : Nat → Int32} {i x : Int32} {ws1 : va_W} (hDE : D = E.1) (ha : ws[q0]? = some (a, .inl (E.2.2.1, (n, .inl f)))) (hin : inb i n = true) (hdg : decode cc pc = .ok (.iastore, 1)) (hw : ws.set q0 (a, .inl (E.2.2.1, (n, .inl (upd f i.toNatClampNeg x)))) = ws1) (kk : JP p l e R s m args below meth c A H0 D nL cells slots Q ws1 (pc + 1) lv st) : JP p l e R s m args below meth c A H0 D nL cells slots Q ws pc lv (.int x :: .int i :: .ref a :: st) := by
  intro H locs ls hP hD hS hl
  subst hDE
  subst hw
  obtain ⟨⟨hx, hb, hml, hown, hts⟩, hK, hA⟩ := X
  exact va_iast hx hb hK.1.1 hP hD hS q0 0 ha rfl (inb_in hin) hdg (fun H1 locs1 hP hD hS => kk H1 locs1 ls hP hD hS hl)
theorem n_aast (X : Cy p s m args meth c own cc nL E A H0) {a n q0 qk v : Nat} {f : Nat → Option Nat} {vs : List Value} {i : Int32} {ws1 : va_W} (hDE : D = E.1) (ha : ws[q0]? = some (a, .inl (E.2.2.2.2, (n, .inr (.inr (.inr (.inr f))))))) (hv : ws[qk]? = some (v, .inr (4, vs))) (hin : inb i n = true) (hdg : decode cc pc = .ok (.aastore, 1)) (hw : ws.set q0 (a, .inl (E.2.2.2.2, (n, .inr (.inr (.inr (.inr (va_up f i.toNatClampNeg (some v)))))))) = ws1) (kk : JP p l e R s m args below meth c A H0 D nL cells slots Q ws1 (pc + 1) lv st) : JP p l e R s m args below meth c A H0 D nL cells slots Q ws pc lv (.ref v :: .int i :: .ref a :: st) := by
  intro H locs ls hP hD hS hl
  subst hDE
  subst hw
  obtain ⟨⟨hx, hb, hml, hown, hts⟩, hK, hA⟩ := X
  exact va_astq hx hb hK.1.1 hP hD hS q0 2 qk 4 (r := (RX4, TX4, 6)) ha rfl hv rfl (inb_in hin) hdg (fun H1 locs1 hP hD hS => kk H1 locs1 ls hP hD hS hl)
/-- a constructor: from a fresh object at h0 to the world wX -/
abbrev rmC (d mc ms : Nat) : Room := { frames := d, cells := mc, slots := ms, locals := 40 * d }
def CC (l : Launch) (E : ET) (y : MethodName) (bytes : ByteArray) (maxL d mc ms ci : Nat) (bl : List Value) (wX : ET → (Nat → Nat) → va_W) : Prop := ∀ (h0 sz : Nat), Met l y (Cond.code y bytes maxL none :: gt) (rmC d mc ms) (va_Pc [.ref h0] (fun U => U.heap.size = sz ∧ va_P E.1 cls [(h0, .inr (ci, bl))] U.heap ∧ Ck E U ∧ va_D (fun _ => True) [(h0, .inr (ci, bl))])) (va_Qv (S := Nat → Nat) (fun a => a 0 = h0) (fun a t => va_P E.1 cls (wX E a) t.heap ∧ va_D (va_A [(h0, .inr (ci, bl))] sz) (wX E a)) (va_A [(h0, .inr (ci, bl))] sz)) mc ms (va_A [(h0, .inr (ci, bl))] sz)
def Mc (y : MethodName) (bytes : ByteArray) (maxL : Nat) : Prop := Cond.code y bytes maxL none ∈ gt ∧ Cond.instanceMethod y ∈ gt ∧ Cond.initialized y.cls ∈ gt ∧ y.name = "<init>" ∧ (y.cls ≠ "java/lang/invoke/MethodHandle" ∧ y.cls ≠ "java/lang/invoke/VarHandle" ∧ (parseMethodDescriptor y.desc).map (fun d => d.parameters.length) = some 0)
theorem pick_app {α : Type} (ws : List α) (x : α) : (List.range ws.length).map (fun i => (ws ++ [x])[i]?) = ws.map some := by
  apply List.ext_getElem?
  intro n
  by_cases h : n < ws.length
  · simp [h, List.getElem?_append_left h]
  · simp [h]
theorem nd_lem (s k : Nat) : va_nd (List.range' s k) = true := by
  induction k generalizing s with
  | zero => rfl
  | succ k ih =>
    simp only [List.range'_succ, va_nd, Bool.and_eq_true, decide_eq_true_eq]
    exact ⟨fun h => by have h2 := (List.mem_range'_1.mp h).1; omega, ih (s + 1)⟩
theorem nd_range (n : Nat) : va_nd (List.range n) = true := by
  rw [List.range_eq_range']
  exact nd_lem 0 n
theorem n_ctor (X : Cy p s m args meth c own cc nL E A H0) {y : MethodName} {bytes : ByteArray} {maxL d mc ms ci index q : Nat} {bl : List Value} {wX : ET → (Nat → Nat) → va_W} (hDE : D = E.1) (hM : CC l E y bytes maxL d mc ms ci bl wX) (hw : Mc y bytes maxL) (hlk : Cond.methodLink own index y ∈ gt) (hcat : ((Value.ref q :: st).map fun v => v.category).sum ≤ 8) (hR : d + 1 ≤ R.frames ∧ 8 + (maxL + 11) + 40 * d ≤ R.locals) (hroom : cells + mc ≤ R.cells ∧ slots + ms ≤ R.slots) (hdg : decode cc pc = .ok (.invokespecial index, 3)) (kk : ∀ a : Nat → Nat, a 0 = q → JP p l e R s m args below meth c A H0 D nL (cells + mc) (slots + ms) Q (ws ++ wX E a) (pc + 3) lv (.ref q :: st)) : JP p l e R s m args below meth c A H0 D nL cells slots Q (ws ++ [(q, .inr (ci, bl))]) pc lv (.ref q :: .ref q :: st) := by
  intro H locs ls hP hD hS hl
  subst hDE
  obtain ⟨⟨hx, hb, hml, hown, hts⟩, hK, hA⟩ := X
  obtain ⟨w1, w2, w3, w4, w5⟩ := hw
  have hC : [ws.length].map (fun i => (ws ++ [(q, (.inr (ci, bl) : va_E))])[i]?) = [(q, (.inr (ci, bl) : va_E))].map some := by simp
  have hPc := hP.sub (ws' := [(q, .inr (ci, bl))]) [ws.length] (by simp)
  have hDc := hD.sub (ws' := [(q, .inr (ci, bl))]) [ws.length] (by simp [va_nd]) hC
  have hFc := va_free (wc := [(q, .inr (ci, bl))]) hD hS hA [ws.length] hC
  refine va_callv (va_runI (As := []) (rest := .ref q :: st) ⟨hx, hb, hml, hown, hts⟩ (hM q H.size) ⟨callB_of 0 hts (gt_cons w1) rfl rfl rfl (hts _ w3) (hts _ hlk) w5 hR, w4, hts _ w2⟩ ⟨fun a U g mk z => ⟨z.1, z.2.1, z.2.2.1, z.2.2.2.1.same rfl, z.2.2.2.2⟩, fun U hU hW => ⟨rfl, by rw [hU], by rw [hU]; exact hPc, hK.moved hW, hDc.weaken (fun _ _ _ _ => trivial)⟩⟩ rfl rfl hl.1 rfl (lv_room hcat) hdg hroom) hS (fun q _ h => hFc q h) hFc (fun a t H1 locs1 ht hvm hw hB hz1 hk1 hS1 => ?_)
  obtain ⟨hP1, hD1⟩ := hB
  rw [ht] at hP1
  obtain ⟨hP2, hD2⟩ := va_join (wr := ws) (w1 := wX E a) hP hD [ws.length] (List.range ws.length) hC (pick_app ws _) (nd_range _) (fun i hi h => by simp at hi h; omega) hk1 hFc hP1 hD1
  exact kk a hw H1 locs1 ls hP2 hD2 hS1 hl
end JPR
theorem Met_C {l : Launch} {E : ET} {y : MethodName} {bytes : ByteArray} {maxL d mc ms ci : Nat} {bl : List Value} {wX : ET → (Nat → Nat) → va_W} (hp : plainName y.cls = true) (hnm : y.name = "<init>") (hlen : 1 ≤ maxL) (body : ∀ h0 p e s m args below meth c, ∀ A : Nat → Prop, Cy p s m args meth c y.cls bytes maxL E A s.heap → meth.name = "<init>" → meth.sig.returnType = none → meth.locks = false → ∀ Q, (∀ a : Nat → Nat, a 0 = h0 → ∀ pc lv, decode bytes pc = .ok (.return_, 1) → JP p l e (rmC d mc ms) s m args below meth c A s.heap E.1 maxL mc ms Q (wX E a) pc lv []) → JP p l e (rmC d mc ms) s m args below meth c A s.heap E.1 maxL 0 0 Q [(h0, .inr (ci, bl))] 0 [(0, .ref h0)] []) : CC l E y bytes maxL d mc ms ci bl wX := by
  intro h0 sz
  refine Met.ofW (cc := bytes) (maxL := maxL) (ret := none) hp rfl ?_
  intro p e s m args below meth c s₁ B hml hv
  obtain ⟨rfl, hsz, hP, hK, hD0⟩ := hv
  subst hsz
  have hts : ∀ w ∈ gt, w.before ([Value.ref h0] : List Value).toArray s = true := fun w hw => atoms_spec (ws := Cond.code y bytes maxL none :: gt) B.pre w (List.mem_cons_of_mem _ hw)
  have hl := lv_entry [.ref h0] (n := maxL) hlen
  rw [lg_entry_eq]
  have hD := hD0.self (sz := s.heap.size)
  have X : Cy p s m ([Value.ref h0] : List Value).toArray meth c y.cls bytes maxL E (va_A [(h0, .inr (ci, bl))] s.heap.size) s.heap := ⟨⟨B.exec, B.bytes, hml, findClass_of_methodNamed B.named, hts⟩, hK, fun q h => Or.inr h⟩
  refine body h0 p e s m _ below meth c _ X ((name_of_methodNamed B.named B.method).1.trans hnm) B.returns B.notSynchronized _ ?_ s.heap [] _ hP hD va_S.rf hl
  intro a ha pc lv hdg H locs ls hP2 hD2 hS2 _
  exact W.vret B.exec B.bytes B.returns (fun t ht hW => ⟨⟨a, rfl, ha, by rw [ht]; exact hP2, hD2⟩, hS2.F ht⟩) hS2.2.2 hdg B.notSynchronized
