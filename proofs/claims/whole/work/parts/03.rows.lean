/-! THE JUDGEMENT: from every heap that the pool tells, the machine comes on from here. -/
def CX (p : Program) (s : State) (m : MethodId) (args : Array Value) (meth : Method) (c : Code) (cc : ByteArray) (nL : Nat) (own : String) (A : Nat → Prop) (D : va_G) (D2 : Nat → ClassId) : Prop :=
  p.tables.exec = Jvm.exec ∧ c.code = cc ∧ c.maxLocals = nL ∧ s.vm.findClass own = some m.cls ∧ (∀ w ∈ BIG, w.before args s = true) ∧ KK D D2 s ∧ (∀ q, s.heap.size ≤ q → A q) ∧ meth.locks = false ∧ SF D2 A s s.heap
def GG (p : Program) (l : Launch) (e : Env) (R : Room) (s : State) (m : MethodId) (args : Array Value) (below : List Frame) (meth : Method) (c : Code) (nL : Nat) (A : Nat → Prop) (D : va_G) (D2 : Nat → ClassId) (cells slots : Nat) (Qe : State → Prop) (ad : Nat → Nat) (N : Nat) (T : Nat → Nat × Nat) (I : KI) (J : KJ) (Q : KQ) (pc : Nat) (lv : List (Nat × Value)) (st : List Value) : Prop :=
  ∀ (H : Heap) (locs : List Loc) (ls : Array Slot), Wd D D2 ad N T I J Q H → Ap ad N A → va_S A s.heap H locs → lv_has ls nL lv → W p l e R s m args below meth c H locs cells slots Qe (F0 m pc ls st)
/-- a field, as some class's code names it: class number ci, place j, kind t -/
def Lf (own : String) (index ci j t : Nat) : Prop := ∃ (C : String) (T : u_T) (n : Nat), vwCl[ci]? = some (C, T, n) ∧ ci < 20 ∧ (∀ w ∈ u_ws C T n, w ∈ BIG) ∧ j < n ∧ (fk ci)[j]? = some t ∧ (fk ci).length = n ∧ (T j).1 = C ∧ (Cond.fieldLink own index C (T j).2.1 (T j).2.2.1 ∈ BIG ∨ ∃ h, Cond.fieldLinkNest own index C (T j).2.1 (T j).2.2.1 h ∈ nsL)
/-- the same, one that may be written -/
def Lp (own : String) (index ci j t : Nat) (ty : FieldType) (fin : Bool) : Prop := ∃ (C : String) (T : u_T) (n : Nat) (ty0 : Nat → FieldType), vwCl[ci]? = some (C, T, n) ∧ ci < 20 ∧ (∀ w ∈ u_ws C T n, w ∈ BIG) ∧ j < n ∧ (fk ci)[j]? = some t ∧ (fk ci).length = n ∧ (T j).1 = C ∧ (Cond.fieldLink own index C (T j).2.1 (T j).2.2.1 ∈ BIG ∨ ∃ h, Cond.fieldLinkNest own index C (T j).2.1 (T j).2.2.1 h ∈ nsL) ∧ (∀ k, k < n → parseFieldDescriptor (T k).2.2.1 = some (ty0 k)) ∧ (∀ a, a < n → ∀ b, b < n → a ≠ b → (T a).2.1 ≠ (T b).2.1) ∧ (T j).2.2.2 = fin ∧ parseFieldDescriptor (T j).2.2.1 = some ty ∧ (fin = true → C = own)
/-- an instance method that a call picks, a static one, a constructor; n: how many it takes -/
def LV (own C : String) (index : Nat) (y : MethodName) (n : Nat) : Prop := (Cond.methodLink own index y ∈ BIG ∧ Cond.instanceMethod y ∈ BIG ∧ Cond.selects C y y ∈ BIG ∧ Cond.initialized C ∈ BIG) ∧ y.cls = C ∧ y.cls ≠ "java/lang/invoke/MethodHandle" ∧ y.cls ≠ "java/lang/invoke/VarHandle" ∧ (parseMethodDescriptor y.desc).map (fun d => d.parameters.length) = some n
def LSt (own : String) (index : Nat) (y : MethodName) (n : Nat) : Prop := (Cond.methodLink own index y ∈ BIG ∧ Cond.static y ∈ BIG ∧ Cond.initialized y.cls ∈ BIG) ∧ y.cls ≠ "java/lang/invoke/MethodHandle" ∧ y.cls ≠ "java/lang/invoke/VarHandle" ∧ (parseMethodDescriptor y.desc).map (fun d => d.parameters.length) = some n
def LSN (own : String) (index : Nat) (y : MethodName) (n : Nat) : Prop := (∃ h, Cond.methodLinkNest own index y h ∈ nsL) ∧ (Cond.static y ∈ BIG ∧ Cond.initialized y.cls ∈ BIG) ∧ y.cls ≠ "java/lang/invoke/MethodHandle" ∧ y.cls ≠ "java/lang/invoke/VarHandle" ∧ (parseMethodDescriptor y.desc).map (fun d => d.parameters.length) = some n
def Pr (D : va_G) (D2 : Nat → ClassId) (A : Nat → Prop) (ad : Nat → Nat) (N : Nat) (T : Nat → Nat × Nat) (I : KI) (J : KJ) (Q : KQ) (av : List Value) : Array Value → State → Prop := va_Pc av (fun U => Wd D D2 ad N T I J Q U.heap ∧ Ap ad N A ∧ KK D D2 U ∧ (∀ q, U.heap.size ≤ q → A q) ∧ SF D2 A U U.heap)
abbrev KS : Type := KI × KJ × KQ
def Bw (D : va_G) (D2 : Nat → ClassId) (ad : Nat → Nat) (N : Nat) (T : Nat → Nat × Nat) : KS → State → Prop := fun u t => Wd D D2 ad N T u.1 u.2.1 u.2.2 t.heap
section GROWS
variable {p : Program} {l : Launch} {e : Env} {R : Room} {s : State} {m : MethodId} {args : Array Value} {below : List Frame} {meth : Method} {c : Code} {nL : Nat} {A : Nat → Prop} {D : va_G} {D2 : Nat → ClassId} {cells slots : Nat} {Qe : State → Prop} {ad : Nat → Nat} {N : Nat} {T : Nat → Nat × Nat} {I : KI} {J : KJ} {Q : KQ} {pc : Nat} {lv lv' : List (Nat × Value)} {st : List Value} {cc : ByteArray} {own : String} {Z : Nat → Prop}
theorem Lf.lk {index ci j t : Nat} {args : Array Value} {s : State} (hts : ∀ w ∈ BIG, w.before args s = true) (hK : KK D D2 s) {own C n d : String} (h : Cond.fieldLink own index C n d ∈ BIG ∨ ∃ h, Cond.fieldLinkNest own index C n d h ∈ nsL) : (Cond.fieldLink own index C n d).before args s = true ∨ ∃ h, (Cond.fieldLinkNest own index C n d h).before args s = true := by
  rcases h with h | ⟨h, h1⟩
  · exact Or.inl (hts _ h)
  · exact Or.inr ⟨h, va_Nw.use rfl (hK.2.1 _ h1)⟩

theorem g_iconst (C : CX p s m args meth c cc nL own A D D2) {n : Int} {v : Int32} (hdg : decode cc pc = .ok (.iconst n, 1)) (hv : Int32.ofInt n = v) (k : GG p l e R s m args below meth c nL A D D2 cells slots Qe ad N T I J Q (pc + 1) lv (.int v :: st)) : GG p l e R s m args below meth c nL A D D2 cells slots Qe ad N T I J Q pc lv (st) := fun H locs ls hW hA hS hl => lv_iconst C.1 C.2.1 hdg hv (k H locs ls hW hA hS hl)
theorem g_bipush (C : CX p s m args meth c cc nL own A D D2) {n : Int} {v : Int32} (hdg : decode cc pc = .ok (.bipush n, 2)) (hv : (Int8.ofInt n).toInt32 = v) (k : GG p l e R s m args below meth c nL A D D2 cells slots Qe ad N T I J Q (pc + 2) lv (.int v :: st)) : GG p l e R s m args below meth c nL A D D2 cells slots Qe ad N T I J Q pc lv (st) := fun H locs ls hW hA hS hl => lv_bipush C.1 C.2.1 hdg hv (k H locs ls hW hA hS hl)
theorem g_sipush (C : CX p s m args meth c cc nL own A D D2) {n : Int} {v : Int32} (hdg : decode cc pc = .ok (.sipush n, 3)) (hv : (Int16.ofInt n).toInt32 = v) (k : GG p l e R s m args below meth c nL A D D2 cells slots Qe ad N T I J Q (pc + 3) lv (.int v :: st)) : GG p l e R s m args below meth c nL A D D2 cells slots Qe ad N T I J Q pc lv (st) := fun H locs ls hW hA hS hl => lv_sipush C.1 C.2.1 hdg hv (k H locs ls hW hA hS hl)
theorem g_lconst (C : CX p s m args meth c cc nL own A D D2) {n : Fin 2} {v : Int64} (hdg : decode cc pc = .ok (.lconst n, 1)) (hv : Int64.ofNat (n : Nat) = v) (k : GG p l e R s m args below meth c nL A D D2 cells slots Qe ad N T I J Q (pc + 1) lv (.long v :: st)) : GG p l e R s m args below meth c nL A D D2 cells slots Qe ad N T I J Q pc lv (st) := fun H locs ls hW hA hS hl => lv_lconst C.1 C.2.1 hdg hv (k H locs ls hW hA hS hl)
theorem g_ldc (C : CX p s m args meth c cc nL own A D D2) {index : Nat} {v : Int32} (hdg : decode cc pc = .ok (.ldc index, 2)) (hw : Cond.constant own index v ∈ BIG) (k : GG p l e R s m args below meth c nL A D D2 cells slots Qe ad N T I J Q (pc + 2) lv (.int v :: st)) : GG p l e R s m args below meth c nL A D D2 cells slots Qe ad N T I J Q pc lv (st) := fun H locs ls hW hA hS hl => lv_ldc C.1 C.2.1 C.2.2.2.1 (C.2.2.2.2.1 _ hw) hdg (k H locs ls hW hA hS hl)
theorem g_ldc_w (C : CX p s m args meth c cc nL own A D D2) {index : Nat} {v : Int32} (hdg : decode cc pc = .ok (.ldc_w index, 3)) (hw : Cond.constant own index v ∈ BIG) (k : GG p l e R s m args below meth c nL A D D2 cells slots Qe ad N T I J Q (pc + 3) lv (.int v :: st)) : GG p l e R s m args below meth c nL A D D2 cells slots Qe ad N T I J Q pc lv (st) := fun H locs ls hW hA hS hl => lv_ldcw C.1 C.2.1 C.2.2.2.1 (C.2.2.2.2.1 _ hw) hdg (k H locs ls hW hA hS hl)
theorem g_ldc2 (C : CX p s m args meth c cc nL own A D D2) {index : Nat} {v : Int64} (hdg : decode cc pc = .ok (.ldc2_w index, 3)) (hw : Cond.constantLong own index v ∈ BIG) (k : GG p l e R s m args below meth c nL A D D2 cells slots Qe ad N T I J Q (pc + 3) lv (.long v :: st)) : GG p l e R s m args below meth c nL A D D2 cells slots Qe ad N T I J Q pc lv (st) := fun H locs ls hW hA hS hl => lv_ldc2 C.1 C.2.1 C.2.2.2.1 (C.2.2.2.2.1 _ hw) hdg (k H locs ls hW hA hS hl)
theorem g_iload_n (C : CX p s m args meth c cc nL own A D D2) {b : Fin 4} {i : Nat} {x : Int32} (hdg : decode cc pc = .ok (.iload_n b, 1)) (hi : (b : Nat) = i) (q : Nat) (hq : lv[q]? = some (i, .int x)) (k : GG p l e R s m args below meth c nL A D D2 cells slots Qe ad N T I J Q (pc + 1) lv (.int x :: st)) : GG p l e R s m args below meth c nL A D D2 cells slots Qe ad N T I J Q pc lv (st) := fun H locs ls hW hA hS hl => lv_iload_n C.1 C.2.1 hdg hi (lv_at hl q hq) (k H locs ls hW hA hS hl)
theorem g_iload (C : CX p s m args meth c cc nL own A D D2) {i : Nat} {x : Int32} (hdg : decode cc pc = .ok (.iload i, 2)) (q : Nat) (hq : lv[q]? = some (i, .int x)) (k : GG p l e R s m args below meth c nL A D D2 cells slots Qe ad N T I J Q (pc + 2) lv (.int x :: st)) : GG p l e R s m args below meth c nL A D D2 cells slots Qe ad N T I J Q pc lv (st) := fun H locs ls hW hA hS hl => lv_iload C.1 C.2.1 hdg (lv_at hl q hq) (k H locs ls hW hA hS hl)
theorem g_lload_n (C : CX p s m args meth c cc nL own A D D2) {b : Fin 4} {i : Nat} {x : Int64} (hdg : decode cc pc = .ok (.lload_n b, 1)) (hi : (b : Nat) = i) (q : Nat) (hq : lv[q]? = some (i, .long x)) (k : GG p l e R s m args below meth c nL A D D2 cells slots Qe ad N T I J Q (pc + 1) lv (.long x :: st)) : GG p l e R s m args below meth c nL A D D2 cells slots Qe ad N T I J Q pc lv (st) := fun H locs ls hW hA hS hl => lv_lload_n C.1 C.2.1 hdg hi (lv_at hl q hq) (k H locs ls hW hA hS hl)
theorem g_lload (C : CX p s m args meth c cc nL own A D D2) {i : Nat} {x : Int64} (hdg : decode cc pc = .ok (.lload i, 2)) (q : Nat) (hq : lv[q]? = some (i, .long x)) (k : GG p l e R s m args below meth c nL A D D2 cells slots Qe ad N T I J Q (pc + 2) lv (.long x :: st)) : GG p l e R s m args below meth c nL A D D2 cells slots Qe ad N T I J Q pc lv (st) := fun H locs ls hW hA hS hl => lv_lload C.1 C.2.1 hdg (lv_at hl q hq) (k H locs ls hW hA hS hl)
theorem g_aload_n (C : CX p s m args meth c cc nL own A D D2) {b : Fin 4} {i : Nat} {x : Nat} (hdg : decode cc pc = .ok (.aload_n b, 1)) (hi : (b : Nat) = i) (q : Nat) (hq : lv[q]? = some (i, .ref x)) (k : GG p l e R s m args below meth c nL A D D2 cells slots Qe ad N T I J Q (pc + 1) lv (.ref x :: st)) : GG p l e R s m args below meth c nL A D D2 cells slots Qe ad N T I J Q pc lv (st) := fun H locs ls hW hA hS hl => lv_aload_n C.1 C.2.1 hdg hi (lv_at hl q hq) (k H locs ls hW hA hS hl)
theorem g_aload (C : CX p s m args meth c cc nL own A D D2) {i : Nat} {x : Nat} (hdg : decode cc pc = .ok (.aload i, 2)) (q : Nat) (hq : lv[q]? = some (i, .ref x)) (k : GG p l e R s m args below meth c nL A D D2 cells slots Qe ad N T I J Q (pc + 2) lv (.ref x :: st)) : GG p l e R s m args below meth c nL A D D2 cells slots Qe ad N T I J Q pc lv (st) := fun H locs ls hW hA hS hl => lv_aload C.1 C.2.1 hdg (lv_at hl q hq) (k H locs ls hW hA hS hl)
theorem g_istore_n (C : CX p s m args meth c cc nL own A D D2) {b : Fin 4} {i : Nat} {x : Int32} (hdg : decode cc pc = .ok (.istore_n b, 1)) (hi : (b : Nat) = i) (hn : i < nL) (hlv : (i, Value.int x) :: lv.filter (fun q => !(q.1 == i) && !(q.1 + 1 == i && q.2.category == 2)) = lv') (k : GG p l e R s m args below meth c nL A D D2 cells slots Qe ad N T I J Q (pc + 1) lv' (st)) : GG p l e R s m args below meth c nL A D D2 cells slots Qe ad N T I J Q pc lv (.int x :: st) := fun H locs ls hW hA hS hl => lv_istore_n C.1 C.2.1 hdg hi hl hn hlv (fun ls' hl' => k H locs ls' hW hA hS hl')
theorem g_istore (C : CX p s m args meth c cc nL own A D D2) {i : Nat} {x : Int32} (hdg : decode cc pc = .ok (.istore i, 2)) (hn : i < nL) (hlv : (i, Value.int x) :: lv.filter (fun q => !(q.1 == i) && !(q.1 + 1 == i && q.2.category == 2)) = lv') (k : GG p l e R s m args below meth c nL A D D2 cells slots Qe ad N T I J Q (pc + 2) lv' (st)) : GG p l e R s m args below meth c nL A D D2 cells slots Qe ad N T I J Q pc lv (.int x :: st) := fun H locs ls hW hA hS hl => lv_istore C.1 C.2.1 hdg hl hn hlv (fun ls' hl' => k H locs ls' hW hA hS hl')
theorem g_astore_n (C : CX p s m args meth c cc nL own A D D2) {b : Fin 4} {i : Nat} {x : Nat} (hdg : decode cc pc = .ok (.astore_n b, 1)) (hi : (b : Nat) = i) (hn : i < nL) (hlv : (i, Value.ref x) :: lv.filter (fun q => !(q.1 == i) && !(q.1 + 1 == i && q.2.category == 2)) = lv') (k : GG p l e R s m args below meth c nL A D D2 cells slots Qe ad N T I J Q (pc + 1) lv' (st)) : GG p l e R s m args below meth c nL A D D2 cells slots Qe ad N T I J Q pc lv (.ref x :: st) := fun H locs ls hW hA hS hl => lv_astore_n C.1 C.2.1 hdg hi hl hn hlv (fun ls' hl' => k H locs ls' hW hA hS hl')
theorem g_astore (C : CX p s m args meth c cc nL own A D D2) {i : Nat} {x : Nat} (hdg : decode cc pc = .ok (.astore i, 2)) (hn : i < nL) (hlv : (i, Value.ref x) :: lv.filter (fun q => !(q.1 == i) && !(q.1 + 1 == i && q.2.category == 2)) = lv') (k : GG p l e R s m args below meth c nL A D D2 cells slots Qe ad N T I J Q (pc + 2) lv' (st)) : GG p l e R s m args below meth c nL A D D2 cells slots Qe ad N T I J Q pc lv (.ref x :: st) := fun H locs ls hW hA hS hl => lv_astore C.1 C.2.1 hdg hl hn hlv (fun ls' hl' => k H locs ls' hW hA hS hl')
theorem g_lstore_n (C : CX p s m args meth c cc nL own A D D2) {b : Fin 4} {i : Nat} {x : Int64} (hdg : decode cc pc = .ok (.lstore_n b, 1)) (hi : (b : Nat) = i) (hn : i + 1 < nL) (hlv : (i, Value.long x) :: lv.filter (fun q => !(q.1 == i) && (!(q.1 == i + 1) && !(q.1 + 1 == i && q.2.category == 2))) = lv') (k : GG p l e R s m args below meth c nL A D D2 cells slots Qe ad N T I J Q (pc + 1) lv' (st)) : GG p l e R s m args below meth c nL A D D2 cells slots Qe ad N T I J Q pc lv (.long x :: st) := fun H locs ls hW hA hS hl => lv_lstore_n C.1 C.2.1 hdg hi hl hn hlv (fun ls' hl' => k H locs ls' hW hA hS hl')
theorem g_lstore (C : CX p s m args meth c cc nL own A D D2) {i : Nat} {x : Int64} (hdg : decode cc pc = .ok (.lstore i, 2)) (hn : i + 1 < nL) (hlv : (i, Value.long x) :: lv.filter (fun q => !(q.1 == i) && (!(q.1 == i + 1) && !(q.1 + 1 == i && q.2.category == 2))) = lv') (k : GG p l e R s m args below meth c nL A D D2 cells slots Qe ad N T I J Q (pc + 2) lv' (st)) : GG p l e R s m args below meth c nL A D D2 cells slots Qe ad N T I J Q pc lv (.long x :: st) := fun H locs ls hW hA hS hl => lv_lstore C.1 C.2.1 hdg hl hn hlv (fun ls' hl' => k H locs ls' hW hA hS hl')
theorem g_iinc (C : CX p s m args meth c cc nL own A D D2) {i q : Nat} {n : Int} {x v : Int32} (hdg : decode cc pc = .ok (.iinc i n, 3)) (hq : lv[q]? = some (i, .int x)) (hv : x + Int32.ofInt n = v) (hn : i < nL) (hlv : (i, Value.int v) :: lv.filter (fun q => !(q.1 == i) && !(q.1 + 1 == i && q.2.category == 2)) = lv') (k : GG p l e R s m args below meth c nL A D D2 cells slots Qe ad N T I J Q (pc + 3) lv' (st)) : GG p l e R s m args below meth c nL A D D2 cells slots Qe ad N T I J Q pc lv (st) := fun H locs ls hW hA hS hl => lv_iinc C.1 C.2.1 hdg hl hq hv hn hlv (fun ls' hl' => k H locs ls' hW hA hS hl')
theorem g_iadd (C : CX p s m args meth c cc nL own A D D2) {x y : Int32} (hdg : decode cc pc = .ok (.iadd, 1)) (k : GG p l e R s m args below meth c nL A D D2 cells slots Qe ad N T I J Q (pc + 1) lv (.int (x + y) :: st)) : GG p l e R s m args below meth c nL A D D2 cells slots Qe ad N T I J Q pc lv (.int y :: .int x :: st) := fun H locs ls hW hA hS hl => lv_iadd C.1 C.2.1 hdg (k H locs ls hW hA hS hl)
theorem g_isub (C : CX p s m args meth c cc nL own A D D2) {x y : Int32} (hdg : decode cc pc = .ok (.isub, 1)) (k : GG p l e R s m args below meth c nL A D D2 cells slots Qe ad N T I J Q (pc + 1) lv (.int (x - y) :: st)) : GG p l e R s m args below meth c nL A D D2 cells slots Qe ad N T I J Q pc lv (.int y :: .int x :: st) := fun H locs ls hW hA hS hl => lv_isub C.1 C.2.1 hdg (k H locs ls hW hA hS hl)
theorem g_imul (C : CX p s m args meth c cc nL own A D D2) {x y : Int32} (hdg : decode cc pc = .ok (.imul, 1)) (k : GG p l e R s m args below meth c nL A D D2 cells slots Qe ad N T I J Q (pc + 1) lv (.int (x * y) :: st)) : GG p l e R s m args below meth c nL A D D2 cells slots Qe ad N T I J Q pc lv (.int y :: .int x :: st) := fun H locs ls hW hA hS hl => lv_imul C.1 C.2.1 hdg (k H locs ls hW hA hS hl)
theorem g_iand (C : CX p s m args meth c cc nL own A D D2) {x y : Int32} (hdg : decode cc pc = .ok (.iand, 1)) (k : GG p l e R s m args below meth c nL A D D2 cells slots Qe ad N T I J Q (pc + 1) lv (.int (x &&& y) :: st)) : GG p l e R s m args below meth c nL A D D2 cells slots Qe ad N T I J Q pc lv (.int y :: .int x :: st) := fun H locs ls hW hA hS hl => lv_iand C.1 C.2.1 hdg (k H locs ls hW hA hS hl)
theorem g_ior (C : CX p s m args meth c cc nL own A D D2) {x y : Int32} (hdg : decode cc pc = .ok (.ior, 1)) (k : GG p l e R s m args below meth c nL A D D2 cells slots Qe ad N T I J Q (pc + 1) lv (.int (x ||| y) :: st)) : GG p l e R s m args below meth c nL A D D2 cells slots Qe ad N T I J Q pc lv (.int y :: .int x :: st) := fun H locs ls hW hA hS hl => lv_ior C.1 C.2.1 hdg (k H locs ls hW hA hS hl)
theorem g_ixor (C : CX p s m args meth c cc nL own A D D2) {x y : Int32} (hdg : decode cc pc = .ok (.ixor, 1)) (k : GG p l e R s m args below meth c nL A D D2 cells slots Qe ad N T I J Q (pc + 1) lv (.int (x ^^^ y) :: st)) : GG p l e R s m args below meth c nL A D D2 cells slots Qe ad N T I J Q pc lv (.int y :: .int x :: st) := fun H locs ls hW hA hS hl => lv_ixor C.1 C.2.1 hdg (k H locs ls hW hA hS hl)
theorem g_ishl (C : CX p s m args meth c cc nL own A D D2) {x y : Int32} (hdg : decode cc pc = .ok (.ishl, 1)) (k : GG p l e R s m args below meth c nL A D D2 cells slots Qe ad N T I J Q (pc + 1) lv (.int (x <<< (y &&& 31)) :: st)) : GG p l e R s m args below meth c nL A D D2 cells slots Qe ad N T I J Q pc lv (.int y :: .int x :: st) := fun H locs ls hW hA hS hl => lv_ishl C.1 C.2.1 hdg (k H locs ls hW hA hS hl)
theorem g_ishr (C : CX p s m args meth c cc nL own A D D2) {x y : Int32} (hdg : decode cc pc = .ok (.ishr, 1)) (k : GG p l e R s m args below meth c nL A D D2 cells slots Qe ad N T I J Q (pc + 1) lv (.int (x >>> (y &&& 31)) :: st)) : GG p l e R s m args below meth c nL A D D2 cells slots Qe ad N T I J Q pc lv (.int y :: .int x :: st) := fun H locs ls hW hA hS hl => lv_ishr C.1 C.2.1 hdg (k H locs ls hW hA hS hl)
theorem g_iushr (C : CX p s m args meth c cc nL own A D D2) {x y : Int32} (hdg : decode cc pc = .ok (.iushr, 1)) (k : GG p l e R s m args below meth c nL A D D2 cells slots Qe ad N T I J Q (pc + 1) lv (.int ((x.toUInt32 >>> (y.toUInt32 &&& Int32.toUInt32 31)).toInt32) :: st)) : GG p l e R s m args below meth c nL A D D2 cells slots Qe ad N T I J Q pc lv (.int y :: .int x :: st) := fun H locs ls hW hA hS hl => lv_iushr C.1 C.2.1 hdg rfl (k H locs ls hW hA hS hl)
theorem g_ineg (C : CX p s m args meth c cc nL own A D D2) {x : Int32} (hdg : decode cc pc = .ok (.ineg, 1)) (k : GG p l e R s m args below meth c nL A D D2 cells slots Qe ad N T I J Q (pc + 1) lv (.int (-x) :: st)) : GG p l e R s m args below meth c nL A D D2 cells slots Qe ad N T I J Q pc lv (.int x :: st) := fun H locs ls hW hA hS hl => lv_ineg C.1 C.2.1 hdg (k H locs ls hW hA hS hl)
theorem g_idiv (C : CX p s m args meth c cc nL own A D D2) {x y : Int32} (hdg : decode cc pc = .ok (.idiv, 1)) (hne : ¬ y = 0) (k : GG p l e R s m args below meth c nL A D D2 cells slots Qe ad N T I J Q (pc + 1) lv (.int (x / y) :: st)) : GG p l e R s m args below meth c nL A D D2 cells slots Qe ad N T I J Q pc lv (.int y :: .int x :: st) := fun H locs ls hW hA hS hl => lv_idiv C.1 C.2.1 hdg hne (k H locs ls hW hA hS hl)
theorem g_irem (C : CX p s m args meth c cc nL own A D D2) {x y : Int32} (hdg : decode cc pc = .ok (.irem, 1)) (hne : ¬ y = 0) (k : GG p l e R s m args below meth c nL A D D2 cells slots Qe ad N T I J Q (pc + 1) lv (.int (x - x / y * y) :: st)) : GG p l e R s m args below meth c nL A D D2 cells slots Qe ad N T I J Q pc lv (.int y :: .int x :: st) := fun H locs ls hW hA hS hl => lv_irem C.1 C.2.1 hdg hne (k H locs ls hW hA hS hl)
theorem g_ladd (C : CX p s m args meth c cc nL own A D D2) {x y : Int64} (hdg : decode cc pc = .ok (.ladd, 1)) (k : GG p l e R s m args below meth c nL A D D2 cells slots Qe ad N T I J Q (pc + 1) lv (.long (x + y) :: st)) : GG p l e R s m args below meth c nL A D D2 cells slots Qe ad N T I J Q pc lv (.long y :: .long x :: st) := fun H locs ls hW hA hS hl => lv_ladd C.1 C.2.1 hdg (k H locs ls hW hA hS hl)
theorem g_lsub (C : CX p s m args meth c cc nL own A D D2) {x y : Int64} (hdg : decode cc pc = .ok (.lsub, 1)) (k : GG p l e R s m args below meth c nL A D D2 cells slots Qe ad N T I J Q (pc + 1) lv (.long (x - y) :: st)) : GG p l e R s m args below meth c nL A D D2 cells slots Qe ad N T I J Q pc lv (.long y :: .long x :: st) := fun H locs ls hW hA hS hl => lv_lsub C.1 C.2.1 hdg (k H locs ls hW hA hS hl)
theorem g_lmul (C : CX p s m args meth c cc nL own A D D2) {x y : Int64} (hdg : decode cc pc = .ok (.lmul, 1)) (k : GG p l e R s m args below meth c nL A D D2 cells slots Qe ad N T I J Q (pc + 1) lv (.long (x * y) :: st)) : GG p l e R s m args below meth c nL A D D2 cells slots Qe ad N T I J Q pc lv (.long y :: .long x :: st) := fun H locs ls hW hA hS hl => lv_lmul C.1 C.2.1 hdg (k H locs ls hW hA hS hl)
theorem g_land (C : CX p s m args meth c cc nL own A D D2) {x y : Int64} (hdg : decode cc pc = .ok (.land, 1)) (k : GG p l e R s m args below meth c nL A D D2 cells slots Qe ad N T I J Q (pc + 1) lv (.long (x &&& y) :: st)) : GG p l e R s m args below meth c nL A D D2 cells slots Qe ad N T I J Q pc lv (.long y :: .long x :: st) := fun H locs ls hW hA hS hl => lv_land C.1 C.2.1 hdg (k H locs ls hW hA hS hl)
theorem g_lor (C : CX p s m args meth c cc nL own A D D2) {x y : Int64} (hdg : decode cc pc = .ok (.lor, 1)) (k : GG p l e R s m args below meth c nL A D D2 cells slots Qe ad N T I J Q (pc + 1) lv (.long (x ||| y) :: st)) : GG p l e R s m args below meth c nL A D D2 cells slots Qe ad N T I J Q pc lv (.long y :: .long x :: st) := fun H locs ls hW hA hS hl => lv_lor C.1 C.2.1 hdg (k H locs ls hW hA hS hl)
theorem g_ldiv (C : CX p s m args meth c cc nL own A D D2) {x y : Int64} (hdg : decode cc pc = .ok (.ldiv, 1)) (hne : ¬ y = 0) (k : GG p l e R s m args below meth c nL A D D2 cells slots Qe ad N T I J Q (pc + 1) lv (.long (x / y) :: st)) : GG p l e R s m args below meth c nL A D D2 cells slots Qe ad N T I J Q pc lv (.long y :: .long x :: st) := fun H locs ls hW hA hS hl => lv_ldiv C.1 C.2.1 hdg hne (k H locs ls hW hA hS hl)
theorem g_lrem (C : CX p s m args meth c cc nL own A D D2) {x y : Int64} (hdg : decode cc pc = .ok (.lrem, 1)) (hne : ¬ y = 0) (k : GG p l e R s m args below meth c nL A D D2 cells slots Qe ad N T I J Q (pc + 1) lv (.long (x - x / y * y) :: st)) : GG p l e R s m args below meth c nL A D D2 cells slots Qe ad N T I J Q pc lv (.long y :: .long x :: st) := fun H locs ls hW hA hS hl => lv_lrem C.1 C.2.1 hdg hne (k H locs ls hW hA hS hl)
theorem g_lshl (C : CX p s m args meth c cc nL own A D D2) {x : Int64} {y : Int32} (hdg : decode cc pc = .ok (.lshl, 1)) (k : GG p l e R s m args below meth c nL A D D2 cells slots Qe ad N T I J Q (pc + 1) lv (.long (x <<< (y.toInt64 &&& 63)) :: st)) : GG p l e R s m args below meth c nL A D D2 cells slots Qe ad N T I J Q pc lv (.int y :: .long x :: st) := fun H locs ls hW hA hS hl => lv_lshl C.1 C.2.1 hdg rfl (k H locs ls hW hA hS hl)
theorem g_i2l (C : CX p s m args meth c cc nL own A D D2) {x : Int32} (hdg : decode cc pc = .ok (.i2l, 1)) (k : GG p l e R s m args below meth c nL A D D2 cells slots Qe ad N T I J Q (pc + 1) lv (.long x.toInt64 :: st)) : GG p l e R s m args below meth c nL A D D2 cells slots Qe ad N T I J Q pc lv (.int x :: st) := fun H locs ls hW hA hS hl => lv_i2l C.1 C.2.1 hdg rfl (k H locs ls hW hA hS hl)
theorem g_l2i (C : CX p s m args meth c cc nL own A D D2) {x : Int64} (hdg : decode cc pc = .ok (.l2i, 1)) (k : GG p l e R s m args below meth c nL A D D2 cells slots Qe ad N T I J Q (pc + 1) lv (.int x.toInt32 :: st)) : GG p l e R s m args below meth c nL A D D2 cells slots Qe ad N T I J Q pc lv (.long x :: st) := fun H locs ls hW hA hS hl => lv_l2i C.1 C.2.1 hdg rfl (k H locs ls hW hA hS hl)
theorem g_i2b (C : CX p s m args meth c cc nL own A D D2) {x : Int32} (hdg : decode cc pc = .ok (.i2b, 1)) (k : GG p l e R s m args below meth c nL A D D2 cells slots Qe ad N T I J Q (pc + 1) lv (.int x.toInt8.toInt32 :: st)) : GG p l e R s m args below meth c nL A D D2 cells slots Qe ad N T I J Q pc lv (.int x :: st) := fun H locs ls hW hA hS hl => lv_i2b C.1 C.2.1 hdg rfl (k H locs ls hW hA hS hl)
theorem g_i2s (C : CX p s m args meth c cc nL own A D D2) {x : Int32} (hdg : decode cc pc = .ok (.i2s, 1)) (k : GG p l e R s m args below meth c nL A D D2 cells slots Qe ad N T I J Q (pc + 1) lv (.int x.toInt16.toInt32 :: st)) : GG p l e R s m args below meth c nL A D D2 cells slots Qe ad N T I J Q pc lv (.int x :: st) := fun H locs ls hW hA hS hl => lv_i2s C.1 C.2.1 hdg rfl (k H locs ls hW hA hS hl)
theorem g_i2c (C : CX p s m args meth c cc nL own A D D2) {x : Int32} (hdg : decode cc pc = .ok (.i2c, 1)) (k : GG p l e R s m args below meth c nL A D D2 cells slots Qe ad N T I J Q (pc + 1) lv (.int (x.toUInt32 % 65536).toInt32 :: st)) : GG p l e R s m args below meth c nL A D D2 cells slots Qe ad N T I J Q pc lv (.int x :: st) := fun H locs ls hW hA hS hl => lv_i2c C.1 C.2.1 hdg rfl (k H locs ls hW hA hS hl)
theorem g_dup (C : CX p s m args meth c cc nL own A D D2) {va : Value} (hdg : decode cc pc = .ok (.dup, 1)) (hva : va.category = 1) (k : GG p l e R s m args below meth c nL A D D2 cells slots Qe ad N T I J Q (pc + 1) lv (va :: va :: st)) : GG p l e R s m args below meth c nL A D D2 cells slots Qe ad N T I J Q pc lv (va :: st) := fun H locs ls hW hA hS hl => lv_dup C.1 C.2.1 hdg hva (k H locs ls hW hA hS hl)
theorem g_pop (C : CX p s m args meth c cc nL own A D D2) {va : Value} (hdg : decode cc pc = .ok (.pop, 1)) (hva : va.category = 1) (k : GG p l e R s m args below meth c nL A D D2 cells slots Qe ad N T I J Q (pc + 1) lv (st)) : GG p l e R s m args below meth c nL A D D2 cells slots Qe ad N T I J Q pc lv (va :: st) := fun H locs ls hW hA hS hl => lv_pop C.1 C.2.1 hdg hva (k H locs ls hW hA hS hl)
theorem g_dup_x1 (C : CX p s m args meth c cc nL own A D D2) {va vb : Value} (hdg : decode cc pc = .ok (.dup_x1, 1)) (hva : va.category = 1) (hvb : vb.category = 1) (k : GG p l e R s m args below meth c nL A D D2 cells slots Qe ad N T I J Q (pc + 1) lv (va :: vb :: va :: st)) : GG p l e R s m args below meth c nL A D D2 cells slots Qe ad N T I J Q pc lv (va :: vb :: st) := fun H locs ls hW hA hS hl => lv_dup_x1 C.1 C.2.1 hdg hva hvb (k H locs ls hW hA hS hl)
theorem g_dup2 (C : CX p s m args meth c cc nL own A D D2) {va vb : Value} (hdg : decode cc pc = .ok (.dup2, 1)) (hva : va.category = 1) (hvb : vb.category = 1) (k : GG p l e R s m args below meth c nL A D D2 cells slots Qe ad N T I J Q (pc + 1) lv (va :: vb :: va :: vb :: st)) : GG p l e R s m args below meth c nL A D D2 cells slots Qe ad N T I J Q pc lv (va :: vb :: st) := fun H locs ls hW hA hS hl => lv_dup2_11 C.1 C.2.1 hdg hva hvb (k H locs ls hW hA hS hl)
theorem g_if_eq (C : CX p s m args meth c cc nL own A D D2) {x : Int32} {off : Int} {tgt : Nat} (hdg : decode cc pc = .ok (.ifCond .eq off, 3)) (ht : (pc : Int) + off = (tgt : Int)) (kt : x = 0 → GG p l e R s m args below meth c nL A D D2 cells slots Qe ad N T I J Q tgt lv (st)) (kf : ¬ x = 0 → GG p l e R s m args below meth c nL A D D2 cells slots Qe ad N T I J Q (pc + 3) lv (st)) : GG p l e R s m args below meth c nL A D D2 cells slots Qe ad N T I J Q pc lv (.int x :: st) := fun H locs ls hW hA hS hl => lv_if_eq C.1 C.2.1 hdg ht (fun h => kt h H locs ls hW hA hS hl) (fun h => kf h H locs ls hW hA hS hl)
theorem g_icmp_eq (C : CX p s m args meth c cc nL own A D D2) {x y : Int32} {off : Int} {tgt : Nat} (hdg : decode cc pc = .ok (.if_icmp .eq off, 3)) (ht : (pc : Int) + off = (tgt : Int)) (kt : x = y → GG p l e R s m args below meth c nL A D D2 cells slots Qe ad N T I J Q tgt lv (st)) (kf : ¬ x = y → GG p l e R s m args below meth c nL A D D2 cells slots Qe ad N T I J Q (pc + 3) lv (st)) : GG p l e R s m args below meth c nL A D D2 cells slots Qe ad N T I J Q pc lv (.int y :: .int x :: st) := fun H locs ls hW hA hS hl => lv_icmp_eq C.1 C.2.1 hdg ht (fun h => kt h H locs ls hW hA hS hl) (fun h => kf h H locs ls hW hA hS hl)
theorem g_if_ne (C : CX p s m args meth c cc nL own A D D2) {x : Int32} {off : Int} {tgt : Nat} (hdg : decode cc pc = .ok (.ifCond .ne off, 3)) (ht : (pc : Int) + off = (tgt : Int)) (kt : ¬ x = 0 → GG p l e R s m args below meth c nL A D D2 cells slots Qe ad N T I J Q tgt lv (st)) (kf : x = 0 → GG p l e R s m args below meth c nL A D D2 cells slots Qe ad N T I J Q (pc + 3) lv (st)) : GG p l e R s m args below meth c nL A D D2 cells slots Qe ad N T I J Q pc lv (.int x :: st) := fun H locs ls hW hA hS hl => lv_if_ne C.1 C.2.1 hdg ht (fun h => kt h H locs ls hW hA hS hl) (fun h => kf h H locs ls hW hA hS hl)
theorem g_icmp_ne (C : CX p s m args meth c cc nL own A D D2) {x y : Int32} {off : Int} {tgt : Nat} (hdg : decode cc pc = .ok (.if_icmp .ne off, 3)) (ht : (pc : Int) + off = (tgt : Int)) (kt : ¬ x = y → GG p l e R s m args below meth c nL A D D2 cells slots Qe ad N T I J Q tgt lv (st)) (kf : x = y → GG p l e R s m args below meth c nL A D D2 cells slots Qe ad N T I J Q (pc + 3) lv (st)) : GG p l e R s m args below meth c nL A D D2 cells slots Qe ad N T I J Q pc lv (.int y :: .int x :: st) := fun H locs ls hW hA hS hl => lv_icmp_ne C.1 C.2.1 hdg ht (fun h => kt h H locs ls hW hA hS hl) (fun h => kf h H locs ls hW hA hS hl)
theorem g_if_lt (C : CX p s m args meth c cc nL own A D D2) {x : Int32} {off : Int} {tgt : Nat} (hdg : decode cc pc = .ok (.ifCond .lt off, 3)) (ht : (pc : Int) + off = (tgt : Int)) (kt : x < 0 → GG p l e R s m args below meth c nL A D D2 cells slots Qe ad N T I J Q tgt lv (st)) (kf : ¬ x < 0 → GG p l e R s m args below meth c nL A D D2 cells slots Qe ad N T I J Q (pc + 3) lv (st)) : GG p l e R s m args below meth c nL A D D2 cells slots Qe ad N T I J Q pc lv (.int x :: st) := fun H locs ls hW hA hS hl => lv_if_lt C.1 C.2.1 hdg ht (fun h => kt h H locs ls hW hA hS hl) (fun h => kf h H locs ls hW hA hS hl)
theorem g_icmp_lt (C : CX p s m args meth c cc nL own A D D2) {x y : Int32} {off : Int} {tgt : Nat} (hdg : decode cc pc = .ok (.if_icmp .lt off, 3)) (ht : (pc : Int) + off = (tgt : Int)) (kt : x < y → GG p l e R s m args below meth c nL A D D2 cells slots Qe ad N T I J Q tgt lv (st)) (kf : ¬ x < y → GG p l e R s m args below meth c nL A D D2 cells slots Qe ad N T I J Q (pc + 3) lv (st)) : GG p l e R s m args below meth c nL A D D2 cells slots Qe ad N T I J Q pc lv (.int y :: .int x :: st) := fun H locs ls hW hA hS hl => lv_icmp_lt C.1 C.2.1 hdg ht (fun h => kt h H locs ls hW hA hS hl) (fun h => kf h H locs ls hW hA hS hl)
theorem g_if_ge (C : CX p s m args meth c cc nL own A D D2) {x : Int32} {off : Int} {tgt : Nat} (hdg : decode cc pc = .ok (.ifCond .ge off, 3)) (ht : (pc : Int) + off = (tgt : Int)) (kt : 0 ≤ x → GG p l e R s m args below meth c nL A D D2 cells slots Qe ad N T I J Q tgt lv (st)) (kf : ¬ 0 ≤ x → GG p l e R s m args below meth c nL A D D2 cells slots Qe ad N T I J Q (pc + 3) lv (st)) : GG p l e R s m args below meth c nL A D D2 cells slots Qe ad N T I J Q pc lv (.int x :: st) := fun H locs ls hW hA hS hl => lv_if_ge C.1 C.2.1 hdg ht (fun h => kt h H locs ls hW hA hS hl) (fun h => kf h H locs ls hW hA hS hl)
theorem g_icmp_ge (C : CX p s m args meth c cc nL own A D D2) {x y : Int32} {off : Int} {tgt : Nat} (hdg : decode cc pc = .ok (.if_icmp .ge off, 3)) (ht : (pc : Int) + off = (tgt : Int)) (kt : y ≤ x → GG p l e R s m args below meth c nL A D D2 cells slots Qe ad N T I J Q tgt lv (st)) (kf : ¬ y ≤ x → GG p l e R s m args below meth c nL A D D2 cells slots Qe ad N T I J Q (pc + 3) lv (st)) : GG p l e R s m args below meth c nL A D D2 cells slots Qe ad N T I J Q pc lv (.int y :: .int x :: st) := fun H locs ls hW hA hS hl => lv_icmp_ge C.1 C.2.1 hdg ht (fun h => kt h H locs ls hW hA hS hl) (fun h => kf h H locs ls hW hA hS hl)
theorem g_if_gt (C : CX p s m args meth c cc nL own A D D2) {x : Int32} {off : Int} {tgt : Nat} (hdg : decode cc pc = .ok (.ifCond .gt off, 3)) (ht : (pc : Int) + off = (tgt : Int)) (kt : 0 < x → GG p l e R s m args below meth c nL A D D2 cells slots Qe ad N T I J Q tgt lv (st)) (kf : ¬ 0 < x → GG p l e R s m args below meth c nL A D D2 cells slots Qe ad N T I J Q (pc + 3) lv (st)) : GG p l e R s m args below meth c nL A D D2 cells slots Qe ad N T I J Q pc lv (.int x :: st) := fun H locs ls hW hA hS hl => lv_if_gt C.1 C.2.1 hdg ht (fun h => kt h H locs ls hW hA hS hl) (fun h => kf h H locs ls hW hA hS hl)
theorem g_icmp_gt (C : CX p s m args meth c cc nL own A D D2) {x y : Int32} {off : Int} {tgt : Nat} (hdg : decode cc pc = .ok (.if_icmp .gt off, 3)) (ht : (pc : Int) + off = (tgt : Int)) (kt : y < x → GG p l e R s m args below meth c nL A D D2 cells slots Qe ad N T I J Q tgt lv (st)) (kf : ¬ y < x → GG p l e R s m args below meth c nL A D D2 cells slots Qe ad N T I J Q (pc + 3) lv (st)) : GG p l e R s m args below meth c nL A D D2 cells slots Qe ad N T I J Q pc lv (.int y :: .int x :: st) := fun H locs ls hW hA hS hl => lv_icmp_gt C.1 C.2.1 hdg ht (fun h => kt h H locs ls hW hA hS hl) (fun h => kf h H locs ls hW hA hS hl)
theorem g_if_le (C : CX p s m args meth c cc nL own A D D2) {x : Int32} {off : Int} {tgt : Nat} (hdg : decode cc pc = .ok (.ifCond .le off, 3)) (ht : (pc : Int) + off = (tgt : Int)) (kt : x ≤ 0 → GG p l e R s m args below meth c nL A D D2 cells slots Qe ad N T I J Q tgt lv (st)) (kf : ¬ x ≤ 0 → GG p l e R s m args below meth c nL A D D2 cells slots Qe ad N T I J Q (pc + 3) lv (st)) : GG p l e R s m args below meth c nL A D D2 cells slots Qe ad N T I J Q pc lv (.int x :: st) := fun H locs ls hW hA hS hl => lv_if_le C.1 C.2.1 hdg ht (fun h => kt h H locs ls hW hA hS hl) (fun h => kf h H locs ls hW hA hS hl)
theorem g_icmp_le (C : CX p s m args meth c cc nL own A D D2) {x y : Int32} {off : Int} {tgt : Nat} (hdg : decode cc pc = .ok (.if_icmp .le off, 3)) (ht : (pc : Int) + off = (tgt : Int)) (kt : x ≤ y → GG p l e R s m args below meth c nL A D D2 cells slots Qe ad N T I J Q tgt lv (st)) (kf : ¬ x ≤ y → GG p l e R s m args below meth c nL A D D2 cells slots Qe ad N T I J Q (pc + 3) lv (st)) : GG p l e R s m args below meth c nL A D D2 cells slots Qe ad N T I J Q pc lv (.int y :: .int x :: st) := fun H locs ls hW hA hS hl => lv_icmp_le C.1 C.2.1 hdg ht (fun h => kt h H locs ls hW hA hS hl) (fun h => kf h H locs ls hW hA hS hl)
theorem g_goto (C : CX p s m args meth c cc nL own A D D2) {off : Int} {tgt : Nat} (hdg : decode cc pc = .ok (.goto off, 3)) (ht : (pc : Int) + off = (tgt : Int)) (k : GG p l e R s m args below meth c nL A D D2 cells slots Qe ad N T I J Q tgt lv (st)) : GG p l e R s m args below meth c nL A D D2 cells slots Qe ad N T I J Q pc lv (st) := fun H locs ls hW hA hS hl => lv_goto C.1 C.2.1 hdg ht (k H locs ls hW hA hS hl)
theorem g_tableIn (C : CX p s m args meth c cc nL own A D D2) {dflt lo hi : Int} {offs : Array Int} {len : Nat} {x : Int32} {off : Int} {tgt : Nat} (hdg : decode cc pc = .ok (.tableswitch dflt lo hi offs, len)) (h1 : ¬ x.toInt < lo) (h2 : ¬ hi < x.toInt) (ho : offs[(x.toInt - lo).toNat]? = some off) (ht : (pc : Int) + off = (tgt : Int)) (k : GG p l e R s m args below meth c nL A D D2 cells slots Qe ad N T I J Q tgt lv (st)) : GG p l e R s m args below meth c nL A D D2 cells slots Qe ad N T I J Q pc lv (.int x :: st) := fun H locs ls hW hA hS hl => lv_tableIn C.1 C.2.1 hdg h1 h2 ho ht (k H locs ls hW hA hS hl)
theorem g_tableOut (C : CX p s m args meth c cc nL own A D D2) {dflt lo hi : Int} {offs : Array Int} {len : Nat} {x : Int32} {tgt : Nat} (hdg : decode cc pc = .ok (.tableswitch dflt lo hi offs, len)) (h : x.toInt < lo ∨ hi < x.toInt) (ht : (pc : Int) + dflt = (tgt : Int)) (k : GG p l e R s m args below meth c nL A D D2 cells slots Qe ad N T I J Q tgt lv (st)) : GG p l e R s m args below meth c nL A D D2 cells slots Qe ad N T I J Q pc lv (.int x :: st) := fun H locs ls hW hA hS hl => lv_tableOut C.1 C.2.1 hdg h ht (k H locs ls hW hA hS hl)
theorem g_lookup (C : CX p s m args meth c cc nL own A D D2) {dflt : Int} {ps : Array (Int × Int)} {len : Nat} {x : Int32} {off : Int} {tgt : Nat} (hdg : decode cc pc = .ok (.lookupswitch dflt ps, len)) (hp : (ps.toList.zip (ps.toList.drop 1)).all (fun (a, next) => a.1 < next.1) = true) (ho : Op.lookupswitch.offset ps.toList dflt x.toInt = off) (ht : (pc : Int) + off = (tgt : Int)) (k : GG p l e R s m args below meth c nL A D D2 cells slots Qe ad N T I J Q tgt lv (st)) : GG p l e R s m args below meth c nL A D D2 cells slots Qe ad N T I J Q pc lv (.int x :: st) := fun H locs ls hW hA hS hl => lv_lookup C.1 C.2.1 hdg hp ho ht (k H locs ls hW hA hS hl)
theorem g_lcmp (C : CX p s m args meth c cc nL own A D D2) {x y : Int64} (hdg : decode cc pc = .ok (.lcmp, 1)) (k : GG p l e R s m args below meth c nL A D D2 cells slots Qe ad N T I J Q (pc + 1) lv (.int (lg_cmp x y) :: st)) : GG p l e R s m args below meth c nL A D D2 cells slots Qe ad N T I J Q pc lv (.long y :: .long x :: st) := fun H locs ls hW hA hS hl => W.lcmp C.1 C.2.1 hdg (k H locs ls hW hA hS hl)
theorem g_getI (C : CX p s m args meth c cc nL own A D D2) {index ci j k n0 : Nat} (hdg : decode cc pc = .ok (.getfield index, 3)) (hL : Lf own index ci j 0) (hz : OKr Z N T k (ci, n0)) (kk : GG p l e R s m args below meth c nL A D D2 cells slots Qe ad N T I J Q (pc + 3) lv (.int (I k j) :: st)) : GG p l e R s m args below meth c nL A D D2 cells slots Qe ad N T I J Q pc lv (.ref (ad k) :: st) := by
  intro H locs ls hW hA hS hl
  obtain ⟨C9, T9, n9, h1, hci, h2, h3, h4, h5, h6, h7⟩ := hL
  have he : (wl D2 ad N T I J Q)[k]? = some (ad k, .inr (ci, fl ad (I k) (J k) (Q k) (fk ci) 0)) := by
    rw [wl_at hz.2.1, hz.2.2]; simp [en, hci]
  have hv : (fl ad (I k) (J k) (Q k) (fk ci) 0)[j]? = some (.int (I k j)) := by
    rw [fl_get, h4]; simp [fv]
  have hlk := Lf.lk (index := index) (ci := ci) (j := j) (t := 0) C.2.2.2.2.1 C.2.2.2.2.2.1 h7
  rcases hlk with hlk | ⟨h8, hlk⟩
  · exact va_get C.1 C.2.1 C.2.2.2.2.1 h2 C.2.2.2.1 C.2.2.2.2.2.1.1 hW k he h1 j h3 hlk (by rw [h6]; exact fun _ h => h) hv hdg (kk H locs ls hW hA hS hl)
  · exact va_getN C.1 C.2.1 C.2.2.2.2.1 h2 C.2.2.2.1 C.2.2.2.2.2.1.1 hW k he h1 j h3 hlk (by rw [h6]; exact fun _ h => h) hv hdg (kk H locs ls hW hA hS hl)
theorem g_getJ (C : CX p s m args meth c cc nL own A D D2) {index ci j k n0 : Nat} (hdg : decode cc pc = .ok (.getfield index, 3)) (hL : Lf own index ci j 1) (hz : OKr Z N T k (ci, n0)) (kk : GG p l e R s m args below meth c nL A D D2 cells slots Qe ad N T I J Q (pc + 3) lv (.long (J k j) :: st)) : GG p l e R s m args below meth c nL A D D2 cells slots Qe ad N T I J Q pc lv (.ref (ad k) :: st) := by
  intro H locs ls hW hA hS hl
  obtain ⟨C9, T9, n9, h1, hci, h2, h3, h4, h5, h6, h7⟩ := hL
  have he : (wl D2 ad N T I J Q)[k]? = some (ad k, .inr (ci, fl ad (I k) (J k) (Q k) (fk ci) 0)) := by
    rw [wl_at hz.2.1, hz.2.2]; simp [en, hci]
  have hv : (fl ad (I k) (J k) (Q k) (fk ci) 0)[j]? = some (.long (J k j)) := by
    rw [fl_get, h4]; simp [fv]
  have hlk := Lf.lk (index := index) (ci := ci) (j := j) (t := 1) C.2.2.2.2.1 C.2.2.2.2.2.1 h7
  rcases hlk with hlk | ⟨h8, hlk⟩
  · exact va_get C.1 C.2.1 C.2.2.2.2.1 h2 C.2.2.2.1 C.2.2.2.2.2.1.1 hW k he h1 j h3 hlk (by rw [h6]; exact fun _ h => h) hv hdg (kk H locs ls hW hA hS hl)
  · exact va_getN C.1 C.2.1 C.2.2.2.2.1 h2 C.2.2.2.1 C.2.2.2.2.2.1.1 hW k he h1 j h3 hlk (by rw [h6]; exact fun _ h => h) hv hdg (kk H locs ls hW hA hS hl)
theorem g_getQ (C : CX p s m args meth c cc nL own A D D2) {index ci j k n0 : Nat} (hdg : decode cc pc = .ok (.getfield index, 3)) (hL : Lf own index ci j 2) (hz : OKr Z N T k (ci, n0)) (hq : Q k j = some (rq Q k j)) (kk : GG p l e R s m args below meth c nL A D D2 cells slots Qe ad N T I J Q (pc + 3) lv (.ref (ad (rq Q k j)) :: st)) : GG p l e R s m args below meth c nL A D D2 cells slots Qe ad N T I J Q pc lv (.ref (ad k) :: st) := by
  intro H locs ls hW hA hS hl
  obtain ⟨C9, T9, n9, h1, hci, h2, h3, h4, h5, h6, h7⟩ := hL
  have he : (wl D2 ad N T I J Q)[k]? = some (ad k, .inr (ci, fl ad (I k) (J k) (Q k) (fk ci) 0)) := by
    rw [wl_at hz.2.1, hz.2.2]; simp [en, hci]
  have hv : (fl ad (I k) (J k) (Q k) (fk ci) 0)[j]? = some (.ref (ad (rq Q k j))) := by
    rw [fl_get, h4]; simp [fv, hq, va_rf]
  have hlk := Lf.lk (index := index) (ci := ci) (j := j) (t := 2) C.2.2.2.2.1 C.2.2.2.2.2.1 h7
  rcases hlk with hlk | ⟨h8, hlk⟩
  · exact va_get C.1 C.2.1 C.2.2.2.2.1 h2 C.2.2.2.1 C.2.2.2.2.2.1.1 hW k he h1 j h3 hlk (by rw [h6]; exact fun _ h => h) hv hdg (kk H locs ls hW hA hS hl)
  · exact va_getN C.1 C.2.1 C.2.2.2.2.1 h2 C.2.2.2.1 C.2.2.2.2.2.1.1 hW k he h1 j h3 hlk (by rw [h6]; exact fun _ h => h) hv hdg (kk H locs ls hW hA hS hl)
theorem g_putI (C : CX p s m args meth c cc nL own A D D2) {index ci j k n0 : Nat} {x : Int32} (hdg : decode cc pc = .ok (.putfield index, 3)) (hL : Lp own index ci j 0 .int false) (hz : OKr Z N T k (ci, n0)) (kk : GG p l e R s m args below meth c nL A D D2 cells slots Qe ad N T (sti I k j x) J Q (pc + 3) lv (st)) : GG p l e R s m args below meth c nL A D D2 cells slots Qe ad N T I J Q pc lv (.int x :: .ref (ad k) :: st) := by
  intro H locs ls hW hA hS hl
  obtain ⟨C9, T9, n9, ty9, h1, hci, h2, h3, h4, h5, h6, h7, h9, h10, h11, h12, h13⟩ := hL
  have he : (wl D2 ad N T I J Q)[k]? = some (ad k, .inr (ci, fl ad (I k) (J k) (Q k) (fk ci) 0)) := by
    rw [wl_at hz.2.1, hz.2.2]; simp [en, hci]
  have hs : (fl ad (I k) (J k) (Q k) (fk ci) 0).set j (.int x) = fl ad ((sti I k j x) k) (J k) (Q k) (fk ci) 0 := by
    refine fl_set h4 ?_ ?_ ?_ ?_
    · simp [fv, sti, stj, upk, upd, vp_updL, va_up, va_rf]
    all_goals (intro i hi; simp [sti, stj, upk, upd, vp_updL, va_up, hi])
  have hw2 : (wl D2 ad N T I J Q).set k (ad k, .inr (ci, (fl ad (I k) (J k) (Q k) (fk ci) 0).set j (.int x))) = wl D2 ad N T (sti I k j x) J Q := by
    rw [hs]
    refine wl_set hz.2.1 (by rw [hz.2.2]; simp [en, hci]) ?_ ?_ ?_
    all_goals (intro i hi; simp [sti, stj, stq, cpi, cpj, upk, hi])
  have hll : j < (fl ad (I k) (J k) (Q k) (fk ci) 0).length := by rw [fl_len, h5]; exact h3
  have hlk := Lf.lk (index := index) (ci := ci) (j := j) (t := 0) C.2.2.2.2.1 C.2.2.2.2.2.1 h7
  rcases hlk with hlk | ⟨h8, hlk⟩
  · refine va_put C.1 C.2.1 C.2.2.2.2.1 h2 ty9 h9 h10 C.2.2.2.1 C.2.2.2.2.2.1.1 hW (hA.D D2 T I J Q) hS k he h1 j h3 hlk (by rw [h6]; exact fun _ h => h) h11 h12 rfl rfl hll hdg (fun H1 locs1 a1 a2 a3 => ?_)
    rw [hw2] at a1
    exact kk H1 locs1 ls a1 hA a3 hl
  · refine va_putN C.1 C.2.1 C.2.2.2.2.1 h2 ty9 h9 h10 C.2.2.2.1 C.2.2.2.2.2.1.1 hW (hA.D D2 T I J Q) hS k he h1 j h3 hlk (by rw [h6]; exact fun _ h => h) h11 h12 rfl rfl hll hdg (fun H1 locs1 a1 a2 a3 => ?_)
    rw [hw2] at a1
    exact kk H1 locs1 ls a1 hA a3 hl
theorem g_putZ (C : CX p s m args meth c cc nL own A D D2) {index ci j k n0 : Nat} {x : Int32} (hdg : decode cc pc = .ok (.putfield index, 3)) (hL : Lp own index ci j 0 .boolean false) (hz : OKr Z N T k (ci, n0)) (hx : narrow .boolean (.int x) = .int x) (hx2 : fits .boolean (.int x) = true) (kk : GG p l e R s m args below meth c nL A D D2 cells slots Qe ad N T (sti I k j x) J Q (pc + 3) lv (st)) : GG p l e R s m args below meth c nL A D D2 cells slots Qe ad N T I J Q pc lv (.int x :: .ref (ad k) :: st) := by
  intro H locs ls hW hA hS hl
  obtain ⟨C9, T9, n9, ty9, h1, hci, h2, h3, h4, h5, h6, h7, h9, h10, h11, h12, h13⟩ := hL
  have he : (wl D2 ad N T I J Q)[k]? = some (ad k, .inr (ci, fl ad (I k) (J k) (Q k) (fk ci) 0)) := by
    rw [wl_at hz.2.1, hz.2.2]; simp [en, hci]
  have hs : (fl ad (I k) (J k) (Q k) (fk ci) 0).set j (.int x) = fl ad ((sti I k j x) k) (J k) (Q k) (fk ci) 0 := by
    refine fl_set h4 ?_ ?_ ?_ ?_
    · simp [fv, sti, stj, upk, upd, vp_updL, va_up, va_rf]
    all_goals (intro i hi; simp [sti, stj, upk, upd, vp_updL, va_up, hi])
  have hw2 : (wl D2 ad N T I J Q).set k (ad k, .inr (ci, (fl ad (I k) (J k) (Q k) (fk ci) 0).set j (.int x))) = wl D2 ad N T (sti I k j x) J Q := by
    rw [hs]
    refine wl_set hz.2.1 (by rw [hz.2.2]; simp [en, hci]) ?_ ?_ ?_
    all_goals (intro i hi; simp [sti, stj, stq, cpi, cpj, upk, hi])
  have hll : j < (fl ad (I k) (J k) (Q k) (fk ci) 0).length := by rw [fl_len, h5]; exact h3
  have hlk := Lf.lk (index := index) (ci := ci) (j := j) (t := 0) C.2.2.2.2.1 C.2.2.2.2.2.1 h7
  rcases hlk with hlk | ⟨h8, hlk⟩
  · refine va_put C.1 C.2.1 C.2.2.2.2.1 h2 ty9 h9 h10 C.2.2.2.1 C.2.2.2.2.2.1.1 hW (hA.D D2 T I J Q) hS k he h1 j h3 hlk (by rw [h6]; exact fun _ h => h) h11 h12 hx hx2 hll hdg (fun H1 locs1 a1 a2 a3 => ?_)
    rw [hw2] at a1
    exact kk H1 locs1 ls a1 hA a3 hl
  · refine va_putN C.1 C.2.1 C.2.2.2.2.1 h2 ty9 h9 h10 C.2.2.2.1 C.2.2.2.2.2.1.1 hW (hA.D D2 T I J Q) hS k he h1 j h3 hlk (by rw [h6]; exact fun _ h => h) h11 h12 hx hx2 hll hdg (fun H1 locs1 a1 a2 a3 => ?_)
    rw [hw2] at a1
    exact kk H1 locs1 ls a1 hA a3 hl
theorem g_putJ (C : CX p s m args meth c cc nL own A D D2) {index ci j k n0 : Nat} {x : Int64} (hdg : decode cc pc = .ok (.putfield index, 3)) (hL : Lp own index ci j 1 .long false) (hz : OKr Z N T k (ci, n0)) (kk : GG p l e R s m args below meth c nL A D D2 cells slots Qe ad N T I (stj J k j x) Q (pc + 3) lv (st)) : GG p l e R s m args below meth c nL A D D2 cells slots Qe ad N T I J Q pc lv (.long x :: .ref (ad k) :: st) := by
  intro H locs ls hW hA hS hl
  obtain ⟨C9, T9, n9, ty9, h1, hci, h2, h3, h4, h5, h6, h7, h9, h10, h11, h12, h13⟩ := hL
  have he : (wl D2 ad N T I J Q)[k]? = some (ad k, .inr (ci, fl ad (I k) (J k) (Q k) (fk ci) 0)) := by
    rw [wl_at hz.2.1, hz.2.2]; simp [en, hci]
  have hs : (fl ad (I k) (J k) (Q k) (fk ci) 0).set j (.long x) = fl ad (I k) ((stj J k j x) k) (Q k) (fk ci) 0 := by
    refine fl_set h4 ?_ ?_ ?_ ?_
    · simp [fv, sti, stj, upk, upd, vp_updL, va_up, va_rf]
    all_goals (intro i hi; simp [sti, stj, upk, upd, vp_updL, va_up, hi])
  have hw2 : (wl D2 ad N T I J Q).set k (ad k, .inr (ci, (fl ad (I k) (J k) (Q k) (fk ci) 0).set j (.long x))) = wl D2 ad N T I (stj J k j x) Q := by
    rw [hs]
    refine wl_set hz.2.1 (by rw [hz.2.2]; simp [en, hci]) ?_ ?_ ?_
    all_goals (intro i hi; simp [sti, stj, stq, cpi, cpj, upk, hi])
  have hll : j < (fl ad (I k) (J k) (Q k) (fk ci) 0).length := by rw [fl_len, h5]; exact h3
  have hlk := Lf.lk (index := index) (ci := ci) (j := j) (t := 1) C.2.2.2.2.1 C.2.2.2.2.2.1 h7
  rcases hlk with hlk | ⟨h8, hlk⟩
  · refine va_put C.1 C.2.1 C.2.2.2.2.1 h2 ty9 h9 h10 C.2.2.2.1 C.2.2.2.2.2.1.1 hW (hA.D D2 T I J Q) hS k he h1 j h3 hlk (by rw [h6]; exact fun _ h => h) h11 h12 rfl rfl hll hdg (fun H1 locs1 a1 a2 a3 => ?_)
    rw [hw2] at a1
    exact kk H1 locs1 ls a1 hA a3 hl
  · refine va_putN C.1 C.2.1 C.2.2.2.2.1 h2 ty9 h9 h10 C.2.2.2.1 C.2.2.2.2.2.1.1 hW (hA.D D2 T I J Q) hS k he h1 j h3 hlk (by rw [h6]; exact fun _ h => h) h11 h12 rfl rfl hll hdg (fun H1 locs1 a1 a2 a3 => ?_)
    rw [hw2] at a1
    exact kk H1 locs1 ls a1 hA a3 hl
theorem g_iald (C : CX p s m args meth c cc nL own A D D2) {k n : Nat} {i : Int32} (hdg : decode cc pc = .ok (.iaload, 1)) (hz : OKr Z N T k (20, n)) (hin : vp_in i n) (kk : GG p l e R s m args below meth c nL A D D2 cells slots Qe ad N T I J Q (pc + 1) lv (.int (I k i.toNatClampNeg) :: st)) : GG p l e R s m args below meth c nL A D D2 cells slots Qe ad N T I J Q pc lv (.int i :: .ref (ad k) :: st) := by
  intro H locs ls hW hA hS hl
  have he : (wl D2 ad N T I J Q)[k]? = some (ad k, .inl (D2 20, n, .inl (I k))) := by
    rw [wl_at hz.2.1, hz.2.2]; rfl
  exact va_iald C.1 C.2.1 C.2.2.2.2.2.1.1 hW k 0 he rfl hin hdg (kk H locs ls hW hA hS hl)
theorem g_zald (C : CX p s m args meth c cc nL own A D D2) {k n : Nat} {i : Int32} (hdg : decode cc pc = .ok (.baload, 1)) (hz : OKr Z N T k (21, n)) (hin : vp_in i n) (kk : GG p l e R s m args below meth c nL A D D2 cells slots Qe ad N T I J Q (pc + 1) lv (.int (I k i.toNatClampNeg) :: st)) : GG p l e R s m args below meth c nL A D D2 cells slots Qe ad N T I J Q pc lv (.int i :: .ref (ad k) :: st) := by
  intro H locs ls hW hA hS hl
  have he : (wl D2 ad N T I J Q)[k]? = some (ad k, .inl (D2 21, n, .inl (I k))) := by
    rw [wl_at hz.2.1, hz.2.2]; rfl
  exact va_zald C.1 C.2.1 C.2.2.2.2.2.1.1 hW k 1 he rfl hin hdg (kk H locs ls hW hA hS hl)
theorem g_cald (C : CX p s m args meth c cc nL own A D D2) {k n : Nat} {i : Int32} (hdg : decode cc pc = .ok (.caload, 1)) (hz : OKr Z N T k (22, n)) (hin : vp_in i n) (kk : GG p l e R s m args below meth c nL A D D2 cells slots Qe ad N T I J Q (pc + 1) lv (.int (I k i.toNatClampNeg) :: st)) : GG p l e R s m args below meth c nL A D D2 cells slots Qe ad N T I J Q pc lv (.int i :: .ref (ad k) :: st) := by
  intro H locs ls hW hA hS hl
  have he : (wl D2 ad N T I J Q)[k]? = some (ad k, .inl (D2 22, n, .inl (I k))) := by
    rw [wl_at hz.2.1, hz.2.2]; rfl
  exact va_cald C.1 C.2.1 C.2.2.2.2.2.1.1 hW k 2 he rfl hin hdg (kk H locs ls hW hA hS hl)
theorem g_lald (C : CX p s m args meth c cc nL own A D D2) {k n : Nat} {i : Int32} (hdg : decode cc pc = .ok (.laload, 1)) (hz : OKr Z N T k (23, n)) (hin : vp_in i n) (kk : GG p l e R s m args below meth c nL A D D2 cells slots Qe ad N T I J Q (pc + 1) lv (.long (J k i.toNatClampNeg) :: st)) : GG p l e R s m args below meth c nL A D D2 cells slots Qe ad N T I J Q pc lv (.int i :: .ref (ad k) :: st) := by
  intro H locs ls hW hA hS hl
  have he : (wl D2 ad N T I J Q)[k]? = some (ad k, .inl (D2 23, n, .inr (.inl (J k)))) := by
    rw [wl_at hz.2.1, hz.2.2]; rfl
  exact va_lald C.1 C.2.1 C.2.2.2.2.2.1.1 hW k 3 he rfl hin hdg (kk H locs ls hW hA hS hl)
theorem g_iast (C : CX p s m args meth c cc nL own A D D2) {k n : Nat} {i : Int32} {x : Int32} (hdg : decode cc pc = .ok (.iastore, 1)) (hz : OKr Z N T k (20, n)) (hin : vp_in i n) (kk : GG p l e R s m args below meth c nL A D D2 cells slots Qe ad N T (sti I k i.toNatClampNeg x) J Q (pc + 1) lv (st)) : GG p l e R s m args below meth c nL A D D2 cells slots Qe ad N T I J Q pc lv (.int x :: .int i :: .ref (ad k) :: st) := by
  intro H locs ls hW hA hS hl
  have he : (wl D2 ad N T I J Q)[k]? = some (ad k, .inl (D2 20, n, .inl (I k))) := by
    rw [wl_at hz.2.1, hz.2.2]; rfl
  have hw2 : (wl D2 ad N T I J Q).set k (ad k, .inl (D2 20, n, .inl (upd (I k) i.toNatClampNeg x))) = wl D2 ad N T (sti I k i.toNatClampNeg x) J Q := by
    refine wl_set hz.2.1 (by rw [hz.2.2]; simp [en, el, sti, stj, stq, cpi, cpj, upk]) ?_ ?_ ?_
    all_goals (intro i hi; simp [sti, stj, stq, cpi, cpj, upk, hi])
  refine va_iast C.1 C.2.1 C.2.2.2.2.2.1.1 hW (hA.D D2 T I J Q) hS k 0 he rfl hin hdg (fun H1 locs1 a1 a2 a3 => ?_)
  rw [hw2] at a1
  exact kk H1 locs1 ls a1 hA a3 hl
theorem g_zast (C : CX p s m args meth c cc nL own A D D2) {k n : Nat} {i : Int32} {x : Int32} (hdg : decode cc pc = .ok (.bastore, 1)) (hz : OKr Z N T k (21, n)) (hin : vp_in i n) (kk : GG p l e R s m args below meth c nL A D D2 cells slots Qe ad N T (sti I k i.toNatClampNeg (vp_nar .boolean x)) J Q (pc + 1) lv (st)) : GG p l e R s m args below meth c nL A D D2 cells slots Qe ad N T I J Q pc lv (.int x :: .int i :: .ref (ad k) :: st) := by
  intro H locs ls hW hA hS hl
  have he : (wl D2 ad N T I J Q)[k]? = some (ad k, .inl (D2 21, n, .inl (I k))) := by
    rw [wl_at hz.2.1, hz.2.2]; rfl
  have hw2 : (wl D2 ad N T I J Q).set k (ad k, .inl (D2 21, n, .inl (upd (I k) i.toNatClampNeg (vp_nar .boolean x)))) = wl D2 ad N T (sti I k i.toNatClampNeg (vp_nar .boolean x)) J Q := by
    refine wl_set hz.2.1 (by rw [hz.2.2]; simp [en, el, sti, stj, stq, cpi, cpj, upk]) ?_ ?_ ?_
    all_goals (intro i hi; simp [sti, stj, stq, cpi, cpj, upk, hi])
  refine va_zast C.1 C.2.1 C.2.2.2.2.2.1.1 hW (hA.D D2 T I J Q) hS k 1 he rfl hin hdg (fun H1 locs1 a1 a2 a3 => ?_)
  rw [hw2] at a1
  exact kk H1 locs1 ls a1 hA a3 hl
theorem g_cast (C : CX p s m args meth c cc nL own A D D2) {k n : Nat} {i : Int32} {x : Int32} (hdg : decode cc pc = .ok (.castore, 1)) (hz : OKr Z N T k (22, n)) (hin : vp_in i n) (kk : GG p l e R s m args below meth c nL A D D2 cells slots Qe ad N T (sti I k i.toNatClampNeg (vp_nar .char x)) J Q (pc + 1) lv (st)) : GG p l e R s m args below meth c nL A D D2 cells slots Qe ad N T I J Q pc lv (.int x :: .int i :: .ref (ad k) :: st) := by
  intro H locs ls hW hA hS hl
  have he : (wl D2 ad N T I J Q)[k]? = some (ad k, .inl (D2 22, n, .inl (I k))) := by
    rw [wl_at hz.2.1, hz.2.2]; rfl
  have hw2 : (wl D2 ad N T I J Q).set k (ad k, .inl (D2 22, n, .inl (upd (I k) i.toNatClampNeg (vp_nar .char x)))) = wl D2 ad N T (sti I k i.toNatClampNeg (vp_nar .char x)) J Q := by
    refine wl_set hz.2.1 (by rw [hz.2.2]; simp [en, el, sti, stj, stq, cpi, cpj, upk]) ?_ ?_ ?_
    all_goals (intro i hi; simp [sti, stj, stq, cpi, cpj, upk, hi])
  refine va_cast C.1 C.2.1 C.2.2.2.2.2.1.1 hW (hA.D D2 T I J Q) hS k 2 he rfl hin hdg (fun H1 locs1 a1 a2 a3 => ?_)
  rw [hw2] at a1
  exact kk H1 locs1 ls a1 hA a3 hl
theorem g_last (C : CX p s m args meth c cc nL own A D D2) {k n : Nat} {i : Int32} {x : Int64} (hdg : decode cc pc = .ok (.lastore, 1)) (hz : OKr Z N T k (23, n)) (hin : vp_in i n) (kk : GG p l e R s m args below meth c nL A D D2 cells slots Qe ad N T I (stj J k i.toNatClampNeg x) Q (pc + 1) lv (st)) : GG p l e R s m args below meth c nL A D D2 cells slots Qe ad N T I J Q pc lv (.long x :: .int i :: .ref (ad k) :: st) := by
  intro H locs ls hW hA hS hl
  have he : (wl D2 ad N T I J Q)[k]? = some (ad k, .inl (D2 23, n, .inr (.inl (J k)))) := by
    rw [wl_at hz.2.1, hz.2.2]; rfl
  have hw2 : (wl D2 ad N T I J Q).set k (ad k, .inl (D2 23, n, .inr (.inl (vp_updL (J k) i.toNatClampNeg x)))) = wl D2 ad N T I (stj J k i.toNatClampNeg x) Q := by
    refine wl_set hz.2.1 (by rw [hz.2.2]; simp [en, el, sti, stj, stq, cpi, cpj, upk]) ?_ ?_ ?_
    all_goals (intro i hi; simp [sti, stj, stq, cpi, cpj, upk, hi])
  refine va_last C.1 C.2.1 C.2.2.2.2.2.1.1 hW (hA.D D2 T I J Q) hS k 3 he rfl hin hdg (fun H1 locs1 a1 a2 a3 => ?_)
  rw [hw2] at a1
  exact kk H1 locs1 ls a1 hA a3 hl
theorem g_aaldS (C : CX p s m args meth c cc nL own A D D2) {k n : Nat} {i : Int32} (hdg : decode cc pc = .ok (.aaload, 1)) (hz : OKr Z N T k (24, n)) (hin : vp_in i n) (hq : Q k i.toNatClampNeg = some (rq Q k i.toNatClampNeg)) (kk : GG p l e R s m args below meth c nL A D D2 cells slots Qe ad N T I J Q (pc + 1) lv (.ref (ad (rq Q k i.toNatClampNeg)) :: st)) : GG p l e R s m args below meth c nL A D D2 cells slots Qe ad N T I J Q pc lv (.int i :: .ref (ad k) :: st) := by
  intro H locs ls hW hA hS hl
  have he : (wl D2 ad N T I J Q)[k]? = some (ad k, .inl (D2 24, n, .inr (.inr (.inr (.inr (fun j => (Q k j).map ad)))))) := by
    rw [wl_at hz.2.1, hz.2.2]; rfl
  refine va_aldq C.1 C.2.1 C.2.2.2.2.2.1.1 hW k 4 he rfl hin hdg ?_
  rw [show va_rf ((fun j => (Q k j).map ad) i.toNatClampNeg) = .ref (ad (rq Q k i.toNatClampNeg)) by simp only [hq]; rfl]
  exact kk H locs ls hW hA hS hl
theorem g_aaldN (C : CX p s m args meth c cc nL own A D D2) {k n : Nat} {i : Int32} (hdg : decode cc pc = .ok (.aaload, 1)) (hz : OKr Z N T k (25, n)) (hin : vp_in i n) (hq : Q k i.toNatClampNeg = some (rq Q k i.toNatClampNeg)) (kk : GG p l e R s m args below meth c nL A D D2 cells slots Qe ad N T I J Q (pc + 1) lv (.ref (ad (rq Q k i.toNatClampNeg)) :: st)) : GG p l e R s m args below meth c nL A D D2 cells slots Qe ad N T I J Q pc lv (.int i :: .ref (ad k) :: st) := by
  intro H locs ls hW hA hS hl
  have he : (wl D2 ad N T I J Q)[k]? = some (ad k, .inl (D2 25, n, .inr (.inr (.inr (.inr (fun j => (Q k j).map ad)))))) := by
    rw [wl_at hz.2.1, hz.2.2]; rfl
  refine va_aldq C.1 C.2.1 C.2.2.2.2.2.1.1 hW k 5 he rfl hin hdg ?_
  rw [show va_rf ((fun j => (Q k j).map ad) i.toNatClampNeg) = .ref (ad (rq Q k i.toNatClampNeg)) by simp only [hq]; rfl]
  exact kk H locs ls hW hA hS hl
theorem g_aaldR (C : CX p s m args meth c cc nL own A D D2) {k n : Nat} {i : Int32} (hdg : decode cc pc = .ok (.aaload, 1)) (hz : OKr Z N T k (26, n)) (hin : vp_in i n) (hq : Q k i.toNatClampNeg = some (rq Q k i.toNatClampNeg)) (kk : GG p l e R s m args below meth c nL A D D2 cells slots Qe ad N T I J Q (pc + 1) lv (.ref (ad (rq Q k i.toNatClampNeg)) :: st)) : GG p l e R s m args below meth c nL A D D2 cells slots Qe ad N T I J Q pc lv (.int i :: .ref (ad k) :: st) := by
  intro H locs ls hW hA hS hl
  have he : (wl D2 ad N T I J Q)[k]? = some (ad k, .inl (D2 26, n, .inr (.inr (.inr (.inr (fun j => (Q k j).map ad)))))) := by
    rw [wl_at hz.2.1, hz.2.2]; rfl
  refine va_aldq C.1 C.2.1 C.2.2.2.2.2.1.1 hW k 6 he rfl hin hdg ?_
  rw [show va_rf ((fun j => (Q k j).map ad) i.toNatClampNeg) = .ref (ad (rq Q k i.toNatClampNeg)) by simp only [hq]; rfl]
  exact kk H locs ls hW hA hS hl
theorem g_aastS (C : CX p s m args meth c cc nL own A D D2) {k n k1 : Nat} {i : Int32} (hdg : decode cc pc = .ok (.aastore, 1)) (hz : OKr Z N T k (24, n)) (hz1 : OKr Z N T k1 (7, 0)) (hin : vp_in i n) (kk : GG p l e R s m args below meth c nL A D D2 cells slots Qe ad N T I J (stq Q k i.toNatClampNeg k1) (pc + 1) lv (st)) : GG p l e R s m args below meth c nL A D D2 cells slots Qe ad N T I J Q pc lv (.ref (ad k1) :: .int i :: .ref (ad k) :: st) := by
  intro H locs ls hW hA hS hl
  have he : (wl D2 ad N T I J Q)[k]? = some (ad k, .inl (D2 24, n, .inr (.inr (.inr (.inr (fun j => (Q k j).map ad)))))) := by
    rw [wl_at hz.2.1, hz.2.2]; rfl
  have he1 : (wl D2 ad N T I J Q)[k1]? = some (ad k1, .inr (7, fl ad (I k1) (J k1) (Q k1) (fk 7) 0)) := by
    rw [wl_at hz1.2.1, hz1.2.2]; rfl
  have hf : va_up (fun j => (Q k j).map ad) i.toNatClampNeg (some (ad k1)) = fun j => (va_up (Q k) i.toNatClampNeg (some k1) j).map ad := by
    funext j
    by_cases hj : j = i.toNatClampNeg <;> simp [va_up, hj]
  have hw2 : (wl D2 ad N T I J Q).set k (ad k, .inl (D2 24, n, .inr (.inr (.inr (.inr (va_up (fun j => (Q k j).map ad) i.toNatClampNeg (some (ad k1)))))))) = wl D2 ad N T I J (stq Q k i.toNatClampNeg k1) := by
    rw [hf]
    refine wl_set hz.2.1 (by rw [hz.2.2]; simp [en, el, sti, stj, stq, cpi, cpj, upk]) ?_ ?_ ?_
    all_goals (intro i hi; simp [sti, stj, stq, cpi, cpj, upk, hi])
  refine va_astq C.1 C.2.1 C.2.2.2.2.2.1.1 hW (hA.D D2 T I J Q) hS k 4 k1 7 he rfl he1 rfl hin hdg (fun H1 locs1 a1 a2 a3 => ?_)
  rw [hw2] at a1
  exact kk H1 locs1 ls a1 hA a3 hl
theorem g_aastN (C : CX p s m args meth c cc nL own A D D2) {k n k1 : Nat} {i : Int32} (hdg : decode cc pc = .ok (.aastore, 1)) (hz : OKr Z N T k (25, n)) (hz1 : OKr Z N T k1 (1, 0)) (hin : vp_in i n) (kk : GG p l e R s m args below meth c nL A D D2 cells slots Qe ad N T I J (stq Q k i.toNatClampNeg k1) (pc + 1) lv (st)) : GG p l e R s m args below meth c nL A D D2 cells slots Qe ad N T I J Q pc lv (.ref (ad k1) :: .int i :: .ref (ad k) :: st) := by
  intro H locs ls hW hA hS hl
  have he : (wl D2 ad N T I J Q)[k]? = some (ad k, .inl (D2 25, n, .inr (.inr (.inr (.inr (fun j => (Q k j).map ad)))))) := by
    rw [wl_at hz.2.1, hz.2.2]; rfl
  have he1 : (wl D2 ad N T I J Q)[k1]? = some (ad k1, .inr (1, fl ad (I k1) (J k1) (Q k1) (fk 1) 0)) := by
    rw [wl_at hz1.2.1, hz1.2.2]; rfl
  have hf : va_up (fun j => (Q k j).map ad) i.toNatClampNeg (some (ad k1)) = fun j => (va_up (Q k) i.toNatClampNeg (some k1) j).map ad := by
    funext j
    by_cases hj : j = i.toNatClampNeg <;> simp [va_up, hj]
  have hw2 : (wl D2 ad N T I J Q).set k (ad k, .inl (D2 25, n, .inr (.inr (.inr (.inr (va_up (fun j => (Q k j).map ad) i.toNatClampNeg (some (ad k1)))))))) = wl D2 ad N T I J (stq Q k i.toNatClampNeg k1) := by
    rw [hf]
    refine wl_set hz.2.1 (by rw [hz.2.2]; simp [en, el, sti, stj, stq, cpi, cpj, upk]) ?_ ?_ ?_
    all_goals (intro i hi; simp [sti, stj, stq, cpi, cpj, upk, hi])
  refine va_astq C.1 C.2.1 C.2.2.2.2.2.1.1 hW (hA.D D2 T I J Q) hS k 5 k1 1 he rfl he1 rfl hin hdg (fun H1 locs1 a1 a2 a3 => ?_)
  rw [hw2] at a1
  exact kk H1 locs1 ls a1 hA a3 hl
theorem g_aastR (C : CX p s m args meth c cc nL own A D D2) {k n k1 : Nat} {i : Int32} (hdg : decode cc pc = .ok (.aastore, 1)) (hz : OKr Z N T k (26, n)) (hz1 : OKr Z N T k1 (6, 0)) (hin : vp_in i n) (kk : GG p l e R s m args below meth c nL A D D2 cells slots Qe ad N T I J (stq Q k i.toNatClampNeg k1) (pc + 1) lv (st)) : GG p l e R s m args below meth c nL A D D2 cells slots Qe ad N T I J Q pc lv (.ref (ad k1) :: .int i :: .ref (ad k) :: st) := by
  intro H locs ls hW hA hS hl
  have he : (wl D2 ad N T I J Q)[k]? = some (ad k, .inl (D2 26, n, .inr (.inr (.inr (.inr (fun j => (Q k j).map ad)))))) := by
    rw [wl_at hz.2.1, hz.2.2]; rfl
  have he1 : (wl D2 ad N T I J Q)[k1]? = some (ad k1, .inr (6, fl ad (I k1) (J k1) (Q k1) (fk 6) 0)) := by
    rw [wl_at hz1.2.1, hz1.2.2]; rfl
  have hf : va_up (fun j => (Q k j).map ad) i.toNatClampNeg (some (ad k1)) = fun j => (va_up (Q k) i.toNatClampNeg (some k1) j).map ad := by
    funext j
    by_cases hj : j = i.toNatClampNeg <;> simp [va_up, hj]
  have hw2 : (wl D2 ad N T I J Q).set k (ad k, .inl (D2 26, n, .inr (.inr (.inr (.inr (va_up (fun j => (Q k j).map ad) i.toNatClampNeg (some (ad k1)))))))) = wl D2 ad N T I J (stq Q k i.toNatClampNeg k1) := by
    rw [hf]
    refine wl_set hz.2.1 (by rw [hz.2.2]; simp [en, el, sti, stj, stq, cpi, cpj, upk]) ?_ ?_ ?_
    all_goals (intro i hi; simp [sti, stj, stq, cpi, cpj, upk, hi])
  refine va_astq C.1 C.2.1 C.2.2.2.2.2.1.1 hW (hA.D D2 T I J Q) hS k 6 k1 6 he rfl he1 rfl hin hdg (fun H1 locs1 a1 a2 a3 => ?_)
  rw [hw2] at a1
  exact kk H1 locs1 ls a1 hA a3 hl
theorem g_alen (C : CX p s m args meth c cc nL own A D D2) {k n t : Nat} {v : Int32} {ty : FieldType} (hdg : decode cc pc = .ok (.arraylength, 1)) (place : Nat) (hz : OKr Z N T k (t, n)) (ht : ¬ t < 20) (hp : (tyL D2)[place]? = some (D2 t, ty)) (hv : Int32.ofNat n = v) (kk : GG p l e R s m args below meth c nL A D D2 cells slots Qe ad N T I J Q (pc + 1) lv (.int v :: st)) : GG p l e R s m args below meth c nL A D D2 cells slots Qe ad N T I J Q pc lv (.ref (ad k) :: st) := by
  intro H locs ls hW hA hS hl
  have he : (wl D2 ad N T I J Q)[k]? = some (ad k, .inl (D2 t, n, el ad (I k) (J k) (Q k) t)) := by
    rw [wl_at hz.2.1, hz.2.2]; simp [en, ht]
  exact va_alen C.1 C.2.1 C.2.2.2.2.2.1.1 hW k place he hp hv hdg (kk H locs ls hW hA hS hl)
def LC (own : String) (index : Nat) : Prop := Cond.methodLink own index arraycopyName ∈ BIG ∧ Cond.native arraycopyName ∈ BIG ∧ Cond.static arraycopyName ∈ BIG ∧ Cond.initialized "java/lang/System" ∈ BIG
theorem g_copyI (C : CX p s m args meth c cc nL own A D D2) {index k0 k1 n0 n1 : Nat} {sp dp z : Int32} (hdg : decode cc pc = .ok (.invokestatic index, 3)) (hL : LC own index) (hz0 : OKr Z N T k0 (20, n0)) (hz1 : OKr Z N T k1 (20, n1)) (h1 : ¬ sp < 0) (h2 : ¬ dp < 0) (h3 : ¬ z < 0) (h4 : sp.toNatClampNeg + z.toNatClampNeg ≤ n0) (h5 : dp.toNatClampNeg + z.toNatClampNeg ≤ n1) (hframes : 1 ≤ R.frames) (hlocals : (st.map fun v => v.category).sum + (nativeFrameWords "java/lang/System" "arraycopy" 5 + 11) ≤ R.locals) (kk : GG p l e R s m args below meth c nL A D D2 cells slots Qe ad N T (cpi I k0 k1 sp.toNatClampNeg dp.toNatClampNeg z.toNatClampNeg) J Q (pc + 3) lv (st)) : GG p l e R s m args below meth c nL A D D2 cells slots Qe ad N T I J Q pc lv (.int z :: .int dp :: .ref (ad k1) :: .int sp :: .ref (ad k0) :: st) := by
  intro H locs ls hW hA hS hl
  have he0 : (wl D2 ad N T I J Q)[k0]? = some (ad k0, .inl (D2 20, n0, .inl (I k0))) := by
    rw [wl_at hz0.2.1, hz0.2.2]; rfl
  have he1 : (wl D2 ad N T I J Q)[k1]? = some (ad k1, .inl (D2 20, n1, .inl (I k1))) := by
    rw [wl_at hz1.2.1, hz1.2.2]; rfl
  have hw2 : (wl D2 ad N T I J Q).set k1 (ad k1, .inl (D2 20, n1, .inl (va_cpy (I k0) (I k1) sp.toNatClampNeg dp.toNatClampNeg z.toNatClampNeg))) = wl D2 ad N T (cpi I k0 k1 sp.toNatClampNeg dp.toNatClampNeg z.toNatClampNeg) J Q := by
    refine wl_set hz1.2.1 (by rw [hz1.2.2]; simp [en, el, sti, stj, stq, cpi, cpj, upk]) ?_ ?_ ?_
    all_goals (intro i hi; simp [sti, stj, stq, cpi, cpj, upk, hi])
  refine va_copyi C.1 C.2.1 (C.2.2.1.trans hl.1.symm) C.2.2.2.1 (C.2.2.2.2.1 _ hL.1) (C.2.2.2.2.1 _ hL.2.1) (C.2.2.2.2.1 _ hL.2.2.1) (C.2.2.2.2.1 _ hL.2.2.2) C.2.2.2.2.2.1.1 hW (hA.D D2 T I J Q) hS k0 k1 0 0 he0 he1 rfl rfl rfl h1 h2 h3 h4 h5 (fun _ _ => rfl) hframes hlocals hdg (fun H1 locs1 a1 a2 a3 => ?_)
  rw [hw2] at a1
  exact kk H1 locs1 ls a1 hA a3 hl

theorem g_copyJ (C : CX p s m args meth c cc nL own A D D2) {index k0 k1 n0 n1 : Nat} {sp dp z : Int32} (hdg : decode cc pc = .ok (.invokestatic index, 3)) (hL : LC own index) (hz0 : OKr Z N T k0 (23, n0)) (hz1 : OKr Z N T k1 (23, n1)) (h1 : ¬ sp < 0) (h2 : ¬ dp < 0) (h3 : ¬ z < 0) (h4 : sp.toNatClampNeg + z.toNatClampNeg ≤ n0) (h5 : dp.toNatClampNeg + z.toNatClampNeg ≤ n1) (hframes : 1 ≤ R.frames) (hlocals : (st.map fun v => v.category).sum + (nativeFrameWords "java/lang/System" "arraycopy" 5 + 11) ≤ R.locals) (kk : GG p l e R s m args below meth c nL A D D2 cells slots Qe ad N T I (cpj J k0 k1 sp.toNatClampNeg dp.toNatClampNeg z.toNatClampNeg) Q (pc + 3) lv (st)) : GG p l e R s m args below meth c nL A D D2 cells slots Qe ad N T I J Q pc lv (.int z :: .int dp :: .ref (ad k1) :: .int sp :: .ref (ad k0) :: st) := by
  intro H locs ls hW hA hS hl
  have he0 : (wl D2 ad N T I J Q)[k0]? = some (ad k0, .inl (D2 23, n0, .inr (.inl (J k0)))) := by
    rw [wl_at hz0.2.1, hz0.2.2]; rfl
  have he1 : (wl D2 ad N T I J Q)[k1]? = some (ad k1, .inl (D2 23, n1, .inr (.inl (J k1)))) := by
    rw [wl_at hz1.2.1, hz1.2.2]; rfl
  have hw2 : (wl D2 ad N T I J Q).set k1 (ad k1, .inl (D2 23, n1, .inr (.inl (va_cpy (J k0) (J k1) sp.toNatClampNeg dp.toNatClampNeg z.toNatClampNeg)))) = wl D2 ad N T I (cpj J k0 k1 sp.toNatClampNeg dp.toNatClampNeg z.toNatClampNeg) Q := by
    refine wl_set hz1.2.1 (by rw [hz1.2.2]; simp [en, el, sti, stj, stq, cpi, cpj, upk]) ?_ ?_ ?_
    all_goals (intro i hi; simp [sti, stj, stq, cpi, cpj, upk, hi])
  refine va_copyl C.1 C.2.1 (C.2.2.1.trans hl.1.symm) C.2.2.2.1 (C.2.2.2.2.1 _ hL.1) (C.2.2.2.2.1 _ hL.2.1) (C.2.2.2.2.1 _ hL.2.2.1) (C.2.2.2.2.1 _ hL.2.2.2) C.2.2.2.2.2.1.1 hW (hA.D D2 T I J Q) hS k0 k1 3 3 he0 he1 rfl rfl rfl h1 h2 h3 h4 h5 (fun _ _ => rfl) hframes hlocals hdg (fun H1 locs1 a1 a2 a3 => ?_)
  rw [hw2] at a1
  exact kk H1 locs1 ls a1 hA a3 hl
theorem g_iret (C : CX p s m args meth c cc nL own A D D2) {v : Int32} {post : Int32 → KS → Prop} (hdg : decode cc pc = .ok (.ireturn, 1)) (hr : meth.sig.returnType = some .int) (hp : post v (I, J, Q)) : GG p l e R s m args below meth c nL A D D2 0 0 (MQ below (va_Qi post (Bw D D2 ad N T) A) args s 0 0 A) ad N T I J Q pc lv [.int v] := fun H locs ls hW hA hS hl => W.iret C.1 C.2.1 hr (fun t ht _ => ⟨⟨v, (I, J, Q), rfl, hp, by show Wd _ _ _ _ _ _ _ _ _; rw [ht]; exact hW⟩, hS.F ht⟩) hS.2.2 hdg C.2.2.2.2.2.2.2.1
theorem g_lret (C : CX p s m args meth c cc nL own A D D2) {v : Int64} {post : Int64 → KS → Prop} (hdg : decode cc pc = .ok (.lreturn, 1)) (hr : meth.sig.returnType = some .long) (hp : post v (I, J, Q)) : GG p l e R s m args below meth c nL A D D2 0 0 (MQ below (va_Ql post (Bw D D2 ad N T) A) args s 0 0 A) ad N T I J Q pc lv [.long v] := fun H locs ls hW hA hS hl => W.lret C.1 C.2.1 hr (fun t ht _ => ⟨⟨v, (I, J, Q), rfl, hp, by show Wd _ _ _ _ _ _ _ _ _; rw [ht]; exact hW⟩, hS.F ht⟩) hS.2.2 hdg C.2.2.2.2.2.2.2.1
theorem g_zret (C : CX p s m args meth c cc nL own A D D2) {v : Int32} {ty : FieldType} {post : Int32 → KS → Prop} (hdg : decode cc pc = .ok (.ireturn, 1)) (hr : meth.sig.returnType = some ty) (hn : narrow ty (.int v) = .int v) (hp : post v (I, J, Q)) : GG p l e R s m args below meth c nL A D D2 0 0 (MQ below (va_Qi post (Bw D D2 ad N T) A) args s 0 0 A) ad N T I J Q pc lv [.int v] := fun H locs ls hW hA hS hl => W.zret C.1 C.2.1 hr hn (fun t ht _ => ⟨⟨v, (I, J, Q), rfl, hp, by show Wd _ _ _ _ _ _ _ _ _; rw [ht]; exact hW⟩, hS.F ht⟩) hS.2.2 hdg C.2.2.2.2.2.2.2.1
theorem g_vret (C : CX p s m args meth c cc nL own A D D2) {post : KS → Prop} (hdg : decode cc pc = .ok (.return_, 1)) (hr : meth.sig.returnType = none) (hp : post (I, J, Q)) : GG p l e R s m args below meth c nL A D D2 0 0 (MQ below (va_Qv post (Bw D D2 ad N T) A) args s 0 0 A) ad N T I J Q pc lv [] := fun H locs ls hW hA hS hl => W.vret C.1 C.2.1 hr (fun t ht _ => ⟨⟨(I, J, Q), rfl, hp, by show Wd _ _ _ _ _ _ _ _ _; rw [ht]; exact hW⟩, hS.F ht⟩) hS.2.2 hdg C.2.2.2.2.2.2.2.1
theorem Pr.blind {av : List Value} : FrameBlind (Pr D D2 A ad N T I J Q av) := fun _ _ _ _ h => ⟨h.1, h.2.1, h.2.2.1, KK.calling h.2.2.2.1, h.2.2.2.2.1, SF.calling h.2.2.2.2.2⟩
theorem Pr.ent {H : Heap} {locs : List Loc} {av : List Value} (hK : KK D D2 s) (hA1 : ∀ q, s.heap.size ≤ q → A q) (hSF : SF D2 A s s.heap) (hW : Wd D D2 ad N T I J Q H) (hA : Ap ad N A) (hS : va_S A s.heap H locs) : ∀ U : State, U.heap = H → s.WarmedH U.vm → Pr D D2 A ad N T I J Q av av.toArray U := fun U hU hw => ⟨rfl, by rw [hU]; exact hW, hA, hK.warm hw, fun q h => hA1 q (Nat.le_trans hS.1 (by rw [← hU]; exact h)), by rw [hU]; exact hSF.ent hS hw⟩

theorem g_callVi (C : CX p s m args meth c cc nL own A D D2) {index nY n : Nat} {y : MethodName} {cb : ByteArray} {ret : Option FieldType} {rm : Room} {As : List Value} {st0 : List Value} {post : Int32 → KS → Prop} {b ci n0 : Nat} {C9 : String} {T9 : u_T} {n9 : Nat} (hdg : decode cc pc = .ok (.invokevirtual index, 3)) (hcl : vwCl[ci]? = some (C9, T9, n9) ∧ ci < 20) (hz : OKr Z N T b (ci, n0)) (hL : LV own C9 index y n) (hc : Cond.code y cb nY ret ∈ BIG) (hM : Met l y (.code y cb nY ret :: BIG) rm (Pr D D2 A ad N T I J Q (.ref (ad b) :: As)) (va_Qi post (Bw D D2 ad N T) A) 0 0 A) (hR : rm.cells = 0 ∧ rm.slots = 0 ∧ rm.frames + 1 ≤ R.frames ∧ 8 + (nY + 11) + rm.locals ≤ R.locals) (hf : cells ≤ R.cells ∧ slots ≤ R.slots) (hn : As.length = n) (hst : st0 = As.reverse ++ .ref (ad b) :: st) (hcat : (st.map fun v => v.category).sum ≤ 8) (kk : ∀ (r : Int32) (I' : KI) (J' : KJ) (Q' : KQ), post r (I', J', Q') → GG p l e R s m args below meth c nL A D D2 cells slots Qe ad N T I' J' Q' (pc + 3) lv (.int r :: st)) : GG p l e R s m args below meth c nL A D D2 cells slots Qe ad N T I J Q pc lv st0 := by
  intro H locs ls hW hA hS hl
  subst hst
  obtain ⟨⟨a1, a2, a3, a4⟩, a5⟩ := hL
  have hgo : GoodIn BIG (wsV own index C9 y (.code y cb nY ret :: BIG)) := big_goodIn (fun w hw => by
    rcases List.mem_append.mp hw with h | h
    · rcases List.mem_cons.mp h with rfl | h
      · exact a1
      rcases List.mem_cons.mp h with rfl | h
      · exact a2
      rcases List.mem_cons.mp h with rfl | h
      · exact a3
      · rw [List.mem_singleton.mp h]; exact a4
    · exact (List.mem_cons.mp h).elim (fun h => h ▸ hc) id)
  have he : (wl D2 ad N T I J Q)[b]? = some (ad b, .inr (ci, fl ad (I b) (J b) (Q b) (fk ci) 0)) := by
    rw [wl_at hz.2.1, hz.2.2]; simp [en, hcl.2]
  have hrun := va_runV (l := l) (e := e) (below := below) (R := R) (meth := meth) (H := H) (locs := locs) (cells := cells) (slots := slots) (g := F0 m pc ls (As.reverse ++ .ref (ad b) :: st)) (rest := st) ⟨C.1, C.2.1, C.2.2.1, C.2.2.2.1, C.2.2.2.2.1⟩ hM (cwV n C.2.2.2.2.1 hgo rfl hR.1 hR.2.1 a5 hR.2.2) ⟨Pr.blind, va_recv C.2.2.2.2.2.1.1 hW hcl.1 he, Pr.ent C.2.2.2.2.2.1 C.2.2.2.2.2.2.1 C.2.2.2.2.2.2.2.2 hW hA hS⟩ rfl hn hl.1 rfl (lv_room hcat) hdg hf
  refine va_calli hrun hS (fun q _ h => h) (fun q h => h) (fun r u t H1 locs1 ht hvm hw hB hz1 hk1 hS1 => ?_)
  have hB : Wd D D2 ad N T u.1 u.2.1 u.2.2 t.heap := hB
  rw [ht] at hB
  exact kk r u.1 u.2.1 u.2.2 hw H1 locs1 ls hB hA hS1 hl
theorem g_callVl (C : CX p s m args meth c cc nL own A D D2) {index nY n : Nat} {y : MethodName} {cb : ByteArray} {ret : Option FieldType} {rm : Room} {As : List Value} {st0 : List Value} {post : Int64 → KS → Prop} {b ci n0 : Nat} {C9 : String} {T9 : u_T} {n9 : Nat} (hdg : decode cc pc = .ok (.invokevirtual index, 3)) (hcl : vwCl[ci]? = some (C9, T9, n9) ∧ ci < 20) (hz : OKr Z N T b (ci, n0)) (hL : LV own C9 index y n) (hc : Cond.code y cb nY ret ∈ BIG) (hM : Met l y (.code y cb nY ret :: BIG) rm (Pr D D2 A ad N T I J Q (.ref (ad b) :: As)) (va_Ql post (Bw D D2 ad N T) A) 0 0 A) (hR : rm.cells = 0 ∧ rm.slots = 0 ∧ rm.frames + 1 ≤ R.frames ∧ 8 + (nY + 11) + rm.locals ≤ R.locals) (hf : cells ≤ R.cells ∧ slots ≤ R.slots) (hn : As.length = n) (hst : st0 = As.reverse ++ .ref (ad b) :: st) (hcat : (st.map fun v => v.category).sum ≤ 8) (kk : ∀ (r : Int64) (I' : KI) (J' : KJ) (Q' : KQ), post r (I', J', Q') → GG p l e R s m args below meth c nL A D D2 cells slots Qe ad N T I' J' Q' (pc + 3) lv (.long r :: st)) : GG p l e R s m args below meth c nL A D D2 cells slots Qe ad N T I J Q pc lv st0 := by
  intro H locs ls hW hA hS hl
  subst hst
  obtain ⟨⟨a1, a2, a3, a4⟩, a5⟩ := hL
  have hgo : GoodIn BIG (wsV own index C9 y (.code y cb nY ret :: BIG)) := big_goodIn (fun w hw => by
    rcases List.mem_append.mp hw with h | h
    · rcases List.mem_cons.mp h with rfl | h
      · exact a1
      rcases List.mem_cons.mp h with rfl | h
      · exact a2
      rcases List.mem_cons.mp h with rfl | h
      · exact a3
      · rw [List.mem_singleton.mp h]; exact a4
    · exact (List.mem_cons.mp h).elim (fun h => h ▸ hc) id)
  have he : (wl D2 ad N T I J Q)[b]? = some (ad b, .inr (ci, fl ad (I b) (J b) (Q b) (fk ci) 0)) := by
    rw [wl_at hz.2.1, hz.2.2]; simp [en, hcl.2]
  have hrun := va_runV (l := l) (e := e) (below := below) (R := R) (meth := meth) (H := H) (locs := locs) (cells := cells) (slots := slots) (g := F0 m pc ls (As.reverse ++ .ref (ad b) :: st)) (rest := st) ⟨C.1, C.2.1, C.2.2.1, C.2.2.2.1, C.2.2.2.2.1⟩ hM (cwV n C.2.2.2.2.1 hgo rfl hR.1 hR.2.1 a5 hR.2.2) ⟨Pr.blind, va_recv C.2.2.2.2.2.1.1 hW hcl.1 he, Pr.ent C.2.2.2.2.2.1 C.2.2.2.2.2.2.1 C.2.2.2.2.2.2.2.2 hW hA hS⟩ rfl hn hl.1 rfl (lv_room hcat) hdg hf
  refine va_calll hrun hS (fun q _ h => h) (fun q h => h) (fun r u t H1 locs1 ht hvm hw hB hz1 hk1 hS1 => ?_)
  have hB : Wd D D2 ad N T u.1 u.2.1 u.2.2 t.heap := hB
  rw [ht] at hB
  exact kk r u.1 u.2.1 u.2.2 hw H1 locs1 ls hB hA hS1 hl
theorem g_callVv (C : CX p s m args meth c cc nL own A D D2) {index nY n : Nat} {y : MethodName} {cb : ByteArray} {ret : Option FieldType} {rm : Room} {As : List Value} {st0 : List Value} {post : KS → Prop} {b ci n0 : Nat} {C9 : String} {T9 : u_T} {n9 : Nat} (hdg : decode cc pc = .ok (.invokevirtual index, 3)) (hcl : vwCl[ci]? = some (C9, T9, n9) ∧ ci < 20) (hz : OKr Z N T b (ci, n0)) (hL : LV own C9 index y n) (hc : Cond.code y cb nY ret ∈ BIG) (hM : Met l y (.code y cb nY ret :: BIG) rm (Pr D D2 A ad N T I J Q (.ref (ad b) :: As)) (va_Qv post (Bw D D2 ad N T) A) 0 0 A) (hR : rm.cells = 0 ∧ rm.slots = 0 ∧ rm.frames + 1 ≤ R.frames ∧ 8 + (nY + 11) + rm.locals ≤ R.locals) (hf : cells ≤ R.cells ∧ slots ≤ R.slots) (hn : As.length = n) (hst : st0 = As.reverse ++ .ref (ad b) :: st) (hcat : (st.map fun v => v.category).sum ≤ 8) (kk : ∀ (I' : KI) (J' : KJ) (Q' : KQ), post (I', J', Q') → GG p l e R s m args below meth c nL A D D2 cells slots Qe ad N T I' J' Q' (pc + 3) lv (st)) : GG p l e R s m args below meth c nL A D D2 cells slots Qe ad N T I J Q pc lv st0 := by
  intro H locs ls hW hA hS hl
  subst hst
  obtain ⟨⟨a1, a2, a3, a4⟩, a5⟩ := hL
  have hgo : GoodIn BIG (wsV own index C9 y (.code y cb nY ret :: BIG)) := big_goodIn (fun w hw => by
    rcases List.mem_append.mp hw with h | h
    · rcases List.mem_cons.mp h with rfl | h
      · exact a1
      rcases List.mem_cons.mp h with rfl | h
      · exact a2
      rcases List.mem_cons.mp h with rfl | h
      · exact a3
      · rw [List.mem_singleton.mp h]; exact a4
    · exact (List.mem_cons.mp h).elim (fun h => h ▸ hc) id)
  have he : (wl D2 ad N T I J Q)[b]? = some (ad b, .inr (ci, fl ad (I b) (J b) (Q b) (fk ci) 0)) := by
    rw [wl_at hz.2.1, hz.2.2]; simp [en, hcl.2]
  have hrun := va_runV (l := l) (e := e) (below := below) (R := R) (meth := meth) (H := H) (locs := locs) (cells := cells) (slots := slots) (g := F0 m pc ls (As.reverse ++ .ref (ad b) :: st)) (rest := st) ⟨C.1, C.2.1, C.2.2.1, C.2.2.2.1, C.2.2.2.2.1⟩ hM (cwV n C.2.2.2.2.1 hgo rfl hR.1 hR.2.1 a5 hR.2.2) ⟨Pr.blind, va_recv C.2.2.2.2.2.1.1 hW hcl.1 he, Pr.ent C.2.2.2.2.2.1 C.2.2.2.2.2.2.1 C.2.2.2.2.2.2.2.2 hW hA hS⟩ rfl hn hl.1 rfl (lv_room hcat) hdg hf
  refine va_callv hrun hS (fun q _ h => h) (fun q h => h) (fun u t H1 locs1 ht hvm hw hB hz1 hk1 hS1 => ?_)
  have hB : Wd D D2 ad N T u.1 u.2.1 u.2.2 t.heap := hB
  rw [ht] at hB
  exact kk u.1 u.2.1 u.2.2 hw H1 locs1 ls hB hA hS1 hl
theorem g_callSi (C : CX p s m args meth c cc nL own A D D2) {index nY n : Nat} {y : MethodName} {cb : ByteArray} {ret : Option FieldType} {rm : Room} {As : List Value} {st0 : List Value} {post : Int32 → KS → Prop} (hdg : decode cc pc = .ok (.invokestatic index, 3)) (hL : LSt own index y n) (hc : Cond.code y cb nY ret ∈ BIG) (hM : Met l y (.code y cb nY ret :: BIG) rm (Pr D D2 A ad N T I J Q As) (va_Qi post (Bw D D2 ad N T) A) 0 0 A) (hR : rm.cells = 0 ∧ rm.slots = 0 ∧ rm.frames + 1 ≤ R.frames ∧ 8 + (nY + 11) + rm.locals ≤ R.locals) (hf : cells ≤ R.cells ∧ slots ≤ R.slots) (hn : As.length = n) (hst : st0 = As.reverse ++ st) (hcat : (st.map fun v => v.category).sum ≤ 8) (kk : ∀ (r : Int32) (I' : KI) (J' : KJ) (Q' : KQ), post r (I', J', Q') → GG p l e R s m args below meth c nL A D D2 cells slots Qe ad N T I' J' Q' (pc + 3) lv (.int r :: st)) : GG p l e R s m args below meth c nL A D D2 cells slots Qe ad N T I J Q pc lv st0 := by
  intro H locs ls hW hA hS hl
  subst hst
  obtain ⟨⟨a1, a2, a3⟩, a5⟩ := hL
  have hgo : GoodIn BIG (va_wsS own index y (.code y cb nY ret :: BIG)) := big_goodIn (fun w hw => by
    rcases List.mem_append.mp hw with h | h
    · rcases List.mem_cons.mp h with rfl | h
      · exact a1
      rcases List.mem_cons.mp h with rfl | h
      · exact a2
      · rw [List.mem_singleton.mp h]; exact a3
    · exact (List.mem_cons.mp h).elim (fun h => h ▸ hc) id)
  have hrun := va_runS (l := l) (e := e) (below := below) (R := R) (meth := meth) (H := H) (locs := locs) (cells := cells) (slots := slots) (g := F0 m pc ls (As.reverse ++ st)) (rest := st) ⟨C.1, C.2.1, C.2.2.1, C.2.2.2.1, C.2.2.2.2.1⟩ hM (va_cwS n C.2.2.2.2.1 hgo rfl hR.1 hR.2.1 a5 hR.2.2) ⟨Pr.blind, Pr.ent C.2.2.2.2.2.1 C.2.2.2.2.2.2.1 C.2.2.2.2.2.2.2.2 hW hA hS⟩ rfl hn hl.1 rfl (lv_room hcat) hdg hf
  refine va_calli hrun hS (fun q _ h => h) (fun q h => h) (fun r u t H1 locs1 ht hvm hw hB hz1 hk1 hS1 => ?_)
  have hB : Wd D D2 ad N T u.1 u.2.1 u.2.2 t.heap := hB
  rw [ht] at hB
  exact kk r u.1 u.2.1 u.2.2 hw H1 locs1 ls hB hA hS1 hl
theorem g_callSl (C : CX p s m args meth c cc nL own A D D2) {index nY n : Nat} {y : MethodName} {cb : ByteArray} {ret : Option FieldType} {rm : Room} {As : List Value} {st0 : List Value} {post : Int64 → KS → Prop} (hdg : decode cc pc = .ok (.invokestatic index, 3)) (hL : LSt own index y n) (hc : Cond.code y cb nY ret ∈ BIG) (hM : Met l y (.code y cb nY ret :: BIG) rm (Pr D D2 A ad N T I J Q As) (va_Ql post (Bw D D2 ad N T) A) 0 0 A) (hR : rm.cells = 0 ∧ rm.slots = 0 ∧ rm.frames + 1 ≤ R.frames ∧ 8 + (nY + 11) + rm.locals ≤ R.locals) (hf : cells ≤ R.cells ∧ slots ≤ R.slots) (hn : As.length = n) (hst : st0 = As.reverse ++ st) (hcat : (st.map fun v => v.category).sum ≤ 8) (kk : ∀ (r : Int64) (I' : KI) (J' : KJ) (Q' : KQ), post r (I', J', Q') → GG p l e R s m args below meth c nL A D D2 cells slots Qe ad N T I' J' Q' (pc + 3) lv (.long r :: st)) : GG p l e R s m args below meth c nL A D D2 cells slots Qe ad N T I J Q pc lv st0 := by
  intro H locs ls hW hA hS hl
  subst hst
  obtain ⟨⟨a1, a2, a3⟩, a5⟩ := hL
  have hgo : GoodIn BIG (va_wsS own index y (.code y cb nY ret :: BIG)) := big_goodIn (fun w hw => by
    rcases List.mem_append.mp hw with h | h
    · rcases List.mem_cons.mp h with rfl | h
      · exact a1
      rcases List.mem_cons.mp h with rfl | h
      · exact a2
      · rw [List.mem_singleton.mp h]; exact a3
    · exact (List.mem_cons.mp h).elim (fun h => h ▸ hc) id)
  have hrun := va_runS (l := l) (e := e) (below := below) (R := R) (meth := meth) (H := H) (locs := locs) (cells := cells) (slots := slots) (g := F0 m pc ls (As.reverse ++ st)) (rest := st) ⟨C.1, C.2.1, C.2.2.1, C.2.2.2.1, C.2.2.2.2.1⟩ hM (va_cwS n C.2.2.2.2.1 hgo rfl hR.1 hR.2.1 a5 hR.2.2) ⟨Pr.blind, Pr.ent C.2.2.2.2.2.1 C.2.2.2.2.2.2.1 C.2.2.2.2.2.2.2.2 hW hA hS⟩ rfl hn hl.1 rfl (lv_room hcat) hdg hf
  refine va_calll hrun hS (fun q _ h => h) (fun q h => h) (fun r u t H1 locs1 ht hvm hw hB hz1 hk1 hS1 => ?_)
  have hB : Wd D D2 ad N T u.1 u.2.1 u.2.2 t.heap := hB
  rw [ht] at hB
  exact kk r u.1 u.2.1 u.2.2 hw H1 locs1 ls hB hA hS1 hl
theorem g_callSv (C : CX p s m args meth c cc nL own A D D2) {index nY n : Nat} {y : MethodName} {cb : ByteArray} {ret : Option FieldType} {rm : Room} {As : List Value} {st0 : List Value} {post : KS → Prop} (hdg : decode cc pc = .ok (.invokestatic index, 3)) (hL : LSt own index y n) (hc : Cond.code y cb nY ret ∈ BIG) (hM : Met l y (.code y cb nY ret :: BIG) rm (Pr D D2 A ad N T I J Q As) (va_Qv post (Bw D D2 ad N T) A) 0 0 A) (hR : rm.cells = 0 ∧ rm.slots = 0 ∧ rm.frames + 1 ≤ R.frames ∧ 8 + (nY + 11) + rm.locals ≤ R.locals) (hf : cells ≤ R.cells ∧ slots ≤ R.slots) (hn : As.length = n) (hst : st0 = As.reverse ++ st) (hcat : (st.map fun v => v.category).sum ≤ 8) (kk : ∀ (I' : KI) (J' : KJ) (Q' : KQ), post (I', J', Q') → GG p l e R s m args below meth c nL A D D2 cells slots Qe ad N T I' J' Q' (pc + 3) lv (st)) : GG p l e R s m args below meth c nL A D D2 cells slots Qe ad N T I J Q pc lv st0 := by
  intro H locs ls hW hA hS hl
  subst hst
  obtain ⟨⟨a1, a2, a3⟩, a5⟩ := hL
  have hgo : GoodIn BIG (va_wsS own index y (.code y cb nY ret :: BIG)) := big_goodIn (fun w hw => by
    rcases List.mem_append.mp hw with h | h
    · rcases List.mem_cons.mp h with rfl | h
      · exact a1
      rcases List.mem_cons.mp h with rfl | h
      · exact a2
      · rw [List.mem_singleton.mp h]; exact a3
    · exact (List.mem_cons.mp h).elim (fun h => h ▸ hc) id)
  have hrun := va_runS (l := l) (e := e) (below := below) (R := R) (meth := meth) (H := H) (locs := locs) (cells := cells) (slots := slots) (g := F0 m pc ls (As.reverse ++ st)) (rest := st) ⟨C.1, C.2.1, C.2.2.1, C.2.2.2.1, C.2.2.2.2.1⟩ hM (va_cwS n C.2.2.2.2.1 hgo rfl hR.1 hR.2.1 a5 hR.2.2) ⟨Pr.blind, Pr.ent C.2.2.2.2.2.1 C.2.2.2.2.2.2.1 C.2.2.2.2.2.2.2.2 hW hA hS⟩ rfl hn hl.1 rfl (lv_room hcat) hdg hf
  refine va_callv hrun hS (fun q _ h => h) (fun q h => h) (fun u t H1 locs1 ht hvm hw hB hz1 hk1 hS1 => ?_)
  have hB : Wd D D2 ad N T u.1 u.2.1 u.2.2 t.heap := hB
  rw [ht] at hB
  exact kk u.1 u.2.1 u.2.2 hw H1 locs1 ls hB hA hS1 hl
theorem g_callSNi (C : CX p s m args meth c cc nL own A D D2) {index nY n : Nat} {y : MethodName} {cb : ByteArray} {ret : Option FieldType} {rm : Room} {As : List Value} {st0 : List Value} {post : Int32 → KS → Prop} (hdg : decode cc pc = .ok (.invokestatic index, 3)) (hL : LSN own index y n) (hc : Cond.code y cb nY ret ∈ BIG) (hM : Met l y (.code y cb nY ret :: BIG) rm (Pr D D2 A ad N T I J Q As) (va_Qi post (Bw D D2 ad N T) A) 0 0 A) (hR : rm.cells = 0 ∧ rm.slots = 0 ∧ rm.frames + 1 ≤ R.frames ∧ 8 + (nY + 11) + rm.locals ≤ R.locals) (hf : cells ≤ R.cells ∧ slots ≤ R.slots) (hn : As.length = n) (hst : st0 = As.reverse ++ st) (hcat : (st.map fun v => v.category).sum ≤ 8) (kk : ∀ (r : Int32) (I' : KI) (J' : KJ) (Q' : KQ), post r (I', J', Q') → GG p l e R s m args below meth c nL A D D2 cells slots Qe ad N T I' J' Q' (pc + 3) lv (.int r :: st)) : GG p l e R s m args below meth c nL A D D2 cells slots Qe ad N T I J Q pc lv st0 := by
  intro H locs ls hW hA hS hl
  subst hst
  obtain ⟨⟨h9, a1⟩, ⟨a2, a3⟩, a5⟩ := hL
  have hrun := va_runSN (l := l) (e := e) (below := below) (R := R) (meth := meth) (H := H) (locs := locs) (cells := cells) (slots := slots) (g := F0 m pc ls (As.reverse ++ st)) (rest := st) ⟨C.1, C.2.1, C.2.2.1, C.2.2.2.1, C.2.2.2.2.1⟩ hM ⟨va_cnB n C.2.2.2.2.1 (big_goodIn (fun w hw => (List.mem_cons.mp hw).elim (fun h => h ▸ hc) id)) rfl hR.1 hR.2.1 (C.2.2.2.2.2.1.2.1 _ a1) (C.2.2.2.2.1 _ a3) a5 hR.2.2, C.2.2.2.2.1 _ a2, trivial⟩ ⟨Pr.blind, Pr.ent C.2.2.2.2.2.1 C.2.2.2.2.2.2.1 C.2.2.2.2.2.2.2.2 hW hA hS⟩ rfl hn hl.1 rfl (lv_room hcat) hdg hf
  refine va_calli hrun hS (fun q _ h => h) (fun q h => h) (fun r u t H1 locs1 ht hvm hw hB hz1 hk1 hS1 => ?_)
  have hB : Wd D D2 ad N T u.1 u.2.1 u.2.2 t.heap := hB
  rw [ht] at hB
  exact kk r u.1 u.2.1 u.2.2 hw H1 locs1 ls hB hA hS1 hl
theorem g_callSNl (C : CX p s m args meth c cc nL own A D D2) {index nY n : Nat} {y : MethodName} {cb : ByteArray} {ret : Option FieldType} {rm : Room} {As : List Value} {st0 : List Value} {post : Int64 → KS → Prop} (hdg : decode cc pc = .ok (.invokestatic index, 3)) (hL : LSN own index y n) (hc : Cond.code y cb nY ret ∈ BIG) (hM : Met l y (.code y cb nY ret :: BIG) rm (Pr D D2 A ad N T I J Q As) (va_Ql post (Bw D D2 ad N T) A) 0 0 A) (hR : rm.cells = 0 ∧ rm.slots = 0 ∧ rm.frames + 1 ≤ R.frames ∧ 8 + (nY + 11) + rm.locals ≤ R.locals) (hf : cells ≤ R.cells ∧ slots ≤ R.slots) (hn : As.length = n) (hst : st0 = As.reverse ++ st) (hcat : (st.map fun v => v.category).sum ≤ 8) (kk : ∀ (r : Int64) (I' : KI) (J' : KJ) (Q' : KQ), post r (I', J', Q') → GG p l e R s m args below meth c nL A D D2 cells slots Qe ad N T I' J' Q' (pc + 3) lv (.long r :: st)) : GG p l e R s m args below meth c nL A D D2 cells slots Qe ad N T I J Q pc lv st0 := by
  intro H locs ls hW hA hS hl
  subst hst
  obtain ⟨⟨h9, a1⟩, ⟨a2, a3⟩, a5⟩ := hL
  have hrun := va_runSN (l := l) (e := e) (below := below) (R := R) (meth := meth) (H := H) (locs := locs) (cells := cells) (slots := slots) (g := F0 m pc ls (As.reverse ++ st)) (rest := st) ⟨C.1, C.2.1, C.2.2.1, C.2.2.2.1, C.2.2.2.2.1⟩ hM ⟨va_cnB n C.2.2.2.2.1 (big_goodIn (fun w hw => (List.mem_cons.mp hw).elim (fun h => h ▸ hc) id)) rfl hR.1 hR.2.1 (C.2.2.2.2.2.1.2.1 _ a1) (C.2.2.2.2.1 _ a3) a5 hR.2.2, C.2.2.2.2.1 _ a2, trivial⟩ ⟨Pr.blind, Pr.ent C.2.2.2.2.2.1 C.2.2.2.2.2.2.1 C.2.2.2.2.2.2.2.2 hW hA hS⟩ rfl hn hl.1 rfl (lv_room hcat) hdg hf
  refine va_calll hrun hS (fun q _ h => h) (fun q h => h) (fun r u t H1 locs1 ht hvm hw hB hz1 hk1 hS1 => ?_)
  have hB : Wd D D2 ad N T u.1 u.2.1 u.2.2 t.heap := hB
  rw [ht] at hB
  exact kk r u.1 u.2.1 u.2.2 hw H1 locs1 ls hB hA hS1 hl
theorem g_callSNv (C : CX p s m args meth c cc nL own A D D2) {index nY n : Nat} {y : MethodName} {cb : ByteArray} {ret : Option FieldType} {rm : Room} {As : List Value} {st0 : List Value} {post : KS → Prop} (hdg : decode cc pc = .ok (.invokestatic index, 3)) (hL : LSN own index y n) (hc : Cond.code y cb nY ret ∈ BIG) (hM : Met l y (.code y cb nY ret :: BIG) rm (Pr D D2 A ad N T I J Q As) (va_Qv post (Bw D D2 ad N T) A) 0 0 A) (hR : rm.cells = 0 ∧ rm.slots = 0 ∧ rm.frames + 1 ≤ R.frames ∧ 8 + (nY + 11) + rm.locals ≤ R.locals) (hf : cells ≤ R.cells ∧ slots ≤ R.slots) (hn : As.length = n) (hst : st0 = As.reverse ++ st) (hcat : (st.map fun v => v.category).sum ≤ 8) (kk : ∀ (I' : KI) (J' : KJ) (Q' : KQ), post (I', J', Q') → GG p l e R s m args below meth c nL A D D2 cells slots Qe ad N T I' J' Q' (pc + 3) lv (st)) : GG p l e R s m args below meth c nL A D D2 cells slots Qe ad N T I J Q pc lv st0 := by
  intro H locs ls hW hA hS hl
  subst hst
  obtain ⟨⟨h9, a1⟩, ⟨a2, a3⟩, a5⟩ := hL
  have hrun := va_runSN (l := l) (e := e) (below := below) (R := R) (meth := meth) (H := H) (locs := locs) (cells := cells) (slots := slots) (g := F0 m pc ls (As.reverse ++ st)) (rest := st) ⟨C.1, C.2.1, C.2.2.1, C.2.2.2.1, C.2.2.2.2.1⟩ hM ⟨va_cnB n C.2.2.2.2.1 (big_goodIn (fun w hw => (List.mem_cons.mp hw).elim (fun h => h ▸ hc) id)) rfl hR.1 hR.2.1 (C.2.2.2.2.2.1.2.1 _ a1) (C.2.2.2.2.1 _ a3) a5 hR.2.2, C.2.2.2.2.1 _ a2, trivial⟩ ⟨Pr.blind, Pr.ent C.2.2.2.2.2.1 C.2.2.2.2.2.2.1 C.2.2.2.2.2.2.2.2 hW hA hS⟩ rfl hn hl.1 rfl (lv_room hcat) hdg hf
  refine va_callv hrun hS (fun q _ h => h) (fun q h => h) (fun u t H1 locs1 ht hvm hw hB hz1 hk1 hS1 => ?_)
  have hB : Wd D D2 ad N T u.1 u.2.1 u.2.2 t.heap := hB
  rw [ht] at hB
  exact kk u.1 u.2.1 u.2.2 hw H1 locs1 ls hB hA hS1 hl
theorem g_min (C : CX p s m args meth c cc nL own A D D2) {index : Nat} {x y : Int32} (hdg : decode cc pc = .ok (.invokestatic index, 3)) (hL : Cond.methodLink own index Lib.Math.min.name ∈ BIG ∧ Cond.static Lib.Math.min.name ∈ BIG ∧ Cond.initialized "java/lang/Math" ∈ BIG ∧ Cond.code Lib.Math.min.name Lib.Math.min.code 2 (some .int) ∈ BIG) (hframes : 1 ≤ R.frames) (hlocals : (st.map fun v => v.category).sum + 13 ≤ R.locals) (hf : cells ≤ R.cells ∧ slots ≤ R.slots) (k : GG p l e R s m args below meth c nL A D D2 cells slots Qe ad N T I J Q (pc + 3) lv (.int (if y < x then y else x) :: st)) : GG p l e R s m args below meth c nL A D D2 cells slots Qe ad N T I J Q pc lv (.int y :: .int x :: st) := fun H locs ls hW hA hS hl => va_mmin C.1 C.2.1 (C.2.2.1.trans hl.1.symm) C.2.2.2.1 (C.2.2.2.2.1 _ hL.1) (C.2.2.2.2.1 _ hL.2.1) (C.2.2.2.2.1 _ hL.2.2.1) (C.2.2.2.2.1 _ hL.2.2.2) hframes hlocals hf.1 hf.2 hdg (k H locs ls hW hA hS hl)
theorem g_ldcS (C : CX p s m args meth c cc nL own A D D2) {i : Nat} (hdg : decode cc pc = .ok (.ldc (idxS.getD i 0), 2)) (hi : i < 5) (hx : own = "TokenRounds$Tape") (k : GG p l e R s m args below meth c nL A D D2 cells slots Qe ad N T I J Q (pc + 2) lv (.ref (D2 (100 + i)) :: st)) : GG p l e R s m args below meth c nL A D D2 cells slots Qe ad N T I J Q pc lv (st) := fun H locs ls hW hA hS hl => va_ldcS C.1 C.2.1 C.2.2.2.1 (hx ▸ C.2.2.2.2.2.2.2.2.2.1 i hi) hdg (k H locs ls hW hA hS hl)
theorem g_sgetV (C : CX p s m args meth c cc nL own A D D2) {i index : Nat} (hdg : decode cc pc = .ok (.getfield index, 3)) (hi : i < 5) (hw : Cond.fieldLink own index "java/lang/String" "value" "[B" ∈ BIG) (k : GG p l e R s m args below meth c nL A D D2 cells slots Qe ad N T I J Q (pc + 3) lv (.ref (D2 (200 + i)) :: st)) : GG p l e R s m args below meth c nL A D D2 cells slots Qe ad N T I J Q pc lv (.ref (D2 (100 + i)) :: st) := fun H locs ls hW hA hS hl => va_getX (o := "java/lang/String") (n := "value") (d := "[B") (N := 5) (v := fun i => .ref (D2 (200 + i))) (ad := fun i => D2 (100 + i)) C.1 C.2.1 (fun j hj => (C.2.2.2.2.2.2.2.2.1.1 j hj).2.2.1) hi hS C.2.2.2.1 (C.2.2.2.2.1 _ hw) (fun _ h => h) hdg (k H locs ls hW hA hS hl)
theorem g_sgetC (C : CX p s m args meth c cc nL own A D D2) {i index : Nat} (hdg : decode cc pc = .ok (.getfield index, 3)) (hi : i < 5) (hw : Cond.fieldLink own index "java/lang/String" "coder" "B" ∈ BIG) (k : GG p l e R s m args below meth c nL A D D2 cells slots Qe ad N T I J Q (pc + 3) lv (.int 0 :: st)) : GG p l e R s m args below meth c nL A D D2 cells slots Qe ad N T I J Q pc lv (.ref (D2 (100 + i)) :: st) := fun H locs ls hW hA hS hl => va_getX (o := "java/lang/String") (n := "coder") (d := "B") (N := 5) (v := fun _ => .int 0) (ad := fun i => D2 (100 + i)) C.1 C.2.1 (fun j hj => (C.2.2.2.2.2.2.2.2.1.1 j hj).2.1) hi hS C.2.2.2.1 (C.2.2.2.2.1 _ hw) (fun _ h => h) hdg (k H locs ls hW hA hS hl)
theorem g_slen (C : CX p s m args meth c cc nL own A D D2) {i : Nat} (hdg : decode cc pc = .ok (.arraylength, 1)) (hi : i < 5) (k : GG p l e R s m args below meth c nL A D D2 cells slots Qe ad N T I J Q (pc + 1) lv (.int (Int32.ofNat (lenS.getD i 0)) :: st)) : GG p l e R s m args below meth c nL A D D2 cells slots Qe ad N T I J Q pc lv (.ref (D2 (200 + i)) :: st) := fun H locs ls hW hA hS hl => va_tlen C.1 C.2.1 (C.2.2.2.2.2.2.2.2.1.1 i hi).2.2.2 hS rfl hdg (k H locs ls hW hA hS hl)
theorem g_sbald (C : CX p s m args meth c cc nL own A D D2) {i : Nat} {x : Int32} (hdg : decode cc pc = .ok (.baload, 1)) (hi : i < 5) (hin : vp_in x (lenS.getD i 0)) (k : GG p l e R s m args below meth c nL A D D2 cells slots Qe ad N T I J Q (pc + 1) lv (.int ((bytS.getD i []).getD x.toNatClampNeg 0) :: st)) : GG p l e R s m args below meth c nL A D D2 cells slots Qe ad N T I J Q pc lv (.int x :: .ref (D2 (200 + i)) :: st) := fun H locs ls hW hA hS hl => va_tb C.1 C.2.1 (C.2.2.2.2.2.2.2.2.1.1 i hi).2.2.2 hS hin rfl hdg (k H locs ls hW hA hS hl)
theorem g_sgetsC (C : CX p s m args meth c cc nL own A D D2) {index : Nat} (hdg : decode cc pc = .ok (.getstatic index, 3)) (hw : Cond.fieldLink own index "java/lang/String" "COMPACT_STRINGS" "Z" ∈ BIG) (k : GG p l e R s m args below meth c nL A D D2 cells slots Qe ad N T I J Q (pc + 3) lv (.int 1 :: st)) : GG p l e R s m args below meth c nL A D D2 cells slots Qe ad N T I J Q pc lv (st) := fun H locs ls hW hA hS hl => va_gets C.1 C.2.1 C.2.2.2.2.2.2.2.2.2.2.1 hS C.2.2.2.1 (C.2.2.2.2.1 _ hw) (fun _ h => h) hdg (k H locs ls hW hA hS hl)
theorem g_sgetsF (C : CX p s m args meth c cc nL own A D D2) {index : Nat} (hdg : decode cc pc = .ok (.getstatic index, 3)) (hw : Cond.fieldLink own index "jdk/internal/util/Preconditions" "SIOOBE_FORMATTER" "Ljava/util/function/BiFunction;" ∈ BIG) (k : GG p l e R s m args below meth c nL A D D2 cells slots Qe ad N T I J Q (pc + 3) lv (fmt D2 :: st)) : GG p l e R s m args below meth c nL A D D2 cells slots Qe ad N T I J Q pc lv (st) := fun H locs ls hW hA hS hl => va_gets C.1 C.2.1 C.2.2.2.2.2.2.2.2.2.2.2 hS C.2.2.2.1 (C.2.2.2.2.1 _ hw) (fun _ h => h) hdg (k H locs ls hW hA hS hl)
theorem g_callSTR (C : CX p s m args meth c cc nL own A D D2) {i index nY n : Nat} {y : MethodName} {cb : ByteArray} {ret : Option FieldType} {rm : Room} {As : List Value} {st0 : List Value} {post : Int32 → KS → Prop} (hdg : decode cc pc = .ok (.invokevirtual index, 3)) (hi : i < 5) (hL : LV own "java/lang/String" index y n) (hc : Cond.code y cb nY ret ∈ BIG) (hM : Met l y (.code y cb nY ret :: BIG) rm (Pr D D2 A ad N T I J Q (.ref (D2 (100 + i)) :: As)) (va_Qi post (Bw D D2 ad N T) A) 0 0 A) (hR : rm.cells = 0 ∧ rm.slots = 0 ∧ rm.frames + 1 ≤ R.frames ∧ 8 + (nY + 11) + rm.locals ≤ R.locals) (hf : cells ≤ R.cells ∧ slots ≤ R.slots) (hn : As.length = n) (hst : st0 = As.reverse ++ .ref (D2 (100 + i)) :: st) (hcat : (st.map fun v => v.category).sum ≤ 8) (kk : ∀ (r : Int32) (I' : KI) (J' : KJ) (Q' : KQ), post r (I', J', Q') → GG p l e R s m args below meth c nL A D D2 cells slots Qe ad N T I' J' Q' (pc + 3) lv (.int r :: st)) : GG p l e R s m args below meth c nL A D D2 cells slots Qe ad N T I J Q pc lv st0 := by
  intro H locs ls hW hA hS hl
  subst hst
  obtain ⟨⟨a1, a2, a3, a4⟩, a5⟩ := hL
  have hgo : GoodIn BIG (wsV own index "java/lang/String" y (.code y cb nY ret :: BIG)) := big_goodIn (fun w hw => by
    rcases List.mem_append.mp hw with h | h
    · rcases List.mem_cons.mp h with rfl | h
      · exact a1
      rcases List.mem_cons.mp h with rfl | h
      · exact a2
      rcases List.mem_cons.mp h with rfl | h
      · exact a3
      · rw [List.mem_singleton.mp h]; exact a4
    · exact (List.mem_cons.mp h).elim (fun h => h ▸ hc) id)
  have hrecv : ∃ cellB : Cell, H[D2 (100 + i)]? = some cellB ∧ cellB.vm.isStatics = false ∧ s.vm.findClass "java/lang/String" = some cellB.cls := by
    obtain ⟨cell, h1, h2, h3, -⟩ := (C.2.2.2.2.2.2.2.2.1.1 i hi).1.kept hS.2.1
    exact ⟨cell, h1, h2, h3⟩
  have hrun := va_runV (l := l) (e := e) (below := below) (R := R) (meth := meth) (H := H) (locs := locs) (cells := cells) (slots := slots) (g := F0 m pc ls (As.reverse ++ .ref (D2 (100 + i)) :: st)) (rest := st) ⟨C.1, C.2.1, C.2.2.1, C.2.2.2.1, C.2.2.2.2.1⟩ hM (cwV n C.2.2.2.2.1 hgo rfl hR.1 hR.2.1 a5 hR.2.2) ⟨Pr.blind, hrecv, Pr.ent C.2.2.2.2.2.1 C.2.2.2.2.2.2.1 C.2.2.2.2.2.2.2.2 hW hA hS⟩ rfl hn hl.1 rfl (lv_room hcat) hdg hf
  refine va_calli hrun hS (fun q _ h => h) (fun q h => h) (fun r u t H1 locs1 ht hvm hw hB hz1 hk1 hS1 => ?_)
  have hB : Wd D D2 ad N T u.1 u.2.1 u.2.2 t.heap := hB
  rw [ht] at hB
  exact kk r u.1 u.2.1 u.2.2 hw H1 locs1 ls hB hA hS1 hl
theorem g_sub (ks : List Nat) (hk : lv_pick lv ks = lv') (k : GG p l e R s m args below meth c nL A D D2 cells slots Qe ad N T I J Q pc lv' (st)) : GG p l e R s m args below meth c nL A D D2 cells slots Qe ad N T I J Q pc lv (st) := fun H locs ls hW hA hS hl => k H locs ls hW hA hS (lv_sub hl ks hk)
theorem Met_ofWF {y : MethodName} {ws ws' : List Cond} {rm : Room} {Pc : Array Value → State → Prop} {Qc : Array Value → State → Outcome → State → Prop} {mc ms : Nat} {free : Addr → Prop} {maxL : Nat} {ret : Option FieldType} (hy : plainFor y = true) (hw : ws = Cond.code y cc maxL ret :: ws')
    (body : ∀ p e s m args below meth c s₁, BodyLoose p l y (headSpec ws rm) cc maxL ret e s m args below meth c s₁ → c.maxLocals = maxL → Pc args s → W p l e (headSpec ws rm).room s m args below meth c s.heap [] 0 0 (MQ below Qc args s mc ms free) (entryFrame m args maxL)) : Met l y ws rm Pc Qc mc ms free := by
  refine MetFree.of_bodySF (code := cc) (maxLocals := maxL) (ret := ret) hy ?_ ?_
  · intro args s m h hn
    obtain ⟨meth, c, h1, h2, h3, h4, h5, h6, -, -⟩ := Cond.code_spec hn (atoms_spec (ws := ws) h _ (by rw [hw]; exact List.mem_cons_self))
    exact ⟨meth, c, h1, h2, h3, h4, h5, h6⟩
  · intro p e s m args below meth c s₁ B hml hP _
    have hh0 : s₁.heap = s.heap := by rw [B.state]; rfl
    obtain ⟨t, a1, o, b1, b2, b3⟩ := body p e s m args below meth c s₁ B hml hP s₁ hh0 (Stand.of_body B)
    exact ⟨t, o, a1, b1, b2, ⟨b3.1, b3.2⟩⟩
/-- a method's contract out of the judgement at its entry -/
theorem Met_GG {y : MethodName} {ret : Option FieldType} {rm : Room} {Qc : Array Value → State → Outcome → State → Prop} (hy : plainFor y = true) (av : List Value) {lv0 : List (Nat × Value)} (hsl : (lg_sl av).length ≤ nL) (hlv : lv_args 0 av = lv0)
    (body : ∀ (p : Program) (e : Env) (s : State) (m : MethodId) (below : List Frame) (meth : Method) (c : Code), CX p s m av.toArray meth c cc nL y.cls A D D2 → meth.sig.returnType = ret → GG p l e rm s m av.toArray below meth c nL A D D2 0 0 (MQ below Qc av.toArray s 0 0 A) ad N T I J Q 0 lv0 []) : Met l y (.code y cc nL ret :: BIG) rm (Pr D D2 A ad N T I J Q av) Qc 0 0 A := by
  refine Met_ofWF (cc := cc) (maxL := nL) (ret := ret) hy rfl ?_
  intro p e s m args below meth c s₁ B hml hv
  obtain ⟨rfl, hW, hA, hK, hA1, hSF⟩ := hv
  have hts := atoms_spec (ws := .code y cc nL ret :: BIG) B.pre
  have hl := lv_entry av (n := nL) hsl
  rw [lg_entry_eq]
  generalize (lg_sl av ++ List.replicate (nL - (lg_sl av).length) Slot.unset).toArray = ls at hl ⊢
  rw [hlv] at hl
  exact body p e s m below meth c ⟨B.exec, B.bytes, hml, findClass_of_methodNamed B.named, fun w hw => hts w (List.mem_cons_of_mem _ hw), hK, hA1, B.notSynchronized, hSF⟩ B.returns s.heap [] ls hW hA va_S.rf hl
end GROWS
