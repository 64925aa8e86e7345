/-! MAKING: rows for constructors. Cells come one behind the other: ad k = base + k; N says how many there are; T tells beforehand what each will be. -/
def dvK (t : Nat) : Value := if t = 0 then .int 0 else if t = 1 then .long 0 else .null
/-- a class that is made here -/
def Ln (own : String) (index ci n : Nat) : Prop := ∃ (C : String) (Tc : u_T) (ty : Nat → FieldType), vwCl[ci]? = some (C, Tc, n) ∧ ci < 20 ∧ (∀ w ∈ u_ws C Tc n, w ∈ BIG) ∧ (fk ci).length = n ∧ (∀ k, k < n → parseFieldDescriptor (Tc k).2.2.1 = some (ty k)) ∧ (∀ j, j < n → some (defaultValue (ty j)) = ((fk ci)[j]?).map dvK) ∧ Cond.classLink own index C ∈ BIG ∧ Cond.instantiable C n ∈ BIG ∧ Cond.initialized C ∈ BIG
/-- a final reference field that its constructor writes -/
def LpQ (own : String) (index ci j : Nat) (ty : FieldType) : Prop := ∃ (T : u_T) (n : Nat) (ty0 : Nat → FieldType), vwCl[ci]? = some (own, T, n) ∧ ci < 20 ∧ (∀ w ∈ u_ws own T n, w ∈ BIG) ∧ j < n ∧ (fk ci)[j]? = some 2 ∧ (fk ci).length = n ∧ (T j).1 = own ∧ Cond.fieldLink own index own (T j).2.1 (T j).2.2.1 ∈ BIG ∧ (∀ k, k < n → parseFieldDescriptor (T k).2.2.1 = some (ty0 k)) ∧ (∀ a, a < n → ∀ b, b < n → a ≠ b → (T a).2.1 ≠ (T b).2.1) ∧ (T j).2.2.2 = true ∧ parseFieldDescriptor (T j).2.2.1 = some ty
theorem okr_up {Z : Nat → Prop} {N N1 : Nat} {T : Nat → Nat × Nat} {k : Nat} {τ : Nat × Nat} (h : OKr Z N T k τ) (hN : N ≤ N1) : OKr Z N1 T k τ := ⟨h.1, Nat.lt_of_lt_of_le h.2.1 hN, h.2.2⟩
/-- a row of references that is made here -/
def Lq (own : String) (index t : Nat) (C : String) : Prop := C ∈ [RX7, RX1, RX6] ∧ Cond.classLink own index C ∈ BIG
/-- a constructor that is called -/
def LI (own : String) (index : Nat) (y : MethodName) (n : Nat) : Prop := (Cond.methodLink own index y ∈ BIG ∨ ∃ h, Cond.methodLinkNest own index y h ∈ nsL) ∧ (Cond.instanceMethod y ∈ BIG ∧ Cond.initialized y.cls ∈ BIG) ∧ y.name = "<init>" ∧ y.cls ≠ "java/lang/invoke/MethodHandle" ∧ y.cls ≠ "java/lang/invoke/VarHandle" ∧ (parseMethodDescriptor y.desc).map (fun d => d.parameters.length) = some n
theorem fl_zero (ad : Nat → Nat) (ts : List Nat) (j : Nat) : (fl ad (fun _ => 0) (fun _ => 0) (fun _ => none) ts 0)[j]? = (ts[j]?).map dvK := by
  rw [fl_get]
  congr 1
def zI : Nat → Int32 := fun _ => 0
def zJ : Nat → Int64 := fun _ => 0
def zQ : Nat → Option Nat := fun _ => none
def PrC (D : va_G) (D2 : Nat → ClassId) (A : Nat → Prop) (ad : Nat → Nat) (base N : Nat) (T : Nat → Nat × Nat) (I : KI) (J : KJ) (Q : KQ) (av : List Value) : Array Value → State → Prop := va_Pc av (fun U => U.heap.size = base + N ∧ Wd D D2 ad N T I J Q U.heap ∧ Ap ad N A ∧ KK D D2 U ∧ (∀ q, U.heap.size ≤ q → A q) ∧ SF D2 A U U.heap)
def BwC (D : va_G) (D2 : Nat → ClassId) (ad : Nat → Nat) (N : Nat) (T : Nat → Nat × Nat) (A : Nat → Prop) : KS → State → Prop := fun u t => Wd D D2 ad N T u.1 u.2.1 u.2.2 t.heap ∧ Ap ad N A
section CROWS
variable {p : Program} {l : Launch} {e : Env} {R : Room} {s : State} {m : MethodId} {args : Array Value} {below : List Frame} {meth : Method} {c : Code} {nL : Nat} {A : Nat → Prop} {D : va_G} {D2 : Nat → ClassId} {cells slots : Nat} {Qe : State → Prop} {ad : Nat → Nat} {N base : Nat} {T : Nat → Nat × Nat} {I : KI} {J : KJ} {Q : KQ} {pc : Nat} {lv lv' : List (Nat × Value)} {st : List Value} {cc : ByteArray} {own : String} {Z : Nat → Prop}
theorem H_at {H : Heap} {locs : List Loc} {Ts : State} (hW : Wd D D2 ad N T I J Q H) (hS : va_S A s.heap H locs) (hAd : ∀ k, ad k = base + k) (hCe : s.heap.size + cells = base + N) (hcN : cells ≤ N) (X : Stand p l e R s m args below meth c Ts locs cells slots) (hT : Ts.heap = H) : H.size = ad N := by
  have h1 := X.heapSize
  rw [hT] at h1
  have h2 : base + N ≤ H.size := by
    by_cases hc : cells = 0
    · have := hS.1
      omega
    · have hN : N - 1 < N := by omega
      have h3 : ad (N - 1) < H.size := (hW (N - 1) _ (wl_at hN)).lt
      rw [hAd] at h3
      omega
  rw [hAd]
  omega
theorem Wd_push {H H1 : Heap} (hW : Wd D D2 ad N T I J Q H) (hH : H.size = ad N) (o1 : ∀ q, q < ad N → H1[q]? = H[q]?) (hn : va_at D vwCl (ad N, en D2 ad (T N) zI zJ zQ) H1) : Wd D D2 ad (N + 1) T (upk I N zI) (upk J N zJ) (upk Q N zQ) H1 := by
  intro k q hq
  obtain ⟨hk, rfl⟩ := wl_of hq
  by_cases h : k = N
  · subst h
    simpa only [upk_s] using hn
  · have hk' : k < N := by omega
    have h0 := hW k _ (wl_at hk')
    rw [upk_n h, upk_n h, upk_n h]
    exact h0.kept (o1 _ (by have h1 : ad k < H.size := h0.lt; omega))
theorem Ap_push (hA : Ap ad N A) (hAd : ∀ k, ad k = base + k) (hAN : A (ad N)) : Ap ad (N + 1) A := by
  refine ⟨fun i j hi hj e => by rw [hAd, hAd] at e; omega, fun i hi => ?_⟩
  by_cases h : i = N
  · subst h; exact hAN
  · exact hA.2 i (by omega)
theorem g_objInit (C : CX p s m args meth c cc nL own A D D2) {index : Nat} {a : Nat} (hdg : decode cc pc = .ok (.invokespecial index, 3)) (hL : Cond.methodLink own index Lib.objectInit ∈ BIG ∧ Cond.instanceMethod Lib.objectInit ∈ BIG ∧ Cond.code Lib.objectInit ⟨#[0xb1]⟩ 1 none ∈ BIG) (hframes : 1 ≤ R.frames) (hlocals : (st.map fun v => v.category).sum + 12 ≤ R.locals) (k : GG p l e R s m args below meth c nL A D D2 cells slots Qe ad N T I J Q (pc + 3) lv st) : GG p l e R s m args below meth c nL A D D2 cells slots Qe ad N T I J Q pc lv (.ref a :: st) := fun H locs ls hW hA hS hl => W.objInit C.1 C.2.1 C.2.2.2.1 (C.2.2.2.2.1 _ hL.1) (C.2.2.2.2.1 _ hL.2.1) (C.2.2.2.2.1 _ hL.2.2) rfl (hl.1.trans C.2.2.1.symm) rfl hdg hframes (by show 2 * 0 + _ + 12 ≤ _; omega) (k H locs ls hW hA hS hl)
theorem g_new (C : CX p s m args meth c cc nL own A D D2) {index ci n : Nat} (hdg : decode cc pc = .ok (.new index, 3)) (hL : Ln own index ci n) (hT : T N = (ci, 0)) (hAd : ∀ k, ad k = base + k) (hCe : s.heap.size + cells = base + N) (hcN : cells ≤ N) (hcells : cells + 1 ≤ R.cells) (hslots : slots + n ≤ R.slots) (kk : GG p l e R s m args below meth c nL A D D2 (cells + 1) (slots + n) Qe ad (N + 1) T (upk I N zI) (upk J N zJ) (upk Q N zQ) (pc + 3) lv (.ref (ad N) :: st)) : GG p l e R s m args below meth c nL A D D2 cells slots Qe ad N T I J Q pc lv st := by
  intro H locs ls hW hA hS hl Ts hTs X
  have hh := H_at hW hS hAd hCe hcN X hTs
  obtain ⟨C9, Tc, ty, h1, hci, h2, h3, h4, h5, h6, h7, h8⟩ := hL
  have hts := C.2.2.2.2.1
  have hKn := C.2.2.2.2.2.1.1.1 ci _ h1
  refine (W.newcK (h := ad N) C.1 C.2.1 C.2.2.2.1 (hts _ h6) (hts _ h7) (hts _ h8) rfl hdg hcells hslots hKn.2.1 hh fun H1 kC hkC e1 z1 o1 => ?_ : W p l e R s m args below meth c H locs cells slots Qe (F0 m pc ls st)) Ts hTs X
  have hAN : A (ad N) := C.2.2.2.2.2.2.1 _ (by have := hS.1; omega)
  refine kk H1 locs ls (Wd_push hW hh o1 ?_) (Ap_push hA hAd hAN) ⟨Nat.le_trans hS.1 (by omega), fun x q1 q2 => (o1 x (by have := hS.1; omega)).trans (hS.2.1 x q1 q2), hS.2.2⟩ hl
  rw [hT]
  show va_at D vwCl (ad N, en D2 ad (ci, 0) zI zJ zQ) H1
  have he : en D2 ad (ci, 0) zI zJ zQ = .inr (ci, fl ad zI zJ zQ (fk ci) 0) := by simp [en, hci]
  rw [he]
  refine ⟨_, h1, (u_born ty hts (fun w hw => h2 w hw) hKn hkC e1 h4).to (fun j hj => ?_)⟩
  have hz := fl_zero ad (fk ci) j
  have h5' := h5 j hj
  rw [← hz] at h5'
  show defaultValue (ty j) = vp_V _ j
  have : (fl ad zI zJ zQ (fk ci) 0)[j]? = some (defaultValue (ty j)) := h5'.symm
  simp [vp_V, this]
theorem g_newa (C : CX p s m args meth c cc nL own A D D2) {atype : ArrayType} {ty : FieldType} {z : Int32} {n t : Nat} (place : Nat) (hdg : decode cc pc = .ok (.newarray atype, 2)) (hty : newarray.typeOf atype = ty) (harr : Cond.arrayClass ty ∈ BIG) (hp : (tyL D2)[place]? = some (D2 t, ty)) (hT : T N = (t, n)) (hdv : ∀ cA : ClassId, vp_cell cA (n, el ad zI zJ zQ t) = arrV cA n (fun _ => defaultValue ty)) (ht : ¬ t < 20) (hRA : ∀ cA : ClassId, va_RA s cA ty → s.vm.findClass ("[" ++ ty.toString) = some cA) (hn : ¬ z < 0) (hN : z.toNatClampNeg = n) (hbytes : n * componentBytes ty ≤ 536870912) (hAd : ∀ k, ad k = base + k) (hCe : s.heap.size + cells = base + N) (hcN : cells ≤ N) (hcells : cells + 1 ≤ R.cells) (hslots : slots + n ≤ R.slots) (kk : GG p l e R s m args below meth c nL A D D2 (cells + 1) (slots + n) Qe ad (N + 1) T (upk I N zI) (upk J N zJ) (upk Q N zQ) (pc + 2) lv (.ref (ad N) :: st)) : GG p l e R s m args below meth c nL A D D2 cells slots Qe ad N T I J Q pc lv (.int z :: st) := by
  subst hty
  intro H locs ls hW hA hS hl Ts hTs X
  have hh := H_at hW hS hAd hCe hcN X hTs
  have hts := C.2.2.2.2.1
  refine (va_newaK (h := ad N) C.1 C.2.1 (hts _ harr) rfl hdg rfl hn hN hbytes hcells hslots hh fun H1 cA e1 z1 o1 hAr hNm => ?_ : W p l e R s m args below meth c H locs cells slots Qe (F0 m pc ls (.int z :: st))) Ts hTs X
  have hAN : A (ad N) := C.2.2.2.2.2.2.1 _ (by have := hS.1; omega)
  refine kk H1 locs ls (Wd_push hW hh o1 ?_) (Ap_push hA hAd hAN) ⟨Nat.le_trans hS.1 (by omega), fun x q1 q2 => (o1 x (by have := hS.1; omega)).trans (hS.2.1 x q1 q2), hS.2.2⟩ hl
  rw [hT]
  have he : en D2 ad (t, n) zI zJ zQ = .inl (D2 t, n, el ad zI zJ zQ t) := by simp [en, ht]
  rw [he]
  show H1[ad N]? = some (vp_cell (D2 t) (n, el ad zI zJ zQ t))
  have hc : cA = D2 t := Option.some.inj (hNm.symm.trans (hRA _ (C.2.2.2.2.2.1.1.2 place _ hp).2))
  rw [hdv, ← hc]
  exact e1
theorem g_newq (C : CX p s m args meth c cc nL own A D D2) {index : Nat} {C9 : String} {z : Int32} {n t : Nat} (place : Nat) (hdg : decode cc pc = .ok (.anewarray index, 3)) (hL : Lq own index t C9) (hp : (tyL D2)[place]? = some (D2 t, .object C9)) (hT : T N = (t, n)) (ht : ¬ t < 24) (hn : ¬ z < 0) (hN : z.toNatClampNeg = n) (hbytes : n * 4 ≤ 536870912) (hAd : ∀ k, ad k = base + k) (hCe : s.heap.size + cells = base + N) (hcN : cells ≤ N) (hcells : cells + 1 ≤ R.cells) (hslots : slots + n ≤ R.slots) (kk : GG p l e R s m args below meth c nL A D D2 (cells + 1) (slots + n) Qe ad (N + 1) T (upk I N zI) (upk J N zJ) (upk Q N zQ) (pc + 3) lv (.ref (ad N) :: st)) : GG p l e R s m args below meth c nL A D D2 cells slots Qe ad N T I J Q pc lv (.int z :: st) := by
  subst hN
  intro H locs ls hW hA hS hl Ts hTs X
  have hh := H_at hW hS hAd hCe hcN X hTs
  have hts := C.2.2.2.2.1
  refine (W.anew C.1 C.2.1 C.2.2.2.1 (hts _ hL.2) (va_AO.use (C.2.2.2.2.2.1.2.2 _ hL.1)) rfl hdg rfl hn hbytes hcells hslots fun cA kA comp f1 f2 f3 f4 => ?_ : W p l e R s m args below meth c H locs cells slots Qe (F0 m pc ls (.int z :: st))) Ts hTs X
  generalize hH1 : H.push ({ cls := cA, slots := Array.replicate z.toNatClampNeg .null, vm := .none } : Cell) = H1
  have z1 : H1.size = H.size + 1 := by rw [← hH1, Array.size_push]
  have e1 : H1[H.size]? = some (arrV cA z.toNatClampNeg (fun _ => .null)) := by rw [← hH1, Array.getElem?_push_size, ← arrV_new]
  have o1 : ∀ q : Nat, q < ad N → H1[q]? = H[q]? := fun q hq => by rw [← hH1, Array.getElem?_push, if_neg (by omega)]
  have hAN : A (ad N) := C.2.2.2.2.2.2.1 _ (by have := hS.1; omega)
  show W p l e R s m args below meth c H1 locs (cells + 1) (slots + z.toNatClampNeg) Qe (F0 m (pc + 3) ls (.ref H.size :: st))
  rw [hh]
  refine kk H1 locs ls (Wd_push hW hh o1 ?_) (Ap_push hA hAd hAN) ⟨Nat.le_trans hS.1 (by omega), fun x q1 q2 => (o1 x (by have := hS.1; omega)).trans (hS.2.1 x q1 q2), hS.2.2⟩ hl
  rw [hT]
  have h20 : ¬ t < 20 := by omega
  have h23 : ¬ t < 23 := by omega
  have h23' : ¬ t = 23 := by omega
  have he : en D2 ad (t, z.toNatClampNeg) zI zJ zQ = .inl (D2 t, z.toNatClampNeg, .inr (.inr (.inr (.inr (fun _ => none))))) := by simp [en, el, h20, h23, h23', zQ]
  rw [he]
  show H1[ad N]? = some (vp_cell (D2 t) _)
  have hR2 := (C.2.2.2.2.2.1.1.2 place _ hp).2
  obtain ⟨kA', comp', r1, r2, r3, r4⟩ := hR2
  have hc : cA = D2 t := Option.some.inj (f1.symm.trans r4)
  rw [vp_cell_q, ← hc, ← hh]
  exact e1
theorem g_getQv (C : CX p s m args meth c cc nL own A D D2) {index ci j k n0 v : Nat} (hdg : decode cc pc = .ok (.getfield index, 3)) (hL : Lf own index ci j 2) (hz : OKr Z N T k (ci, n0)) (hq : Q k j = some v) (kk : GG p l e R s m args below meth c nL A D D2 cells slots Qe ad N T I J Q (pc + 3) lv (.ref (ad v) :: st)) : GG p l e R s m args below meth c nL A D D2 cells slots Qe ad N T I J Q pc lv (.ref (ad k) :: st) := by
  have e : rq Q k j = v := by simp [rq, hq]
  refine g_getQ C hdg hL hz (by rw [hq, e]) ?_
  rw [e]
  exact kk
theorem g_putQ (C : CX p s m args meth c cc nL own A D D2) {index ci j k n0 x : Nat} {ty : FieldType} (hdg : decode cc pc = .ok (.putfield index, 3)) (hin2 : meth.name = "<init>") (hL : LpQ own index ci j ty) (hfn : fits ty (.ref (ad x)) = true ∧ narrow ty (.ref (ad x)) = .ref (ad x)) (hz : OKr Z N T k (ci, n0)) (kk : GG p l e R s m args below meth c nL A D D2 cells slots Qe ad N T I J (stq Q k j x) (pc + 3) lv st) : GG p l e R s m args below meth c nL A D D2 cells slots Qe ad N T I J Q pc lv (.ref (ad x) :: .ref (ad k) :: st) := by
  intro H locs ls hW hA hS hl
  obtain ⟨T9, n9, ty9, h1, hci, h2, h3, h4, h5, h6, h7, h9, h10, h11, h12⟩ := hL
  have he : (wl D2 ad N T I J Q)[k]? = some (ad k, .inr (ci, fl ad (I k) (J k) (Q k) (fk ci) 0)) := by
    rw [wl_at hz.2.1, hz.2.2]; simp [en, hci]
  have hs : (fl ad (I k) (J k) (Q k) (fk ci) 0).set j (.ref (ad x)) = fl ad (I k) (J k) ((stq Q k j x) k) (fk ci) 0 := by
    refine fl_set h4 ?_ ?_ ?_ ?_
    · simp [fv, stq, upk, va_up, va_rf]
    all_goals (intro i hi; simp [stq, upk, va_up, hi])
  have hw2 : (wl D2 ad N T I J Q).set k (ad k, .inr (ci, (fl ad (I k) (J k) (Q k) (fk ci) 0).set j (.ref (ad x)))) = wl D2 ad N T I J (stq Q k j x) := by
    rw [hs]
    refine wl_set hz.2.1 (by rw [hz.2.2]; simp [en, hci]) ?_ ?_ ?_
    all_goals (intro i hi; simp [stq, upk, hi])
  have hll : j < (fl ad (I k) (J k) (Q k) (fk ci) 0).length := by rw [fl_len, h5]; exact h3
  have hlk := C.2.2.2.2.1 _ h7
  refine va_putF C.1 C.2.1 C.2.2.2.2.1 h2 ty9 h9 h10 C.2.2.2.1 C.2.2.2.2.2.1.1 hW (hA.D D2 T I J Q) hS k he h1 j h3 hlk (by rw [h6]; exact fun _ h => h) h11 hin2 h6 h12 hfn.2 hfn.1 hll hdg (fun H1 locs1 a1 a2 a3 => ?_)
  rw [hw2] at a1
  exact kk H1 locs1 ls a1 hA a3 hl
theorem PrC.blind {av : List Value} : FrameBlind (PrC D D2 A ad base N T I J Q av) := fun _ _ _ _ h => ⟨h.1, h.2.1, h.2.2.1, h.2.2.2.1, KK.calling h.2.2.2.2.1, h.2.2.2.2.2.1, SF.calling h.2.2.2.2.2.2⟩
theorem g_callI (C : CX p s m args meth c cc nL own A D D2) {index nY mc ms : Nat} {y : MethodName} {cb : ByteArray} {rm : Room} {post : KI → KJ → KQ → Prop} {b : Nat} (hdg : decode cc pc = .ok (.invokespecial index, 3)) (hL : LI own index y 0) (hc : Cond.code y cb nY none ∈ BIG) (hM : Met l y (.code y cb nY none :: BIG) rm (PrC D D2 A ad base N T I J Q [.ref (ad b)]) (va_Qv (fun (u : KS) => post u.1 u.2.1 u.2.2) (BwC D D2 ad (N + mc) T A) A) mc ms A) (hR : rm.cells = mc ∧ rm.slots = ms ∧ rm.frames + 1 ≤ R.frames ∧ 8 + (nY + 11) + rm.locals ≤ R.locals) (hf : cells + mc ≤ R.cells ∧ slots + ms ≤ R.slots) (hcat : (st.map fun v => v.category).sum ≤ 8) (hAd : ∀ k, ad k = base + k) (hCe : s.heap.size + cells = base + N) (hcN : cells ≤ N) (kk : ∀ (I' : KI) (J' : KJ) (Q' : KQ), post I' J' Q' → GG p l e R s m args below meth c nL A D D2 (cells + mc) (slots + ms) Qe ad (N + mc) T I' J' Q' (pc + 3) lv st) : GG p l e R s m args below meth c nL A D D2 cells slots Qe ad N T I J Q pc lv (.ref (ad b) :: st) := by
  intro H locs ls hW hA hS hl Ts hTs X
  have hh := H_at hW hS hAd hCe hcN X hTs
  obtain ⟨hlk, ⟨a2, a3⟩, a4, a5⟩ := hL
  have hGi : GoodIn BIG (.code y cb nY none :: BIG) := big_goodIn (fun w hw => (List.mem_cons.mp hw).elim (fun h => h ▸ hc) id)
  have hp : PreS s H (PrC D D2 A ad base N T I J Q [.ref (ad b)]) [.ref (ad b)] := ⟨PrC.blind, fun U hU hw => ⟨rfl, by rw [hU, hh, hAd], by rw [hU]; exact hW, hA, C.2.2.2.2.2.1.warm hw, fun q h => C.2.2.2.2.2.2.1 q (Nat.le_trans hS.1 (by rw [← hU]; exact h)), by rw [hU]; exact C.2.2.2.2.2.2.2.2.ent hS hw⟩⟩
  have hrun : va_Run p l e R s m args below meth c H locs cells slots mc ms (F0 m pc ls (.ref (ad b) :: st)) st (va_Qv (fun (u : KS) => post u.1 u.2.1 u.2.2) (BwC D D2 ad (N + mc) T A) A [.ref (ad b)].toArray) A := by
    rcases hlk with hlk | ⟨h9, hlk⟩
    · exact va_runI (As := []) (rest := st) ⟨C.1, C.2.1, C.2.2.1, C.2.2.2.1, C.2.2.2.2.1⟩ hM (cwI 0 C.2.2.2.2.1 hGi rfl hR.1 hR.2.1 (C.2.2.2.2.1 _ a3) (C.2.2.2.2.1 _ hlk) (C.2.2.2.2.1 _ a2) a4 a5 hR.2.2) hp rfl rfl hl.1 rfl (lv_room hcat) hdg hf
    · exact va_runIN (As := []) (rest := st) ⟨C.1, C.2.1, C.2.2.1, C.2.2.2.1, C.2.2.2.2.1⟩ hM ⟨va_cnB 0 C.2.2.2.2.1 hGi rfl hR.1 hR.2.1 (C.2.2.2.2.2.1.2.1 _ hlk) (C.2.2.2.2.1 _ a3) a5 hR.2.2, a4, C.2.2.2.2.1 _ a2⟩ hp rfl rfl hl.1 rfl (lv_room hcat) hdg hf
  refine (va_callv hrun hS (fun q _ h => h) (fun q h => h) (fun u t H1 locs1 ht hvm hw hB hz1 hk1 hS1 => ?_) : W p l e R s m args below meth c H locs cells slots Qe (F0 m pc ls (.ref (ad b) :: st))) Ts hTs X
  have hB1 : Wd D D2 ad (N + mc) T u.1 u.2.1 u.2.2 t.heap := hB.1
  rw [ht] at hB1
  exact kk u.1 u.2.1 u.2.2 hw H1 locs1 ls hB1 hB.2 hS1 hl
theorem g_cret (C : CX p s m args meth c cc nL own A D D2) {post : KI → KJ → KQ → Prop} {N1 mc ms : Nat} (hdg : decode cc pc = .ok (.return_, 1)) (hr : meth.sig.returnType = none) (hp : post I J Q) (hN : N = N1) (h1 : cells = mc) (h2 : slots = ms) : GG p l e R s m args below meth c nL A D D2 cells slots (MQ below (va_Qv (fun (u : KS) => post u.1 u.2.1 u.2.2) (BwC D D2 ad N1 T A) A) args s mc ms A) ad N T I J Q pc lv [] := by
  subst hN h1 h2
  exact fun H locs ls hW hA hS hl => W.vret C.1 C.2.1 hr (fun t ht _ => ⟨⟨(I, J, Q), rfl, hp, by show Wd _ _ _ _ _ _ _ _ _; rw [ht]; exact hW, hA⟩, hS.F ht⟩) hS.2.2 hdg C.2.2.2.2.2.2.2.1
theorem Met_GC {y : MethodName} {rm : Room} {mc ms : Nat} {Qc : Array Value → State → Outcome → State → Prop} (hy : plainFor y = true) (hy2 : y.name = "<init>") (av : List Value) {lv0 : List (Nat × Value)} (hsl : (lg_sl av).length ≤ nL) (hlv : lv_args 0 av = lv0)
    (body : ∀ (p : Program) (e : Env) (s : State) (m : MethodId) (below : List Frame) (meth : Method) (c : Code), CX p s m av.toArray meth c cc nL y.cls A D D2 → meth.sig.returnType = none → meth.name = "<init>" → s.heap.size + 0 = base + N → GG p l e rm s m av.toArray below meth c nL A D D2 0 0 (MQ below Qc av.toArray s mc ms A) ad N T I J Q 0 lv0 []) : Met l y (.code y cc nL none :: BIG) rm (PrC D D2 A ad base N T I J Q av) Qc mc ms A := by
  refine Met_ofWF (cc := cc) (maxL := nL) (ret := none) hy rfl ?_
  intro p e s m args below meth c s₁ B hml hv
  obtain ⟨rfl, hsz, hW, hA, hK, hA1, hSF⟩ := hv
  have hts := atoms_spec (ws := .code y cc nL none :: BIG) B.pre
  have hl := lv_entry av (n := nL) hsl
  rw [lg_entry_eq]
  generalize (lg_sl av ++ List.replicate (nL - (lg_sl av).length) Slot.unset).toArray = ls at hl ⊢
  rw [hlv] at hl
  exact body p e s m below meth c ⟨B.exec, B.bytes, hml, findClass_of_methodNamed B.named, fun w hw => hts w (List.mem_cons_of_mem _ hw), hK, hA1, B.notSynchronized, hSF⟩ B.returns ((name_of_methodNamed B.named B.method).1.trans hy2) (by rw [Nat.add_zero]; exact hsz) s.heap [] ls hW hA va_S.rf hl
end CROWS
