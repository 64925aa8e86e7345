/-! THE POOL. Every cell of the run bears a number k; its address is ad k; what the heap holds is told by three functions of number and place: I (ints, also of boolean and char rows), J (longs), Q (references, by number). T k: its kind and length. Kinds: 0 .. 11 objects (by their place in vwCl), 20 int[], 21 boolean[], 22 char[], 23 long[], 24 Space[], 25 Net[], 26 Row[]. -/
abbrev KI : Type := Nat → Nat → Int32
abbrev KJ : Type := Nat → Nat → Int64
abbrev KQ : Type := Nat → Nat → Option Nat
/-- a row of a pool, changed -/
def upk {α : Type} (f : Nat → α) (k : Nat) (v : α) : Nat → α := fun j => if j = k then v else f j
theorem upk_s {α : Type} {f : Nat → α} {k : Nat} {v : α} : upk f k v k = v := by simp [upk]
theorem upk_n {α : Type} {f : Nat → α} {k j : Nat} {v : α} (h : j ≠ k) : upk f k v j = f j := by simp [upk, h]
/-- which fields a class has: 0 an int, 1 a long, 2 a reference -/
def fk : Nat → List Nat := fun ci => match ci with
  | 0 => [2, 2, 2]
  | 1 => [2, 2, 2, 0, 0, 0, 0, 0, 0]
  | 2 => [2, 1, 1]
  | 3 => [2, 0]
  | 4 => [2, 0]
  | 5 => [2, 2, 2, 0]
  | 6 => [2, 0, 0]
  | 7 => [2]
  | 8 => [2, 2, 0, 0, 0]
  | 9 => [2, 2]
  | 10 => [2, 2, 2, 2, 2, 2, 2, 2, 2, 2, 2, 0]
  | 11 => [2, 0, 0, 2, 0, 0, 0, 2, 2, 2, 2, 2, 0, 2, 2, 2, 2, 1, 1, 2, 0, 0, 0, 2, 2, 2, 2]
  | _ => []
def fv (ad : Nat → Nat) (fi : Nat → Int32) (fj : Nat → Int64) (fq : Nat → Option Nat) (t j : Nat) : Value := if t = 0 then .int (fi j) else if t = 1 then .long (fj j) else va_rf ((fq j).map ad)
def fl (ad : Nat → Nat) (fi : Nat → Int32) (fj : Nat → Int64) (fq : Nat → Option Nat) : List Nat → Nat → List Value
  | [], _ => []
  | t :: ts, o => fv ad fi fj fq t o :: fl ad fi fj fq ts (o + 1)
theorem fl_len (ad : Nat → Nat) (fi : Nat → Int32) (fj : Nat → Int64) (fq : Nat → Option Nat) (ts : List Nat) : ∀ o, (fl ad fi fj fq ts o).length = ts.length := by
  induction ts with
  | nil => intro o; rfl
  | cons t ts ih => intro o; simp [fl, ih]
theorem fl_get (ad : Nat → Nat) (fi : Nat → Int32) (fj : Nat → Int64) (fq : Nat → Option Nat) (ts : List Nat) : ∀ (o j : Nat), (fl ad fi fj fq ts o)[j]? = (ts[j]?).map (fun t => fv ad fi fj fq t (o + j)) := by
  induction ts with
  | nil => intro o j; simp [fl]
  | cons t ts ih =>
    intro o j
    cases j with
    | zero => simp [fl]
    | succ j => simp only [fl, List.getElem?_cons_succ, ih]; rw [show o + 1 + j = o + (j + 1) by omega]
theorem fl_set {ad : Nat → Nat} {fi fi' : Nat → Int32} {fj fj' : Nat → Int64} {fq fq' : Nat → Option Nat} {ts : List Nat} {j t : Nat} {v : Value} (hj : ts[j]? = some t) (hv : fv ad fi' fj' fq' t j = v) (h1 : ∀ i, i ≠ j → fi' i = fi i) (h2 : ∀ i, i ≠ j → fj' i = fj i) (h3 : ∀ i, i ≠ j → fq' i = fq i) : (fl ad fi fj fq ts 0).set j v = fl ad fi' fj' fq' ts 0 := by
  apply List.ext_getElem?
  intro i
  rw [List.getElem?_set, fl_get, fl_get, fl_len]
  have hlt : j < ts.length := (List.getElem?_eq_some_iff.mp hj).1
  by_cases h : j = i
  · subst h
    rw [if_pos rfl, if_pos hlt, hj]
    simp [hv]
  · have h' : i ≠ j := fun e => h e.symm
    simp only [h, if_false]
    congr 1
    funext t'
    simp [fv, h1 i h', h2 i h', h3 i h']
/-- the elements of a row -/
def el (ad : Nat → Nat) (fi : Nat → Int32) (fj : Nat → Int64) (fq : Nat → Option Nat) (t : Nat) : (Nat → Int32) ⊕ (Nat → Int64) ⊕ (Nat → UInt32) ⊕ (Nat → UInt64) ⊕ (Nat → Option Nat) :=
  if t < 23 then .inl fi else if t = 23 then .inr (.inl fj) else .inr (.inr (.inr (.inr (fun j => (fq j).map ad))))
def en (D2 : Nat → ClassId) (ad : Nat → Nat) (τ : Nat × Nat) (fi : Nat → Int32) (fj : Nat → Int64) (fq : Nat → Option Nat) : va_E :=
  if τ.1 < 20 then .inr (τ.1, fl ad fi fj fq (fk τ.1) 0) else .inl (D2 τ.1, τ.2, el ad fi fj fq τ.1)
def wl (D2 : Nat → ClassId) (ad : Nat → Nat) (N : Nat) (T : Nat → Nat × Nat) (I : KI) (J : KJ) (Q : KQ) : va_W := (List.range N).map fun k => (ad k, en D2 ad (T k) (I k) (J k) (Q k))
theorem wl_at {D2 : Nat → ClassId} {ad : Nat → Nat} {N : Nat} {T : Nat → Nat × Nat} {I : KI} {J : KJ} {Q : KQ} {k : Nat} (h : k < N) : (wl D2 ad N T I J Q)[k]? = some (ad k, en D2 ad (T k) (I k) (J k) (Q k)) := by
  simp [wl, h]
theorem wl_set {D2 : Nat → ClassId} {ad : Nat → Nat} {N : Nat} {T : Nat → Nat × Nat} {I I' : KI} {J J' : KJ} {Q Q' : KQ} {k : Nat} {e : va_E} (h : k < N) (he : en D2 ad (T k) (I' k) (J' k) (Q' k) = e) (h1 : ∀ j, j ≠ k → I' j = I j) (h2 : ∀ j, j ≠ k → J' j = J j) (h3 : ∀ j, j ≠ k → Q' j = Q j) : (wl D2 ad N T I J Q).set k (ad k, e) = wl D2 ad N T I' J' Q' := by
  apply List.ext_getElem?
  intro i
  have hlen : (wl D2 ad N T I J Q).length = N := by simp [wl]
  rw [List.getElem?_set, hlen]
  by_cases hi : i < N
  · rw [wl_at hi, wl_at hi]
    by_cases hk : k = i
    · subst hk; simp [h, he]
    · have hk' : i ≠ k := fun e => hk e.symm
      simp [hk, h1 i hk', h2 i hk', h3 i hk']
  · have hki : k ≠ i := fun e => hi (e ▸ h)
    simp [hki, wl, hi]
/-- the addresses are apart, and in A -/
def Ap (ad : Nat → Nat) (N : Nat) (A : Nat → Prop) : Prop := (∀ i j, i < N → j < N → ad i = ad j → i = j) ∧ ∀ i, i < N → A (ad i)
theorem wl_of {D2 : Nat → ClassId} {ad : Nat → Nat} {N : Nat} {T : Nat → Nat × Nat} {I : KI} {J : KJ} {Q : KQ} {k : Nat} {q : Nat × va_E} (h : (wl D2 ad N T I J Q)[k]? = some q) : k < N ∧ q = (ad k, en D2 ad (T k) (I k) (J k) (Q k)) := by
  have hlt : k < N := by
    have := (List.getElem?_eq_some_iff.mp h).1
    simpa [wl] using this
  rw [wl_at hlt] at h
  exact ⟨hlt, (Option.some.inj h).symm⟩
theorem Ap.D {ad : Nat → Nat} {N : Nat} {A : Nat → Prop} (h : Ap ad N A) (D2 : Nat → ClassId) (T : Nat → Nat × Nat) (I : KI) (J : KJ) (Q : KQ) : va_D A (wl D2 ad N T I J Q) := by
  refine ⟨fun i j p q hp hq e => ?_, fun k q hq => ?_⟩
  · obtain ⟨hi, rfl⟩ := wl_of hp
    obtain ⟨hj, rfl⟩ := wl_of hq
    exact h.1 i j hi hj e
  · obtain ⟨hk, rfl⟩ := wl_of hq
    exact h.2 k hk
def Wd (D : va_G) (D2 : Nat → ClassId) (ad : Nat → Nat) (N : Nat) (T : Nat → Nat × Nat) (I : KI) (J : KJ) (Q : KQ) (H : Heap) : Prop := va_P D vwCl (wl D2 ad N T I J Q) H
/-- the words of the tables that go with a call; those of nest mates -/
def BIG : List Cond := lw_tbl.filter goodWord
def isNest : Cond → Bool := fun w => match w with
  | .fieldLinkNest _ _ _ _ _ _ => true
  | .methodLinkNest _ _ _ _ => true
  | _ => false
def nsL : List Cond := tables_1.filter isNest
theorem in_big {w : Cond} (h : w ∈ lw_tbl) (h2 : goodWord w = true) : w ∈ BIG := List.mem_filter.mpr ⟨h, h2⟩
theorem in_nsL {w : Cond} (h : w ∈ tables_1) (h2 : isNest w = true) : w ∈ nsL := List.mem_filter.mpr ⟨h, h2⟩
theorem big_good {w : Cond} (h : w ∈ BIG) : (w.onTables && w.keeps) = true ∨ ∃ ty, w = .arrayClass ty := good_of_word (List.mem_filter.mp h).2
theorem big_goodIn {ws : List Cond} (h : ∀ w ∈ ws, w ∈ BIG) : GoodIn BIG ws := fun w hw => ⟨h w hw, big_good (h w hw)⟩
def tyL (D2 : Nat → ClassId) : List (ClassId × FieldType) := [(D2 20, .int), (D2 21, .boolean), (D2 22, .char), (D2 23, .long), (D2 24, .object RX7), (D2 25, .object RX1), (D2 26, .object RX6)]
def KK (D : va_G) (D2 : Nat → ClassId) (U : State) : Prop := va_K D vwCl (tyL D2) U ∧ (∀ w ∈ nsL, va_Nw w U) ∧ ∀ C ∈ [RX7, RX1, RX6], va_AO C U
theorem KK.warm {D : va_G} {D2 : Nat → ClassId} {s U : State} (hW : s.WarmedH U.vm) (h : KK D D2 s) : KK D D2 U := by
  refine ⟨va_K.moved hW.alike h.1, fun w hw => ?_, fun C hC => va_AO.moved hW.alike (h.2.2 C hC)⟩
  have h2 := h.2.1 w hw
  have h3 := (List.mem_filter.mp hw).2
  unfold isNest at h3
  split at h3
  · exact va_Nw.warmF hW h2
  · exact va_Nw.warmM hW h2
  · cases h3
theorem KK.calling {D : va_G} {D2 : Nat → ClassId} {U : State} {g : JFrame} {mk : MethodId} {a : Array Value} (h : KK D D2 U) : KK D D2 (U.calling g mk a) := by
  refine ⟨va_K.moved (u := U) (U := U.calling g mk a) (Vm.Alike.refl U.vm) h.1, fun w hw => ?_, fun C hC => va_AO.moved (u := U) (U := U.calling g mk a) (Vm.Alike.refl U.vm) (h.2.2 C hC)⟩
  have h2 := h.2.1 w hw
  have h3 := (List.mem_filter.mp hw).2
  unfold isNest at h3
  split at h3
  · exact va_Nw.same rfl rfl h2
  · exact va_Nw.same rfl rfl h2
  · cases h3
/-- a reference that is what it should be -/
def OKr (Z : Nat → Prop) (N : Nat) (T : Nat → Nat × Nat) (k : Nat) (τ : Nat × Nat) : Prop := Z k ∧ k < N ∧ T k = τ
/-- what a class's reference fields, a row's places lead to -/
def rft : Nat × Nat → Nat → Option (Nat × Nat) := fun σ j => match σ.1, j with
  | 0, 0 => some (20, 384)
  | 0, 1 => some (20, 6)
  | 0, 2 => some (20, 6)
  | 1, 0 => some (4, 0)
  | 1, 1 => some (24, 6)
  | 1, 2 => some (20, 6)
  | 2, 0 => some (23, 64)
  | 3, 0 => some (25, 6)
  | 4, 0 => some (20, 48)
  | 5, 0 => some (20, 48)
  | 5, 1 => some (20, 6)
  | 5, 2 => some (7, 0)
  | 6, 0 => some (23, 24)
  | 7, 0 => some (20, 8)
  | 8, 0 => some (22, 90)
  | 8, 1 => some (4, 0)
  | 9, 0 => some (20, 6)
  | 9, 1 => some (20, 6)
  | 10, 0 => some (1, 0)
  | 10, 1 => some (3, 0)
  | 10, 2 => some (1, 0)
  | 10, 3 => some (3, 0)
  | 10, 4 => some (1, 0)
  | 10, 5 => some (5, 0)
  | 10, 6 => some (0, 0)
  | 10, 7 => some (9, 0)
  | 10, 8 => some (2, 0)
  | 10, 9 => some (8, 0)
  | 10, 10 => some (26, 4)
  | 11, 0 => some (20, 69)
  | 11, 3 => some (20, 414)
  | 11, 7 => some (20, 483)
  | 11, 8 => some (20, 69)
  | 11, 9 => some (21, 256)
  | 11, 10 => some (20, 6)
  | 11, 11 => some (20, 48)
  | 11, 13 => some (20, 8)
  | 11, 14 => some (20, 384)
  | 11, 15 => some (20, 6)
  | 11, 16 => some (20, 6)
  | 11, 19 => some (20, 90)
  | 11, 23 => some (20, 8)
  | 11, 24 => some (20, 4)
  | 11, 25 => some (20, 4)
  | 11, 26 => some (23, 96)
  | 24, j => if j < σ.2 then some (7, 0) else none
  | 25, j => if j < σ.2 then some (1, 0) else none
  | 26, j => if j < σ.2 then some (6, 0) else none
  | _, _ => none
def WF (Z : Nat → Prop) (N : Nat) (T : Nat → Nat × Nat) (Q : KQ) : Prop := ∀ k, Z k → ∀ j τ, rft (T k) j = some τ → ∃ k1, Q k j = some k1 ∧ OKr Z N T k1 τ
def rq (Q : KQ) (k j : Nat) : Nat := (Q k j).getD 0
theorem WF.q {Z : Nat → Prop} {N : Nat} {T : Nat → Nat × Nat} {Q : KQ} (h : WF Z N T Q) {k : Nat} {σ : Nat × Nat} (hk : OKr Z N T k σ) (j : Nat) {τ : Nat × Nat} (hr : rft σ j = some τ) : Q k j = some (rq Q k j) := by
  obtain ⟨k1, h1, -⟩ := h k hk.1 j τ (by rw [hk.2.2]; exact hr)
  simp [rq, h1]
theorem WF.r {Z : Nat → Prop} {N : Nat} {T : Nat → Nat × Nat} {Q : KQ} (h : WF Z N T Q) {k : Nat} {σ : Nat × Nat} (hk : OKr Z N T k σ) (j : Nat) {τ : Nat × Nat} (hr : rft σ j = some τ) : OKr Z N T (rq Q k j) τ := by
  obtain ⟨k1, h1, h2⟩ := h k hk.1 j τ (by rw [hk.2.2]; exact hr)
  simpa [rq, h1] using h2
theorem WF.set {Z : Nat → Prop} {N : Nat} {T : Nat → Nat × Nat} {Q : KQ} (h : WF Z N T Q) {k : Nat} {σ τ : Nat × Nat} (hk : OKr Z N T k σ) {j k1 : Nat} (hr : ∀ τ', rft σ j = some τ' → τ' = τ) (h1 : OKr Z N T k1 τ) : WF Z N T (upk Q k (va_up (Q k) j (some k1))) := by
  intro a ha i τ' hi
  by_cases hak : a = k
  · subst hak
    rw [upk_s]
    by_cases hij : i = j
    · subst hij
      rw [hk.2.2] at hi
      have := hr _ hi
      subst this
      exact ⟨k1, by simp [va_up], h1⟩
    · obtain ⟨k2, e1, e2⟩ := h a ha i τ' hi
      exact ⟨k2, by simp [va_up, hij, e1], e2⟩
  · rw [upk_n hak]
    exact h a ha i τ' hi

/-- the updates, named -/
def sti (I : KI) (k j : Nat) (v : Int32) : KI := upk I k (upd (I k) j v)
def stj (J : KJ) (k j : Nat) (v : Int64) : KJ := upk J k (vp_updL (J k) j v)
def stq (Q : KQ) (k j k1 : Nat) : KQ := upk Q k (va_up (Q k) j (some k1))
def cpi (I : KI) (k0 k1 sp dp n : Nat) : KI := upk I k1 (va_cpy (I k0) (I k1) sp dp n)
def cpj (J : KJ) (k0 k1 sp dp n : Nat) : KJ := upk J k1 (va_cpy (J k0) (J k1) sp dp n)
theorem rft_eS {n : Nat} {i : Int32} (h : vp_in i n) : rft (24, n) i.toNatClampNeg = some (7, 0) := by
  have hlt : i.toNatClampNeg < n := Nat.not_le.mp fun q => h (Or.inr q)
  show (if i.toNatClampNeg < n then some (7, 0) else none) = some (7, 0)
  rw [if_pos hlt]
theorem rft_eN {n : Nat} {i : Int32} (h : vp_in i n) : rft (25, n) i.toNatClampNeg = some (1, 0) := by
  have hlt : i.toNatClampNeg < n := Nat.not_le.mp fun q => h (Or.inr q)
  show (if i.toNatClampNeg < n then some (1, 0) else none) = some (1, 0)
  rw [if_pos hlt]
theorem rft_eR {n : Nat} {i : Int32} (h : vp_in i n) : rft (26, n) i.toNatClampNeg = some (6, 0) := by
  have hlt : i.toNatClampNeg < n := Nat.not_le.mp fun q => h (Or.inr q)
  show (if i.toNatClampNeg < n then some (6, 0) else none) = some (6, 0)
  rw [if_pos hlt]
theorem rft_uS {n j : Nat} : ∀ τ, rft (24, n) j = some τ → τ = (7, 0) := by
  intro τ h
  have h : (if j < n then some (7, 0) else none) = some τ := h
  split at h
  · exact (Option.some.inj h).symm
  · cases h
theorem rft_uN {n j : Nat} : ∀ τ, rft (25, n) j = some τ → τ = (1, 0) := by
  intro τ h
  have h : (if j < n then some (1, 0) else none) = some τ := h
  split at h
  · exact (Option.some.inj h).symm
  · cases h
theorem rft_uR {n j : Nat} : ∀ τ, rft (26, n) j = some τ → τ = (6, 0) := by
  intro τ h
  have h : (if j < n then some (6, 0) else none) = some τ := h
  split at h
  · exact (Option.some.inj h).symm
  · cases h
theorem nar_b {v : Int32} (h : v = 0 ∨ v = 1) : narrow .boolean (.int v) = .int v := by
  rcases h with rfl | rfl <;> rfl
theorem sw_out {x : Int32} {lo hi : Int} (h : ∀ v : Int, lo ≤ v → v ≤ hi → ¬ x = Int32.ofInt v) : x.toInt < lo ∨ hi < x.toInt := by
  by_cases h1 : x.toInt < lo
  · exact Or.inl h1
  · by_cases h2 : hi < x.toInt
    · exact Or.inr h2
    · exact absurd (Int32.ofInt_toInt x).symm (h x.toInt (by omega) (by omega))
theorem sw_ne {x : Int32} {v : Int} (h : ¬ x = Int32.ofInt v) : ¬ v = x.toInt := fun e => h (by rw [e]; exact (Int32.ofInt_toInt x).symm)
theorem lk_out {x : Int32} {a o b q d : Int} (h1 : ¬ x = Int32.ofInt a) (h2 : ¬ x = Int32.ofInt b) : Op.lookupswitch.offset [(a, o), (b, q)] d x.toInt = d := by
  simp [Op.lookupswitch.offset, sw_ne h1, sw_ne h2]
theorem vp_lit {x : Int32} {n : Nat} (h : decide (x < 0 ∨ n ≤ x.toNatClampNeg) = false) : vp_in x n := of_decide_eq_false h
/-- the five texts: their lengths and bytes; string i stands at D2 (100 + i), its bytes at D2 (200 + i); D2 300, 301: what String.checkIndex hands on -/
def lenS : List Nat := [4, 4, 4, 5, 3]
def bytS : List (List Int32) := [[112, 97, 116, 104], [114, 105, 110, 103], [115, 116, 97, 114], [108, 105, 110, 107, 115], [97, 108, 108]]
def idxS : List Nat := [47, 57, 59, 64, 69]
def txS : List String := ["path", "ring", "star", "links", "all"]
/-- what String.checkIndex hands on: null or something; it is never looked at -/
def fmt (D2 : Nat → ClassId) : Value := if D2 301 = 0 then .null else .ref (D2 300)
theorem fmt_cat (D2 : Nat → ClassId) : (fmt D2).category = 1 := by
  unfold fmt
  split <;> rfl
def SF (D2 : Nat → ClassId) (A : Nat → Prop) (U : State) (H : Heap) : Prop := vk_S 5 lenS bytS (fun i => D2 (100 + i)) (fun i => D2 (200 + i)) A U H ∧ (∀ i, i < 5 → vk_R "TokenRounds$Tape" (idxS.getD i 0) (txS.getD i "") (D2 (100 + i)) U) ∧ va_Z "java/lang/String" "COMPACT_STRINGS" "Z" (.int 1) A U H ∧ va_Z "jdk/internal/util/Preconditions" "SIOOBE_FORMATTER" "Ljava/util/function/BiFunction;" (fmt D2) A U H
theorem SF.ent {D2 : Nat → ClassId} {A : Nat → Prop} {s U : State} {H : Heap} {locs : List Loc} (h : SF D2 A s s.heap) (hS : va_S A s.heap H locs) (hw : s.WarmedH U.vm) : SF D2 A U H :=
  ⟨(vk_S.moved hw.alike h.1).kept hS.2.1, fun i hi => vk_R.warm hw (h.2.1 i hi), (va_Z.moved hw.alike h.2.2.1).kept hS.2.1, (va_Z.moved hw.alike h.2.2.2).kept hS.2.1⟩
theorem SF.calling {D2 : Nat → ClassId} {A : Nat → Prop} {U : State} {H : Heap} {g : JFrame} {mk : MethodId} {a : Array Value} (h : SF D2 A U H) : SF D2 A (U.calling g mk a) H :=
  ⟨vk_S.moved (u := U) (U := U.calling g mk a) (Vm.Alike.refl U.vm) h.1, fun i hi => vk_R.same (u := U) (U := U.calling g mk a) rfl (h.2.1 i hi), va_Z.moved (u := U) (U := U.calling g mk a) (Vm.Alike.refl U.vm) h.2.2.1, va_Z.moved (u := U) (U := U.calling g mk a) (Vm.Alike.refl U.vm) h.2.2.2⟩
