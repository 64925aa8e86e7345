/-- what each cell of the pool is, in the order in which they are made -/
def TTl : List (Nat × Nat) := [(10, 0), (1, 0), (4, 0), (20, 48), (24, 6), (20, 6), (7, 0), (20, 8), (7, 0), (20, 8), (7, 0), (20, 8), (7, 0), (20, 8), (7, 0), (20, 8), (7, 0), (20, 8), (3, 0), (25, 6), (1, 0), (4, 0), (20, 48), (24, 6), (20, 6), (7, 0), (20, 8), (7, 0), (20, 8), (7, 0), (20, 8), (7, 0), (20, 8), (7, 0), (20, 8), (7, 0), (20, 8), (1, 0), (4, 0), (20, 48), (24, 6), (20, 6), (7, 0), (20, 8), (7, 0), (20, 8), (7, 0), (20, 8), (7, 0), (20, 8), (7, 0), (20, 8), (7, 0), (20, 8), (1, 0), (4, 0), (20, 48), (24, 6), (20, 6), (7, 0), (20, 8), (7, 0), (20, 8), (7, 0), (20, 8), (7, 0), (20, 8), (7, 0), (20, 8), (7, 0), (20, 8), (1, 0), (4, 0), (20, 48), (24, 6), (20, 6), (7, 0), (20, 8), (7, 0), (20, 8), (7, 0), (20, 8), (7, 0), (20, 8), (7, 0), (20, 8), (7, 0), (20, 8), (1, 0), (4, 0), (20, 48), (24, 6), (20, 6), (7, 0), (20, 8), (7, 0), (20, 8), (7, 0), (20, 8), (7, 0), (20, 8), (7, 0), (20, 8), (7, 0), (20, 8), (1, 0), (4, 0), (20, 48), (24, 6), (20, 6), (7, 0), (20, 8), (7, 0), (20, 8), (7, 0), (20, 8), (7, 0), (20, 8), (7, 0), (20, 8), (7, 0), (20, 8), (1, 0), (4, 0), (20, 48), (24, 6), (20, 6), (7, 0), (20, 8), (7, 0), (20, 8), (7, 0), (20, 8), (7, 0), (20, 8), (7, 0), (20, 8), (7, 0), (20, 8), (3, 0), (25, 6), (1, 0), (4, 0), (20, 48), (24, 6), (20, 6), (7, 0), (20, 8), (7, 0), (20, 8), (7, 0), (20, 8), (7, 0), (20, 8), (7, 0), (20, 8), (7, 0), (20, 8), (1, 0), (4, 0), (20, 48), (24, 6), (20, 6), (7, 0), (20, 8), (7, 0), (20, 8), (7, 0), (20, 8), (7, 0), (20, 8), (7, 0), (20, 8), (7, 0), (20, 8), (1, 0), (4, 0), (20, 48), (24, 6), (20, 6), (7, 0), (20, 8), (7, 0), (20, 8), (7, 0), (20, 8), (7, 0), (20, 8), (7, 0), (20, 8), (7, 0), (20, 8), (1, 0), (4, 0), (20, 48), (24, 6), (20, 6), (7, 0), (20, 8), (7, 0), (20, 8), (7, 0), (20, 8), (7, 0), (20, 8), (7, 0), (20, 8), (7, 0), (20, 8), (1, 0), (4, 0), (20, 48), (24, 6), (20, 6), (7, 0), (20, 8), (7, 0), (20, 8), (7, 0), (20, 8), (7, 0), (20, 8), (7, 0), (20, 8), (7, 0), (20, 8), (1, 0), (4, 0), (20, 48), (24, 6), (20, 6), (7, 0), (20, 8), (7, 0), (20, 8), (7, 0), (20, 8), (7, 0), (20, 8), (7, 0), (20, 8), (7, 0), (20, 8), (1, 0), (4, 0), (20, 48), (24, 6), (20, 6), (7, 0), (20, 8), (7, 0), (20, 8), (7, 0), (20, 8), (7, 0), (20, 8), (7, 0), (20, 8), (7, 0), (20, 8), (5, 0), (20, 48), (20, 6), (7, 0), (20, 8), (0, 0), (20, 384), (20, 6), (20, 6), (9, 0), (20, 6), (20, 6), (2, 0), (23, 64), (8, 0), (22, 90), (4, 0), (20, 48), (26, 4), (6, 0), (23, 24), (6, 0), (23, 24), (6, 0), (23, 24), (6, 0), (23, 24), (11, 0), (20, 69), (20, 414), (20, 483), (20, 69), (21, 256), (20, 6), (20, 48), (20, 8), (20, 384), (20, 6), (20, 6), (20, 90), (20, 8), (20, 4), (20, 4), (23, 96)]
def TT (k : Nat) : Nat × Nat := TTl.getD k (99, 0)
/-- all that is left to be shown of a script -/
def wp_start (L : Nat) (xs : Nat → Int32) : Prop := TT 0 = (10, 0) ∧ wp_X10_init (upk (fun _ => zI) 0 zI) (upk (fun _ => zJ) 0 zJ) (upk (fun _ => zQ) 0 zQ) TT 1 0 (fun I J Q => TT 287 = (11, 0) ∧ wp_X11_init (upk I 287 zI) (upk J 287 zJ) (upk Q 287 zQ) TT 288 287 (fun I J Q => ∃ Z : Nat → Prop, WF Z 304 TT Q ∧ OKr Z 304 TT 0 (10, 0) ∧ OKr Z 304 TT 287 (11, 0) ∧ wp_law I J Q L xs))
theorem ls_1 : Ln RL 7 10 12 := ⟨RX10, TX10, tyX10, rfl, by decide, ft_248, rfl, tyX10_ok, fun j hj => by rcases (show j = 0 ∨ j = 1 ∨ j = 2 ∨ j = 3 ∨ j = 4 ∨ j = 5 ∨ j = 6 ∨ j = 7 ∨ j = 8 ∨ j = 9 ∨ j = 10 ∨ j = 11 by omega) with rfl | rfl | rfl | rfl | rfl | rfl | rfl | rfl | rfl | rfl | rfl | rfl <;> rfl, in_big (by decide +kernel) (by decide +kernel), in_big (by decide +kernel) (by decide +kernel), in_big (by decide +kernel) (by decide +kernel)⟩
theorem ls_2 : Ln RL 10 11 27 := ⟨RX11, TX11, tyX11, rfl, by decide, ft_364, rfl, tyX11_ok, fun j hj => by rcases (show j = 0 ∨ j = 1 ∨ j = 2 ∨ j = 3 ∨ j = 4 ∨ j = 5 ∨ j = 6 ∨ j = 7 ∨ j = 8 ∨ j = 9 ∨ j = 10 ∨ j = 11 ∨ j = 12 ∨ j = 13 ∨ j = 14 ∨ j = 15 ∨ j = 16 ∨ j = 17 ∨ j = 18 ∨ j = 19 ∨ j = 20 ∨ j = 21 ∨ j = 22 ∨ j = 23 ∨ j = 24 ∨ j = 25 ∨ j = 26 by omega) with rfl | rfl | rfl | rfl | rfl | rfl | rfl | rfl | rfl | rfl | rfl | rfl | rfl | rfl | rfl | rfl | rfl | rfl | rfl | rfl | rfl | rfl | rfl | rfl | rfl | rfl | rfl <;> rfl, in_big (by decide +kernel) (by decide +kernel), in_big (by decide +kernel) (by decide +kernel), in_big (by decide +kernel) (by decide +kernel)⟩
theorem ls_3 : LI RL 9 yX10_init 0 := ⟨Or.inl (in_big (by decide +kernel) (by decide +kernel)), ⟨in_big (by decide +kernel) (by decide +kernel), in_big (by decide +kernel) (by decide +kernel)⟩, rfl, by decide +kernel, by decide +kernel, by decide +kernel⟩
theorem ls_4 : LI RL 12 yX11_init 0 := ⟨Or.inl (in_big (by decide +kernel) (by decide +kernel)), ⟨in_big (by decide +kernel) (by decide +kernel), in_big (by decide +kernel) (by decide +kernel)⟩, rfl, by decide +kernel, by decide +kernel, by decide +kernel⟩
theorem ls_5 : Cond.code yX10_init cX10_init 2 none ∈ BIG := in_big (by decide +kernel) (by decide +kernel)
theorem ls_6 : Cond.code yX11_init cX11_init 1 none ∈ BIG := in_big (by decide +kernel) (by decide +kernel)
set_option maxHeartbeats 4000000 in
theorem st_K {args : Array Value} {s : State} (hts : ∀ w ∈ lw_tbl, w.before args s = true) : ∃ (D : va_G) (cl : Nat → ClassId), va_K D vwCl (tyL cl) s := by
  have hB : ∀ w ∈ BIG, w.before args s = true := fun w hw => hts w (List.mem_filter.mp hw).1
  obtain ⟨c0, i0, k0⟩ := u_known (C := RX0) (T := TX0) (N := 3) (n := 3) hB ft_48 (hB _ (in_big (by decide +kernel) (by decide +kernel)))
  obtain ⟨c1, i1, k1⟩ := u_known (C := RX1) (T := TX1) (N := 9) (n := 9) hB ft_5 (hB _ (in_big (by decide +kernel) (by decide +kernel)))
  obtain ⟨c2, i2, k2⟩ := u_known (C := RX2) (T := TX2) (N := 3) (n := 3) hB ft_111 (hB _ (in_big (by decide +kernel) (by decide +kernel)))
  obtain ⟨c3, i3, k3⟩ := u_known (C := RX3) (T := TX3) (N := 2) (n := 2) hB ft_126 (hB _ (in_big (by decide +kernel) (by decide +kernel)))
  obtain ⟨c4, i4, k4⟩ := u_known (C := RX4) (T := TX4) (N := 2) (n := 2) hB ft_3 (hB _ (in_big (by decide +kernel) (by decide +kernel)))
  obtain ⟨c5, i5, k5⟩ := u_known (C := RX5) (T := TX5) (N := 4) (n := 4) hB ft_26 (hB _ (in_big (by decide +kernel) (by decide +kernel)))
  obtain ⟨c6, i6, k6⟩ := u_known (C := RX6) (T := TX6) (N := 3) (n := 3) hB ft_172 (hB _ (in_big (by decide +kernel) (by decide +kernel)))
  obtain ⟨c7, i7, k7⟩ := u_known (C := RX7) (T := TX7) (N := 1) (n := 1) hB ft_14 (hB _ (in_big (by decide +kernel) (by decide +kernel)))
  obtain ⟨c8, i8, k8⟩ := u_known (C := RX8) (T := TX8) (N := 5) (n := 5) hB ft_178 (hB _ (in_big (by decide +kernel) (by decide +kernel)))
  obtain ⟨c9, i9, k9⟩ := u_known (C := RX9) (T := TX9) (N := 2) (n := 2) hB ft_232 (hB _ (in_big (by decide +kernel) (by decide +kernel)))
  obtain ⟨c10, i10, k10⟩ := u_known (C := RX10) (T := TX10) (N := 12) (n := 12) hB ft_248 (hB _ (in_big (by decide +kernel) (by decide +kernel)))
  obtain ⟨c11, i11, k11⟩ := u_known (C := RX11) (T := TX11) (N := 27) (n := 27) hB ft_364 (hB _ (in_big (by decide +kernel) (by decide +kernel)))
  obtain ⟨a20, q20, p20, e20, f20, g20⟩ := Cond.arrayClass_spec (type := .int) (show (Cond.arrayClass .int).holds args s none s [] = true from hB _ (in_big (by decide +kernel) (by decide +kernel)))
  obtain ⟨a21, q21, p21, e21, f21, g21⟩ := Cond.arrayClass_spec (type := .boolean) (show (Cond.arrayClass .boolean).holds args s none s [] = true from hB _ (in_big (by decide +kernel) (by decide +kernel)))
  obtain ⟨a22, q22, p22, e22, f22, g22⟩ := Cond.arrayClass_spec (type := .char) (show (Cond.arrayClass .char).holds args s none s [] = true from hB _ (in_big (by decide +kernel) (by decide +kernel)))
  obtain ⟨a23, q23, p23, e23, f23, g23⟩ := Cond.arrayClass_spec (type := .long) (show (Cond.arrayClass .long).holds args s none s [] = true from hB _ (in_big (by decide +kernel) (by decide +kernel)))
  obtain ⟨p24, a24, q24, d24, -, f24, g24, e24⟩ := Cond.arrayOver_spec (n := RX7) (show (Cond.arrayOver (.object RX7)).holds args s none s [] = true from hts _ (List.mem_append_right _ (by decide +kernel)))
  obtain ⟨p25, a25, q25, d25, -, f25, g25, e25⟩ := Cond.arrayOver_spec (n := RX1) (show (Cond.arrayOver (.object RX1)).holds args s none s [] = true from hts _ (List.mem_append_right _ (by decide +kernel)))
  obtain ⟨p26, a26, q26, d26, -, f26, g26, e26⟩ := Cond.arrayOver_spec (n := RX6) (show (Cond.arrayOver (.object RX6)).holds args s none s [] = true from hts _ (List.mem_append_right _ (by decide +kernel)))
  refine ⟨(fun k => if k = 0 then c0 else if k = 1 then c1 else if k = 2 then c2 else if k = 3 then c3 else if k = 4 then c4 else if k = 5 then c5 else if k = 6 then c6 else if k = 7 then c7 else if k = 8 then c8 else if k = 9 then c9 else if k = 10 then c10 else c11, fun k => if k = 0 then i0 else if k = 1 then i1 else if k = 2 then i2 else if k = 3 then i3 else if k = 4 then i4 else if k = 5 then i5 else if k = 6 then i6 else if k = 7 then i7 else if k = 8 then i8 else if k = 9 then i9 else if k = 10 then i10 else i11), fun k => if k = 20 then a20 else if k = 21 then a21 else if k = 22 then a22 else if k = 23 then a23 else if k = 24 then a24 else if k = 25 then a25 else a26, fun k q hq => ?_, fun k q hk => ?_⟩
  · have hlt : k < 12 := (List.getElem?_eq_some_iff.mp hq).1
    rcases (show k = 0 ∨ k = 1 ∨ k = 2 ∨ k = 3 ∨ k = 4 ∨ k = 5 ∨ k = 6 ∨ k = 7 ∨ k = 8 ∨ k = 9 ∨ k = 10 ∨ k = 11 by omega) with rfl | rfl | rfl | rfl | rfl | rfl | rfl | rfl | rfl | rfl | rfl | rfl
    · cases hq; exact k0
    · cases hq; exact k1
    · cases hq; exact k2
    · cases hq; exact k3
    · cases hq; exact k4
    · cases hq; exact k5
    · cases hq; exact k6
    · cases hq; exact k7
    · cases hq; exact k8
    · cases hq; exact k9
    · cases hq; exact k10
    · cases hq; exact k11
  · have hlt : k < 7 := (List.getElem?_eq_some_iff.mp hk).1
    rcases (show k = 0 ∨ k = 1 ∨ k = 2 ∨ k = 3 ∨ k = 4 ∨ k = 5 ∨ k = 6 by omega) with rfl | rfl | rfl | rfl | rfl | rfl | rfl
    · cases hk; exact ⟨fun n z => ⟨fun k h => (by cases h), q20, f20, p20, g20⟩, e20⟩
    · cases hk; exact ⟨fun n z => ⟨fun k h => (by cases h), q21, f21, p21, g21⟩, e21⟩
    · cases hk; exact ⟨fun n z => ⟨fun k h => (by cases h), q22, f22, p22, g22⟩, e22⟩
    · cases hk; exact ⟨fun n z => ⟨fun k h => (by cases h), q23, f23, p23, g23⟩, e23⟩
    · cases hk; exact ⟨fun n z => ⟨fun k h => (by cases h), q24, f24, p24, g24⟩, q24, p24, f24, g24, d24, e24⟩
    · cases hk; exact ⟨fun n z => ⟨fun k h => (by cases h), q25, f25, p25, g25⟩, q25, p25, f25, g25, d25, e25⟩
    · cases hk; exact ⟨fun n z => ⟨fun k h => (by cases h), q26, f26, p26, g26⟩, q26, p26, f26, g26, d26, e26⟩
theorem st_nest {args : Array Value} {s : State} (hts : ∀ w ∈ lw_tbl, w.before args s = true) : ∀ w ∈ nsL, va_Nw w s := by
  intro w hw
  have h1 := hts w (List.mem_append_right _ (List.mem_filter.mp hw).1)
  have h3 := (List.mem_filter.mp hw).2
  unfold isNest at h3
  split at h3
  · exact va_Nw.of rfl h1
  · exact va_Nw.of rfl h1
  · cases h3
def tmS (i : Nat) : Term := .string "TokenRounds$Tape" (idxS.getD i 0)
set_option maxHeartbeats 4000000 in
set_option maxRecDepth 100000 in
theorem st_S {s : State} {b : Nat} {A : Nat → Prop} (hts : ∀ w ∈ lw_tbl, w.before #[Value.ref b] s = true) (hgv : (Jvm.Cond.and given_1 narrow_1).before #[Value.ref b] s = true) (hA : ∀ a : Nat, a < s.heap.size → ¬ A a) : ∃ (adK adV : Nat → Nat) (v : Value), vk_S 5 lenS bytS adK adV A s s.heap ∧ (∀ i, i < 5 → vk_R "TokenRounds$Tape" (idxS.getD i 0) (txS.getD i "") (adK i) s) ∧ va_Z "java/lang/String" "COMPACT_STRINGS" "Z" (.int 1) A s s.heap ∧ va_Z "jdk/internal/util/Preconditions" "SIOOBE_FORMATTER" "Ljava/util/function/BiFunction;" v A s s.heap ∧ (v = .null ∨ ∃ t, v = .ref t) := by
  have hs := flat_of_before _ hgv
  have hB : ∀ w ∈ BIG, w.before #[Value.ref b] s = true := fun w hw => hts w (List.mem_filter.mp hw).1
  obtain ⟨adK, adV, h1, h2⟩ := vk_Sof (args := #[Value.ref b]) (s := s) (N := 5) (tm := tmS) (len := lenS) (byt := bytS) (A := A) (by decide)
    (fun i hi => hs _ ((by decide +kernel : ∀ i, i < 5 → Cond.exactly (tmS i) "java/lang/String" ∈ flatC (Jvm.Cond.and given_1 narrow_1)) i hi))
    (fun i hi => hs _ ((by decide +kernel : ∀ i, i < 5 → Cond.eq (.field (tmS i) "java/lang/String" "coder" "B") (.int 0) ∈ flatC (Jvm.Cond.and given_1 narrow_1)) i hi))
    (fun i hi => hs _ ((by decide +kernel : ∀ i, i < 5 → Cond.arrayOf (.field (tmS i) "java/lang/String" "value" "[B") .byte ∈ flatC (Jvm.Cond.and given_1 narrow_1)) i hi))
    (fun i hi => hs _ ((by decide +kernel : ∀ i, i < 5 → Cond.eq (.length (.field (tmS i) "java/lang/String" "value" "[B")) (.int (Int32.ofNat (lenS.getD i 0))) ∈ flatC (Jvm.Cond.and given_1 narrow_1)) i hi))
    (fun i hi j hj => hs _ ((by decide +kernel : ∀ i, i < 5 → ∀ j, j < lenS.getD i 0 → Cond.eq (.elem (.field (tmS i) "java/lang/String" "value" "[B") (.int (Int32.ofNat j))) (.int ((bytS.getD i []).getD j 0)) ∈ flatC (Jvm.Cond.and given_1 narrow_1)) i hi j hj))
    (fun i j hi hj hne => by
      rcases (by decide +kernel : ∀ i, i < 5 → ∀ j, j < 5 → i ≠ j → (Cond.not (Cond.eq (tmS i) (tmS j)) ∈ flatC (Jvm.Cond.and given_1 narrow_1) ∨ Cond.not (Cond.eq (tmS j) (tmS i)) ∈ flatC (Jvm.Cond.and given_1 narrow_1))) i hi j hj hne with h | h
      · exact Or.inl (hs _ h)
      · exact Or.inr (hs _ h)) hA
  have hq : (Cond.isRef (.static "jdk/internal/util/Preconditions" "SIOOBE_FORMATTER" "Ljava/util/function/BiFunction;")).before #[Value.ref b] s = true := hs _ (by decide +kernel)
  have hz := va_Zqof (A := A) (hts _ (List.mem_append_right _ (by decide +kernel))) (hB _ (in_big (by decide +kernel) (by decide +kernel))) hq hA
  have hc := va_Zof (A := A) (hts _ (List.mem_append_right _ (by decide +kernel))) (hB _ (in_big (by decide +kernel) (by decide +kernel))) (va_eqi (hs (Cond.eq (.static "java/lang/String" "COMPACT_STRINGS" "Z") (.int 1)) (by decide +kernel))) hA
  have hR : ∀ i, i < 5 → vk_R "TokenRounds$Tape" (idxS.getD i 0) (txS.getD i "") (adK i) s := fun i hi => vk_R.of (hts _ (List.mem_append_right _ ((by decide +kernel : ∀ i, i < 5 → Cond.stringRef "TokenRounds$Tape" (idxS.getD i 0) (txS.getD i "") ∈ tables_1) i hi))) (h2 i hi)
  rcases hz with hz | ⟨t, hz⟩
  · exact ⟨adK, adV, .null, h1, hR, hc, hz, Or.inl rfl⟩
  · exact ⟨adK, adV, .ref t, h1, hR, hc, hz, Or.inr ⟨t, rfl⟩⟩
theorem st_SF {s : State} {A : Nat → Prop} {cl adK adV : Nat → Nat} {t f : Nat} {v : Value} {D2 : Nat → ClassId} (hD : D2 = fun k => if k < 100 then cl k else if k < 200 then adK (k - 100) else if k < 300 then adV (k - 200) else if k = 300 then t else f) (hv : v = if f = 0 then .null else .ref t) (h1 : vk_S 5 lenS bytS adK adV A s s.heap) (h2 : ∀ i, i < 5 → vk_R "TokenRounds$Tape" (idxS.getD i 0) (txS.getD i "") (adK i) s) (h3 : va_Z "java/lang/String" "COMPACT_STRINGS" "Z" (.int 1) A s s.heap) (h4 : va_Z "jdk/internal/util/Preconditions" "SIOOBE_FORMATTER" "Ljava/util/function/BiFunction;" v A s s.heap) : SF D2 A s s.heap := by
  have eK : ∀ i, i < 5 → D2 (100 + i) = adK i := by
    intro i hi
    have e : 100 + i - 100 = i := by omega
    rw [hD]
    simp [show ¬ 100 + i < 100 by omega, show 100 + i < 200 by omega, e]
  have eV : ∀ i, i < 5 → D2 (200 + i) = adV i := by
    intro i hi
    have e : 200 + i - 200 = i := by omega
    rw [hD]
    simp [show ¬ 200 + i < 100 by omega, show ¬ 200 + i < 200 by omega, show 200 + i < 300 by omega, e]
  have e1 : fmt D2 = v := by
    rw [hv, hD]
    rfl
  refine ⟨⟨fun i hi => ?_, fun i j hi hj e => ?_⟩, fun i hi => ?_, h3, ?_⟩
  · show va_O _ (D2 (100 + i)) _ _ _ ∧ va_OF _ _ _ _ (D2 (100 + i)) _ _ _ ∧ va_OF _ _ _ (.ref (D2 (200 + i))) (D2 (100 + i)) _ _ _ ∧ va_T _ (D2 (200 + i)) _ _ _ _ _
    rw [eK i hi, eV i hi]
    exact h1.1 i hi
  · have e : D2 (100 + i) = D2 (100 + j) := e
    rw [eK i hi, eK j hj] at e
    exact h1.2 i j hi hj e
  · rw [eK i hi]
    exact h2 i hi
  · rw [e1]
    exact h4

set_option maxHeartbeats 4000000 in
set_option maxRecDepth 100000 in
theorem law_start {p : Program} {e : Env} {s : State} {m : MethodId} {below : List Frame} {meth : Method} {c : Code} (l : Launch) {b L : Nat} {xs : Nat → Int32} (C0 : lw_At p s m meth c b L xs) (hw : wp_start L xs) : W p l e room_1 s m #[Value.ref b] below meth c s.heap [] 0 0 (lw_Z below #[Value.ref b] s) (entryFrame m ([Value.ref b] : List Value).toArray 4) := by
  obtain ⟨hx, hb, hr, hml, hown, hts, hX, hbl, hlocks, hgv⟩ := id C0
  have hB : ∀ w ∈ BIG, w.before #[Value.ref b] s = true := fun w hw => hts w (List.mem_filter.mp hw).1
  obtain ⟨D, cl, hK⟩ := st_K hts
  have hAn : ∀ a : Nat, a < s.heap.size → ¬ (fun q : Nat => s.heap.size ≤ q) a := fun a h => Nat.not_le.mpr h
  obtain ⟨adK, adV, v, q1, q2, q3, q4, q5⟩ := st_S (A := fun q : Nat => s.heap.size ≤ q) hts hgv hAn
  obtain ⟨t, f, hv⟩ : ∃ t f : Nat, v = if f = 0 then .null else .ref t := by
    rcases q5 with rfl | ⟨t, rfl⟩
    · exact ⟨0, 0, rfl⟩
    · exact ⟨t, 1, rfl⟩
  obtain ⟨D2, hD⟩ : ∃ D2 : Nat → ClassId, D2 = fun k => if k < 100 then cl k else if k < 200 then adK (k - 100) else if k < 300 then adV (k - 200) else if k = 300 then t else f := ⟨_, rfl⟩
  have hSF := st_SF hD hv q1 q2 q3 q4
  have hT : tyL D2 = tyL cl := by rw [hD]; rfl
  have hKK : KK D D2 s := ⟨by rw [hT]; exact hK, st_nest hts, fun C hC => by
    rcases List.mem_cons.mp hC with rfl | hC
    · exact va_AO.of (hts _ (List.mem_append_right _ (by decide +kernel)))
    rcases List.mem_cons.mp hC with rfl | hC
    · exact va_AO.of (hts _ (List.mem_append_right _ (by decide +kernel)))
    rw [List.mem_singleton.mp hC]
    exact va_AO.of (hts _ (List.mem_append_right _ (by decide +kernel)))⟩
  have C : CX p s m #[Value.ref b] meth c cL_law 4 RL (fun q : Nat => s.heap.size ≤ q) D D2 := ⟨hx, hb, hml, hown, hB, hKK, fun q h => h, hlocks, hSF⟩
  obtain ⟨ad, hAd⟩ : ∃ ad : Nat → Nat, ∀ k, ad k = s.heap.size + k := ⟨fun k => s.heap.size + k, fun _ => rfl⟩
  have hCe : s.heap.size + 0 = s.heap.size + 0 := rfl
  have G0 : GG p l e room_1 s m #[Value.ref b] below meth c 4 (fun q : Nat => s.heap.size ≤ q) D D2 0 0 (lw_Z below #[Value.ref b] s) ad 0 TT (fun _ => zI) (fun _ => zJ) (fun _ => zQ) 0 [(0, .ref b)] [] := by
    obtain ⟨hw1, hw⟩ := hw
    refine g_new C dL_law_0 ls_1 hw1 hAd (by omega) (by omega) (by decide) (by decide) ?_
    refine g_dup C dL_law_3 rfl ?_
    refine g_callI C dL_law_4 ls_3 ls_5 (met_X10_init l hAd ⟨trivial, by omega, hw1⟩ hw) ⟨rfl, rfl, Nat.le_of_ble_eq_true rfl, Nat.le_of_ble_eq_true rfl⟩ ⟨Nat.le_of_ble_eq_true rfl, Nat.le_of_ble_eq_true rfl⟩ (Nat.le_of_ble_eq_true rfl) hAd (by omega) (by omega) (fun I1 J1 Q1 hw => ?_)
    obtain ⟨hw1, hw⟩ := hw
    refine g_astore_n (lv' := [(1, .ref (ad 0)), (0, .ref b)]) C dL_law_7 rfl (by decide) rfl ?_
    refine g_new C dL_law_8 ls_2 hw1 hAd (by omega) (by omega) (by decide) (by decide) ?_
    refine g_dup C dL_law_11 rfl ?_
    refine g_callI C dL_law_12 ls_4 ls_6 (met_X11_init l hAd ⟨trivial, by omega, hw1⟩ hw) ⟨rfl, rfl, Nat.le_of_ble_eq_true rfl, Nat.le_of_ble_eq_true rfl⟩ ⟨Nat.le_of_ble_eq_true rfl, Nat.le_of_ble_eq_true rfl⟩ (Nat.le_of_ble_eq_true rfl) hAd (by omega) (by omega) (fun I2 J2 Q2 hw => ?_)
    obtain ⟨Z, hWF, z1, z2, hw⟩ := hw
    refine g_astore_n (lv' := [(2, .ref (ad 287)), (1, .ref (ad 0)), (0, .ref b)]) C dL_law_15 rfl (by decide) rfl ?_
    refine g_iconst (v := (0 : Int32)) C dL_law_16 (by decide) ?_
    refine g_istore_n (lv' := [(3, .int (0 : Int32)), (2, .ref (ad 287)), (1, .ref (ad 0)), (0, .ref b)]) C dL_law_17 rfl (by decide) rfl ?_
    refine g_sub [3, 2, 1, 0] rfl ?_
    exact law_body C hr hX hbl (Nat.not_le.mpr hbl) (fun q h => h) hWF z1 z2 hw
  have hl := lv_entry ([.ref b]) (n := 4) (Nat.le_of_ble_eq_true rfl)
  rw [lg_entry_eq]
  generalize (lg_sl ([.ref b]) ++ List.replicate (4 - (lg_sl ([.ref b])).length) Slot.unset).toArray = ls at hl ⊢
  have hl : lv_has ls 4 [(0, .ref b)] := hl
  exact G0 s.heap [] ls (fun k q h => by simp [wl] at h) ⟨fun i j hi => absurd hi (Nat.not_lt_zero i), fun i hi => absurd hi (Nat.not_lt_zero i)⟩ va_S.rf hl

