def wp_J6_bitCount_0f7a4  (x0 : Int32) (post : Int32 → Prop) : Prop := post ((((((((x0 - (((x0.toUInt32 >>> ((1 : Int32).toUInt32 &&& Int32.toUInt32 31)).toInt32) &&& (1431655765 : Int32))) &&& (858993459 : Int32)) + ((((x0 - (((x0.toUInt32 >>> ((1 : Int32).toUInt32 &&& Int32.toUInt32 31)).toInt32) &&& (1431655765 : Int32))).toUInt32 >>> ((2 : Int32).toUInt32 &&& Int32.toUInt32 31)).toInt32) &&& (858993459 : Int32))) + (((((x0 - (((x0.toUInt32 >>> ((1 : Int32).toUInt32 &&& Int32.toUInt32 31)).toInt32) &&& (1431655765 : Int32))) &&& (858993459 : Int32)) + ((((x0 - (((x0.toUInt32 >>> ((1 : Int32).toUInt32 &&& Int32.toUInt32 31)).toInt32) &&& (1431655765 : Int32))).toUInt32 >>> ((2 : Int32).toUInt32 &&& Int32.toUInt32 31)).toInt32) &&& (858993459 : Int32))).toUInt32 >>> ((4 : Int32).toUInt32 &&& Int32.toUInt32 31)).toInt32)) &&& (252645135 : Int32)) + (((((((x0 - (((x0.toUInt32 >>> ((1 : Int32).toUInt32 &&& Int32.toUInt32 31)).toInt32) &&& (1431655765 : Int32))) &&& (858993459 : Int32)) + ((((x0 - (((x0.toUInt32 >>> ((1 : Int32).toUInt32 &&& Int32.toUInt32 31)).toInt32) &&& (1431655765 : Int32))).toUInt32 >>> ((2 : Int32).toUInt32 &&& Int32.toUInt32 31)).toInt32) &&& (858993459 : Int32))) + (((((x0 - (((x0.toUInt32 >>> ((1 : Int32).toUInt32 &&& Int32.toUInt32 31)).toInt32) &&& (1431655765 : Int32))) &&& (858993459 : Int32)) + ((((x0 - (((x0.toUInt32 >>> ((1 : Int32).toUInt32 &&& Int32.toUInt32 31)).toInt32) &&& (1431655765 : Int32))).toUInt32 >>> ((2 : Int32).toUInt32 &&& Int32.toUInt32 31)).toInt32) &&& (858993459 : Int32))).toUInt32 >>> ((4 : Int32).toUInt32 &&& Int32.toUInt32 31)).toInt32)) &&& (252645135 : Int32)).toUInt32 >>> ((8 : Int32).toUInt32 &&& Int32.toUInt32 31)).toInt32)) + ((((((((x0 - (((x0.toUInt32 >>> ((1 : Int32).toUInt32 &&& Int32.toUInt32 31)).toInt32) &&& (1431655765 : Int32))) &&& (858993459 : Int32)) + ((((x0 - (((x0.toUInt32 >>> ((1 : Int32).toUInt32 &&& Int32.toUInt32 31)).toInt32) &&& (1431655765 : Int32))).toUInt32 >>> ((2 : Int32).toUInt32 &&& Int32.toUInt32 31)).toInt32) &&& (858993459 : Int32))) + (((((x0 - (((x0.toUInt32 >>> ((1 : Int32).toUInt32 &&& Int32.toUInt32 31)).toInt32) &&& (1431655765 : Int32))) &&& (858993459 : Int32)) + ((((x0 - (((x0.toUInt32 >>> ((1 : Int32).toUInt32 &&& Int32.toUInt32 31)).toInt32) &&& (1431655765 : Int32))).toUInt32 >>> ((2 : Int32).toUInt32 &&& Int32.toUInt32 31)).toInt32) &&& (858993459 : Int32))).toUInt32 >>> ((4 : Int32).toUInt32 &&& Int32.toUInt32 31)).toInt32)) &&& (252645135 : Int32)) + (((((((x0 - (((x0.toUInt32 >>> ((1 : Int32).toUInt32 &&& Int32.toUInt32 31)).toInt32) &&& (1431655765 : Int32))) &&& (858993459 : Int32)) + ((((x0 - (((x0.toUInt32 >>> ((1 : Int32).toUInt32 &&& Int32.toUInt32 31)).toInt32) &&& (1431655765 : Int32))).toUInt32 >>> ((2 : Int32).toUInt32 &&& Int32.toUInt32 31)).toInt32) &&& (858993459 : Int32))) + (((((x0 - (((x0.toUInt32 >>> ((1 : Int32).toUInt32 &&& Int32.toUInt32 31)).toInt32) &&& (1431655765 : Int32))) &&& (858993459 : Int32)) + ((((x0 - (((x0.toUInt32 >>> ((1 : Int32).toUInt32 &&& Int32.toUInt32 31)).toInt32) &&& (1431655765 : Int32))).toUInt32 >>> ((2 : Int32).toUInt32 &&& Int32.toUInt32 31)).toInt32) &&& (858993459 : Int32))).toUInt32 >>> ((4 : Int32).toUInt32 &&& Int32.toUInt32 31)).toInt32)) &&& (252645135 : Int32)).toUInt32 >>> ((8 : Int32).toUInt32 &&& Int32.toUInt32 31)).toInt32)).toUInt32 >>> ((16 : Int32).toUInt32 &&& Int32.toUInt32 31)).toInt32)) &&& (63 : Int32))
set_option maxHeartbeats 4000000 in
set_option maxRecDepth 100000 in
theorem met_J6_bitCount_0f7a4 {Z : Nat → Prop} {A : Nat → Prop} {D : va_G} {D2 : Nat → ClassId} {ad : Nat → Nat} {N : Nat} {T : Nat → Nat × Nat} (l : Launch) {I : KI} {J : KJ} {Q : KQ} {x0 : Int32} {post : Int32 → Prop} (hWF : WF Z N T Q)  (hw : wp_J6_bitCount_0f7a4 x0 post) : Met l yJ6_bitCount_0f7a4 (.code yJ6_bitCount_0f7a4 cJ6_bitCount_0f7a4 1 (some .int) :: BIG) ({ frames := 0, cells := 0, slots := 0, locals := 0 }) (Pr D D2 A ad N T I J Q [.int x0]) (va_Qi (fun (r : Int32) (u : KS) => post r ∧ u.1 = I ∧ u.2.1 = J ∧ u.2.2 = Q ∧ WF Z N T u.2.2) (Bw D D2 ad N T) A) 0 0 A := by
  refine Met_GG (lv0 := [(0, .int x0)]) (by decide +kernel) [.int x0] (Nat.le_of_ble_eq_true rfl) rfl ?_
  intro p e s m below meth c C hr
  have C : CX p s m [.int x0].toArray meth c cJ6_bitCount_0f7a4 1 RJ6 A D D2 := C
  unfold wp_J6_bitCount_0f7a4 at hw
  refine g_iload_n C dJ6_bitCount_0f7a4_0 rfl 0 rfl ?_
  refine g_iload_n C dJ6_bitCount_0f7a4_1 rfl 0 rfl ?_
  refine g_iconst (v := (1 : Int32)) C dJ6_bitCount_0f7a4_2 (by decide) ?_
  refine g_iushr C dJ6_bitCount_0f7a4_3 ?_
  refine g_ldc_w C dJ6_bitCount_0f7a4_4 ft_101 ?_
  refine g_iand C dJ6_bitCount_0f7a4_7 ?_
  refine g_isub C dJ6_bitCount_0f7a4_8 ?_
  refine g_istore_n (lv' := [(0, .int (x0 - (((x0.toUInt32 >>> ((1 : Int32).toUInt32 &&& Int32.toUInt32 31)).toInt32) &&& (1431655765 : Int32))))]) C dJ6_bitCount_0f7a4_9 rfl (by decide) rfl ?_
  refine g_iload_n C dJ6_bitCount_0f7a4_10 rfl 0 rfl ?_
  refine g_ldc_w C dJ6_bitCount_0f7a4_11 ft_102 ?_
  refine g_iand C dJ6_bitCount_0f7a4_14 ?_
  refine g_iload_n C dJ6_bitCount_0f7a4_15 rfl 0 rfl ?_
  refine g_iconst (v := (2 : Int32)) C dJ6_bitCount_0f7a4_16 (by decide) ?_
  refine g_iushr C dJ6_bitCount_0f7a4_17 ?_
  refine g_ldc_w C dJ6_bitCount_0f7a4_18 ft_102 ?_
  refine g_iand C dJ6_bitCount_0f7a4_21 ?_
  refine g_iadd C dJ6_bitCount_0f7a4_22 ?_
  refine g_istore_n (lv' := [(0, .int (((x0 - (((x0.toUInt32 >>> ((1 : Int32).toUInt32 &&& Int32.toUInt32 31)).toInt32) &&& (1431655765 : Int32))) &&& (858993459 : Int32)) + ((((x0 - (((x0.toUInt32 >>> ((1 : Int32).toUInt32 &&& Int32.toUInt32 31)).toInt32) &&& (1431655765 : Int32))).toUInt32 >>> ((2 : Int32).toUInt32 &&& Int32.toUInt32 31)).toInt32) &&& (858993459 : Int32))))]) C dJ6_bitCount_0f7a4_23 rfl (by decide) rfl ?_
  refine g_iload_n C dJ6_bitCount_0f7a4_24 rfl 0 rfl ?_
  refine g_iload_n C dJ6_bitCount_0f7a4_25 rfl 0 rfl ?_
  refine g_iconst (v := (4 : Int32)) C dJ6_bitCount_0f7a4_26 (by decide) ?_
  refine g_iushr C dJ6_bitCount_0f7a4_27 ?_
  refine g_iadd C dJ6_bitCount_0f7a4_28 ?_
  refine g_ldc_w C dJ6_bitCount_0f7a4_29 ft_103 ?_
  refine g_iand C dJ6_bitCount_0f7a4_32 ?_
  refine g_istore_n (lv' := [(0, .int (((((x0 - (((x0.toUInt32 >>> ((1 : Int32).toUInt32 &&& Int32.toUInt32 31)).toInt32) &&& (1431655765 : Int32))) &&& (858993459 : Int32)) + ((((x0 - (((x0.toUInt32 >>> ((1 : Int32).toUInt32 &&& Int32.toUInt32 31)).toInt32) &&& (1431655765 : Int32))).toUInt32 >>> ((2 : Int32).toUInt32 &&& Int32.toUInt32 31)).toInt32) &&& (858993459 : Int32))) + (((((x0 - (((x0.toUInt32 >>> ((1 : Int32).toUInt32 &&& Int32.toUInt32 31)).toInt32) &&& (1431655765 : Int32))) &&& (858993459 : Int32)) + ((((x0 - (((x0.toUInt32 >>> ((1 : Int32).toUInt32 &&& Int32.toUInt32 31)).toInt32) &&& (1431655765 : Int32))).toUInt32 >>> ((2 : Int32).toUInt32 &&& Int32.toUInt32 31)).toInt32) &&& (858993459 : Int32))).toUInt32 >>> ((4 : Int32).toUInt32 &&& Int32.toUInt32 31)).toInt32)) &&& (252645135 : Int32)))]) C dJ6_bitCount_0f7a4_33 rfl (by decide) rfl ?_
  refine g_iload_n C dJ6_bitCount_0f7a4_34 rfl 0 rfl ?_
  refine g_iload_n C dJ6_bitCount_0f7a4_35 rfl 0 rfl ?_
  refine g_bipush (v := (8 : Int32)) C dJ6_bitCount_0f7a4_36 (by decide) ?_
  refine g_iushr C dJ6_bitCount_0f7a4_38 ?_
  refine g_iadd C dJ6_bitCount_0f7a4_39 ?_
  refine g_istore_n (lv' := [(0, .int ((((((x0 - (((x0.toUInt32 >>> ((1 : Int32).toUInt32 &&& Int32.toUInt32 31)).toInt32) &&& (1431655765 : Int32))) &&& (858993459 : Int32)) + ((((x0 - (((x0.toUInt32 >>> ((1 : Int32).toUInt32 &&& Int32.toUInt32 31)).toInt32) &&& (1431655765 : Int32))).toUInt32 >>> ((2 : Int32).toUInt32 &&& Int32.toUInt32 31)).toInt32) &&& (858993459 : Int32))) + (((((x0 - (((x0.toUInt32 >>> ((1 : Int32).toUInt32 &&& Int32.toUInt32 31)).toInt32) &&& (1431655765 : Int32))) &&& (858993459 : Int32)) + ((((x0 - (((x0.toUInt32 >>> ((1 : Int32).toUInt32 &&& Int32.toUInt32 31)).toInt32) &&& (1431655765 : Int32))).toUInt32 >>> ((2 : Int32).toUInt32 &&& Int32.toUInt32 31)).toInt32) &&& (858993459 : Int32))).toUInt32 >>> ((4 : Int32).toUInt32 &&& Int32.toUInt32 31)).toInt32)) &&& (252645135 : Int32)) + (((((((x0 - (((x0.toUInt32 >>> ((1 : Int32).toUInt32 &&& Int32.toUInt32 31)).toInt32) &&& (1431655765 : Int32))) &&& (858993459 : Int32)) + ((((x0 - (((x0.toUInt32 >>> ((1 : Int32).toUInt32 &&& Int32.toUInt32 31)).toInt32) &&& (1431655765 : Int32))).toUInt32 >>> ((2 : Int32).toUInt32 &&& Int32.toUInt32 31)).toInt32) &&& (858993459 : Int32))) + (((((x0 - (((x0.toUInt32 >>> ((1 : Int32).toUInt32 &&& Int32.toUInt32 31)).toInt32) &&& (1431655765 : Int32))) &&& (858993459 : Int32)) + ((((x0 - (((x0.toUInt32 >>> ((1 : Int32).toUInt32 &&& Int32.toUInt32 31)).toInt32) &&& (1431655765 : Int32))).toUInt32 >>> ((2 : Int32).toUInt32 &&& Int32.toUInt32 31)).toInt32) &&& (858993459 : Int32))).toUInt32 >>> ((4 : Int32).toUInt32 &&& Int32.toUInt32 31)).toInt32)) &&& (252645135 : Int32)).toUInt32 >>> ((8 : Int32).toUInt32 &&& Int32.toUInt32 31)).toInt32)))]) C dJ6_bitCount_0f7a4_40 rfl (by decide) rfl ?_
  refine g_iload_n C dJ6_bitCount_0f7a4_41 rfl 0 rfl ?_
  refine g_iload_n C dJ6_bitCount_0f7a4_42 rfl 0 rfl ?_
  refine g_bipush (v := (16 : Int32)) C dJ6_bitCount_0f7a4_43 (by decide) ?_
  refine g_iushr C dJ6_bitCount_0f7a4_45 ?_
  refine g_iadd C dJ6_bitCount_0f7a4_46 ?_
  refine g_istore_n (lv' := [(0, .int (((((((x0 - (((x0.toUInt32 >>> ((1 : Int32).toUInt32 &&& Int32.toUInt32 31)).toInt32) &&& (1431655765 : Int32))) &&& (858993459 : Int32)) + ((((x0 - (((x0.toUInt32 >>> ((1 : Int32).toUInt32 &&& Int32.toUInt32 31)).toInt32) &&& (1431655765 : Int32))).toUInt32 >>> ((2 : Int32).toUInt32 &&& Int32.toUInt32 31)).toInt32) &&& (858993459 : Int32))) + (((((x0 - (((x0.toUInt32 >>> ((1 : Int32).toUInt32 &&& Int32.toUInt32 31)).toInt32) &&& (1431655765 : Int32))) &&& (858993459 : Int32)) + ((((x0 - (((x0.toUInt32 >>> ((1 : Int32).toUInt32 &&& Int32.toUInt32 31)).toInt32) &&& (1431655765 : Int32))).toUInt32 >>> ((2 : Int32).toUInt32 &&& Int32.toUInt32 31)).toInt32) &&& (858993459 : Int32))).toUInt32 >>> ((4 : Int32).toUInt32 &&& Int32.toUInt32 31)).toInt32)) &&& (252645135 : Int32)) + (((((((x0 - (((x0.toUInt32 >>> ((1 : Int32).toUInt32 &&& Int32.toUInt32 31)).toInt32) &&& (1431655765 : Int32))) &&& (858993459 : Int32)) + ((((x0 - (((x0.toUInt32 >>> ((1 : Int32).toUInt32 &&& Int32.toUInt32 31)).toInt32) &&& (1431655765 : Int32))).toUInt32 >>> ((2 : Int32).toUInt32 &&& Int32.toUInt32 31)).toInt32) &&& (858993459 : Int32))) + (((((x0 - (((x0.toUInt32 >>> ((1 : Int32).toUInt32 &&& Int32.toUInt32 31)).toInt32) &&& (1431655765 : Int32))) &&& (858993459 : Int32)) + ((((x0 - (((x0.toUInt32 >>> ((1 : Int32).toUInt32 &&& Int32.toUInt32 31)).toInt32) &&& (1431655765 : Int32))).toUInt32 >>> ((2 : Int32).toUInt32 &&& Int32.toUInt32 31)).toInt32) &&& (858993459 : Int32))).toUInt32 >>> ((4 : Int32).toUInt32 &&& Int32.toUInt32 31)).toInt32)) &&& (252645135 : Int32)).toUInt32 >>> ((8 : Int32).toUInt32 &&& Int32.toUInt32 31)).toInt32)) + ((((((((x0 - (((x0.toUInt32 >>> ((1 : Int32).toUInt32 &&& Int32.toUInt32 31)).toInt32) &&& (1431655765 : Int32))) &&& (858993459 : Int32)) + ((((x0 - (((x0.toUInt32 >>> ((1 : Int32).toUInt32 &&& Int32.toUInt32 31)).toInt32) &&& (1431655765 : Int32))).toUInt32 >>> ((2 : Int32).toUInt32 &&& Int32.toUInt32 31)).toInt32) &&& (858993459 : Int32))) + (((((x0 - (((x0.toUInt32 >>> ((1 : Int32).toUInt32 &&& Int32.toUInt32 31)).toInt32) &&& (1431655765 : Int32))) &&& (858993459 : Int32)) + ((((x0 - (((x0.toUInt32 >>> ((1 : Int32).toUInt32 &&& Int32.toUInt32 31)).toInt32) &&& (1431655765 : Int32))).toUInt32 >>> ((2 : Int32).toUInt32 &&& Int32.toUInt32 31)).toInt32) &&& (858993459 : Int32))).toUInt32 >>> ((4 : Int32).toUInt32 &&& Int32.toUInt32 31)).toInt32)) &&& (252645135 : Int32)) + (((((((x0 - (((x0.toUInt32 >>> ((1 : Int32).toUInt32 &&& Int32.toUInt32 31)).toInt32) &&& (1431655765 : Int32))) &&& (858993459 : Int32)) + ((((x0 - (((x0.toUInt32 >>> ((1 : Int32).toUInt32 &&& Int32.toUInt32 31)).toInt32) &&& (1431655765 : Int32))).toUInt32 >>> ((2 : Int32).toUInt32 &&& Int32.toUInt32 31)).toInt32) &&& (858993459 : Int32))) + (((((x0 - (((x0.toUInt32 >>> ((1 : Int32).toUInt32 &&& Int32.toUInt32 31)).toInt32) &&& (1431655765 : Int32))) &&& (858993459 : Int32)) + ((((x0 - (((x0.toUInt32 >>> ((1 : Int32).toUInt32 &&& Int32.toUInt32 31)).toInt32) &&& (1431655765 : Int32))).toUInt32 >>> ((2 : Int32).toUInt32 &&& Int32.toUInt32 31)).toInt32) &&& (858993459 : Int32))).toUInt32 >>> ((4 : Int32).toUInt32 &&& Int32.toUInt32 31)).toInt32)) &&& (252645135 : Int32)).toUInt32 >>> ((8 : Int32).toUInt32 &&& Int32.toUInt32 31)).toInt32)).toUInt32 >>> ((16 : Int32).toUInt32 &&& Int32.toUInt32 31)).toInt32)))]) C dJ6_bitCount_0f7a4_47 rfl (by decide) rfl ?_
  refine g_iload_n C dJ6_bitCount_0f7a4_48 rfl 0 rfl ?_
  refine g_bipush (v := (63 : Int32)) C dJ6_bitCount_0f7a4_49 (by decide) ?_
  refine g_iand C dJ6_bitCount_0f7a4_51 ?_
  exact g_iret C dJ6_bitCount_0f7a4_52 hr ⟨hw, rfl, rfl, rfl, hWF⟩
def wp_X2_within_L4 (If_1 : KI) (Qf_1 : KQ) (f0_1 : Nat) (f1_1 : Int32) (post : Int32 → Prop) : Nat → Int32 → Int32 → Prop
  | 0, _, _ => False
  | n4 + 1, x2_1, x3_1 => (((If_1 f0_1 3) ≤ x3_1 → post (x2_1 / (2 : Int32))) ∧ (¬ (If_1 f0_1 3) ≤ x3_1 → wp_X10_has f1_1 x3_1 (fun r3 => ((r3 = 0 → wp_X2_within_L4 If_1 Qf_1 f0_1 f1_1 post n4 (x2_1 + (0 : Int32)) (x3_1 + (1 : Int32))) ∧ (¬ r3 = 0 → wp_X1_neighbours If_1 Qf_1 f0_1 (If_1 f0_1 7) x3_1 (fun r5 => wp_J6_bitCount_0f7a4 (r5 &&& f1_1) (fun r6 => wp_X2_within_L4 If_1 Qf_1 f0_1 f1_1 post n4 (x2_1 + r6) (x3_1 + (1 : Int32)))))))))
def wp_X2_within (I : KI) (Q : KQ) (h0 : Nat) (x1 : Int32) (post : Int32 → Prop) : Prop := (∃ q4, wp_X2_within_L4 I Q h0 x1 post q4 (0 : Int32) (0 : Int32))
set_option maxHeartbeats 4000000 in
set_option maxRecDepth 100000 in
theorem met_X2_within {Z : Nat → Prop} {A : Nat → Prop} {D : va_G} {D2 : Nat → ClassId} {ad : Nat → Nat} {N : Nat} {T : Nat → Nat × Nat} (l : Launch) {I : KI} {J : KJ} {Q : KQ} {h0 : Nat} {x1 : Int32} {post : Int32 → Prop} (hWF : WF Z N T Q) (z0 : OKr Z N T h0 (1, 0)) (hw : wp_X2_within I Q h0 x1 post) : Met l yX2_within (.code yX2_within cX2_within 4 (some .int) :: BIG) ({ frames := 3, cells := 0, slots := 0, locals := 66 }) (Pr D D2 A ad N T I J Q [.ref (ad h0), .int x1]) (va_Qi (fun (r : Int32) (u : KS) => post r ∧ u.1 = I ∧ u.2.1 = J ∧ u.2.2 = Q ∧ WF Z N T u.2.2) (Bw D D2 ad N T) A) 0 0 A := by
  refine Met_GG (lv0 := [(0, .ref (ad h0)), (1, .int x1)]) (by decide +kernel) [.ref (ad h0), .int x1] (Nat.le_of_ble_eq_true rfl) rfl ?_
  intro p e s m below meth c C hr
  have C : CX p s m [.ref (ad h0), .int x1].toArray meth c cX2_within 4 RX2 A D D2 := C
  unfold wp_X2_within at hw
  refine g_iconst (v := (0 : Int32)) C dX2_within_0 (by decide) ?_
  refine g_istore_n (lv' := [(2, .int (0 : Int32)), (0, .ref (ad h0)), (1, .int x1)]) C dX2_within_1 rfl (by decide) rfl ?_
  refine g_iconst (v := (0 : Int32)) C dX2_within_2 (by decide) ?_
  refine g_istore_n (lv' := [(3, .int (0 : Int32)), (2, .int (0 : Int32)), (0, .ref (ad h0)), (1, .int x1)]) C dX2_within_3 rfl (by decide) rfl ?_
  have L4_u7 : ∀ (n4 : Nat) (x2_1 : Int32) (x3_1 : Int32), wp_X2_within_L4 I Q h0 x1 post n4 x2_1 x3_1 → WF Z N T Q → GG p l e ({ frames := 3, cells := 0, slots := 0, locals := 66 }) s m [.ref (ad h0), .int x1].toArray below meth c 4 A D D2 0 0 (MQ below (va_Qi (fun (r : Int32) (u : KS) => post r ∧ u.1 = I ∧ u.2.1 = J ∧ u.2.2 = Q ∧ WF Z N T u.2.2) (Bw D D2 ad N T) A) [.ref (ad h0), .int x1].toArray s 0 0 A) ad N T I J Q 4 [(0, .ref (ad h0)), (1, .int x1), (2, .int x2_1), (3, .int x3_1)] [] := by
    intro n4
    induction n4 with
    | zero => intro x2_1 x3_1 hw; exact hw.elim
    | succ n4 ih_u7 =>
      intro x2_1 x3_1 hw hWF
      unfold wp_X2_within_L4 at hw
      refine g_iload_n C dX2_within_4 rfl 3 rfl ?_
      refine g_aload_n C dX2_within_5 rfl 0 rfl ?_
      refine g_getI C dX2_within_6 ft_104 z0 ?_
      refine g_icmp_ge (tgt := 47) C dX2_within_9 (by decide) (fun c9 => ?_) (fun c9 => ?_)
      · have hw := hw.1 c9
        refine g_iload_n C dX2_within_47 rfl 2 rfl ?_
        refine g_iconst (v := (2 : Int32)) C dX2_within_48 (by decide) ?_
        refine g_idiv C dX2_within_49 (by decide) ?_
        exact g_iret C dX2_within_50 hr ⟨hw, rfl, rfl, rfl, hWF⟩
      · have hw := hw.2 c9
        refine g_iload_n C dX2_within_12 rfl 2 rfl ?_
        refine g_iload_n C dX2_within_13 rfl 1 rfl ?_
        refine g_iload_n C dX2_within_14 rfl 3 rfl ?_
        refine g_callSNi (As := [.int x1, .int x3_1]) C dX2_within_15 ft_109 ft_17 (met_X10_has l hWF  hw) ⟨rfl, rfl, Nat.le_of_ble_eq_true rfl, Nat.le_of_ble_eq_true rfl⟩ ⟨Nat.zero_le _, Nat.zero_le _⟩ rfl rfl (Nat.le_of_ble_eq_true rfl) (fun r10 I10 J10 Q10 hp => ?_)
        obtain ⟨hw, eI, eJ, eQ, hWF⟩ := hp
        have eI : I = I10 := Eq.symm eI
        subst eI
        have eJ : J = J10 := Eq.symm eJ
        subst eJ
        have eQ : Q = Q10 := Eq.symm eQ
        subst eQ
        try dsimp only at hw hWF
        refine g_if_eq (tgt := 38) C dX2_within_18 (by decide) (fun c11 => ?_) (fun c11 => ?_)
        · have hw := hw.1 c11
          refine g_iconst (v := (0 : Int32)) C dX2_within_38 (by decide) ?_
          refine g_iadd C dX2_within_39 ?_
          refine g_istore_n (lv' := [(2, .int (x2_1 + (0 : Int32))), (0, .ref (ad h0)), (1, .int x1), (3, .int x3_1)]) C dX2_within_40 rfl (by decide) rfl ?_
          refine g_iinc (v := (x3_1 + (1 : Int32))) (lv' := [(3, .int (x3_1 + (1 : Int32))), (2, .int (x2_1 + (0 : Int32))), (0, .ref (ad h0)), (1, .int x1)]) C dX2_within_41 (q := 3) rfl rfl (by decide) rfl ?_
          refine g_goto C dX2_within_44 (tgt := 4) (by decide) ?_
          refine g_sub [2, 3, 1, 0] rfl ?_
          exact ih_u7 (x2_1 + (0 : Int32)) (x3_1 + (1 : Int32)) hw hWF
        · have hw := hw.2 c11
          refine g_aload_n C dX2_within_21 rfl 0 rfl ?_
          refine g_aload_n C dX2_within_22 rfl 0 rfl ?_
          refine g_getI C dX2_within_23 ft_105 z0 ?_
          refine g_iload_n C dX2_within_26 rfl 3 rfl ?_
          refine g_callVi (As := [.int (I h0 7), .int x3_1]) C dX2_within_27 ft_46 z0 ft_108 ft_45 (met_X1_neighbours l hWF z0 hw) ⟨rfl, rfl, Nat.le_of_ble_eq_true rfl, Nat.le_of_ble_eq_true rfl⟩ ⟨Nat.zero_le _, Nat.zero_le _⟩ rfl rfl (Nat.le_of_ble_eq_true rfl) (fun r12 I12 J12 Q12 hp => ?_)
          obtain ⟨hw, eI, eJ, eQ, hWF⟩ := hp
          have eI : I = I12 := Eq.symm eI
          subst eI
          have eJ : J = J12 := Eq.symm eJ
          subst eJ
          have eQ : Q = Q12 := Eq.symm eQ
          subst eQ
          try dsimp only at hw hWF
          refine g_iload_n C dX2_within_30 rfl 1 rfl ?_
          refine g_iand C dX2_within_31 ?_
          refine g_callSi (As := [.int (r12 &&& x1)]) C dX2_within_32 ft_106 ft_107 (met_J6_bitCount_0f7a4 l hWF  hw) ⟨rfl, rfl, Nat.le_of_ble_eq_true rfl, Nat.le_of_ble_eq_true rfl⟩ ⟨Nat.zero_le _, Nat.zero_le _⟩ rfl rfl (Nat.le_of_ble_eq_true rfl) (fun r13 I13 J13 Q13 hp => ?_)
          obtain ⟨hw, eI, eJ, eQ, hWF⟩ := hp
          have eI : I = I13 := Eq.symm eI
          subst eI
          have eJ : J = J13 := Eq.symm eJ
          subst eJ
          have eQ : Q = Q13 := Eq.symm eQ
          subst eQ
          try dsimp only at hw hWF
          refine g_goto C dX2_within_35 (tgt := 39) (by decide) ?_
          refine g_iadd C dX2_within_39 ?_
          refine g_istore_n (lv' := [(2, .int (x2_1 + r13)), (0, .ref (ad h0)), (1, .int x1), (3, .int x3_1)]) C dX2_within_40 rfl (by decide) rfl ?_
          refine g_iinc (v := (x3_1 + (1 : Int32))) (lv' := [(3, .int (x3_1 + (1 : Int32))), (2, .int (x2_1 + r13)), (0, .ref (ad h0)), (1, .int x1)]) C dX2_within_41 (q := 3) rfl rfl (by decide) rfl ?_
          refine g_goto C dX2_within_44 (tgt := 4) (by decide) ?_
          refine g_sub [2, 3, 1, 0] rfl ?_
          exact ih_u7 (x2_1 + r13) (x3_1 + (1 : Int32)) hw hWF
  obtain ⟨n_u7, hw⟩ := hw
  refine g_sub [2, 3, 1, 0] rfl ?_
  exact L4_u7 n_u7 (0 : Int32) (0 : Int32) hw hWF
def wp_X2_power_L5 (f0_1 : Int32) (f1_1 : Int32) (post : Int64 → Prop) : Nat → Int64 → Int32 → Prop
  | 0, _, _ => False
  | n5 + 1, x2_1, x4_1 => ((f1_1 ≤ x4_1 → post x2_1) ∧ (¬ f1_1 ≤ x4_1 → wp_X2_power_L5 f0_1 f1_1 post n5 (x2_1 * (f0_1.toInt64)) (x4_1 + (1 : Int32))))
def wp_X2_power  (x0 : Int32) (x1 : Int32) (post : Int64 → Prop) : Prop := (∃ q5, wp_X2_power_L5 x0 x1 post q5 (1 : Int64) (0 : Int32))
set_option maxHeartbeats 4000000 in
set_option maxRecDepth 100000 in
theorem met_X2_power {Z : Nat → Prop} {A : Nat → Prop} {D : va_G} {D2 : Nat → ClassId} {ad : Nat → Nat} {N : Nat} {T : Nat → Nat × Nat} (l : Launch) {I : KI} {J : KJ} {Q : KQ} {x0 : Int32} {x1 : Int32} {post : Int64 → Prop} (hWF : WF Z N T Q)  (hw : wp_X2_power x0 x1 post) : Met l yX2_power (.code yX2_power cX2_power 5 (some .long) :: BIG) ({ frames := 0, cells := 0, slots := 0, locals := 0 }) (Pr D D2 A ad N T I J Q [.int x0, .int x1]) (va_Ql (fun (r : Int64) (u : KS) => post r ∧ u.1 = I ∧ u.2.1 = J ∧ u.2.2 = Q ∧ WF Z N T u.2.2) (Bw D D2 ad N T) A) 0 0 A := by
  refine Met_GG (lv0 := [(0, .int x0), (1, .int x1)]) (by decide +kernel) [.int x0, .int x1] (Nat.le_of_ble_eq_true rfl) rfl ?_
  intro p e s m below meth c C hr
  have C : CX p s m [.int x0, .int x1].toArray meth c cX2_power 5 RX2 A D D2 := C
  unfold wp_X2_power at hw
  refine g_lconst (v := (1 : Int64)) C dX2_power_0 (by decide) ?_
  refine g_lstore_n (lv' := [(2, .long (1 : Int64)), (0, .int x0), (1, .int x1)]) C dX2_power_1 rfl (by decide) rfl ?_
  refine g_iconst (v := (0 : Int32)) C dX2_power_2 (by decide) ?_
  refine g_istore (lv' := [(4, .int (0 : Int32)), (2, .long (1 : Int64)), (0, .int x0), (1, .int x1)]) C dX2_power_3 (by decide) rfl ?_
  have L5_u3 : ∀ (n5 : Nat) (x2_1 : Int64) (x4_1 : Int32), wp_X2_power_L5 x0 x1 post n5 x2_1 x4_1 → WF Z N T Q → GG p l e ({ frames := 0, cells := 0, slots := 0, locals := 0 }) s m [.int x0, .int x1].toArray below meth c 5 A D D2 0 0 (MQ below (va_Ql (fun (r : Int64) (u : KS) => post r ∧ u.1 = I ∧ u.2.1 = J ∧ u.2.2 = Q ∧ WF Z N T u.2.2) (Bw D D2 ad N T) A) [.int x0, .int x1].toArray s 0 0 A) ad N T I J Q 5 [(0, .int x0), (1, .int x1), (2, .long x2_1), (4, .int x4_1)] [] := by
    intro n5
    induction n5 with
    | zero => intro x2_1 x4_1 hw; exact hw.elim
    | succ n5 ih_u3 =>
      intro x2_1 x4_1 hw hWF
      unfold wp_X2_power_L5 at hw
      refine g_iload C dX2_power_5 3 rfl ?_
      refine g_iload_n C dX2_power_7 rfl 1 rfl ?_
      refine g_icmp_ge (tgt := 22) C dX2_power_8 (by decide) (fun c5 => ?_) (fun c5 => ?_)
      · have hw := hw.1 c5
        refine g_lload_n C dX2_power_22 rfl 2 rfl ?_
        exact g_lret C dX2_power_23 hr ⟨hw, rfl, rfl, rfl, hWF⟩
      · have hw := hw.2 c5
        refine g_lload_n C dX2_power_11 rfl 2 rfl ?_
        refine g_iload_n C dX2_power_12 rfl 0 rfl ?_
        refine g_i2l C dX2_power_13 ?_
        refine g_lmul C dX2_power_14 ?_
        refine g_lstore_n (lv' := [(2, .long (x2_1 * (x0.toInt64))), (0, .int x0), (1, .int x1), (4, .int x4_1)]) C dX2_power_15 rfl (by decide) rfl ?_
        refine g_iinc (v := (x4_1 + (1 : Int32))) (lv' := [(4, .int (x4_1 + (1 : Int32))), (2, .long (x2_1 * (x0.toInt64))), (0, .int x0), (1, .int x1)]) C dX2_power_16 (q := 3) rfl rfl (by decide) rfl ?_
        refine g_goto C dX2_power_19 (tgt := 5) (by decide) ?_
        refine g_sub [2, 3, 1, 0] rfl ?_
        exact ih_u3 (x2_1 * (x0.toInt64)) (x4_1 + (1 : Int32)) hw hWF
  obtain ⟨n_u3, hw⟩ := hw
  refine g_sub [2, 3, 1, 0] rfl ?_
  exact L5_u3 n_u3 (1 : Int64) (0 : Int32) hw hWF
def wp_X2_parted_L6 (If_1 : KI) (Jf_1 : KJ) (Qf_1 : KQ) (f0_1 : Nat) (f1_1 : Nat) (f2_1 : Int32) (f3_1 : Int32) (post : Int64 → Prop) : Nat → Int64 → Int32 → Prop
  | 0, _, _ => False
  | n6 + 1, x4_1, x6_1 => ((f2_1 ≤ x6_1 → post x4_1) ∧ (¬ f2_1 ≤ x6_1 → ((¬ (x6_1 &&& (f2_1 ^^^ (-1 : Int32))) = 0 → wp_X2_parted_L6 If_1 Jf_1 Qf_1 f0_1 f1_1 f2_1 f3_1 post n6 x4_1 (x6_1 + (2 : Int32))) ∧ ((x6_1 &&& (f2_1 ^^^ (-1 : Int32))) = 0 → wp_X2_within If_1 Qf_1 f1_1 f2_1 (fun r4 => wp_X2_within If_1 Qf_1 f1_1 x6_1 (fun r5 => wp_X2_within If_1 Qf_1 f1_1 (f2_1 &&& (x6_1 ^^^ (-1 : Int32))) (fun r6 => (vp_in x6_1 64 ∧ wp_X2_within If_1 Qf_1 f1_1 (f2_1 &&& (x6_1 ^^^ (-1 : Int32))) (fun r8 => wp_X2_power (10 : Int32) r8 (fun r9 => wp_X2_power f3_1 ((r4 - r5) - r6) (fun r10 => wp_X2_parted_L6 If_1 Jf_1 Qf_1 f0_1 f1_1 f2_1 f3_1 post n6 (x4_1 + (((Jf_1 (rq Qf_1 f0_1 0) x6_1.toNatClampNeg) * r9) * r10)) (x6_1 + (2 : Int32)))))))))))))
def wp_X2_parted (I : KI) (J : KJ) (Q : KQ) (h0 : Nat) (h1 : Nat) (x2 : Int32) (x3 : Int32) (post : Int64 → Prop) : Prop := (∃ q6, wp_X2_parted_L6 I J Q h0 h1 x2 x3 post q6 (0 : Int64) (1 : Int32))
set_option maxHeartbeats 4000000 in
set_option maxRecDepth 100000 in
theorem met_X2_parted {Z : Nat → Prop} {A : Nat → Prop} {D : va_G} {D2 : Nat → ClassId} {ad : Nat → Nat} {N : Nat} {T : Nat → Nat × Nat} (l : Launch) {I : KI} {J : KJ} {Q : KQ} {h0 : Nat} {h1 : Nat} {x2 : Int32} {x3 : Int32} {post : Int64 → Prop} (hWF : WF Z N T Q) (z0 : OKr Z N T h0 (2, 0)) (z1 : OKr Z N T h1 (1, 0)) (hw : wp_X2_parted I J Q h0 h1 x2 x3 post) : Met l yX2_parted (.code yX2_parted cX2_parted 9 (some .long) :: BIG) ({ frames := 4, cells := 0, slots := 0, locals := 89 }) (Pr D D2 A ad N T I J Q [.ref (ad h0), .ref (ad h1), .int x2, .int x3]) (va_Ql (fun (r : Int64) (u : KS) => post r ∧ u.1 = I ∧ u.2.1 = J ∧ u.2.2 = Q ∧ WF Z N T u.2.2) (Bw D D2 ad N T) A) 0 0 A := by
  refine Met_GG (lv0 := [(0, .ref (ad h0)), (1, .ref (ad h1)), (2, .int x2), (3, .int x3)]) (by decide +kernel) [.ref (ad h0), .ref (ad h1), .int x2, .int x3] (Nat.le_of_ble_eq_true rfl) rfl ?_
  intro p e s m below meth c C hr
  have C : CX p s m [.ref (ad h0), .ref (ad h1), .int x2, .int x3].toArray meth c cX2_parted 9 RX2 A D D2 := C
  unfold wp_X2_parted at hw
  refine g_lconst (v := (0 : Int64)) C dX2_parted_0 (by decide) ?_
  refine g_lstore (lv' := [(4, .long (0 : Int64)), (0, .ref (ad h0)), (1, .ref (ad h1)), (2, .int x2), (3, .int x3)]) C dX2_parted_1 (by decide) rfl ?_
  refine g_iconst (v := (1 : Int32)) C dX2_parted_3 (by decide) ?_
  refine g_istore (lv' := [(6, .int (1 : Int32)), (4, .long (0 : Int64)), (0, .ref (ad h0)), (1, .ref (ad h1)), (2, .int x2), (3, .int x3)]) C dX2_parted_4 (by decide) rfl ?_
  have L6_u11 : ∀ (n6 : Nat) (x4_1 : Int64) (x6_1 : Int32), wp_X2_parted_L6 I J Q h0 h1 x2 x3 post n6 x4_1 x6_1 → WF Z N T Q → GG p l e ({ frames := 4, cells := 0, slots := 0, locals := 89 }) s m [.ref (ad h0), .ref (ad h1), .int x2, .int x3].toArray below meth c 9 A D D2 0 0 (MQ below (va_Ql (fun (r : Int64) (u : KS) => post r ∧ u.1 = I ∧ u.2.1 = J ∧ u.2.2 = Q ∧ WF Z N T u.2.2) (Bw D D2 ad N T) A) [.ref (ad h0), .ref (ad h1), .int x2, .int x3].toArray s 0 0 A) ad N T I J Q 6 [(0, .ref (ad h0)), (1, .ref (ad h1)), (2, .int x2), (3, .int x3), (4, .long x4_1), (6, .int x6_1)] [] := by
    intro n6
    induction n6 with
    | zero => intro x4_1 x6_1 hw; exact hw.elim
    | succ n6 ih_u11 =>
      intro x4_1 x6_1 hw hWF
      unfold wp_X2_parted_L6 at hw
      refine g_iload C dX2_parted_6 5 rfl ?_
      refine g_iload_n C dX2_parted_8 rfl 2 rfl ?_
      refine g_icmp_ge (tgt := 87) C dX2_parted_9 (by decide) (fun c13 => ?_) (fun c13 => ?_)
      · have hw := hw.1 c13
        refine g_lload C dX2_parted_87 4 rfl ?_
        exact g_lret C dX2_parted_89 hr ⟨hw, rfl, rfl, rfl, hWF⟩
      · have hw := hw.2 c13
        refine g_iload C dX2_parted_12 5 rfl ?_
        refine g_iload_n C dX2_parted_14 rfl 2 rfl ?_
        refine g_iconst (v := (-1 : Int32)) C dX2_parted_15 (by decide) ?_
        refine g_ixor C dX2_parted_16 ?_
        refine g_iand C dX2_parted_17 ?_
        refine g_if_ne (tgt := 81) C dX2_parted_18 (by decide) (fun c14 => ?_) (fun c14 => ?_)
        · have hw := hw.1 c14
          refine g_iinc (v := (x6_1 + (2 : Int32))) (lv' := [(6, .int (x6_1 + (2 : Int32))), (0, .ref (ad h0)), (1, .ref (ad h1)), (2, .int x2), (3, .int x3), (4, .long x4_1)]) C dX2_parted_81 (q := 5) rfl rfl (by decide) rfl ?_
          refine g_goto C dX2_parted_84 (tgt := 6) (by decide) ?_
          refine g_sub [1, 2, 3, 4, 5, 0] rfl ?_
          exact ih_u11 x4_1 (x6_1 + (2 : Int32)) hw hWF
        · have hw := hw.2 c14
          refine g_iload_n C dX2_parted_21 rfl 2 rfl ?_
          refine g_iload C dX2_parted_22 5 rfl ?_
          refine g_iconst (v := (-1 : Int32)) C dX2_parted_24 (by decide) ?_
          refine g_ixor C dX2_parted_25 ?_
          refine g_iand C dX2_parted_26 ?_
          refine g_istore (lv' := [(7, .int (x2 &&& (x6_1 ^^^ (-1 : Int32)))), (0, .ref (ad h0)), (1, .ref (ad h1)), (2, .int x2), (3, .int x3), (4, .long x4_1), (6, .int x6_1)]) C dX2_parted_27 (by decide) rfl ?_
          refine g_aload_n C dX2_parted_29 rfl 2 rfl ?_
          refine g_iload_n C dX2_parted_30 rfl 3 rfl ?_
          refine g_callSi (As := [.ref (ad h1), .int x2]) C dX2_parted_31 ft_114 ft_115 (met_X2_within l hWF z1 hw) ⟨rfl, rfl, Nat.le_of_ble_eq_true rfl, Nat.le_of_ble_eq_true rfl⟩ ⟨Nat.zero_le _, Nat.zero_le _⟩ rfl rfl (Nat.le_of_ble_eq_true rfl) (fun r15 I15 J15 Q15 hp => ?_)
          obtain ⟨hw, eI, eJ, eQ, hWF⟩ := hp
          have eI : I = I15 := Eq.symm eI
          subst eI
          have eJ : J = J15 := Eq.symm eJ
          subst eJ
          have eQ : Q = Q15 := Eq.symm eQ
          subst eQ
          try dsimp only at hw hWF
          refine g_aload_n C dX2_parted_34 rfl 2 rfl ?_
          refine g_iload C dX2_parted_35 6 rfl ?_
          refine g_callSi (As := [.ref (ad h1), .int x6_1]) C dX2_parted_37 ft_114 ft_115 (met_X2_within l hWF z1 hw) ⟨rfl, rfl, Nat.le_of_ble_eq_true rfl, Nat.le_of_ble_eq_true rfl⟩ ⟨Nat.zero_le _, Nat.zero_le _⟩ rfl rfl (Nat.le_of_ble_eq_true rfl) (fun r16 I16 J16 Q16 hp => ?_)
          obtain ⟨hw, eI, eJ, eQ, hWF⟩ := hp
          have eI : I = I16 := Eq.symm eI
          subst eI
          have eJ : J = J16 := Eq.symm eJ
          subst eJ
          have eQ : Q = Q16 := Eq.symm eQ
          subst eQ
          try dsimp only at hw hWF
          refine g_isub C dX2_parted_40 ?_
          refine g_aload_n C dX2_parted_41 rfl 2 rfl ?_
          refine g_iload C dX2_parted_42 0 rfl ?_
          refine g_callSi (As := [.ref (ad h1), .int (x2 &&& (x6_1 ^^^ (-1 : Int32)))]) C dX2_parted_44 ft_114 ft_115 (met_X2_within l hWF z1 hw) ⟨rfl, rfl, Nat.le_of_ble_eq_true rfl, Nat.le_of_ble_eq_true rfl⟩ ⟨Nat.zero_le _, Nat.zero_le _⟩ rfl rfl (Nat.le_of_ble_eq_true rfl) (fun r17 I17 J17 Q17 hp => ?_)
          obtain ⟨hw, eI, eJ, eQ, hWF⟩ := hp
          have eI : I = I17 := Eq.symm eI
          subst eI
          have eJ : J = J17 := Eq.symm eJ
          subst eJ
          have eQ : Q = Q17 := Eq.symm eQ
          subst eQ
          try dsimp only at hw hWF
          refine g_isub C dX2_parted_47 ?_
          refine g_istore (lv' := [(8, .int ((r15 - r16) - r17)), (7, .int (x2 &&& (x6_1 ^^^ (-1 : Int32)))), (0, .ref (ad h0)), (1, .ref (ad h1)), (2, .int x2), (3, .int x3), (4, .long x4_1), (6, .int x6_1)]) C dX2_parted_48 (by decide) rfl ?_
          refine g_lload C dX2_parted_50 6 rfl ?_
          refine g_aload_n C dX2_parted_52 rfl 2 rfl ?_
          refine g_getQ C dX2_parted_53 ft_110 z0 (hWF.q z0 0 rfl) ?_
          have zz18 := hWF.r z0 0 rfl
          refine g_iload C dX2_parted_56 7 rfl ?_
          refine g_lald C dX2_parted_58 zz18 hw.1 ?_
          have hw := hw.2
          refine g_bipush (v := (10 : Int32)) C dX2_parted_59 (by decide) ?_
          refine g_aload_n C dX2_parted_61 rfl 3 rfl ?_
          refine g_iload C dX2_parted_62 1 rfl ?_
          refine g_callSi (As := [.ref (ad h1), .int (x2 &&& (x6_1 ^^^ (-1 : Int32)))]) C dX2_parted_64 ft_114 ft_115 (met_X2_within l hWF z1 hw) ⟨rfl, rfl, Nat.le_of_ble_eq_true rfl, Nat.le_of_ble_eq_true rfl⟩ ⟨Nat.zero_le _, Nat.zero_le _⟩ rfl rfl (Nat.le_of_ble_eq_true rfl) (fun r19 I19 J19 Q19 hp => ?_)
          obtain ⟨hw, eI, eJ, eQ, hWF⟩ := hp
          have eI : I = I19 := Eq.symm eI
          subst eI
          have eJ : J = J19 := Eq.symm eJ
          subst eJ
          have eQ : Q = Q19 := Eq.symm eQ
          subst eQ
          try dsimp only at hw hWF
          refine g_callSl (As := [.int (10 : Int32), .int r19]) C dX2_parted_67 ft_112 ft_113 (met_X2_power l hWF  hw) ⟨rfl, rfl, Nat.le_of_ble_eq_true rfl, Nat.le_of_ble_eq_true rfl⟩ ⟨Nat.zero_le _, Nat.zero_le _⟩ rfl rfl (Nat.le_of_ble_eq_true rfl) (fun r20 I20 J20 Q20 hp => ?_)
          obtain ⟨hw, eI, eJ, eQ, hWF⟩ := hp
          have eI : I = I20 := Eq.symm eI
          subst eI
          have eJ : J = J20 := Eq.symm eJ
          subst eJ
          have eQ : Q = Q20 := Eq.symm eQ
          subst eQ
          try dsimp only at hw hWF
          refine g_lmul C dX2_parted_70 ?_
          refine g_iload_n C dX2_parted_71 rfl 5 rfl ?_
          refine g_iload C dX2_parted_72 0 rfl ?_
          refine g_callSl (As := [.int x3, .int ((r15 - r16) - r17)]) C dX2_parted_74 ft_112 ft_113 (met_X2_power l hWF  hw) ⟨rfl, rfl, Nat.le_of_ble_eq_true rfl, Nat.le_of_ble_eq_true rfl⟩ ⟨Nat.zero_le _, Nat.zero_le _⟩ rfl rfl (Nat.le_of_ble_eq_true rfl) (fun r21 I21 J21 Q21 hp => ?_)
          obtain ⟨hw, eI, eJ, eQ, hWF⟩ := hp
          have eI : I = I21 := Eq.symm eI
          subst eI
          have eJ : J = J21 := Eq.symm eJ
          subst eJ
          have eQ : Q = Q21 := Eq.symm eQ
          subst eQ
          try dsimp only at hw hWF
          refine g_lmul C dX2_parted_77 ?_
          refine g_ladd C dX2_parted_78 ?_
          refine g_lstore (lv' := [(4, .long (x4_1 + (((J (rq Q h0 0) x6_1.toNatClampNeg) * r20) * r21))), (8, .int ((r15 - r16) - r17)), (7, .int (x2 &&& (x6_1 ^^^ (-1 : Int32)))), (0, .ref (ad h0)), (1, .ref (ad h1)), (2, .int x2), (3, .int x3), (6, .int x6_1)]) C dX2_parted_79 (by decide) rfl ?_
          refine g_iinc (v := (x6_1 + (2 : Int32))) (lv' := [(6, .int (x6_1 + (2 : Int32))), (4, .long (x4_1 + (((J (rq Q h0 0) x6_1.toNatClampNeg) * r20) * r21))), (8, .int ((r15 - r16) - r17)), (7, .int (x2 &&& (x6_1 ^^^ (-1 : Int32)))), (0, .ref (ad h0)), (1, .ref (ad h1)), (2, .int x2), (3, .int x3)]) C dX2_parted_81 (q := 7) rfl rfl (by decide) rfl ?_
          refine g_goto C dX2_parted_84 (tgt := 6) (by decide) ?_
          refine g_sub [4, 5, 6, 7, 1, 0] rfl ?_
          exact ih_u11 (x4_1 + (((J (rq Q h0 0) x6_1.toNatClampNeg) * r20) * r21)) (x6_1 + (2 : Int32)) hw hWF
  obtain ⟨n_u11, hw⟩ := hw
  refine g_sub [2, 3, 4, 5, 1, 0] rfl ?_
  exact L6_u11 n_u11 (0 : Int64) (1 : Int32) hw hWF
def wp_X2_shorten_L13 (k43 : Int64 → Prop) : Nat → Int64 → Int64 → Int32 → Prop
  | 0, _, _, _ => False
  | n13 + 1, x1_1, x3_1, x5_1 => (((1000 : Int32) ≤ x5_1 → k43 x1_1) ∧ (¬ (1000 : Int32) ≤ x5_1 → (((lg_cmp x3_1 (0 : Int64)) ≤ 0 → k43 x1_1) ∧ (¬ (lg_cmp x3_1 (0 : Int64)) ≤ 0 → (¬ x3_1 = 0 ∧ wp_X2_shorten_L13 k43 n13 x3_1 (x1_1 - x1_1 / x3_1 * x3_1) (x5_1 + (1 : Int32)))))))
def wp_X2_shorten (J : KJ) (h0 : Nat) (post : KJ → Prop) : Prop := (∃ q13, wp_X2_shorten_L13 (fun x1_5 => (((lg_cmp x1_5 (1 : Int64)) ≤ 0 → post J) ∧ (¬ (lg_cmp x1_5 (1 : Int64)) ≤ 0 → (¬ x1_5 = 0 ∧ (¬ x1_5 = 0 ∧ post (stj (stj J h0 1 ((J h0 1) / x1_5)) h0 2 (((stj J h0 1 ((J h0 1) / x1_5)) h0 2) / x1_5))))))) q13 (J h0 2) (J h0 1) (0 : Int32))
set_option maxHeartbeats 4000000 in
set_option maxRecDepth 100000 in
theorem met_X2_shorten {Z : Nat → Prop} {A : Nat → Prop} {D : va_G} {D2 : Nat → ClassId} {ad : Nat → Nat} {N : Nat} {T : Nat → Nat × Nat} (l : Launch) {I : KI} {J : KJ} {Q : KQ} {h0 : Nat} {post : KJ → Prop} (hWF : WF Z N T Q) (z0 : OKr Z N T h0 (2, 0)) (hw : wp_X2_shorten J h0 post) : Met l yX2_shorten (.code yX2_shorten cX2_shorten 8 none :: BIG) ({ frames := 0, cells := 0, slots := 0, locals := 0 }) (Pr D D2 A ad N T I J Q [.ref (ad h0)]) (va_Qv (fun (u : KS) => post u.2.1 ∧ u.1 = I ∧ u.2.2 = Q ∧ WF Z N T u.2.2) (Bw D D2 ad N T) A) 0 0 A := by
  refine Met_GG (lv0 := [(0, .ref (ad h0))]) (by decide +kernel) [.ref (ad h0)] (Nat.le_of_ble_eq_true rfl) rfl ?_
  intro p e s m below meth c C hr
  have C : CX p s m [.ref (ad h0)].toArray meth c cX2_shorten 8 RX2 A D D2 := C
  unfold wp_X2_shorten at hw
  refine g_aload_n C dX2_shorten_0 rfl 0 rfl ?_
  refine g_getJ C dX2_shorten_1 ft_116 z0 ?_
  refine g_lstore_n (lv' := [(1, .long (J h0 2)), (0, .ref (ad h0))]) C dX2_shorten_4 rfl (by decide) rfl ?_
  refine g_aload_n C dX2_shorten_5 rfl 1 rfl ?_
  refine g_getJ C dX2_shorten_6 ft_117 z0 ?_
  refine g_lstore_n (lv' := [(3, .long (J h0 1)), (1, .long (J h0 2)), (0, .ref (ad h0))]) C dX2_shorten_9 rfl (by decide) rfl ?_
  refine g_iconst (v := (0 : Int32)) C dX2_shorten_10 (by decide) ?_
  refine g_istore (lv' := [(5, .int (0 : Int32)), (3, .long (J h0 1)), (1, .long (J h0 2)), (0, .ref (ad h0))]) C dX2_shorten_11 (by decide) rfl ?_
  have K43_u4 : ∀ (x1_5 : Int64), ((((lg_cmp x1_5 (1 : Int64)) ≤ 0 → post J) ∧ (¬ (lg_cmp x1_5 (1 : Int64)) ≤ 0 → (¬ x1_5 = 0 ∧ (¬ x1_5 = 0 ∧ post (stj (stj J h0 1 ((J h0 1) / x1_5)) h0 2 (((stj J h0 1 ((J h0 1) / x1_5)) h0 2) / x1_5))))))) → WF Z N T Q → GG p l e ({ frames := 0, cells := 0, slots := 0, locals := 0 }) s m [.ref (ad h0)].toArray below meth c 8 A D D2 0 0 (MQ below (va_Qv (fun (u : KS) => post u.2.1 ∧ u.1 = I ∧ u.2.2 = Q ∧ WF Z N T u.2.2) (Bw D D2 ad N T) A) [.ref (ad h0)].toArray s 0 0 A) ad N T I J Q 43 [(0, .ref (ad h0)), (1, .long x1_5)] [] := by
    intro x1_5 hw hWF
    refine g_lload_n C dX2_shorten_43 rfl 1 rfl ?_
    refine g_lconst (v := (1 : Int64)) C dX2_shorten_44 (by decide) ?_
    refine g_lcmp C dX2_shorten_45 ?_
    refine g_if_le (tgt := 69) C dX2_shorten_46 (by decide) (fun c6 => ?_) (fun c6 => ?_)
    · have hw := hw.1 c6
      exact g_vret C dX2_shorten_69 hr ⟨hw, rfl, rfl, hWF⟩
    · have hw := hw.2 c6
      refine g_aload_n C dX2_shorten_49 rfl 0 rfl ?_
      refine g_dup C dX2_shorten_50 rfl ?_
      refine g_getJ C dX2_shorten_51 ft_117 z0 ?_
      refine g_lload_n C dX2_shorten_54 rfl 1 rfl ?_
      refine g_ldiv C dX2_shorten_55 hw.1 ?_
      have hw := hw.2
      refine g_putJ C dX2_shorten_56 ft_118 z0 ?_
      refine g_aload_n C dX2_shorten_59 rfl 0 rfl ?_
      refine g_dup C dX2_shorten_60 rfl ?_
      refine g_getJ C dX2_shorten_61 ft_116 z0 ?_
      refine g_lload_n C dX2_shorten_64 rfl 1 rfl ?_
      refine g_ldiv C dX2_shorten_65 hw.1 ?_
      have hw := hw.2
      refine g_putJ C dX2_shorten_66 ft_119 z0 ?_
      exact g_vret C dX2_shorten_69 hr ⟨hw, rfl, rfl, hWF⟩
  have L13_u4 : ∀ (n13 : Nat) (x1_1 : Int64) (x3_1 : Int64) (x5_1 : Int32), wp_X2_shorten_L13 (fun x1_5 => (((lg_cmp x1_5 (1 : Int64)) ≤ 0 → post J) ∧ (¬ (lg_cmp x1_5 (1 : Int64)) ≤ 0 → (¬ x1_5 = 0 ∧ (¬ x1_5 = 0 ∧ post (stj (stj J h0 1 ((J h0 1) / x1_5)) h0 2 (((stj J h0 1 ((J h0 1) / x1_5)) h0 2) / x1_5))))))) n13 x1_1 x3_1 x5_1 → WF Z N T Q → GG p l e ({ frames := 0, cells := 0, slots := 0, locals := 0 }) s m [.ref (ad h0)].toArray below meth c 8 A D D2 0 0 (MQ below (va_Qv (fun (u : KS) => post u.2.1 ∧ u.1 = I ∧ u.2.2 = Q ∧ WF Z N T u.2.2) (Bw D D2 ad N T) A) [.ref (ad h0)].toArray s 0 0 A) ad N T I J Q 13 [(0, .ref (ad h0)), (1, .long x1_1), (3, .long x3_1), (5, .int x5_1)] [] := by
    intro n13
    induction n13 with
    | zero => intro x1_1 x3_1 x5_1 hw; exact hw.elim
    | succ n13 ih_u4 =>
      intro x1_1 x3_1 x5_1 hw hWF
      unfold wp_X2_shorten_L13 at hw
      refine g_iload C dX2_shorten_13 3 rfl ?_
      refine g_sipush (v := (1000 : Int32)) C dX2_shorten_15 (by decide) ?_
      refine g_icmp_ge (tgt := 43) C dX2_shorten_18 (by decide) (fun c8 => ?_) (fun c8 => ?_)
      · have hw := hw.1 c8
        refine g_sub [0, 1] rfl ?_
        exact K43_u4 x1_1 hw hWF
      · have hw := hw.2 c8
        refine g_lload_n C dX2_shorten_21 rfl 2 rfl ?_
        refine g_lconst (v := (0 : Int64)) C dX2_shorten_22 (by decide) ?_
        refine g_lcmp C dX2_shorten_23 ?_
        refine g_if_le (tgt := 43) C dX2_shorten_24 (by decide) (fun c9 => ?_) (fun c9 => ?_)
        · have hw := hw.1 c9
          refine g_sub [0, 1] rfl ?_
          exact K43_u4 x1_1 hw hWF
        · have hw := hw.2 c9
          refine g_lload_n C dX2_shorten_27 rfl 1 rfl ?_
          refine g_lload_n C dX2_shorten_28 rfl 2 rfl ?_
          refine g_lrem C dX2_shorten_29 hw.1 ?_
          have hw := hw.2
          refine g_lstore (lv' := [(6, .long (x1_1 - x1_1 / x3_1 * x3_1)), (0, .ref (ad h0)), (1, .long x1_1), (3, .long x3_1), (5, .int x5_1)]) C dX2_shorten_30 (by decide) rfl ?_
          refine g_lload_n C dX2_shorten_32 rfl 3 rfl ?_
          refine g_lstore_n (lv' := [(1, .long x3_1), (6, .long (x1_1 - x1_1 / x3_1 * x3_1)), (0, .ref (ad h0)), (3, .long x3_1), (5, .int x5_1)]) C dX2_shorten_33 rfl (by decide) rfl ?_
          refine g_lload C dX2_shorten_34 1 rfl ?_
          refine g_lstore_n (lv' := [(3, .long (x1_1 - x1_1 / x3_1 * x3_1)), (1, .long x3_1), (6, .long (x1_1 - x1_1 / x3_1 * x3_1)), (0, .ref (ad h0)), (5, .int x5_1)]) C dX2_shorten_36 rfl (by decide) rfl ?_
          refine g_iinc (v := (x5_1 + (1 : Int32))) (lv' := [(5, .int (x5_1 + (1 : Int32))), (3, .long (x1_1 - x1_1 / x3_1 * x3_1)), (1, .long x3_1), (6, .long (x1_1 - x1_1 / x3_1 * x3_1)), (0, .ref (ad h0))]) C dX2_shorten_37 (q := 4) rfl rfl (by decide) rfl ?_
          refine g_goto C dX2_shorten_40 (tgt := 13) (by decide) ?_
          refine g_sub [4, 2, 1, 0] rfl ?_
          exact ih_u4 x3_1 (x1_1 - x1_1 / x3_1 * x3_1) (x5_1 + (1 : Int32)) hw hWF
  obtain ⟨n_u4, hw⟩ := hw
  refine g_sub [3, 2, 1, 0] rfl ?_
  exact L13_u4 n_u4 (J h0 2) (J h0 1) (0 : Int32) hw hWF
def wp_X2_reckon_L12 (If_1 : KI) (Qf_1 : KQ) (f0_1 : Nat) (f1_1 : Nat) (f2_1 : Int32) (f3_1 : Int32) (k51 : KJ → Prop) : Nat → KJ → Int32 → Prop
  | 0, _, _ => False
  | n12 + 1, J_1, x4_1 => ((f3_1 < x4_1 → k51 J_1) ∧ (¬ f3_1 < x4_1 → wp_X2_within If_1 Qf_1 f1_1 x4_1 (fun r4 => wp_X2_power (10 : Int32) r4 (fun r5 => wp_X2_parted If_1 J_1 Qf_1 f0_1 f1_1 x4_1 f2_1 (fun r6 => (vp_in x4_1 64 ∧ wp_X2_reckon_L12 If_1 Qf_1 f0_1 f1_1 f2_1 f3_1 k51 n12 (stj J_1 (rq Qf_1 f0_1 0) x4_1.toNatClampNeg (r5 - r6)) (x4_1 + (2 : Int32))))))))
def wp_X2_reckon (I : KI) (J : KJ) (Q : KQ) (h0 : Nat) (h1 : Nat) (x2 : Int32) (post : KJ → Prop) : Prop := (∃ q12, wp_X2_reckon_L12 I Q h0 h1 x2 (((1 : Int32) <<< ((I h1 3) &&& 31)) - (1 : Int32)) (fun J_8 => (vp_in (((1 : Int32) <<< ((I h1 3) &&& 31)) - (1 : Int32)) 64 ∧ wp_X2_within I Q h1 (((1 : Int32) <<< ((I h1 3) &&& 31)) - (1 : Int32)) (fun r10 => wp_X2_power (10 : Int32) r10 (fun r11 => wp_X2_shorten (stj (stj J_8 h0 1 (J_8 (rq Q h0 0) (((1 : Int32) <<< ((I h1 3) &&& 31)) - (1 : Int32)).toNatClampNeg)) h0 2 r11) h0 (fun J12 => post J12))))) q12 J (1 : Int32))
set_option maxHeartbeats 4000000 in
set_option maxRecDepth 100000 in
theorem met_X2_reckon {Z : Nat → Prop} {A : Nat → Prop} {D : va_G} {D2 : Nat → ClassId} {ad : Nat → Nat} {N : Nat} {T : Nat → Nat × Nat} (l : Launch) {I : KI} {J : KJ} {Q : KQ} {h0 : Nat} {h1 : Nat} {x2 : Int32} {post : KJ → Prop} (hWF : WF Z N T Q) (z0 : OKr Z N T h0 (2, 0)) (z1 : OKr Z N T h1 (1, 0)) (hw : wp_X2_reckon I J Q h0 h1 x2 post) : Met l yX2_reckon (.code yX2_reckon cX2_reckon 5 none :: BIG) ({ frames := 5, cells := 0, slots := 0, locals := 117 }) (Pr D D2 A ad N T I J Q [.ref (ad h0), .ref (ad h1), .int x2]) (va_Qv (fun (u : KS) => post u.2.1 ∧ u.1 = I ∧ u.2.2 = Q ∧ WF Z N T u.2.2) (Bw D D2 ad N T) A) 0 0 A := by
  refine Met_GG (lv0 := [(0, .ref (ad h0)), (1, .ref (ad h1)), (2, .int x2)]) (by decide +kernel) [.ref (ad h0), .ref (ad h1), .int x2] (Nat.le_of_ble_eq_true rfl) rfl ?_
  intro p e s m below meth c C hr
  have C : CX p s m [.ref (ad h0), .ref (ad h1), .int x2].toArray meth c cX2_reckon 5 RX2 A D D2 := C
  unfold wp_X2_reckon at hw
  refine g_iconst (v := (1 : Int32)) C dX2_reckon_0 (by decide) ?_
  refine g_aload_n C dX2_reckon_1 rfl 1 rfl ?_
  refine g_getI C dX2_reckon_2 ft_104 z1 ?_
  refine g_ishl C dX2_reckon_5 ?_
  refine g_iconst (v := (1 : Int32)) C dX2_reckon_6 (by decide) ?_
  refine g_isub C dX2_reckon_7 ?_
  refine g_istore_n (lv' := [(3, .int (((1 : Int32) <<< ((I h1 3) &&& 31)) - (1 : Int32))), (0, .ref (ad h0)), (1, .ref (ad h1)), (2, .int x2)]) C dX2_reckon_8 rfl (by decide) rfl ?_
  refine g_iconst (v := (1 : Int32)) C dX2_reckon_9 (by decide) ?_
  refine g_istore (lv' := [(4, .int (1 : Int32)), (3, .int (((1 : Int32) <<< ((I h1 3) &&& 31)) - (1 : Int32))), (0, .ref (ad h0)), (1, .ref (ad h1)), (2, .int x2)]) C dX2_reckon_10 (by decide) rfl ?_
  have K51_u7 : ∀ (J_8 : KJ), ((vp_in (((1 : Int32) <<< ((I h1 3) &&& 31)) - (1 : Int32)) 64 ∧ wp_X2_within I Q h1 (((1 : Int32) <<< ((I h1 3) &&& 31)) - (1 : Int32)) (fun r10 => wp_X2_power (10 : Int32) r10 (fun r11 => wp_X2_shorten (stj (stj J_8 h0 1 (J_8 (rq Q h0 0) (((1 : Int32) <<< ((I h1 3) &&& 31)) - (1 : Int32)).toNatClampNeg)) h0 2 r11) h0 (fun J12 => post J12))))) → WF Z N T Q → GG p l e ({ frames := 5, cells := 0, slots := 0, locals := 117 }) s m [.ref (ad h0), .ref (ad h1), .int x2].toArray below meth c 5 A D D2 0 0 (MQ below (va_Qv (fun (u : KS) => post u.2.1 ∧ u.1 = I ∧ u.2.2 = Q ∧ WF Z N T u.2.2) (Bw D D2 ad N T) A) [.ref (ad h0), .ref (ad h1), .int x2].toArray s 0 0 A) ad N T I J_8 Q 51 [(0, .ref (ad h0)), (1, .ref (ad h1)), (3, .int (((1 : Int32) <<< ((I h1 3) &&& 31)) - (1 : Int32)))] [] := by
    intro J_8 hw hWF
    refine g_aload_n C dX2_reckon_51 rfl 0 rfl ?_
    refine g_aload_n C dX2_reckon_52 rfl 0 rfl ?_
    refine g_getQ C dX2_reckon_53 ft_110 z0 (hWF.q z0 0 rfl) ?_
    have zz9 := hWF.r z0 0 rfl
    refine g_iload_n C dX2_reckon_56 rfl 2 rfl ?_
    refine g_lald C dX2_reckon_57 zz9 hw.1 ?_
    have hw := hw.2
    refine g_putJ C dX2_reckon_58 ft_118 z0 ?_
    refine g_aload_n C dX2_reckon_61 rfl 0 rfl ?_
    refine g_bipush (v := (10 : Int32)) C dX2_reckon_62 (by decide) ?_
    refine g_aload_n C dX2_reckon_64 rfl 1 rfl ?_
    refine g_iload_n C dX2_reckon_65 rfl 2 rfl ?_
    refine g_callSi (As := [.ref (ad h1), .int (((1 : Int32) <<< ((I h1 3) &&& 31)) - (1 : Int32))]) C dX2_reckon_66 ft_114 ft_115 (met_X2_within l hWF z1 hw) ⟨rfl, rfl, Nat.le_of_ble_eq_true rfl, Nat.le_of_ble_eq_true rfl⟩ ⟨Nat.zero_le _, Nat.zero_le _⟩ rfl rfl (Nat.le_of_ble_eq_true rfl) (fun r10 I10 J10 Q10 hp => ?_)
    obtain ⟨hw, eI, eJ, eQ, hWF⟩ := hp
    have eI : I = I10 := Eq.symm eI
    subst eI
    have eJ : (stj J_8 h0 1 (J_8 (rq Q h0 0) (((1 : Int32) <<< ((I h1 3) &&& 31)) - (1 : Int32)).toNatClampNeg)) = J10 := Eq.symm eJ
    subst eJ
    have eQ : Q = Q10 := Eq.symm eQ
    subst eQ
    try dsimp only at hw hWF
    refine g_callSl (As := [.int (10 : Int32), .int r10]) C dX2_reckon_69 ft_112 ft_113 (met_X2_power l hWF  hw) ⟨rfl, rfl, Nat.le_of_ble_eq_true rfl, Nat.le_of_ble_eq_true rfl⟩ ⟨Nat.zero_le _, Nat.zero_le _⟩ rfl rfl (Nat.le_of_ble_eq_true rfl) (fun r11 I11 J11 Q11 hp => ?_)
    obtain ⟨hw, eI, eJ, eQ, hWF⟩ := hp
    have eI : I = I11 := Eq.symm eI
    subst eI
    have eJ : (stj J_8 h0 1 (J_8 (rq Q h0 0) (((1 : Int32) <<< ((I h1 3) &&& 31)) - (1 : Int32)).toNatClampNeg)) = J11 := Eq.symm eJ
    subst eJ
    have eQ : Q = Q11 := Eq.symm eQ
    subst eQ
    try dsimp only at hw hWF
    refine g_putJ C dX2_reckon_72 ft_119 z0 ?_
    refine g_aload_n C dX2_reckon_75 rfl 0 rfl ?_
    refine g_callVv (As := []) C dX2_reckon_76 ft_122 z0 ft_123 ft_124 (met_X2_shorten l hWF z0 hw) ⟨rfl, rfl, Nat.le_of_ble_eq_true rfl, Nat.le_of_ble_eq_true rfl⟩ ⟨Nat.zero_le _, Nat.zero_le _⟩ rfl rfl (Nat.le_of_ble_eq_true rfl) (fun I12 J12 Q12 hp => ?_)
    obtain ⟨hw, eI, eQ, hWF⟩ := hp
    have eI : I = I12 := Eq.symm eI
    subst eI
    have eQ : Q = Q12 := Eq.symm eQ
    subst eQ
    try dsimp only at hw hWF
    exact g_vret C dX2_reckon_79 hr ⟨hw, rfl, rfl, hWF⟩
  have L12_u7 : ∀ (n12 : Nat) (J_1 : KJ) (x4_1 : Int32), wp_X2_reckon_L12 I Q h0 h1 x2 (((1 : Int32) <<< ((I h1 3) &&& 31)) - (1 : Int32)) (fun J_8 => (vp_in (((1 : Int32) <<< ((I h1 3) &&& 31)) - (1 : Int32)) 64 ∧ wp_X2_within I Q h1 (((1 : Int32) <<< ((I h1 3) &&& 31)) - (1 : Int32)) (fun r10 => wp_X2_power (10 : Int32) r10 (fun r11 => wp_X2_shorten (stj (stj J_8 h0 1 (J_8 (rq Q h0 0) (((1 : Int32) <<< ((I h1 3) &&& 31)) - (1 : Int32)).toNatClampNeg)) h0 2 r11) h0 (fun J12 => post J12))))) n12 J_1 x4_1 → WF Z N T Q → GG p l e ({ frames := 5, cells := 0, slots := 0, locals := 117 }) s m [.ref (ad h0), .ref (ad h1), .int x2].toArray below meth c 5 A D D2 0 0 (MQ below (va_Qv (fun (u : KS) => post u.2.1 ∧ u.1 = I ∧ u.2.2 = Q ∧ WF Z N T u.2.2) (Bw D D2 ad N T) A) [.ref (ad h0), .ref (ad h1), .int x2].toArray s 0 0 A) ad N T I J_1 Q 12 [(0, .ref (ad h0)), (1, .ref (ad h1)), (2, .int x2), (3, .int (((1 : Int32) <<< ((I h1 3) &&& 31)) - (1 : Int32))), (4, .int x4_1)] [] := by
    intro n12
    induction n12 with
    | zero => intro J_1 x4_1 hw; exact hw.elim
    | succ n12 ih_u7 =>
      intro J_1 x4_1 hw hWF
      unfold wp_X2_reckon_L12 at hw
      refine g_iload C dX2_reckon_12 4 rfl ?_
      refine g_iload_n C dX2_reckon_14 rfl 3 rfl ?_
      refine g_icmp_gt (tgt := 51) C dX2_reckon_15 (by decide) (fun c14 => ?_) (fun c14 => ?_)
      · have hw := hw.1 c14
        refine g_sub [0, 1, 3] rfl ?_
        exact K51_u7 J_1 hw hWF
      · have hw := hw.2 c14
        refine g_aload_n C dX2_reckon_18 rfl 0 rfl ?_
        refine g_getQ C dX2_reckon_19 ft_110 z0 (hWF.q z0 0 rfl) ?_
        have zz15 := hWF.r z0 0 rfl
        refine g_iload C dX2_reckon_22 4 rfl ?_
        refine g_bipush (v := (10 : Int32)) C dX2_reckon_24 (by decide) ?_
        refine g_aload_n C dX2_reckon_26 rfl 1 rfl ?_
        refine g_iload C dX2_reckon_27 4 rfl ?_
        refine g_callSi (As := [.ref (ad h1), .int x4_1]) C dX2_reckon_29 ft_114 ft_115 (met_X2_within l hWF z1 hw) ⟨rfl, rfl, Nat.le_of_ble_eq_true rfl, Nat.le_of_ble_eq_true rfl⟩ ⟨Nat.zero_le _, Nat.zero_le _⟩ rfl rfl (Nat.le_of_ble_eq_true rfl) (fun r16 I16 J16 Q16 hp => ?_)
        obtain ⟨hw, eI, eJ, eQ, hWF⟩ := hp
        have eI : I = I16 := Eq.symm eI
        subst eI
        have eJ : J_1 = J16 := Eq.symm eJ
        subst eJ
        have eQ : Q = Q16 := Eq.symm eQ
        subst eQ
        try dsimp only at hw hWF
        refine g_callSl (As := [.int (10 : Int32), .int r16]) C dX2_reckon_32 ft_112 ft_113 (met_X2_power l hWF  hw) ⟨rfl, rfl, Nat.le_of_ble_eq_true rfl, Nat.le_of_ble_eq_true rfl⟩ ⟨Nat.zero_le _, Nat.zero_le _⟩ rfl rfl (Nat.le_of_ble_eq_true rfl) (fun r17 I17 J17 Q17 hp => ?_)
        obtain ⟨hw, eI, eJ, eQ, hWF⟩ := hp
        have eI : I = I17 := Eq.symm eI
        subst eI
        have eJ : J_1 = J17 := Eq.symm eJ
        subst eJ
        have eQ : Q = Q17 := Eq.symm eQ
        subst eQ
        try dsimp only at hw hWF
        refine g_aload_n C dX2_reckon_35 rfl 0 rfl ?_
        refine g_aload_n C dX2_reckon_36 rfl 1 rfl ?_
        refine g_iload C dX2_reckon_37 4 rfl ?_
        refine g_iload_n C dX2_reckon_39 rfl 2 rfl ?_
        refine g_callVl (As := [.ref (ad h1), .int x4_1, .int x2]) C dX2_reckon_40 ft_122 z0 ft_120 ft_121 (met_X2_parted l hWF z0 z1 hw) ⟨rfl, rfl, Nat.le_of_ble_eq_true rfl, Nat.le_of_ble_eq_true rfl⟩ ⟨Nat.zero_le _, Nat.zero_le _⟩ rfl rfl (Nat.le_of_ble_eq_true rfl) (fun r18 I18 J18 Q18 hp => ?_)
        obtain ⟨hw, eI, eJ, eQ, hWF⟩ := hp
        have eI : I = I18 := Eq.symm eI
        subst eI
        have eJ : J_1 = J18 := Eq.symm eJ
        subst eJ
        have eQ : Q = Q18 := Eq.symm eQ
        subst eQ
        try dsimp only at hw hWF
        refine g_lsub C dX2_reckon_43 ?_
        refine g_last C dX2_reckon_44 zz15 hw.1 ?_
        have hw := hw.2
        refine g_iinc (v := (x4_1 + (2 : Int32))) (lv' := [(4, .int (x4_1 + (2 : Int32))), (0, .ref (ad h0)), (1, .ref (ad h1)), (2, .int x2), (3, .int (((1 : Int32) <<< ((I h1 3) &&& 31)) - (1 : Int32)))]) C dX2_reckon_45 (q := 4) rfl rfl (by decide) rfl ?_
        refine g_goto C dX2_reckon_48 (tgt := 12) (by decide) ?_
        refine g_sub [1, 2, 3, 4, 0] rfl ?_
        exact ih_u7 (stj J_1 (rq Q h0 0) x4_1.toNatClampNeg (r17 - r18)) (x4_1 + (2 : Int32)) hw hWF
  obtain ⟨n_u7, hw⟩ := hw
  refine g_sub [2, 3, 4, 1, 0] rfl ?_
  exact L12_u7 n_u7 J (1 : Int32) hw hWF
def wp_X3_loseOldest_L9 (If_3 : KI) (f0_3 : Nat) (f1_3 : Nat) (post : KI → KQ → Prop) : Nat → KQ → Int32 → Prop
  | 0, _, _ => False
  | n9 + 1, Q_3, x2_3 => (((6 : Int32) ≤ x2_3 → post (sti If_3 f0_3 1 (5 : Int32)) (stq Q_3 (rq Q_3 f0_3 0) (5 : Int32).toNatClampNeg f1_3)) ∧ (¬ (6 : Int32) ≤ x2_3 → (vp_in x2_3 6 ∧ (vp_in (x2_3 - (1 : Int32)) 6 ∧ wp_X3_loseOldest_L9 If_3 f0_3 f1_3 post n9 (stq Q_3 (rq Q_3 f0_3 0) (x2_3 - (1 : Int32)).toNatClampNeg (rq Q_3 (rq Q_3 f0_3 0) x2_3.toNatClampNeg)) (x2_3 + (1 : Int32))))))
def wp_X3_loseOldest (I : KI) (Q : KQ) (h0 : Nat) (post : KI → KQ → Prop) : Prop := (∃ q9, wp_X3_loseOldest_L9 I h0 (rq Q (rq Q h0 0) (0 : Int32).toNatClampNeg) post q9 Q (1 : Int32))
set_option maxHeartbeats 4000000 in
set_option maxRecDepth 100000 in
theorem met_X3_loseOldest {Z : Nat → Prop} {A : Nat → Prop} {D : va_G} {D2 : Nat → ClassId} {ad : Nat → Nat} {N : Nat} {T : Nat → Nat × Nat} (l : Launch) {I : KI} {J : KJ} {Q : KQ} {h0 : Nat} {post : KI → KQ → Prop} (hWF : WF Z N T Q) (z0 : OKr Z N T h0 (3, 0)) (hw : wp_X3_loseOldest I Q h0 post) : Met l yX3_loseOldest (.code yX3_loseOldest cX3_loseOldest 3 none :: BIG) ({ frames := 0, cells := 0, slots := 0, locals := 0 }) (Pr D D2 A ad N T I J Q [.ref (ad h0)]) (va_Qv (fun (u : KS) => post u.1 u.2.2 ∧ u.2.1 = J ∧ WF Z N T u.2.2) (Bw D D2 ad N T) A) 0 0 A := by
  refine Met_GG (lv0 := [(0, .ref (ad h0))]) (by decide +kernel) [.ref (ad h0)] (Nat.le_of_ble_eq_true rfl) rfl ?_
  intro p e s m below meth c C hr
  have C : CX p s m [.ref (ad h0)].toArray meth c cX3_loseOldest 3 RX3 A D D2 := C
  unfold wp_X3_loseOldest at hw
  refine g_aload_n C dX3_loseOldest_0 rfl 0 rfl ?_
  refine g_getQ C dX3_loseOldest_1 ft_125 z0 (hWF.q z0 0 rfl) ?_
  have zz1 := hWF.r z0 0 rfl
  refine g_iconst (v := (0 : Int32)) C dX3_loseOldest_4 (by decide) ?_
  have hrzz2 := rft_eN (vp_lit (x := (0 : Int32)) (n := 6) (by decide +kernel))
  refine g_aaldN C dX3_loseOldest_5 zz1 (vp_lit (x := (0 : Int32)) (n := 6) (by decide +kernel)) (hWF.q zz1 _ hrzz2) ?_
  have zz2 := hWF.r zz1 _ hrzz2
  refine g_astore_n (lv' := [(1, .ref (ad (rq Q (rq Q h0 0) (0 : Int32).toNatClampNeg))), (0, .ref (ad h0))]) C dX3_loseOldest_6 rfl (by decide) rfl ?_
  refine g_iconst (v := (1 : Int32)) C dX3_loseOldest_7 (by decide) ?_
  refine g_istore_n (lv' := [(2, .int (1 : Int32)), (1, .ref (ad (rq Q (rq Q h0 0) (0 : Int32).toNatClampNeg))), (0, .ref (ad h0))]) C dX3_loseOldest_8 rfl (by decide) rfl ?_
  have L9_u9 : ∀ (n9 : Nat) (Q_3 : KQ) (x2_3 : Int32), wp_X3_loseOldest_L9 I h0 (rq Q (rq Q h0 0) (0 : Int32).toNatClampNeg) post n9 Q_3 x2_3 → WF Z N T Q_3 → GG p l e ({ frames := 0, cells := 0, slots := 0, locals := 0 }) s m [.ref (ad h0)].toArray below meth c 3 A D D2 0 0 (MQ below (va_Qv (fun (u : KS) => post u.1 u.2.2 ∧ u.2.1 = J ∧ WF Z N T u.2.2) (Bw D D2 ad N T) A) [.ref (ad h0)].toArray s 0 0 A) ad N T I J Q_3 9 [(0, .ref (ad h0)), (1, .ref (ad (rq Q (rq Q h0 0) (0 : Int32).toNatClampNeg))), (2, .int x2_3)] [] := by
    intro n9
    induction n9 with
    | zero => intro Q_3 x2_3 hw; exact hw.elim
    | succ n9 ih_u9 =>
      intro Q_3 x2_3 hw hWF
      unfold wp_X3_loseOldest_L9 at hw
      refine g_iload_n C dX3_loseOldest_9 rfl 2 rfl ?_
      refine g_bipush (v := (6 : Int32)) C dX3_loseOldest_10 (by decide) ?_
      refine g_icmp_ge (tgt := 35) C dX3_loseOldest_12 (by decide) (fun c11 => ?_) (fun c11 => ?_)
      · have hw := hw.1 c11
        refine g_aload_n C dX3_loseOldest_35 rfl 0 rfl ?_
        refine g_getQ C dX3_loseOldest_36 ft_125 z0 (hWF.q z0 0 rfl) ?_
        have zz12 := hWF.r z0 0 rfl
        refine g_iconst (v := (5 : Int32)) C dX3_loseOldest_39 (by decide) ?_
        refine g_aload_n C dX3_loseOldest_40 rfl 1 rfl ?_
        refine g_aastN C dX3_loseOldest_41 zz12 zz2 (vp_lit (by decide +kernel)) ?_
        have hWF : WF Z N T (stq Q_3 (rq Q_3 h0 0) (5 : Int32).toNatClampNeg (rq Q (rq Q h0 0) (0 : Int32).toNatClampNeg)) := hWF.set zz12 (rft_uN) zz2 (j := (5 : Int32).toNatClampNeg)
        refine g_aload_n C dX3_loseOldest_42 rfl 0 rfl ?_
        refine g_iconst (v := (5 : Int32)) C dX3_loseOldest_43 (by decide) ?_
        refine g_putI C dX3_loseOldest_44 ft_127 z0 ?_
        exact g_vret C dX3_loseOldest_47 hr ⟨hw, rfl, hWF⟩
      · have hw := hw.2 c11
        refine g_aload_n C dX3_loseOldest_15 rfl 0 rfl ?_
        refine g_getQ C dX3_loseOldest_16 ft_125 z0 (hWF.q z0 0 rfl) ?_
        have zz13 := hWF.r z0 0 rfl
        refine g_iload_n C dX3_loseOldest_19 rfl 2 rfl ?_
        refine g_iconst (v := (1 : Int32)) C dX3_loseOldest_20 (by decide) ?_
        refine g_isub C dX3_loseOldest_21 ?_
        refine g_aload_n C dX3_loseOldest_22 rfl 0 rfl ?_
        refine g_getQ C dX3_loseOldest_23 ft_125 z0 (hWF.q z0 0 rfl) ?_
        have zz14 := hWF.r z0 0 rfl
        refine g_iload_n C dX3_loseOldest_26 rfl 2 rfl ?_
        have hrzz15 := rft_eN hw.1
        refine g_aaldN C dX3_loseOldest_27 zz14 hw.1 (hWF.q zz14 _ hrzz15) ?_
        have zz15 := hWF.r zz14 _ hrzz15
        have hw := hw.2
        refine g_aastN C dX3_loseOldest_28 zz13 zz15 hw.1 ?_
        have hWF : WF Z N T (stq Q_3 (rq Q_3 h0 0) (x2_3 - (1 : Int32)).toNatClampNeg (rq Q_3 (rq Q_3 h0 0) x2_3.toNatClampNeg)) := hWF.set zz13 (rft_uN) zz15 (j := (x2_3 - (1 : Int32)).toNatClampNeg)
        have hw := hw.2
        refine g_iinc (v := (x2_3 + (1 : Int32))) (lv' := [(2, .int (x2_3 + (1 : Int32))), (0, .ref (ad h0)), (1, .ref (ad (rq Q (rq Q h0 0) (0 : Int32).toNatClampNeg)))]) C dX3_loseOldest_29 (q := 2) rfl rfl (by decide) rfl ?_
        refine g_goto C dX3_loseOldest_32 (tgt := 9) (by decide) ?_
        refine g_sub [1, 2, 0] rfl ?_
        exact ih_u9 (stq Q_3 (rq Q_3 h0 0) (x2_3 - (1 : Int32)).toNatClampNeg (rq Q_3 (rq Q_3 h0 0) x2_3.toNatClampNeg)) (x2_3 + (1 : Int32)) hw hWF
  obtain ⟨n_u9, hw⟩ := hw
  refine g_sub [2, 1, 0] rfl ?_
  exact L9_u9 n_u9 Q (1 : Int32) hw hWF
def wp_X3_keep (I : KI) (Q : KQ) (h0 : Nat) (h1 : Nat) (post : KI → KQ → Prop) : Prop := (((I h0 1) < (6 : Int32) → (vp_in (I h0 1) 6 ∧ wp_X1_take I Q (rq Q (rq Q h0 0) (I h0 1).toNatClampNeg) h1 (fun I4 => post (sti I4 h0 1 ((I4 h0 1) + (1 : Int32))) Q))) ∧ (¬ (I h0 1) < (6 : Int32) → wp_X3_loseOldest I Q h0 (fun I5 Q5 => (vp_in (I5 h0 1) 6 ∧ wp_X1_take I5 Q5 (rq Q5 (rq Q5 h0 0) (I5 h0 1).toNatClampNeg) h1 (fun I8 => post (sti I8 h0 1 ((I8 h0 1) + (1 : Int32))) Q5)))))
set_option maxHeartbeats 4000000 in
set_option maxRecDepth 100000 in
theorem met_X3_keep {Z : Nat → Prop} {A : Nat → Prop} {D : va_G} {D2 : Nat → ClassId} {ad : Nat → Nat} {N : Nat} {T : Nat → Nat × Nat} (l : Launch) {I : KI} {J : KJ} {Q : KQ} {h0 : Nat} {h1 : Nat} {post : KI → KQ → Prop} (hWF : WF Z N T Q) (z0 : OKr Z N T h0 (3, 0)) (z1 : OKr Z N T h1 (1, 0)) (hw : wp_X3_keep I Q h0 h1 post) : Met l yX3_keep (.code yX3_keep cX3_keep 2 none :: BIG) ({ frames := 3, cells := 0, slots := 0, locals := 83 }) (Pr D D2 A ad N T I J Q [.ref (ad h0), .ref (ad h1)]) (va_Qv (fun (u : KS) => post u.1 u.2.2 ∧ u.2.1 = J ∧ WF Z N T u.2.2) (Bw D D2 ad N T) A) 0 0 A := by
  refine Met_GG (lv0 := [(0, .ref (ad h0)), (1, .ref (ad h1))]) (by decide +kernel) [.ref (ad h0), .ref (ad h1)] (Nat.le_of_ble_eq_true rfl) rfl ?_
  intro p e s m below meth c C hr
  have C : CX p s m [.ref (ad h0), .ref (ad h1)].toArray meth c cX3_keep 2 RX3 A D D2 := C
  unfold wp_X3_keep at hw
  refine g_aload_n C dX3_keep_0 rfl 0 rfl ?_
  refine g_getI C dX3_keep_1 ft_128 z0 ?_
  refine g_bipush (v := (6 : Int32)) C dX3_keep_4 (by decide) ?_
  refine g_icmp_lt (tgt := 13) C dX3_keep_6 (by decide) (fun c1 => ?_) (fun c1 => ?_)
  · have hw := hw.1 c1
    refine g_aload_n C dX3_keep_13 rfl 0 rfl ?_
    refine g_getQ C dX3_keep_14 ft_125 z0 (hWF.q z0 0 rfl) ?_
    have zz2 := hWF.r z0 0 rfl
    refine g_aload_n C dX3_keep_17 rfl 0 rfl ?_
    refine g_getI C dX3_keep_18 ft_128 z0 ?_
    have hrzz3 := rft_eN hw.1
    refine g_aaldN C dX3_keep_21 zz2 hw.1 (hWF.q zz2 _ hrzz3) ?_
    have zz3 := hWF.r zz2 _ hrzz3
    have hw := hw.2
    refine g_aload_n C dX3_keep_22 rfl 1 rfl ?_
    refine g_callVv (As := [.ref (ad h1)]) C dX3_keep_23 ft_46 zz3 ft_129 ft_130 (met_X1_take l hWF zz3 z1 hw) ⟨rfl, rfl, Nat.le_of_ble_eq_true rfl, Nat.le_of_ble_eq_true rfl⟩ ⟨Nat.zero_le _, Nat.zero_le _⟩ rfl rfl (Nat.le_of_ble_eq_true rfl) (fun I4 J4 Q4 hp => ?_)
    obtain ⟨hw, eJ, eQ, hWF⟩ := hp
    have eJ : J = J4 := Eq.symm eJ
    subst eJ
    have eQ : Q = Q4 := Eq.symm eQ
    subst eQ
    try dsimp only at hw hWF
    refine g_aload_n C dX3_keep_26 rfl 0 rfl ?_
    refine g_dup C dX3_keep_27 rfl ?_
    refine g_getI C dX3_keep_28 ft_128 z0 ?_
    refine g_iconst (v := (1 : Int32)) C dX3_keep_31 (by decide) ?_
    refine g_iadd C dX3_keep_32 ?_
    refine g_putI C dX3_keep_33 ft_127 z0 ?_
    exact g_vret C dX3_keep_36 hr ⟨hw, rfl, hWF⟩
  · have hw := hw.2 c1
    refine g_aload_n C dX3_keep_9 rfl 0 rfl ?_
    refine g_callVv (As := []) C dX3_keep_10 ft_133 z0 ft_131 ft_132 (met_X3_loseOldest l hWF z0 hw) ⟨rfl, rfl, Nat.le_of_ble_eq_true rfl, Nat.le_of_ble_eq_true rfl⟩ ⟨Nat.zero_le _, Nat.zero_le _⟩ rfl rfl (Nat.le_of_ble_eq_true rfl) (fun I5 J5 Q5 hp => ?_)
    obtain ⟨hw, eJ, hWF⟩ := hp
    have eJ : J = J5 := Eq.symm eJ
    subst eJ
    try dsimp only at hw hWF
    refine g_aload_n C dX3_keep_13 rfl 0 rfl ?_
    refine g_getQ C dX3_keep_14 ft_125 z0 (hWF.q z0 0 rfl) ?_
    have zz6 := hWF.r z0 0 rfl
    refine g_aload_n C dX3_keep_17 rfl 0 rfl ?_
    refine g_getI C dX3_keep_18 ft_128 z0 ?_
    have hrzz7 := rft_eN hw.1
    refine g_aaldN C dX3_keep_21 zz6 hw.1 (hWF.q zz6 _ hrzz7) ?_
    have zz7 := hWF.r zz6 _ hrzz7
    have hw := hw.2
    refine g_aload_n C dX3_keep_22 rfl 1 rfl ?_
    refine g_callVv (As := [.ref (ad h1)]) C dX3_keep_23 ft_46 zz7 ft_129 ft_130 (met_X1_take l hWF zz7 z1 hw) ⟨rfl, rfl, Nat.le_of_ble_eq_true rfl, Nat.le_of_ble_eq_true rfl⟩ ⟨Nat.zero_le _, Nat.zero_le _⟩ rfl rfl (Nat.le_of_ble_eq_true rfl) (fun I8 J8 Q8 hp => ?_)
    obtain ⟨hw, eJ, eQ, hWF⟩ := hp
    have eJ : J = J8 := Eq.symm eJ
    subst eJ
    have eQ : Q5 = Q8 := Eq.symm eQ
    subst eQ
    try dsimp only at hw hWF
    refine g_aload_n C dX3_keep_26 rfl 0 rfl ?_
    refine g_dup C dX3_keep_27 rfl ?_
    refine g_getI C dX3_keep_28 ft_128 z0 ?_
    refine g_iconst (v := (1 : Int32)) C dX3_keep_31 (by decide) ?_
    refine g_iadd C dX3_keep_32 ?_
    refine g_putI C dX3_keep_33 ft_127 z0 ?_
    exact g_vret C dX3_keep_36 hr ⟨hw, rfl, hWF⟩
def wp_X3_back (I : KI) (Q : KQ) (h0 : Nat) (h1 : Nat) (post : Int32 → KI → Prop) : Prop := (((1 : Int32) ≤ (I h0 1) → (vp_in ((sti I h0 1 ((I h0 1) - (1 : Int32))) h0 1) 6 ∧ wp_X1_take (sti I h0 1 ((I h0 1) - (1 : Int32))) Q h1 (rq Q (rq Q h0 0) ((sti I h0 1 ((I h0 1) - (1 : Int32))) h0 1).toNatClampNeg) (fun I4 => post (1 : Int32) I4))) ∧ (¬ (1 : Int32) ≤ (I h0 1) → post (0 : Int32) I))
set_option maxHeartbeats 4000000 in
set_option maxRecDepth 100000 in
theorem met_X3_back {Z : Nat → Prop} {A : Nat → Prop} {D : va_G} {D2 : Nat → ClassId} {ad : Nat → Nat} {N : Nat} {T : Nat → Nat × Nat} (l : Launch) {I : KI} {J : KJ} {Q : KQ} {h0 : Nat} {h1 : Nat} {post : Int32 → KI → Prop} (hWF : WF Z N T Q) (z0 : OKr Z N T h0 (3, 0)) (z1 : OKr Z N T h1 (1, 0)) (hw : wp_X3_back I Q h0 h1 post) : Met l yX3_back (.code yX3_back cX3_back 2 (some .boolean) :: BIG) ({ frames := 3, cells := 0, slots := 0, locals := 83 }) (Pr D D2 A ad N T I J Q [.ref (ad h0), .ref (ad h1)]) (va_Qi (fun (r : Int32) (u : KS) => post r u.1 ∧ u.2.1 = J ∧ u.2.2 = Q ∧ WF Z N T u.2.2) (Bw D D2 ad N T) A) 0 0 A := by
  refine Met_GG (lv0 := [(0, .ref (ad h0)), (1, .ref (ad h1))]) (by decide +kernel) [.ref (ad h0), .ref (ad h1)] (Nat.le_of_ble_eq_true rfl) rfl ?_
  intro p e s m below meth c C hr
  have C : CX p s m [.ref (ad h0), .ref (ad h1)].toArray meth c cX3_back 2 RX3 A D D2 := C
  unfold wp_X3_back at hw
  refine g_aload_n C dX3_back_0 rfl 0 rfl ?_
  refine g_getI C dX3_back_1 ft_128 z0 ?_
  refine g_iconst (v := (1 : Int32)) C dX3_back_4 (by decide) ?_
  refine g_icmp_ge (tgt := 10) C dX3_back_5 (by decide) (fun c1 => ?_) (fun c1 => ?_)
  · have hw := hw.1 c1
    refine g_aload_n C dX3_back_10 rfl 0 rfl ?_
    refine g_dup C dX3_back_11 rfl ?_
    refine g_getI C dX3_back_12 ft_128 z0 ?_
    refine g_iconst (v := (1 : Int32)) C dX3_back_15 (by decide) ?_
    refine g_isub C dX3_back_16 ?_
    refine g_putI C dX3_back_17 ft_127 z0 ?_
    refine g_aload_n C dX3_back_20 rfl 1 rfl ?_
    refine g_aload_n C dX3_back_21 rfl 0 rfl ?_
    refine g_getQ C dX3_back_22 ft_125 z0 (hWF.q z0 0 rfl) ?_
    have zz2 := hWF.r z0 0 rfl
    refine g_aload_n C dX3_back_25 rfl 0 rfl ?_
    refine g_getI C dX3_back_26 ft_128 z0 ?_
    have hrzz3 := rft_eN hw.1
    refine g_aaldN C dX3_back_29 zz2 hw.1 (hWF.q zz2 _ hrzz3) ?_
    have zz3 := hWF.r zz2 _ hrzz3
    have hw := hw.2
    refine g_callVv (As := [.ref (ad (rq Q (rq Q h0 0) ((sti I h0 1 ((I h0 1) - (1 : Int32))) h0 1).toNatClampNeg))]) C dX3_back_30 ft_46 z1 ft_129 ft_130 (met_X1_take l hWF z1 zz3 hw) ⟨rfl, rfl, Nat.le_of_ble_eq_true rfl, Nat.le_of_ble_eq_true rfl⟩ ⟨Nat.zero_le _, Nat.zero_le _⟩ rfl rfl (Nat.le_of_ble_eq_true rfl) (fun I4 J4 Q4 hp => ?_)
    obtain ⟨hw, eJ, eQ, hWF⟩ := hp
    have eJ : J = J4 := Eq.symm eJ
    subst eJ
    have eQ : Q = Q4 := Eq.symm eQ
    subst eQ
    try dsimp only at hw hWF
    refine g_iconst (v := (1 : Int32)) C dX3_back_33 (by decide) ?_
    exact g_zret C dX3_back_34 hr rfl ⟨hw, rfl, rfl, hWF⟩
  · have hw := hw.2 c1
    refine g_iconst (v := (0 : Int32)) C dX3_back_8 (by decide) ?_
    exact g_zret C dX3_back_9 hr rfl ⟨hw, rfl, rfl, hWF⟩
def wp_X3_take_L2 (Qf_1 : KQ) (f0_1 : Nat) (f1_1 : Nat) (post : KI → Prop) : Nat → KI → Int32 → Prop
  | 0, _, _ => False
  | n2 + 1, I_1, x2_1 => (((I_1 f1_1 1) ≤ x2_1 → post (sti I_1 f0_1 1 (I_1 f1_1 1))) ∧ (¬ (I_1 f1_1 1) ≤ x2_1 → (vp_in x2_1 6 ∧ (vp_in x2_1 6 ∧ wp_X1_take I_1 Qf_1 (rq Qf_1 (rq Qf_1 f0_1 0) x2_1.toNatClampNeg) (rq Qf_1 (rq Qf_1 f1_1 0) x2_1.toNatClampNeg) (fun I7 => wp_X3_take_L2 Qf_1 f0_1 f1_1 post n2 I7 (x2_1 + (1 : Int32)))))))
def wp_X3_take (I : KI) (Q : KQ) (h0 : Nat) (h1 : Nat) (post : KI → Prop) : Prop := (∃ q2, wp_X3_take_L2 Q h0 h1 post q2 I (0 : Int32))
set_option maxHeartbeats 4000000 in
set_option maxRecDepth 100000 in
theorem met_X3_take {Z : Nat → Prop} {A : Nat → Prop} {D : va_G} {D2 : Nat → ClassId} {ad : Nat → Nat} {N : Nat} {T : Nat → Nat × Nat} (l : Launch) {I : KI} {J : KJ} {Q : KQ} {h0 : Nat} {h1 : Nat} {post : KI → Prop} (hWF : WF Z N T Q) (z0 : OKr Z N T h0 (3, 0)) (z1 : OKr Z N T h1 (3, 0)) (hw : wp_X3_take I Q h0 h1 post) : Met l yX3_take (.code yX3_take cX3_take 3 none :: BIG) ({ frames := 3, cells := 0, slots := 0, locals := 83 }) (Pr D D2 A ad N T I J Q [.ref (ad h0), .ref (ad h1)]) (va_Qv (fun (u : KS) => post u.1 ∧ u.2.1 = J ∧ u.2.2 = Q ∧ WF Z N T u.2.2) (Bw D D2 ad N T) A) 0 0 A := by
  refine Met_GG (lv0 := [(0, .ref (ad h0)), (1, .ref (ad h1))]) (by decide +kernel) [.ref (ad h0), .ref (ad h1)] (Nat.le_of_ble_eq_true rfl) rfl ?_
  intro p e s m below meth c C hr
  have C : CX p s m [.ref (ad h0), .ref (ad h1)].toArray meth c cX3_take 3 RX3 A D D2 := C
  unfold wp_X3_take at hw
  refine g_iconst (v := (0 : Int32)) C dX3_take_0 (by decide) ?_
  refine g_istore_n (lv' := [(2, .int (0 : Int32)), (0, .ref (ad h0)), (1, .ref (ad h1))]) C dX3_take_1 rfl (by decide) rfl ?_
  have L2_u8 : ∀ (n2 : Nat) (I_1 : KI) (x2_1 : Int32), wp_X3_take_L2 Q h0 h1 post n2 I_1 x2_1 → WF Z N T Q → GG p l e ({ frames := 3, cells := 0, slots := 0, locals := 83 }) s m [.ref (ad h0), .ref (ad h1)].toArray below meth c 3 A D D2 0 0 (MQ below (va_Qv (fun (u : KS) => post u.1 ∧ u.2.1 = J ∧ u.2.2 = Q ∧ WF Z N T u.2.2) (Bw D D2 ad N T) A) [.ref (ad h0), .ref (ad h1)].toArray s 0 0 A) ad N T I_1 J Q 2 [(0, .ref (ad h0)), (1, .ref (ad h1)), (2, .int x2_1)] [] := by
    intro n2
    induction n2 with
    | zero => intro I_1 x2_1 hw; exact hw.elim
    | succ n2 ih_u8 =>
      intro I_1 x2_1 hw hWF
      unfold wp_X3_take_L2 at hw
      refine g_iload_n C dX3_take_2 rfl 2 rfl ?_
      refine g_aload_n C dX3_take_3 rfl 1 rfl ?_
      refine g_getI C dX3_take_4 ft_128 z1 ?_
      refine g_icmp_ge (tgt := 31) C dX3_take_7 (by decide) (fun c10 => ?_) (fun c10 => ?_)
      · have hw := hw.1 c10
        refine g_aload_n C dX3_take_31 rfl 0 rfl ?_
        refine g_aload_n C dX3_take_32 rfl 1 rfl ?_
        refine g_getI C dX3_take_33 ft_128 z1 ?_
        refine g_putI C dX3_take_36 ft_127 z0 ?_
        exact g_vret C dX3_take_39 hr ⟨hw, rfl, rfl, hWF⟩
      · have hw := hw.2 c10
        refine g_aload_n C dX3_take_10 rfl 0 rfl ?_
        refine g_getQ C dX3_take_11 ft_125 z0 (hWF.q z0 0 rfl) ?_
        have zz11 := hWF.r z0 0 rfl
        refine g_iload_n C dX3_take_14 rfl 2 rfl ?_
        have hrzz12 := rft_eN hw.1
        refine g_aaldN C dX3_take_15 zz11 hw.1 (hWF.q zz11 _ hrzz12) ?_
        have zz12 := hWF.r zz11 _ hrzz12
        have hw := hw.2
        refine g_aload_n C dX3_take_16 rfl 1 rfl ?_
        refine g_getQ C dX3_take_17 ft_125 z1 (hWF.q z1 0 rfl) ?_
        have zz13 := hWF.r z1 0 rfl
        refine g_iload_n C dX3_take_20 rfl 2 rfl ?_
        have hrzz14 := rft_eN hw.1
        refine g_aaldN C dX3_take_21 zz13 hw.1 (hWF.q zz13 _ hrzz14) ?_
        have zz14 := hWF.r zz13 _ hrzz14
        have hw := hw.2
        refine g_callVv (As := [.ref (ad (rq Q (rq Q h1 0) x2_1.toNatClampNeg))]) C dX3_take_22 ft_46 zz12 ft_129 ft_130 (met_X1_take l hWF zz12 zz14 hw) ⟨rfl, rfl, Nat.le_of_ble_eq_true rfl, Nat.le_of_ble_eq_true rfl⟩ ⟨Nat.zero_le _, Nat.zero_le _⟩ rfl rfl (Nat.le_of_ble_eq_true rfl) (fun I15 J15 Q15 hp => ?_)
        obtain ⟨hw, eJ, eQ, hWF⟩ := hp
        have eJ : J = J15 := Eq.symm eJ
        subst eJ
        have eQ : Q = Q15 := Eq.symm eQ
        subst eQ
        try dsimp only at hw hWF
        refine g_iinc (v := (x2_1 + (1 : Int32))) (lv' := [(2, .int (x2_1 + (1 : Int32))), (0, .ref (ad h0)), (1, .ref (ad h1))]) C dX3_take_25 (q := 2) rfl rfl (by decide) rfl ?_
        refine g_goto C dX3_take_28 (tgt := 2) (by decide) ?_
        refine g_sub [1, 2, 0] rfl ?_
        exact ih_u8 I15 (x2_1 + (1 : Int32)) hw hWF
  obtain ⟨n_u8, hw⟩ := hw
  refine g_sub [1, 2, 0] rfl ?_
  exact L2_u8 n_u8 I (0 : Int32) hw hWF
def wp_X4_joins_L14 (If_3 : KI) (Qf_3 : KQ) (f0_3 : Nat) (f1_3 : Int32) (f2_3 : Int32) (k49 : Int32 → Prop) : Nat → Int32 → Int32 → Prop
  | 0, _, _ => False
  | n14 + 1, x3_3, x5_3 => ((f2_3 ≤ x5_3 → k49 x3_3) ∧ (¬ f2_3 ≤ x5_3 → wp_X10_has x3_3 x5_3 (fun r5 => ((r5 = 0 → wp_X4_joins_L14 If_3 Qf_3 f0_3 f1_3 f2_3 k49 n14 (x3_3 ||| (0 : Int32)) (x5_3 + (1 : Int32))) ∧ (¬ r5 = 0 → wp_X4_of If_3 Qf_3 f0_3 f1_3 x5_3 (fun r7 => wp_X4_joins_L14 If_3 Qf_3 f0_3 f1_3 f2_3 k49 n14 (x3_3 ||| r7) (x5_3 + (1 : Int32))))))))
def wp_X4_joins_L5 (If_1 : KI) (Qf_1 : KQ) (f0_1 : Nat) (f1_1 : Int32) (f2_1 : Int32) (k55 : Int32 → Prop) : Nat → Int32 → Int32 → Prop
  | 0, _, _ => False
  | n5 + 1, x3_1, x4_1 => ((f2_1 ≤ x4_1 → k55 x3_1) ∧ (¬ f2_1 ≤ x4_1 → (∃ q14, wp_X4_joins_L14 If_1 Qf_1 f0_1 f1_1 f2_1 (fun x3_9 => wp_X4_joins_L5 If_1 Qf_1 f0_1 f1_1 f2_1 k55 n5 x3_9 (x4_1 + (1 : Int32))) q14 x3_1 (0 : Int32))))
def wp_X4_joins (I : KI) (Q : KQ) (h0 : Nat) (x1 : Int32) (x2 : Int32) (post : Int32 → Prop) : Prop := (∃ q5, wp_X4_joins_L5 I Q h0 x1 x2 (fun x3_16 => ((¬ x3_16 = (((1 : Int32) <<< (x2 &&& 31)) - (1 : Int32)) → post (0 : Int32)) ∧ (x3_16 = (((1 : Int32) <<< (x2 &&& 31)) - (1 : Int32)) → post (1 : Int32)))) q5 (1 : Int32) (1 : Int32))
set_option maxHeartbeats 4000000 in
set_option maxRecDepth 100000 in
theorem met_X4_joins {Z : Nat → Prop} {A : Nat → Prop} {D : va_G} {D2 : Nat → ClassId} {ad : Nat → Nat} {N : Nat} {T : Nat → Nat × Nat} (l : Launch) {I : KI} {J : KJ} {Q : KQ} {h0 : Nat} {x1 : Int32} {x2 : Int32} {post : Int32 → Prop} (hWF : WF Z N T Q) (z0 : OKr Z N T h0 (4, 0)) (hw : wp_X4_joins I Q h0 x1 x2 post) : Met l yX4_joins (.code yX4_joins cX4_joins 6 (some .boolean) :: BIG) ({ frames := 1, cells := 0, slots := 0, locals := 23 }) (Pr D D2 A ad N T I J Q [.ref (ad h0), .int x1, .int x2]) (va_Qi (fun (r : Int32) (u : KS) => post r ∧ u.1 = I ∧ u.2.1 = J ∧ u.2.2 = Q ∧ WF Z N T u.2.2) (Bw D D2 ad N T) A) 0 0 A := by
  refine Met_GG (lv0 := [(0, .ref (ad h0)), (1, .int x1), (2, .int x2)]) (by decide +kernel) [.ref (ad h0), .int x1, .int x2] (Nat.le_of_ble_eq_true rfl) rfl ?_
  intro p e s m below meth c C hr
  have C : CX p s m [.ref (ad h0), .int x1, .int x2].toArray meth c cX4_joins 6 RX4 A D D2 := C
  unfold wp_X4_joins at hw
  refine g_iconst (v := (1 : Int32)) C dX4_joins_0 (by decide) ?_
  refine g_istore_n (lv' := [(3, .int (1 : Int32)), (0, .ref (ad h0)), (1, .int x1), (2, .int x2)]) C dX4_joins_1 rfl (by decide) rfl ?_
  refine g_iconst (v := (1 : Int32)) C dX4_joins_2 (by decide) ?_
  refine g_istore (lv' := [(4, .int (1 : Int32)), (3, .int (1 : Int32)), (0, .ref (ad h0)), (1, .int x1), (2, .int x2)]) C dX4_joins_3 (by decide) rfl ?_
  have K55_u15 : ∀ (x3_16 : Int32), (((¬ x3_16 = (((1 : Int32) <<< (x2 &&& 31)) - (1 : Int32)) → post (0 : Int32)) ∧ (x3_16 = (((1 : Int32) <<< (x2 &&& 31)) - (1 : Int32)) → post (1 : Int32)))) → WF Z N T Q → GG p l e ({ frames := 1, cells := 0, slots := 0, locals := 23 }) s m [.ref (ad h0), .int x1, .int x2].toArray below meth c 6 A D D2 0 0 (MQ below (va_Qi (fun (r : Int32) (u : KS) => post r ∧ u.1 = I ∧ u.2.1 = J ∧ u.2.2 = Q ∧ WF Z N T u.2.2) (Bw D D2 ad N T) A) [.ref (ad h0), .int x1, .int x2].toArray s 0 0 A) ad N T I J Q 55 [(2, .int x2), (3, .int x3_16)] [] := by
    intro x3_16 hw hWF
    refine g_iload_n C dX4_joins_55 rfl 1 rfl ?_
    refine g_iconst (v := (1 : Int32)) C dX4_joins_56 (by decide) ?_
    refine g_iload_n C dX4_joins_57 rfl 0 rfl ?_
    refine g_ishl C dX4_joins_58 ?_
    refine g_iconst (v := (1 : Int32)) C dX4_joins_59 (by decide) ?_
    refine g_isub C dX4_joins_60 ?_
    refine g_icmp_ne (tgt := 68) C dX4_joins_61 (by decide) (fun c17 => ?_) (fun c17 => ?_)
    · have hw := hw.1 c17
      refine g_iconst (v := (0 : Int32)) C dX4_joins_68 (by decide) ?_
      exact g_zret C dX4_joins_69 hr rfl ⟨hw, rfl, rfl, rfl, hWF⟩
    · have hw := hw.2 c17
      refine g_iconst (v := (1 : Int32)) C dX4_joins_64 (by decide) ?_
      refine g_goto C dX4_joins_65 (tgt := 69) (by decide) ?_
      exact g_zret C dX4_joins_69 hr rfl ⟨hw, rfl, rfl, rfl, hWF⟩
  have L5_u15 : ∀ (n5 : Nat) (x3_1 : Int32) (x4_1 : Int32), wp_X4_joins_L5 I Q h0 x1 x2 (fun x3_16 => ((¬ x3_16 = (((1 : Int32) <<< (x2 &&& 31)) - (1 : Int32)) → post (0 : Int32)) ∧ (x3_16 = (((1 : Int32) <<< (x2 &&& 31)) - (1 : Int32)) → post (1 : Int32)))) n5 x3_1 x4_1 → WF Z N T Q → GG p l e ({ frames := 1, cells := 0, slots := 0, locals := 23 }) s m [.ref (ad h0), .int x1, .int x2].toArray below meth c 6 A D D2 0 0 (MQ below (va_Qi (fun (r : Int32) (u : KS) => post r ∧ u.1 = I ∧ u.2.1 = J ∧ u.2.2 = Q ∧ WF Z N T u.2.2) (Bw D D2 ad N T) A) [.ref (ad h0), .int x1, .int x2].toArray s 0 0 A) ad N T I J Q 5 [(0, .ref (ad h0)), (1, .int x1), (2, .int x2), (3, .int x3_1), (4, .int x4_1)] [] := by
    intro n5
    induction n5 with
    | zero => intro x3_1 x4_1 hw; exact hw.elim
    | succ n5 ih_u15 =>
      intro x3_1 x4_1 hw hWF
      unfold wp_X4_joins_L5 at hw
      refine g_iload C dX4_joins_5 4 rfl ?_
      refine g_iload_n C dX4_joins_7 rfl 2 rfl ?_
      refine g_icmp_ge (tgt := 55) C dX4_joins_8 (by decide) (fun c19 => ?_) (fun c19 => ?_)
      · have hw := hw.1 c19
        refine g_sub [2, 3] rfl ?_
        exact K55_u15 x3_1 hw hWF
      · have hw := hw.2 c19
        refine g_iconst (v := (0 : Int32)) C dX4_joins_11 (by decide) ?_
        refine g_istore (lv' := [(5, .int (0 : Int32)), (0, .ref (ad h0)), (1, .int x1), (2, .int x2), (3, .int x3_1), (4, .int x4_1)]) C dX4_joins_12 (by decide) rfl ?_
        have K49_u21 : ∀ (x3_22 : Int32), (wp_X4_joins_L5 I Q h0 x1 x2 (fun x3_16 => ((¬ x3_16 = (((1 : Int32) <<< (x2 &&& 31)) - (1 : Int32)) → post (0 : Int32)) ∧ (x3_16 = (((1 : Int32) <<< (x2 &&& 31)) - (1 : Int32)) → post (1 : Int32)))) n5 x3_22 (x4_1 + (1 : Int32))) → WF Z N T Q → GG p l e ({ frames := 1, cells := 0, slots := 0, locals := 23 }) s m [.ref (ad h0), .int x1, .int x2].toArray below meth c 6 A D D2 0 0 (MQ below (va_Qi (fun (r : Int32) (u : KS) => post r ∧ u.1 = I ∧ u.2.1 = J ∧ u.2.2 = Q ∧ WF Z N T u.2.2) (Bw D D2 ad N T) A) [.ref (ad h0), .int x1, .int x2].toArray s 0 0 A) ad N T I J Q 49 [(0, .ref (ad h0)), (1, .int x1), (2, .int x2), (3, .int x3_22), (4, .int x4_1)] [] := by
          intro x3_22 hw hWF
          refine g_iinc (v := (x4_1 + (1 : Int32))) (lv' := [(4, .int (x4_1 + (1 : Int32))), (0, .ref (ad h0)), (1, .int x1), (2, .int x2), (3, .int x3_22)]) C dX4_joins_49 (q := 4) rfl rfl (by decide) rfl ?_
          refine g_goto C dX4_joins_52 (tgt := 5) (by decide) ?_
          refine g_sub [1, 2, 3, 4, 0] rfl ?_
          exact ih_u15 x3_22 (x4_1 + (1 : Int32)) hw hWF
        have L14_u21 : ∀ (n14 : Nat) (x3_3 : Int32) (x5_3 : Int32), wp_X4_joins_L14 I Q h0 x1 x2 (fun x3_22 => wp_X4_joins_L5 I Q h0 x1 x2 (fun x3_16 => ((¬ x3_16 = (((1 : Int32) <<< (x2 &&& 31)) - (1 : Int32)) → post (0 : Int32)) ∧ (x3_16 = (((1 : Int32) <<< (x2 &&& 31)) - (1 : Int32)) → post (1 : Int32)))) n5 x3_22 (x4_1 + (1 : Int32))) n14 x3_3 x5_3 → WF Z N T Q → GG p l e ({ frames := 1, cells := 0, slots := 0, locals := 23 }) s m [.ref (ad h0), .int x1, .int x2].toArray below meth c 6 A D D2 0 0 (MQ below (va_Qi (fun (r : Int32) (u : KS) => post r ∧ u.1 = I ∧ u.2.1 = J ∧ u.2.2 = Q ∧ WF Z N T u.2.2) (Bw D D2 ad N T) A) [.ref (ad h0), .int x1, .int x2].toArray s 0 0 A) ad N T I J Q 14 [(0, .ref (ad h0)), (1, .int x1), (2, .int x2), (3, .int x3_3), (4, .int x4_1), (5, .int x5_3)] [] := by
          intro n14
          induction n14 with
          | zero => intro x3_3 x5_3 hw; exact hw.elim
          | succ n14 ih_u21 =>
            intro x3_3 x5_3 hw hWF
            unfold wp_X4_joins_L14 at hw
            refine g_iload C dX4_joins_14 5 rfl ?_
            refine g_iload_n C dX4_joins_16 rfl 2 rfl ?_
            refine g_icmp_ge (tgt := 49) C dX4_joins_17 (by decide) (fun c24 => ?_) (fun c24 => ?_)
            · have hw := hw.1 c24
              refine g_sub [0, 1, 2, 3, 4] rfl ?_
              exact K49_u21 x3_3 hw hWF
            · have hw := hw.2 c24
              refine g_iload_n C dX4_joins_20 rfl 3 rfl ?_
              refine g_iload_n C dX4_joins_21 rfl 3 rfl ?_
              refine g_iload C dX4_joins_22 5 rfl ?_
              refine g_callSNi (As := [.int x3_3, .int x5_3]) C dX4_joins_24 ft_134 ft_17 (met_X10_has l hWF  hw) ⟨rfl, rfl, Nat.le_of_ble_eq_true rfl, Nat.le_of_ble_eq_true rfl⟩ ⟨Nat.zero_le _, Nat.zero_le _⟩ rfl rfl (Nat.le_of_ble_eq_true rfl) (fun r25 I25 J25 Q25 hp => ?_)
              obtain ⟨hw, eI, eJ, eQ, hWF⟩ := hp
              have eI : I = I25 := Eq.symm eI
              subst eI
              have eJ : J = J25 := Eq.symm eJ
              subst eJ
              have eQ : Q = Q25 := Eq.symm eQ
              subst eQ
              try dsimp only at hw hWF
              refine g_if_eq (tgt := 40) C dX4_joins_27 (by decide) (fun c26 => ?_) (fun c26 => ?_)
              · have hw := hw.1 c26
                refine g_iconst (v := (0 : Int32)) C dX4_joins_40 (by decide) ?_
                refine g_ior C dX4_joins_41 ?_
                refine g_istore_n (lv' := [(3, .int (x3_3 ||| (0 : Int32))), (0, .ref (ad h0)), (1, .int x1), (2, .int x2), (4, .int x4_1), (5, .int x5_3)]) C dX4_joins_42 rfl (by decide) rfl ?_
                refine g_iinc (v := (x5_3 + (1 : Int32))) (lv' := [(5, .int (x5_3 + (1 : Int32))), (3, .int (x3_3 ||| (0 : Int32))), (0, .ref (ad h0)), (1, .int x1), (2, .int x2), (4, .int x4_1)]) C dX4_joins_43 (q := 5) rfl rfl (by decide) rfl ?_
                refine g_goto C dX4_joins_46 (tgt := 14) (by decide) ?_
                refine g_sub [2, 3, 4, 1, 5, 0] rfl ?_
                exact ih_u21 (x3_3 ||| (0 : Int32)) (x5_3 + (1 : Int32)) hw hWF
              · have hw := hw.2 c26
                refine g_aload_n C dX4_joins_30 rfl 0 rfl ?_
                refine g_iload_n C dX4_joins_31 rfl 1 rfl ?_
                refine g_iload C dX4_joins_32 5 rfl ?_
                refine g_callVi (As := [.int x1, .int x5_3]) C dX4_joins_34 ft_10 z0 ft_68 ft_9 (met_X4_of l hWF z0 hw) ⟨rfl, rfl, Nat.le_of_ble_eq_true rfl, Nat.le_of_ble_eq_true rfl⟩ ⟨Nat.zero_le _, Nat.zero_le _⟩ rfl rfl (Nat.le_of_ble_eq_true rfl) (fun r27 I27 J27 Q27 hp => ?_)
                obtain ⟨hw, eI, eJ, eQ, hWF⟩ := hp
                have eI : I = I27 := Eq.symm eI
                subst eI
                have eJ : J = J27 := Eq.symm eJ
                subst eJ
                have eQ : Q = Q27 := Eq.symm eQ
                subst eQ
                try dsimp only at hw hWF
                refine g_goto C dX4_joins_37 (tgt := 41) (by decide) ?_
                refine g_ior C dX4_joins_41 ?_
                refine g_istore_n (lv' := [(3, .int (x3_3 ||| r27)), (0, .ref (ad h0)), (1, .int x1), (2, .int x2), (4, .int x4_1), (5, .int x5_3)]) C dX4_joins_42 rfl (by decide) rfl ?_
                refine g_iinc (v := (x5_3 + (1 : Int32))) (lv' := [(5, .int (x5_3 + (1 : Int32))), (3, .int (x3_3 ||| r27)), (0, .ref (ad h0)), (1, .int x1), (2, .int x2), (4, .int x4_1)]) C dX4_joins_43 (q := 5) rfl rfl (by decide) rfl ?_
                refine g_goto C dX4_joins_46 (tgt := 14) (by decide) ?_
                refine g_sub [2, 3, 4, 1, 5, 0] rfl ?_
                exact ih_u21 (x3_3 ||| r27) (x5_3 + (1 : Int32)) hw hWF
        obtain ⟨n_u21, hw⟩ := hw
        refine g_sub [1, 2, 3, 4, 5, 0] rfl ?_
        exact L14_u21 n_u21 x3_1 (0 : Int32) hw hWF
  obtain ⟨n_u15, hw⟩ := hw
  refine g_sub [2, 3, 4, 1, 0] rfl ?_
  exact L5_u15 n_u15 (1 : Int32) (1 : Int32) hw hWF
def wp_X5_send (I : KI) (Q : KQ) (h0 : Nat) (x1 : Int32) (x2 : Int32) (post : KI → Prop) : Prop := ((x2 = 0 → post I) ∧ (¬ x2 = 0 → (vp_in x1 6 ∧ (((8 : Int32) ≤ (I (rq Q h0 1) x1.toNatClampNeg) → post I) ∧ (¬ (8 : Int32) ≤ (I (rq Q h0 1) x1.toNatClampNeg) → (vp_in x1 6 ∧ (vp_in ((x1 * (8 : Int32)) + (I (rq Q h0 1) x1.toNatClampNeg)) 48 ∧ (vp_in x1 6 ∧ (vp_in x1 6 ∧ post (sti (sti I (rq Q h0 0) ((x1 * (8 : Int32)) + (I (rq Q h0 1) x1.toNatClampNeg)).toNatClampNeg x2) (rq Q h0 1) x1.toNatClampNeg (((sti I (rq Q h0 0) ((x1 * (8 : Int32)) + (I (rq Q h0 1) x1.toNatClampNeg)).toNatClampNeg x2) (rq Q h0 1) x1.toNatClampNeg) + (1 : Int32))))))))))))
set_option maxHeartbeats 4000000 in
set_option maxRecDepth 100000 in
theorem met_X5_send {Z : Nat → Prop} {A : Nat → Prop} {D : va_G} {D2 : Nat → ClassId} {ad : Nat → Nat} {N : Nat} {T : Nat → Nat × Nat} (l : Launch) {I : KI} {J : KJ} {Q : KQ} {h0 : Nat} {x1 : Int32} {x2 : Int32} {post : KI → Prop} (hWF : WF Z N T Q) (z0 : OKr Z N T h0 (5, 0)) (hw : wp_X5_send I Q h0 x1 x2 post) : Met l yX5_send (.code yX5_send cX5_send 3 none :: BIG) ({ frames := 0, cells := 0, slots := 0, locals := 0 }) (Pr D D2 A ad N T I J Q [.ref (ad h0), .int x1, .int x2]) (va_Qv (fun (u : KS) => post u.1 ∧ u.2.1 = J ∧ u.2.2 = Q ∧ WF Z N T u.2.2) (Bw D D2 ad N T) A) 0 0 A := by
  refine Met_GG (lv0 := [(0, .ref (ad h0)), (1, .int x1), (2, .int x2)]) (by decide +kernel) [.ref (ad h0), .int x1, .int x2] (Nat.le_of_ble_eq_true rfl) rfl ?_
  intro p e s m below meth c C hr
  have C : CX p s m [.ref (ad h0), .int x1, .int x2].toArray meth c cX5_send 3 RX5 A D D2 := C
  unfold wp_X5_send at hw
  refine g_iload_n C dX5_send_0 rfl 2 rfl ?_
  refine g_if_eq (tgt := 42) C dX5_send_1 (by decide) (fun c1 => ?_) (fun c1 => ?_)
  · have hw := hw.1 c1
    exact g_vret C dX5_send_42 hr ⟨hw, rfl, rfl, hWF⟩
  · have hw := hw.2 c1
    refine g_aload_n C dX5_send_4 rfl 0 rfl ?_
    refine g_getQ C dX5_send_5 ft_29 z0 (hWF.q z0 1 rfl) ?_
    have zz2 := hWF.r z0 1 rfl
    refine g_iload_n C dX5_send_8 rfl 1 rfl ?_
    refine g_iald C dX5_send_9 zz2 hw.1 ?_
    have hw := hw.2
    refine g_bipush (v := (8 : Int32)) C dX5_send_10 (by decide) ?_
    refine g_icmp_ge (tgt := 42) C dX5_send_12 (by decide) (fun c3 => ?_) (fun c3 => ?_)
    · have hw := hw.1 c3
      exact g_vret C dX5_send_42 hr ⟨hw, rfl, rfl, hWF⟩
    · have hw := hw.2 c3
      refine g_aload_n C dX5_send_15 rfl 0 rfl ?_
      refine g_getQ C dX5_send_16 ft_25 z0 (hWF.q z0 0 rfl) ?_
      have zz4 := hWF.r z0 0 rfl
      refine g_iload_n C dX5_send_19 rfl 1 rfl ?_
      refine g_bipush (v := (8 : Int32)) C dX5_send_20 (by decide) ?_
      refine g_imul C dX5_send_22 ?_
      refine g_aload_n C dX5_send_23 rfl 0 rfl ?_
      refine g_getQ C dX5_send_24 ft_29 z0 (hWF.q z0 1 rfl) ?_
      have zz5 := hWF.r z0 1 rfl
      refine g_iload_n C dX5_send_27 rfl 1 rfl ?_
      refine g_iald C dX5_send_28 zz5 hw.1 ?_
      have hw := hw.2
      refine g_iadd C dX5_send_29 ?_
      refine g_iload_n C dX5_send_30 rfl 2 rfl ?_
      refine g_iast C dX5_send_31 zz4 hw.1 ?_
      have hw := hw.2
      refine g_aload_n C dX5_send_32 rfl 0 rfl ?_
      refine g_getQ C dX5_send_33 ft_29 z0 (hWF.q z0 1 rfl) ?_
      have zz6 := hWF.r z0 1 rfl
      refine g_iload_n C dX5_send_36 rfl 1 rfl ?_
      refine g_dup2 C dX5_send_37 rfl rfl ?_
      refine g_iald C dX5_send_38 zz6 hw.1 ?_
      have hw := hw.2
      refine g_iconst (v := (1 : Int32)) C dX5_send_39 (by decide) ?_
      refine g_iadd C dX5_send_40 ?_
      refine g_iast C dX5_send_41 zz6 hw.1 ?_
      have hw := hw.2
      exact g_vret C dX5_send_42 hr ⟨hw, rfl, rfl, hWF⟩
def wp_X5_sendAll_L2 (Qf_1 : KQ) (f0_1 : Nat) (f1_1 : Nat) (f2_1 : Int32) (post : KI → Prop) : Nat → KI → Int32 → Prop
  | 0, _, _ => False
  | n2 + 1, I_1, x3_1 => (((8 : Int32) ≤ x3_1 → post I_1) ∧ (¬ (8 : Int32) ≤ x3_1 → (vp_in x3_1 8 ∧ wp_X5_send I_1 Qf_1 f0_1 f2_1 (I_1 (rq Qf_1 f1_1 0) x3_1.toNatClampNeg) (fun I4 => wp_X5_sendAll_L2 Qf_1 f0_1 f1_1 f2_1 post n2 I4 (x3_1 + (1 : Int32))))))
def wp_X5_sendAll (I : KI) (Q : KQ) (h0 : Nat) (h1 : Nat) (x2 : Int32) (post : KI → Prop) : Prop := (∃ q2, wp_X5_sendAll_L2 Q h0 h1 x2 post q2 I (0 : Int32))
set_option maxHeartbeats 4000000 in
set_option maxRecDepth 100000 in
theorem met_X5_sendAll {Z : Nat → Prop} {A : Nat → Prop} {D : va_G} {D2 : Nat → ClassId} {ad : Nat → Nat} {N : Nat} {T : Nat → Nat × Nat} (l : Launch) {I : KI} {J : KJ} {Q : KQ} {h0 : Nat} {h1 : Nat} {x2 : Int32} {post : KI → Prop} (hWF : WF Z N T Q) (z0 : OKr Z N T h0 (5, 0)) (z1 : OKr Z N T h1 (7, 0)) (hw : wp_X5_sendAll I Q h0 h1 x2 post) : Met l yX5_sendAll (.code yX5_sendAll cX5_sendAll 4 none :: BIG) ({ frames := 1, cells := 0, slots := 0, locals := 22 }) (Pr D D2 A ad N T I J Q [.ref (ad h0), .ref (ad h1), .int x2]) (va_Qv (fun (u : KS) => post u.1 ∧ u.2.1 = J ∧ u.2.2 = Q ∧ WF Z N T u.2.2) (Bw D D2 ad N T) A) 0 0 A := by
  refine Met_GG (lv0 := [(0, .ref (ad h0)), (1, .ref (ad h1)), (2, .int x2)]) (by decide +kernel) [.ref (ad h0), .ref (ad h1), .int x2] (Nat.le_of_ble_eq_true rfl) rfl ?_
  intro p e s m below meth c C hr
  have C : CX p s m [.ref (ad h0), .ref (ad h1), .int x2].toArray meth c cX5_sendAll 4 RX5 A D D2 := C
  unfold wp_X5_sendAll at hw
  refine g_iconst (v := (0 : Int32)) C dX5_sendAll_0 (by decide) ?_
  refine g_istore_n (lv' := [(3, .int (0 : Int32)), (0, .ref (ad h0)), (1, .ref (ad h1)), (2, .int x2)]) C dX5_sendAll_1 rfl (by decide) rfl ?_
  have L2_u5 : ∀ (n2 : Nat) (I_1 : KI) (x3_1 : Int32), wp_X5_sendAll_L2 Q h0 h1 x2 post n2 I_1 x3_1 → WF Z N T Q → GG p l e ({ frames := 1, cells := 0, slots := 0, locals := 22 }) s m [.ref (ad h0), .ref (ad h1), .int x2].toArray below meth c 4 A D D2 0 0 (MQ below (va_Qv (fun (u : KS) => post u.1 ∧ u.2.1 = J ∧ u.2.2 = Q ∧ WF Z N T u.2.2) (Bw D D2 ad N T) A) [.ref (ad h0), .ref (ad h1), .int x2].toArray s 0 0 A) ad N T I_1 J Q 2 [(0, .ref (ad h0)), (1, .ref (ad h1)), (2, .int x2), (3, .int x3_1)] [] := by
    intro n2
    induction n2 with
    | zero => intro I_1 x3_1 hw; exact hw.elim
    | succ n2 ih_u5 =>
      intro I_1 x3_1 hw hWF
      unfold wp_X5_sendAll_L2 at hw
      refine g_iload_n C dX5_sendAll_2 rfl 3 rfl ?_
      refine g_bipush (v := (8 : Int32)) C dX5_sendAll_3 (by decide) ?_
      refine g_icmp_ge (tgt := 25) C dX5_sendAll_5 (by decide) (fun c7 => ?_) (fun c7 => ?_)
      · have hw := hw.1 c7
        exact g_vret C dX5_sendAll_25 hr ⟨hw, rfl, rfl, hWF⟩
      · have hw := hw.2 c7
        refine g_aload_n C dX5_sendAll_8 rfl 0 rfl ?_
        refine g_iload_n C dX5_sendAll_9 rfl 2 rfl ?_
        refine g_aload_n C dX5_sendAll_10 rfl 1 rfl ?_
        refine g_getQ C dX5_sendAll_11 ft_135 z1 (hWF.q z1 0 rfl) ?_
        have zz8 := hWF.r z1 0 rfl
        refine g_iload_n C dX5_sendAll_14 rfl 3 rfl ?_
        refine g_iald C dX5_sendAll_15 zz8 hw.1 ?_
        have hw := hw.2
        refine g_callVv (As := [.int x2, .int (I_1 (rq Q h1 0) x3_1.toNatClampNeg)]) C dX5_sendAll_16 ft_37 z0 ft_136 ft_137 (met_X5_send l hWF z0 hw) ⟨rfl, rfl, Nat.le_of_ble_eq_true rfl, Nat.le_of_ble_eq_true rfl⟩ ⟨Nat.zero_le _, Nat.zero_le _⟩ rfl rfl (Nat.le_of_ble_eq_true rfl) (fun I9 J9 Q9 hp => ?_)
        obtain ⟨hw, eJ, eQ, hWF⟩ := hp
        have eJ : J = J9 := Eq.symm eJ
        subst eJ
        have eQ : Q = Q9 := Eq.symm eQ
        subst eQ
        try dsimp only at hw hWF
        refine g_iinc (v := (x3_1 + (1 : Int32))) (lv' := [(3, .int (x3_1 + (1 : Int32))), (0, .ref (ad h0)), (1, .ref (ad h1)), (2, .int x2)]) C dX5_sendAll_19 (q := 3) rfl rfl (by decide) rfl ?_
        refine g_goto C dX5_sendAll_22 (tgt := 2) (by decide) ?_
        refine g_sub [1, 2, 3, 0] rfl ?_
        exact ih_u5 I9 (x3_1 + (1 : Int32)) hw hWF
  obtain ⟨n_u5, hw⟩ := hw
  refine g_sub [1, 2, 3, 0] rfl ?_
  exact L2_u5 n_u5 I (0 : Int32) hw hWF
def wp_X7_told_L4 (If_1 : KI) (Qf_1 : KQ) (f0_1 : Nat) (post : Int32 → Prop) : Nat → Int32 → Int32 → Prop
  | 0, _, _ => False
  | n4 + 1, x1_1, x2_1 => (((8 : Int32) ≤ x2_1 → post x1_1) ∧ (¬ (8 : Int32) ≤ x2_1 → (vp_in x2_1 8 ∧ ((¬ (If_1 (rq Qf_1 f0_1 0) x2_1.toNatClampNeg) = ((1 : Int32) <<< (x2_1 &&& 31)) → wp_X7_told_L4 If_1 Qf_1 f0_1 post n4 x1_1 (x2_1 + (1 : Int32))) ∧ ((If_1 (rq Qf_1 f0_1 0) x2_1.toNatClampNeg) = ((1 : Int32) <<< (x2_1 &&& 31)) → (vp_in x2_1 8 ∧ wp_X7_told_L4 If_1 Qf_1 f0_1 post n4 (x1_1 ||| (If_1 (rq Qf_1 f0_1 0) x2_1.toNatClampNeg)) (x2_1 + (1 : Int32))))))))
def wp_X7_told (I : KI) (Q : KQ) (h0 : Nat) (post : Int32 → Prop) : Prop := (∃ q4, wp_X7_told_L4 I Q h0 post q4 (0 : Int32) (0 : Int32))
set_option maxHeartbeats 4000000 in
set_option maxRecDepth 100000 in
theorem met_X7_told {Z : Nat → Prop} {A : Nat → Prop} {D : va_G} {D2 : Nat → ClassId} {ad : Nat → Nat} {N : Nat} {T : Nat → Nat × Nat} (l : Launch) {I : KI} {J : KJ} {Q : KQ} {h0 : Nat} {post : Int32 → Prop} (hWF : WF Z N T Q) (z0 : OKr Z N T h0 (7, 0)) (hw : wp_X7_told I Q h0 post) : Met l yX7_told (.code yX7_told cX7_told 3 (some .int) :: BIG) ({ frames := 0, cells := 0, slots := 0, locals := 0 }) (Pr D D2 A ad N T I J Q [.ref (ad h0)]) (va_Qi (fun (r : Int32) (u : KS) => post r ∧ u.1 = I ∧ u.2.1 = J ∧ u.2.2 = Q ∧ WF Z N T u.2.2) (Bw D D2 ad N T) A) 0 0 A := by
  refine Met_GG (lv0 := [(0, .ref (ad h0))]) (by decide +kernel) [.ref (ad h0)] (Nat.le_of_ble_eq_true rfl) rfl ?_
  intro p e s m below meth c C hr
  have C : CX p s m [.ref (ad h0)].toArray meth c cX7_told 3 RX7 A D D2 := C
  unfold wp_X7_told at hw
  refine g_iconst (v := (0 : Int32)) C dX7_told_0 (by decide) ?_
  refine g_istore_n (lv' := [(1, .int (0 : Int32)), (0, .ref (ad h0))]) C dX7_told_1 rfl (by decide) rfl ?_
  refine g_iconst (v := (0 : Int32)) C dX7_told_2 (by decide) ?_
  refine g_istore_n (lv' := [(2, .int (0 : Int32)), (1, .int (0 : Int32)), (0, .ref (ad h0))]) C dX7_told_3 rfl (by decide) rfl ?_
  have L4_u6 : ∀ (n4 : Nat) (x1_1 : Int32) (x2_1 : Int32), wp_X7_told_L4 I Q h0 post n4 x1_1 x2_1 → WF Z N T Q → GG p l e ({ frames := 0, cells := 0, slots := 0, locals := 0 }) s m [.ref (ad h0)].toArray below meth c 3 A D D2 0 0 (MQ below (va_Qi (fun (r : Int32) (u : KS) => post r ∧ u.1 = I ∧ u.2.1 = J ∧ u.2.2 = Q ∧ WF Z N T u.2.2) (Bw D D2 ad N T) A) [.ref (ad h0)].toArray s 0 0 A) ad N T I J Q 4 [(0, .ref (ad h0)), (1, .int x1_1), (2, .int x2_1)] [] := by
    intro n4
    induction n4 with
    | zero => intro x1_1 x2_1 hw; exact hw.elim
    | succ n4 ih_u6 =>
      intro x1_1 x2_1 hw hWF
      unfold wp_X7_told_L4 at hw
      refine g_iload_n C dX7_told_4 rfl 2 rfl ?_
      refine g_bipush (v := (8 : Int32)) C dX7_told_5 (by decide) ?_
      refine g_icmp_ge (tgt := 37) C dX7_told_7 (by decide) (fun c8 => ?_) (fun c8 => ?_)
      · have hw := hw.1 c8
        refine g_iload_n C dX7_told_37 rfl 1 rfl ?_
        exact g_iret C dX7_told_38 hr ⟨hw, rfl, rfl, rfl, hWF⟩
      · have hw := hw.2 c8
        refine g_aload_n C dX7_told_10 rfl 0 rfl ?_
        refine g_getQ C dX7_told_11 ft_13 z0 (hWF.q z0 0 rfl) ?_
        have zz9 := hWF.r z0 0 rfl
        refine g_iload_n C dX7_told_14 rfl 2 rfl ?_
        refine g_iald C dX7_told_15 zz9 hw.1 ?_
        have hw := hw.2
        refine g_iconst (v := (1 : Int32)) C dX7_told_16 (by decide) ?_
        refine g_iload_n C dX7_told_17 rfl 2 rfl ?_
        refine g_ishl C dX7_told_18 ?_
        refine g_icmp_ne (tgt := 31) C dX7_told_19 (by decide) (fun c10 => ?_) (fun c10 => ?_)
        · have hw := hw.1 c10
          refine g_iinc (v := (x2_1 + (1 : Int32))) (lv' := [(2, .int (x2_1 + (1 : Int32))), (0, .ref (ad h0)), (1, .int x1_1)]) C dX7_told_31 (q := 2) rfl rfl (by decide) rfl ?_
          refine g_goto C dX7_told_34 (tgt := 4) (by decide) ?_
          refine g_sub [1, 2, 0] rfl ?_
          exact ih_u6 x1_1 (x2_1 + (1 : Int32)) hw hWF
        · have hw := hw.2 c10
          refine g_iload_n C dX7_told_22 rfl 1 rfl ?_
          refine g_aload_n C dX7_told_23 rfl 0 rfl ?_
          refine g_getQ C dX7_told_24 ft_13 z0 (hWF.q z0 0 rfl) ?_
          have zz11 := hWF.r z0 0 rfl
          refine g_iload_n C dX7_told_27 rfl 2 rfl ?_
          refine g_iald C dX7_told_28 zz11 hw.1 ?_
          have hw := hw.2
          refine g_ior C dX7_told_29 ?_
          refine g_istore_n (lv' := [(1, .int (x1_1 ||| (I (rq Q h0 0) x2_1.toNatClampNeg))), (0, .ref (ad h0)), (2, .int x2_1)]) C dX7_told_30 rfl (by decide) rfl ?_
          refine g_iinc (v := (x2_1 + (1 : Int32))) (lv' := [(2, .int (x2_1 + (1 : Int32))), (1, .int (x1_1 ||| (I (rq Q h0 0) x2_1.toNatClampNeg))), (0, .ref (ad h0))]) C dX7_told_31 (q := 2) rfl rfl (by decide) rfl ?_
          refine g_goto C dX7_told_34 (tgt := 4) (by decide) ?_
          refine g_sub [2, 1, 0] rfl ?_
          exact ih_u6 (x1_1 ||| (I (rq Q h0 0) x2_1.toNatClampNeg)) (x2_1 + (1 : Int32)) hw hWF
  obtain ⟨n_u6, hw⟩ := hw
  refine g_sub [2, 1, 0] rfl ?_
  exact L4_u6 n_u6 (0 : Int32) (0 : Int32) hw hWF
def wp_X10_changed  (x0 : Int32) (post : Int32 → Prop) : Prop := post (((x0 * (1103515245 : Int32)) + (12345 : Int32)) &&& (2147483647 : Int32))
set_option maxHeartbeats 4000000 in
set_option maxRecDepth 100000 in
theorem met_X10_changed {Z : Nat → Prop} {A : Nat → Prop} {D : va_G} {D2 : Nat → ClassId} {ad : Nat → Nat} {N : Nat} {T : Nat → Nat × Nat} (l : Launch) {I : KI} {J : KJ} {Q : KQ} {x0 : Int32} {post : Int32 → Prop} (hWF : WF Z N T Q)  (hw : wp_X10_changed x0 post) : Met l yX10_changed (.code yX10_changed cX10_changed 1 (some .int) :: BIG) ({ frames := 0, cells := 0, slots := 0, locals := 0 }) (Pr D D2 A ad N T I J Q [.int x0]) (va_Qi (fun (r : Int32) (u : KS) => post r ∧ u.1 = I ∧ u.2.1 = J ∧ u.2.2 = Q ∧ WF Z N T u.2.2) (Bw D D2 ad N T) A) 0 0 A := by
  refine Met_GG (lv0 := [(0, .int x0)]) (by decide +kernel) [.int x0] (Nat.le_of_ble_eq_true rfl) rfl ?_
  intro p e s m below meth c C hr
  have C : CX p s m [.int x0].toArray meth c cX10_changed 1 RX10 A D D2 := C
  unfold wp_X10_changed at hw
  refine g_iload_n C dX10_changed_0 rfl 0 rfl ?_
  refine g_ldc_w C dX10_changed_1 ft_138 ?_
  refine g_imul C dX10_changed_4 ?_
  refine g_sipush (v := (12345 : Int32)) C dX10_changed_5 (by decide) ?_
  refine g_iadd C dX10_changed_8 ?_
  refine g_ldc_w C dX10_changed_9 ft_139 ?_
  refine g_iand C dX10_changed_12 ?_
  exact g_iret C dX10_changed_13 hr ⟨hw, rfl, rfl, rfl, hWF⟩
def wp_X10_drawn  (x0 : Int32) (post : Int32 → Prop) : Prop := post ((x0.toUInt32 >>> ((16 : Int32).toUInt32 &&& Int32.toUInt32 31)).toInt32)
set_option maxHeartbeats 4000000 in
set_option maxRecDepth 100000 in
theorem met_X10_drawn {Z : Nat → Prop} {A : Nat → Prop} {D : va_G} {D2 : Nat → ClassId} {ad : Nat → Nat} {N : Nat} {T : Nat → Nat × Nat} (l : Launch) {I : KI} {J : KJ} {Q : KQ} {x0 : Int32} {post : Int32 → Prop} (hWF : WF Z N T Q)  (hw : wp_X10_drawn x0 post) : Met l yX10_drawn (.code yX10_drawn cX10_drawn 1 (some .int) :: BIG) ({ frames := 0, cells := 0, slots := 0, locals := 0 }) (Pr D D2 A ad N T I J Q [.int x0]) (va_Qi (fun (r : Int32) (u : KS) => post r ∧ u.1 = I ∧ u.2.1 = J ∧ u.2.2 = Q ∧ WF Z N T u.2.2) (Bw D D2 ad N T) A) 0 0 A := by
  refine Met_GG (lv0 := [(0, .int x0)]) (by decide +kernel) [.int x0] (Nat.le_of_ble_eq_true rfl) rfl ?_
  intro p e s m below meth c C hr
  have C : CX p s m [.int x0].toArray meth c cX10_drawn 1 RX10 A D D2 := C
  unfold wp_X10_drawn at hw
  refine g_iload_n C dX10_drawn_0 rfl 0 rfl ?_
  refine g_bipush (v := (16 : Int32)) C dX10_drawn_1 (by decide) ?_
  refine g_iushr C dX10_drawn_3 ?_
  exact g_iret C dX10_drawn_4 hr ⟨hw, rfl, rfl, rfl, hWF⟩
def wp_X7_mixed_L8 (If_1 : KI) (Qf_1 : KQ) (f0_1 : Nat) (post : Int32 → Prop) : Nat → Int32 → Int32 → Int32 → Prop
  | 0, _, _, _ => False
  | n8 + 1, x2_1, x3_1, x4_1 => ((x4_1 < 0 → post x2_1) ∧ (¬ x4_1 < 0 → (vp_in x4_1 8 ∧ (((If_1 (rq Qf_1 f0_1 0) x4_1.toNatClampNeg) = 0 → wp_X7_mixed_L8 If_1 Qf_1 f0_1 post n8 x2_1 x3_1 (x4_1 + (-1 : Int32))) ∧ (¬ (If_1 (rq Qf_1 f0_1 0) x4_1.toNatClampNeg) = 0 → wp_X10_has x3_1 (0 : Int32) (fun r5 => ((r5 = 0 → wp_X7_mixed_L8 If_1 Qf_1 f0_1 post n8 (x2_1 ^^^ (0 : Int32)) (x3_1 >>> ((1 : Int32) &&& 31)) (x4_1 + (-1 : Int32))) ∧ (¬ r5 = 0 → (vp_in x4_1 8 ∧ wp_X7_mixed_L8 If_1 Qf_1 f0_1 post n8 (x2_1 ^^^ (If_1 (rq Qf_1 f0_1 0) x4_1.toNatClampNeg)) (x3_1 >>> ((1 : Int32) &&& 31)) (x4_1 + (-1 : Int32)))))))))))
def wp_X7_mixed (I : KI) (Q : KQ) (h0 : Nat) (x1 : Int32) (post : Int32 → Prop) : Prop := (∃ q8, wp_X7_mixed_L8 I Q h0 post q8 (0 : Int32) x1 (7 : Int32))
set_option maxHeartbeats 4000000 in
set_option maxRecDepth 100000 in
theorem met_X7_mixed {Z : Nat → Prop} {A : Nat → Prop} {D : va_G} {D2 : Nat → ClassId} {ad : Nat → Nat} {N : Nat} {T : Nat → Nat × Nat} (l : Launch) {I : KI} {J : KJ} {Q : KQ} {h0 : Nat} {x1 : Int32} {post : Int32 → Prop} (hWF : WF Z N T Q) (z0 : OKr Z N T h0 (7, 0)) (hw : wp_X7_mixed I Q h0 x1 post) : Met l yX7_mixed (.code yX7_mixed cX7_mixed 5 (some .int) :: BIG) ({ frames := 1, cells := 0, slots := 0, locals := 21 }) (Pr D D2 A ad N T I J Q [.ref (ad h0), .int x1]) (va_Qi (fun (r : Int32) (u : KS) => post r ∧ u.1 = I ∧ u.2.1 = J ∧ u.2.2 = Q ∧ WF Z N T u.2.2) (Bw D D2 ad N T) A) 0 0 A := by
  refine Met_GG (lv0 := [(0, .ref (ad h0)), (1, .int x1)]) (by decide +kernel) [.ref (ad h0), .int x1] (Nat.le_of_ble_eq_true rfl) rfl ?_
  intro p e s m below meth c C hr
  have C : CX p s m [.ref (ad h0), .int x1].toArray meth c cX7_mixed 5 RX7 A D D2 := C
  unfold wp_X7_mixed at hw
  refine g_iconst (v := (0 : Int32)) C dX7_mixed_0 (by decide) ?_
  refine g_istore_n (lv' := [(2, .int (0 : Int32)), (0, .ref (ad h0)), (1, .int x1)]) C dX7_mixed_1 rfl (by decide) rfl ?_
  refine g_iload_n C dX7_mixed_2 rfl 2 rfl ?_
  refine g_istore_n (lv' := [(3, .int x1), (2, .int (0 : Int32)), (0, .ref (ad h0)), (1, .int x1)]) C dX7_mixed_3 rfl (by decide) rfl ?_
  refine g_bipush (v := (7 : Int32)) C dX7_mixed_4 (by decide) ?_
  refine g_istore (lv' := [(4, .int (7 : Int32)), (3, .int x1), (2, .int (0 : Int32)), (0, .ref (ad h0)), (1, .int x1)]) C dX7_mixed_6 (by decide) rfl ?_
  have L8_u8 : ∀ (n8 : Nat) (x2_1 : Int32) (x3_1 : Int32) (x4_1 : Int32), wp_X7_mixed_L8 I Q h0 post n8 x2_1 x3_1 x4_1 → WF Z N T Q → GG p l e ({ frames := 1, cells := 0, slots := 0, locals := 21 }) s m [.ref (ad h0), .int x1].toArray below meth c 5 A D D2 0 0 (MQ below (va_Qi (fun (r : Int32) (u : KS) => post r ∧ u.1 = I ∧ u.2.1 = J ∧ u.2.2 = Q ∧ WF Z N T u.2.2) (Bw D D2 ad N T) A) [.ref (ad h0), .int x1].toArray s 0 0 A) ad N T I J Q 8 [(0, .ref (ad h0)), (2, .int x2_1), (3, .int x3_1), (4, .int x4_1)] [] := by
    intro n8
    induction n8 with
    | zero => intro x2_1 x3_1 x4_1 hw; exact hw.elim
    | succ n8 ih_u8 =>
      intro x2_1 x3_1 x4_1 hw hWF
      unfold wp_X7_mixed_L8 at hw
      refine g_iload C dX7_mixed_8 3 rfl ?_
      refine g_if_lt (tgt := 55) C dX7_mixed_10 (by decide) (fun c10 => ?_) (fun c10 => ?_)
      · have hw := hw.1 c10
        refine g_iload_n C dX7_mixed_55 rfl 1 rfl ?_
        exact g_iret C dX7_mixed_56 hr ⟨hw, rfl, rfl, rfl, hWF⟩
      · have hw := hw.2 c10
        refine g_aload_n C dX7_mixed_13 rfl 0 rfl ?_
        refine g_getQ C dX7_mixed_14 ft_13 z0 (hWF.q z0 0 rfl) ?_
        have zz11 := hWF.r z0 0 rfl
        refine g_iload C dX7_mixed_17 3 rfl ?_
        refine g_iald C dX7_mixed_19 zz11 hw.1 ?_
        have hw := hw.2
        refine g_if_eq (tgt := 49) C dX7_mixed_20 (by decide) (fun c12 => ?_) (fun c12 => ?_)
        · have hw := hw.1 c12
          refine g_iinc (v := (x4_1 + (-1 : Int32))) (lv' := [(4, .int (x4_1 + (-1 : Int32))), (0, .ref (ad h0)), (2, .int x2_1), (3, .int x3_1)]) C dX7_mixed_49 (q := 3) rfl rfl (by decide) rfl ?_
          refine g_goto C dX7_mixed_52 (tgt := 8) (by decide) ?_
          refine g_sub [1, 2, 3, 0] rfl ?_
          exact ih_u8 x2_1 x3_1 (x4_1 + (-1 : Int32)) hw hWF
        · have hw := hw.2 c12
          refine g_iload_n C dX7_mixed_23 rfl 1 rfl ?_
          refine g_iload_n C dX7_mixed_24 rfl 2 rfl ?_
          refine g_iconst (v := (0 : Int32)) C dX7_mixed_25 (by decide) ?_
          refine g_callSNi (As := [.int x3_1, .int (0 : Int32)]) C dX7_mixed_26 ft_16 ft_17 (met_X10_has l hWF  hw) ⟨rfl, rfl, Nat.le_of_ble_eq_true rfl, Nat.le_of_ble_eq_true rfl⟩ ⟨Nat.zero_le _, Nat.zero_le _⟩ rfl rfl (Nat.le_of_ble_eq_true rfl) (fun r13 I13 J13 Q13 hp => ?_)
          obtain ⟨hw, eI, eJ, eQ, hWF⟩ := hp
          have eI : I = I13 := Eq.symm eI
          subst eI
          have eJ : J = J13 := Eq.symm eJ
          subst eJ
          have eQ : Q = Q13 := Eq.symm eQ
          subst eQ
          try dsimp only at hw hWF
          refine g_if_eq (tgt := 42) C dX7_mixed_29 (by decide) (fun c14 => ?_) (fun c14 => ?_)
          · have hw := hw.1 c14
            refine g_iconst (v := (0 : Int32)) C dX7_mixed_42 (by decide) ?_
            refine g_ixor C dX7_mixed_43 ?_
            refine g_istore_n (lv' := [(2, .int (x2_1 ^^^ (0 : Int32))), (0, .ref (ad h0)), (3, .int x3_1), (4, .int x4_1)]) C dX7_mixed_44 rfl (by decide) rfl ?_
            refine g_iload_n C dX7_mixed_45 rfl 2 rfl ?_
            refine g_iconst (v := (1 : Int32)) C dX7_mixed_46 (by decide) ?_
            refine g_ishr C dX7_mixed_47 ?_
            refine g_istore_n (lv' := [(3, .int (x3_1 >>> ((1 : Int32) &&& 31))), (2, .int (x2_1 ^^^ (0 : Int32))), (0, .ref (ad h0)), (4, .int x4_1)]) C dX7_mixed_48 rfl (by decide) rfl ?_
            refine g_iinc (v := (x4_1 + (-1 : Int32))) (lv' := [(4, .int (x4_1 + (-1 : Int32))), (3, .int (x3_1 >>> ((1 : Int32) &&& 31))), (2, .int (x2_1 ^^^ (0 : Int32))), (0, .ref (ad h0))]) C dX7_mixed_49 (q := 3) rfl rfl (by decide) rfl ?_
            refine g_goto C dX7_mixed_52 (tgt := 8) (by decide) ?_
            refine g_sub [3, 2, 1, 0] rfl ?_
            exact ih_u8 (x2_1 ^^^ (0 : Int32)) (x3_1 >>> ((1 : Int32) &&& 31)) (x4_1 + (-1 : Int32)) hw hWF
          · have hw := hw.2 c14
            refine g_aload_n C dX7_mixed_32 rfl 0 rfl ?_
            refine g_getQ C dX7_mixed_33 ft_13 z0 (hWF.q z0 0 rfl) ?_
            have zz15 := hWF.r z0 0 rfl
            refine g_iload C dX7_mixed_36 3 rfl ?_
            refine g_iald C dX7_mixed_38 zz15 hw.1 ?_
            have hw := hw.2
            refine g_goto C dX7_mixed_39 (tgt := 43) (by decide) ?_
            refine g_ixor C dX7_mixed_43 ?_
            refine g_istore_n (lv' := [(2, .int (x2_1 ^^^ (I (rq Q h0 0) x4_1.toNatClampNeg))), (0, .ref (ad h0)), (3, .int x3_1), (4, .int x4_1)]) C dX7_mixed_44 rfl (by decide) rfl ?_
            refine g_iload_n C dX7_mixed_45 rfl 2 rfl ?_
            refine g_iconst (v := (1 : Int32)) C dX7_mixed_46 (by decide) ?_
            refine g_ishr C dX7_mixed_47 ?_
            refine g_istore_n (lv' := [(3, .int (x3_1 >>> ((1 : Int32) &&& 31))), (2, .int (x2_1 ^^^ (I (rq Q h0 0) x4_1.toNatClampNeg))), (0, .ref (ad h0)), (4, .int x4_1)]) C dX7_mixed_48 rfl (by decide) rfl ?_
            refine g_iinc (v := (x4_1 + (-1 : Int32))) (lv' := [(4, .int (x4_1 + (-1 : Int32))), (3, .int (x3_1 >>> ((1 : Int32) &&& 31))), (2, .int (x2_1 ^^^ (I (rq Q h0 0) x4_1.toNatClampNeg))), (0, .ref (ad h0))]) C dX7_mixed_49 (q := 3) rfl rfl (by decide) rfl ?_
            refine g_goto C dX7_mixed_52 (tgt := 8) (by decide) ?_
            refine g_sub [3, 2, 1, 0] rfl ?_
            exact ih_u8 (x2_1 ^^^ (I (rq Q h0 0) x4_1.toNatClampNeg)) (x3_1 >>> ((1 : Int32) &&& 31)) (x4_1 + (-1 : Int32)) hw hWF
  obtain ⟨n_u8, hw⟩ := hw
  refine g_sub [3, 2, 1, 0] rfl ?_
  exact L8_u8 n_u8 (0 : Int32) x1 (7 : Int32) hw hWF
